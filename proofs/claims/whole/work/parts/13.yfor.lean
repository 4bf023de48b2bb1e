/-! the reference: giveFor, kind by kind -/
section
variable {nc ov rr rw : Int32} {tc tr nk nl nr np nq ny nw nu nd re : Nat → Int32}
theorem yb_for1 {post : SY → Prop} {ys0 gv0 ys gv ro : Nat → Int32} {k l w i c m : Nat} {bl b : bg_T} (hI : yb_I ys0 gv0 k w b ov ys gv) (hk : k < 12) (hl : l < k) (hi : i < bl.1) (h20 : bl.1 ≤ 20) (hnk : nk k = nI 1) (hnl : nl k = nI l) (hwl : nw l = nI w) (hw : w ≤ 6) (hnp : np k = nI c) (hc : c < w) (hnq : nq k = nI m) (hm : m ≤ 5)
    (hB : yb_B l w bl ys0 gv0) (H : ∀ ov' ys' gv' ro', yb_I ys0 gv0 k w (bg_ci (bs_hold (bl.2 i c) (nI m) (ny k)) (bg_push b (bl.2 i)) b) ov' ys' gv' → post (nc, ov', rr, rw, tc, tr, nk, nl, nr, np, nq, ny, nw, nu, ys', gv', nd, ro', re)) : wpY_giveFor post (nc, ov, rr, rw, tc, tr, nk, nl, nr, np, nq, ny, nw, nu, ys, gv, nd, ro, re) (nI k) (nI i) := by
  have ck : (nI k).toNatClampNeg = k := nI_clamp (by omega)
  have cl : (nI l).toNatClampNeg = l := nI_clamp (by omega)
  have vk : vp_in (nI k) 12 := vp_in_nI hk (by decide)
  refine ⟨vk, nm_r (e' := nI l) (by rw [ck]; exact hnl) ⟨vk, nm_r (e' := nI 1) (by rw [ck]; exact hnk) (yb_lay (t := 0) (by omega) (by omega) hwl (by omega) fun ro' h1 _ => ?_)⟩⟩
  dsimp only
  rw [ck, hnp, hnq]
  refine br_t (by decide) ⟨vk, yb_at (by omega) ⟨vk, vk, ?_⟩⟩
  rw [yb_in hI hB hl hi (by omega) hc hw]
  refine yb_holds hm (fun e => br_f (by decide) (yb_give (row := bl.2 i) hI hk hw (fun d hd => ?_) fun ov2 ys2 gv2 hI2 => ?_)) (fun e => br_t rfl ?_)
  · have z := h1 d hd
    rw [Nat.zero_add] at z
    exact z.trans (yb_in hI hB hl hi (by omega) hd hw)
  · exact br_f (by decide) (br_f (by decide) (br_f (by decide) (br_f (by decide) (br_f (by decide) (br_f (by decide) (br_f (by decide) (H ov2 ys2 gv2 ro' (by rw [bg_ct e]; exact hI2))))))))
  · exact br_f (by decide) (br_f (by decide) (br_f (by decide) (br_f (by decide) (br_f (by decide) (br_f (by decide) (br_f (by decide) (H ov ys gv ro' (by rw [bg_cf e]; exact hI))))))))
theorem yb_for2 {post : SY → Prop} {ys0 gv0 ys gv ro : Nat → Int32} {k l wl i op x y : Nat} {bl b : bg_T} (hI : yb_I ys0 gv0 k (wl + 1) b ov ys gv) (hk : k < 12) (hl : l < k) (hi : i < bl.1) (h20 : bl.1 ≤ 20) (hnk : nk k = nI 2) (hnl : nl k = nI l) (hwl : nw l = nI wl) (hwk : nw k = nI (wl + 1)) (hw : wl + 1 ≤ 6) (hnp : np k = nI op) (hop : op ≤ 4) (hnq : nq k = nI x) (hx : x < wl) (hny : ny k = nI y) (hy : y < wl)
    (hB : yb_B l wl bl ys0 gv0) (H : ∀ ov' ys' gv' ro', yb_I ys0 gv0 k (wl + 1) (bg_ci True (bg_push b (fun c => if c < wl then bl.2 i c else bs_op (nI op) (bl.2 i x) (bl.2 i y))) b) ov' ys' gv' → post (nc, ov', rr, rw, tc, tr, nk, nl, nr, np, nq, ny, nw, nu, ys', gv', nd, ro', re)) : wpY_giveFor post (nc, ov, rr, rw, tc, tr, nk, nl, nr, np, nq, ny, nw, nu, ys, gv, nd, ro, re) (nI k) (nI i) := by
  have ck : (nI k).toNatClampNeg = k := nI_clamp (by omega)
  have vk : vp_in (nI k) 12 := vp_in_nI hk (by decide)
  refine ⟨vk, nm_r (e' := nI l) (by rw [ck]; exact hnl) ⟨vk, nm_r (e' := nI 2) (by rw [ck]; exact hnk) (yb_lay (t := 0) (by omega) (by omega) hwl (by omega) fun ro' h1 _ => ?_)⟩⟩
  dsimp only
  refine br_f (by decide) (br_t (by decide) ⟨vk, vk, ?_⟩)
  rw [ck, hnp, hnq, hny, hwk, show nI (wl + 1) - 1 = nI wl from nI_pred wl]
  refine yb_at (by omega) ⟨vk, vk, yb_at (by omega) ?_⟩
  rw [yb_in hI hB hl hi (by omega) hx (by omega), yb_in hI hB hl hi (by omega) hy (by omega)]
  refine yb_worked hop ⟨vp_in_nI (by omega) (by decide), ?_⟩
  rw [nI_clamp (show wl < 2 ^ 31 by omega)]
  refine nm_e (yb_give (row := fun c => if c < wl then bl.2 i c else bs_op (nI op) (bl.2 i x) (bl.2 i y)) hI hk hw (fun d hd => ?_) fun ov2 ys2 gv2 hI2 => ?_)
  · by_cases e : d < wl
    · have z := h1 d e
      rw [Nat.zero_add] at z
      rw [if_pos e, pk_un (by omega), z]
      exact yb_in hI hB hl hi (by omega) e (by omega)
    · obtain rfl : d = wl := by omega
      rw [if_neg e, pk_us]
  · exact br_f (by decide) (br_f (by decide) (br_f (by decide) (br_f (by decide) (br_f (by decide) (br_f (by decide) (H ov2 ys2 gv2 _ (by rw [bg_ct trivial]; exact hI2)))))))
theorem yb_for3 {post : SY → Prop} {ys0 gv0 ys gv ro : Nat → Int32} {k l w wl i x : Nat} {bl b : bg_T} (hI : yb_I ys0 gv0 k w b ov ys gv) (hk : k < 12) (hl : l < k) (hi : i < bl.1) (h20 : bl.1 ≤ 20) (hnk : nk k = nI 3) (hnl : nl k = nI l) (hwl : nw l = nI wl) (hw : wl ≤ 6) (hnp : np k = nI x) (hx : x < wl)
    (hs : nq k = -1 ∨ ∃ t, t < wl ∧ nq k = nI t) (ht : ny k = -1 ∨ ∃ t, t < wl ∧ ny k = nI t) (hww : w = 1 + (if nq k = -1 then 0 else 1) + (if ny k = -1 then 0 else 1))
    (hB : yb_B l wl bl ys0 gv0) (H : ∀ ov' ys' gv' ro', yb_I ys0 gv0 k w (bg_ci True (bg_push b (fun c => if c = 0 then bl.2 i x else if c = 1 ∧ ¬ nq k = -1 then bl.2 i (nq k).toNatClampNeg else bl.2 i (ny k).toNatClampNeg)) b) ov' ys' gv' → post (nc, ov', rr, rw, tc, tr, nk, nl, nr, np, nq, ny, nw, nu, ys', gv', nd, ro', re)) : wpY_giveFor post (nc, ov, rr, rw, tc, tr, nk, nl, nr, np, nq, ny, nw, nu, ys, gv, nd, ro, re) (nI k) (nI i) := by
  have ck : (nI k).toNatClampNeg = k := nI_clamp (by omega)
  have vk : vp_in (nI k) 12 := vp_in_nI hk (by decide)
  have hrd : ∀ c, c < wl → ys ((l * 20 + i) * 6 + c) = bl.2 i c := fun c hc => yb_in hI hB hl hi (by omega) hc hw
  have hw6 : w ≤ 6 := by
    rw [hww]
    split <;> split <;> omega
  have tail : ∀ ro2 : Nat → Int32, (∀ c, c < w → ro2 c = if c = 0 then bl.2 i x else if c = 1 ∧ ¬ nq k = -1 then bl.2 i (nq k).toNatClampNeg else bl.2 i (ny k).toNatClampNeg) → wY_giveFor_206 post (nI k) (nI i) (nI l) (nI 3) nc ov rr rw tc tr nk nl nr np nq ny nw nu ys gv nd ro2 re := fun ro2 hr =>
    yb_give (row := fun c => if c = 0 then bl.2 i x else if c = 1 ∧ ¬ nq k = -1 then bl.2 i (nq k).toNatClampNeg else bl.2 i (ny k).toNatClampNeg) hI hk hw6 hr fun ov2 ys2 gv2 hI2 => br_f (by decide) (br_f (by decide) (br_f (by decide) (br_f (by decide) (br_f (by decide) (H ov2 ys2 gv2 ro2 (by rw [bg_ct trivial]; exact hI2))))))
  have m1 : (-1 : Int32) < 0 := by decide
  refine ⟨vk, nm_r (e' := nI l) (by rw [ck]; exact hnl) ⟨vk, nm_r (e' := nI 3) (by rw [ck]; exact hnk) (yb_lay (t := 0) (by omega) (by omega) hwl (by omega) fun ro' _ _ => ?_)⟩⟩
  dsimp only
  refine br_f (by decide) (br_f (by decide) (br_t (by decide) ⟨vk, ?_⟩))
  rw [ck, hnp]
  refine yb_at (by omega) ?_
  rw [hrd x hx]
  refine nm_e ⟨vk, ?_⟩
  rcases hs with es | ⟨s, hs, es⟩
  · refine br_t (by rw [es]; exact m1) ⟨vk, ?_⟩
    rw [ck]
    rcases ht with et | ⟨t, ht, et⟩
    · refine br_t (by rw [et]; exact m1) (tail _ fun c hc => ?_)
      rw [if_pos es, if_pos et] at hww
      obtain rfl : c = 0 := by omega
      rw [if_pos rfl, pk_us]
    · refine br_f (by rw [et]; exact nI_pos (by omega)) ⟨vk, ?_⟩
      rw [show ny k = nI t from et]
      refine yb_at (by omega) ⟨vp_in_nI (n := 1) (by omega) (by decide), nm_e (tail _ fun c hc => ?_)⟩
      rw [if_pos es, if_neg (by rw [et]; exact xb_nn1 (by omega))] at hww
      by_cases c0 : c = 0
      · subst c0
        rw [if_pos rfl, pk_un (by decide), pk_us]
      · obtain rfl : c = 1 := by omega
        rw [if_neg c0, if_neg (fun z => z.2 es), et, nI_clamp (by omega), ← hrd t ht]
        exact pk_us
  · have hns : ¬ nq k = -1 := by rw [es]; exact xb_nn1 (by omega)
    refine br_f (by rw [es]; exact nI_pos (by omega)) ⟨vk, ?_⟩
    rw [show nq k = nI s from es]
    refine yb_at (by omega) (nm_e (nm_r (e' := nI 2) rfl ⟨vk, ?_⟩))
    rw [ck, hrd s hs]
    have hsc : (nq k).toNatClampNeg = s := by rw [es]; exact nI_clamp (by omega)
    rcases ht with et | ⟨t, ht, et⟩
    · refine br_t (by rw [et]; exact m1) (tail _ fun c hc => ?_)
      rw [if_neg hns, if_pos et] at hww
      by_cases c0 : c = 0
      · subst c0
        rw [if_pos rfl, pk_un (by decide), pk_us]
      · obtain rfl : c = 1 := by omega
        rw [if_neg c0, if_pos ⟨rfl, hns⟩, hsc]
        exact pk_us
    · refine br_f (by rw [et]; exact nI_pos (by omega)) ⟨vk, ?_⟩
      rw [show ny k = nI t from et]
      refine yb_at (by omega) ⟨vp_in_nI (n := 2) (by omega) (by decide), nm_e (tail _ fun c hc => ?_)⟩
      rw [if_neg hns, if_neg (by rw [et]; exact xb_nn1 (by omega))] at hww
      by_cases c0 : c = 0
      · subst c0
        rw [if_pos rfl, pk_un (by decide), pk_un (by decide), pk_us]
      · by_cases c1 : c = 1
        · subst c1
          rw [if_neg c0, if_pos ⟨rfl, hns⟩, hsc, pk_un (by decide)]
          exact pk_us
        · obtain rfl : c = 2 := by omega
          rw [if_neg c0, if_neg (fun z => c1 z.1), et, nI_clamp (show t < 2 ^ 31 by omega), ← hrd t ht]
          exact pk_us
theorem yb_for56 {post : SY → Prop} {ys0 gv0 ys gv ro : Nat → Int32} {k l r w wr i x y K : Nat} {pos : Prop} {bl b2 b : bg_T} (hI : yb_I ys0 gv0 k w b ov ys gv) (hk : k < 12) (hl : l < k) (hr : r < k) (hi : i < bl.1) (h20 : bl.1 ≤ 20) (h202 : b2.1 ≤ 20) (hK : (pos ∧ K = 5) ∨ (¬ pos ∧ K = 6)) (hnk : nk k = nI K) (hnl : nl k = nI l) (hnr : nr k = nI r) (hwl : nw l = nI w) (hw : w ≤ 6) (hwr : wr ≤ 6) (hnp : np k = nI x) (hx : x < w) (hnq : nq k = nI y) (hy : y < wr)
    (hB : yb_B l w bl ys0 gv0) (hB2 : yb_B r wr b2 ys0 gv0) (H : ∀ ov' ys' gv' ro', yb_I ys0 gv0 k w (bg_ci ((∃ j, j < b2.1 ∧ b2.2 j y = bl.2 i x) ↔ pos) (bg_push b (bl.2 i)) b) ov' ys' gv' → post (nc, ov', rr, rw, tc, tr, nk, nl, nr, np, nq, ny, nw, nu, ys', gv', nd, ro', re)) : wpY_giveFor post (nc, ov, rr, rw, tc, tr, nk, nl, nr, np, nq, ny, nw, nu, ys, gv, nd, ro, re) (nI k) (nI i) := by
  have ck : (nI k).toNatClampNeg = k := nI_clamp (by omega)
  have vk : vp_in (nI k) 12 := vp_in_nI hk (by decide)
  have hgr : gv r = nI b2.1 := (hI.2.2.2 r (by omega)).trans (yb_n hB2 h202)
  have hx' := yb_in hI hB hl hi (by omega) hx hw
  have hy' : ∀ j, j < b2.1 → ys ((r * 20 + j) * 6 + y) = b2.2 j y := fun j hj => yb_in hI hB2 hr hj (by omega) hy hwr
  have hex : ∀ j, j < b2.1 → ys ((l * 20 + i) * 6 + x) = ys ((r * 20 + j) * 6 + y) → ∃ j, j < b2.1 ∧ b2.2 j y = bl.2 i x := fun j hj e => ⟨j, hj, by rw [← hx', e, hy' j hj]⟩
  have hne : (∀ j, j < b2.1 → ¬ ys ((l * 20 + i) * 6 + x) = ys ((r * 20 + j) * 6 + y)) → ¬ ∃ j, j < b2.1 ∧ b2.2 j y = bl.2 i x := fun e ⟨j, hj, z⟩ => e j hj (by rw [hx', hy' j hj, z])
  refine ⟨vk, nm_r (e' := nI l) (by rw [ck]; exact hnl) ⟨vk, nm_r (e' := nI K) (by rw [ck]; exact hnk) (yb_lay (t := 0) (by omega) (by omega) hwl (by omega) fun ro' h1 _ => ?_)⟩⟩
  have hrow : ∀ d, d < w → ro' d = bl.2 i d := fun d hd => by
    have z := h1 d hd
    rw [Nat.zero_add] at z
    exact z.trans (yb_in hI hB hl hi (by omega) hd hw)
  dsimp only
  rcases hK with ⟨hp, rfl⟩ | ⟨hp, rfl⟩
  · refine br_f (by decide) (br_f (by decide) (br_f (by decide) (br_t (by decide) (yb_match hk (by omega) (by omega) hnl hnr hnp (by omega) hnq (by omega) (by omega) hgr h202 (fun j hj e => ?_) (fun e => ?_)))))
    · refine br_f (by decide) (yb_give (row := bl.2 i) hI hk hw hrow fun ov2 ys2 gv2 hI2 => ?_)
      exact br_f (by decide) (br_f (by decide) (br_f (by decide) (H ov2 ys2 gv2 ro' (by rw [bg_ct ⟨fun _ => hp, fun _ => hex j hj e⟩]; exact hI2))))
    · refine br_t rfl (br_f (by decide) (br_f (by decide) (br_f (by decide) (br_f (by decide) (H ov ys gv ro' ?_)))))
      rw [bg_cf (fun z => hne e (z.mpr hp))]
      exact hI
  · refine br_f (by decide) (br_f (by decide) (br_f (by decide) (br_f (by decide) (br_t (by decide) (yb_match hk (by omega) (by omega) hnl hnr hnp (by omega) hnq (by omega) (by omega) hgr h202 (fun j hj e => ?_) (fun e => ?_))))))
    · refine br_f (by decide) (br_f (by decide) (br_f (by decide) (br_f (by decide) (H ov ys gv ro' ?_))))
      rw [bg_cf (fun z => hp (z.mp (hex j hj e)))]
      exact hI
    · refine br_t rfl (yb_give (row := bl.2 i) hI hk hw hrow fun ov2 ys2 gv2 hI2 => ?_)
      exact br_f (by decide) (br_f (by decide) (br_f (by decide) (H ov2 ys2 gv2 ro' (by rw [bg_ct ⟨fun z => absurd z (hne e), fun z => absurd z hp⟩]; exact hI2))))
theorem yb_for7 {post : SY → Prop} {ys0 gv0 ys gv ro : Nat → Int32} {k l wl x y q i : Nat} {bl b : bg_T} (hI : yb_I ys0 gv0 k 2 b ov ys gv) (hk : k < 12) (hl : l < k) (hi : i < bl.1) (h20 : bl.1 ≤ 20) (hnk : nk k = nI 7) (hnl : nl k = nI l) (hwl : nw l = nI wl) (hw : wl ≤ 6) (hnp : np k = nI x) (hx : x < wl) (hnq : nq k = nI q) (hq : q ≤ 3) (hny : ny k = nI y) (hy : y < wl)
    (hB : yb_B l wl bl ys0 gv0)
    (H : ∀ ov' ys' gv' ro', yb_I ys0 gv0 k 2 (bg_ci (bg_fst (fun i => bl.2 i x) i) (bg_push b (bg_grow (nI q) (fun i => bl.2 i x) (fun i => bl.2 i y) bl.1 i)) b) ov' ys' gv' → post (nc, ov', rr, rw, tc, tr, nk, nl, nr, np, nq, ny, nw, nu, ys', gv', nd, ro', re)) : wpY_giveFor post (nc, ov, rr, rw, tc, tr, nk, nl, nr, np, nq, ny, nw, nu, ys, gv, nd, ro, re) (nI k) (nI i) := by
  have ck : (nI k).toNatClampNeg = k := nI_clamp (by omega)
  have vk : vp_in (nI k) 12 := vp_in_nI hk (by decide)
  refine ⟨vk, nm_r (e' := nI l) (by rw [ck]; exact hnl) ⟨vk, nm_r (e' := nI 7) (by rw [ck]; exact hnk) (yb_lay (t := 0) (by omega) (by omega) hwl (by omega) fun ro' h1 _ => ?_)⟩⟩
  dsimp only
  refine br_f (by decide) (br_f (by decide) (br_f (by decide) (br_f (by decide) (br_f (by decide) (br_t (by decide) (yb_ggrp hI hk hl hnl hw hnp hx hnq hq hny hy hB h20 hi fun ov2 ys2 gv2 ro2 hI2 => ?_))))))
  exact br_f (by decide) (br_f (by decide) (H ov2 ys2 gv2 ro2 hI2))
theorem yb_for8 {post : SY → Prop} {ys0 gv0 ys gv ro : Nat → Int32} {k l w i : Nat} {bl b : bg_T} (hI : yb_I ys0 gv0 k w b ov ys gv) (hk : k < 12) (hl : l < k) (hi : i < bl.1) (h20 : bl.1 ≤ 20) (hnk : nk k = nI 8) (hnl : nl k = nI l) (hwl : nw l = nI w) (hw : w ≤ 6)
    (hB : yb_B l w bl ys0 gv0) (H : ∀ ov' ys' gv' ro', yb_I ys0 gv0 k w (bg_ci (∀ j, j < i → ¬ bg_eqw w (bl.2 i) (bl.2 j)) (bg_push b (bl.2 i)) b) ov' ys' gv' → post (nc, ov', rr, rw, tc, tr, nk, nl, nr, np, nq, ny, nw, nu, ys', gv', nd, ro', re)) : wpY_giveFor post (nc, ov, rr, rw, tc, tr, nk, nl, nr, np, nq, ny, nw, nu, ys, gv, nd, ro, re) (nI k) (nI i) := by
  have ck : (nI k).toNatClampNeg = k := nI_clamp (by omega)
  have vk : vp_in (nI k) 12 := vp_in_nI hk (by decide)
  have hrd : ∀ j, j < bl.1 → bg_eqw w (fun c => ys ((l * 20 + j) * 6 + c)) (bl.2 j) := fun j hj c hc => yb_in hI hB hl hj (by omega) hc hw
  refine ⟨vk, nm_r (e' := nI l) (by rw [ck]; exact hnl) ⟨vk, nm_r (e' := nI 8) (by rw [ck]; exact hnk) (yb_lay (t := 0) (by omega) (by omega) hwl (by omega) fun ro' h1 _ => ?_)⟩⟩
  dsimp only
  refine br_f (by decide) (br_f (by decide) (br_f (by decide) (br_f (by decide) (br_f (by decide) (br_f (by decide) (br_t (by decide) (yb_rep (by omega) (by omega) hwl hw (fun j hj e => br_f (by decide) (br_f (by decide) (H ov ys gv ro' ?_))) (fun e => br_t rfl (yb_give (row := bl.2 i) hI hk hw (fun d hd => ?_) fun ov2 ys2 gv2 hI2 => H ov2 ys2 gv2 ro' ?_)))))))))
  · rw [bg_cf (fun z => z j hj (bg_eqw_t (bg_eqw_s (hrd i hi)) (bg_eqw_t e (hrd j (by omega)))))]
    exact hI
  · have z := h1 d hd
    rw [Nat.zero_add] at z
    exact z.trans (yb_in hI hB hl hi (by omega) hd hw)
  · rw [bg_ct (fun j hj z => e j hj (bg_eqw_t (hrd i hi) (bg_eqw_t z (bg_eqw_s (hrd j (by omega))))))]
    exact hI2
theorem yb_for9 {post : SY → Prop} {ys0 gv0 ys gv ro : Nat → Int32} {k l w i : Nat} {bl b : bg_T} (hI : yb_I ys0 gv0 k w b ov ys gv) (hk : k < 12) (hl : l < k) (hi : i < bl.1) (h20 : bl.1 ≤ 20) (hnk : nk k = nI 9) (hnl : nl k = nI l) (hwl : nw l = nI w) (hw : w ≤ 6)
    (hB : yb_B l w bl ys0 gv0) (H : ∀ ov' ys' gv' ro', yb_I ys0 gv0 k w (bg_ci True (bg_push b (bl.2 i)) b) ov' ys' gv' → post (nc, ov', rr, rw, tc, tr, nk, nl, nr, np, nq, ny, nw, nu, ys', gv', nd, ro', re)) : wpY_giveFor post (nc, ov, rr, rw, tc, tr, nk, nl, nr, np, nq, ny, nw, nu, ys, gv, nd, ro, re) (nI k) (nI i) := by
  have ck : (nI k).toNatClampNeg = k := nI_clamp (by omega)
  have vk : vp_in (nI k) 12 := vp_in_nI hk (by decide)
  refine ⟨vk, nm_r (e' := nI l) (by rw [ck]; exact hnl) ⟨vk, nm_r (e' := nI 9) (by rw [ck]; exact hnk) (yb_lay (t := 0) (by omega) (by omega) hwl (by omega) fun ro' h1 _ => ?_)⟩⟩
  dsimp only
  refine br_f (by decide) (br_f (by decide) (br_f (by decide) (br_f (by decide) (br_f (by decide) (br_f (by decide) (br_f (by decide) (br_t (by decide) (yb_give (row := bl.2 i) hI hk hw (fun d hd => ?_) fun ov2 ys2 gv2 hI2 => H ov2 ys2 gv2 ro' ?_))))))))
  · have z := h1 d hd
    rw [Nat.zero_add] at z
    exact z.trans (yb_in hI hB hl hi (by omega) hd hw)
  · rw [bg_ct trivial]
    exact hI2
end
