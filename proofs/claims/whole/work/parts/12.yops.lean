/-! the reference: tables, joins, groups -/
theorem yr_t (t i c : Nat) : 3 * (6 * nI t + nI i) + nI c = nI ((t * 6 + i) * 3 + c) := by
  rw [show (6 : Int32) = nI 6 from rfl, show (3 : Int32) = nI 3 from rfl, pk_mul, nI_add, pk_mul, nI_add]
  exact congrArg nI (by omega)
abbrev yb_S : Type := Int32 × (Nat → Int32) × (Nat → Int32) × (Nat → Int32)
section
variable {nc ov rr rw : Int32} {tc tr nk nl nr np nq ny nw nu nd re : Nat → Int32}
theorem yb_scan {post : SY → Prop} {ys gv ro : Nat → Int32} {k t h : Nat} (hk : k < 12) (hnp : np k = nI t) (ht : t < 3) (htr : tr t = nI h) (hh : h ≤ 6) (h0 : gv k = nI 0)
    (H : ∀ ov' ys' gv' ro', yb_I ys gv k 3 (bs_scan tc t h) ov' ys' gv' → post (nc, ov', rr, rw, tc, tr, nk, nl, nr, np, nq, ny, nw, nu, ys', gv', nd, ro', re)) : wpY_giveTable post (nc, 0, rr, rw, tc, tr, nk, nl, nr, np, nq, ny, nw, nu, ys, gv, nd, ro, re) (nI k) := by
  have ck : (nI k).toNatClampNeg = k := nI_clamp (by omega)
  have ct : (nI t).toNatClampNeg = t := nI_clamp (by omega)
  refine loop_0 (fun f i (s : yb_S) => wY_giveTable_2 post (nI k) f (nI i) nc s.1 rr rw tc tr nk nl nr np nq ny nw nu s.2.1 s.2.2.1 nd s.2.2.2 re) (fun i s => yb_I ys gv k 3 (bs_scan tc t i) s.1 s.2.1 s.2.2.1) h (0, ys, gv, ro) (yb_I0 h0) ?_ ?_
  · rintro f ⟨ov', ys', gv', ro'⟩ hI
    refine ⟨vp_in_nI hk (by decide), ?_⟩
    rw [ck, hnp, ct, htr]
    exact ⟨vp_in_nI ht (by decide), br_t (nI_le (Nat.le_refl _) (by omega)) (H _ _ _ _ hI)⟩
  · rintro f i ⟨ov', ys', gv', ro'⟩ hi hI ih
    refine ⟨vp_in_nI hk (by decide), ?_⟩
    rw [ck, hnp, ct, htr]
    refine ⟨vp_in_nI ht (by decide), br_f (nI_ge hi (by omega)) ?_⟩
    refine loop_0 (fun f2 c s => wY_giveTable_19 post (wY_giveTable_2 post (nI k) f) (nI k) (nI i) nc ov' rr rw f2 (nI c) tc tr nk nl nr np nq ny nw nu ys' gv' nd s re) (fun c s => ∀ d, d < c → s d = tc ((t * 6 + i) * 3 + d)) 3 ro' (fun d hd => absurd hd (Nat.not_lt_zero d)) ?_ ?_
    · intro f2 s h1
      refine br_t (nI_le (a := 3) (b := 3) (Nat.le_refl _) (by decide)) (yb_give (row := fun c => tc ((t * 6 + i) * 3 + c)) hI hk (by omega) h1 fun ov2 ys2 gv2 hI2 => nm_r (nI_1 i) (ih (ov2, ys2, gv2, s) ?_))
      have e : bs_scan tc t (i + 1) = bg_push (bs_scan tc t i) (fun c => tc ((t * 6 + i) * 3 + c)) := bg_sel_t trivial
      dsimp only
      rw [e]
      exact hI2
    · intro f2 c s hc h1 ih2
      refine br_f (nI_ge (b := 3) hc (by decide)) ⟨vp_in_nI hk (by decide), ?_⟩
      rw [ck, hnp, yr_t, nI_clamp (by omega), nI_clamp (by omega)]
      refine ⟨vp_in_nI (by omega) (by decide), vp_in_nI (by omega) (by decide), nm_e (nm_r (nI_1 c) (ih2 (upd s c (tc ((t * 6 + i) * 3 + c))) fun d hd => ?_))⟩
      by_cases e : d = c
      · subst e
        exact pk_us
      · rw [pk_un e]
        exact h1 d (by omega)
theorem yb_join {post : SY → Prop} {ys gv ro : Nat → Int32} {k l r wl wr x y : Nat} {bl b : bg_T} (hk : k < 12) (hl : l < k) (hr : r < k) (hnl : nl k = nI l) (hnr : nr k = nI r) (hwl : nw l = nI wl) (hwr : nw r = nI wr) (hw : wl + wr ≤ 6) (hnp : np k = nI x) (hx : x < wl) (hnq : nq k = nI y) (hy : y < wr) (h0 : gv k = nI 0)
    (hB : yb_B l wl bl ys gv) (h20 : bl.1 ≤ 20) (hB2 : yb_B r wr b ys gv) (h202 : b.1 ≤ 20) (H : ∀ ov' ys' gv' ro', yb_I ys gv k (wl + wr) (bs_join bl b wl x y bl.1) ov' ys' gv' → post (nc, ov', rr, rw, tc, tr, nk, nl, nr, np, nq, ny, nw, nu, ys', gv', nd, ro', re)) : wpY_giveJoin post (nc, 0, rr, rw, tc, tr, nk, nl, nr, np, nq, ny, nw, nu, ys, gv, nd, ro, re) (nI k) := by
  have ck : (nI k).toNatClampNeg = k := nI_clamp (by omega)
  have cl : (nI l).toNatClampNeg = l := nI_clamp (by omega)
  have cr : (nI r).toNatClampNeg = r := nI_clamp (by omega)
  refine loop_0 (fun f i (s : yb_S) => wY_giveJoin_2 post (nI k) f (nI i) nc s.1 rr rw tc tr nk nl nr np nq ny nw nu s.2.1 s.2.2.1 nd s.2.2.2 re) (fun i s => yb_I ys gv k (wl + wr) (bs_join bl b wl x y i) s.1 s.2.1 s.2.2.1) bl.1 (0, ys, gv, ro) (yb_I0 h0) ?_ ?_
  · rintro f ⟨ov', ys', gv', ro'⟩ hI
    have hgl : gv' l = nI bl.1 := (hI.2.2.2 l (by omega)).trans (yb_n hB h20)
    refine ⟨vp_in_nI hk (by decide), ?_⟩
    dsimp only
    rw [ck, hnl, cl, hgl]
    exact ⟨vp_in_nI (by omega) (by decide), br_t (nI_le (Nat.le_refl _) (by omega)) (H _ _ _ _ hI)⟩
  · rintro f i ⟨ov1, ys1, gv1, ro1⟩ hi hI1 ih
    have hgl : gv1 l = nI bl.1 := (hI1.2.2.2 l (by omega)).trans (yb_n hB h20)
    refine ⟨vp_in_nI hk (by decide), ?_⟩
    dsimp only
    rw [ck, hnl, cl, hgl]
    refine ⟨vp_in_nI (by omega) (by decide), br_f (nI_ge hi (by omega)) ?_⟩
    refine loop_0 (fun f2 j (s : yb_S) => wY_giveJoin_19 post (wY_giveJoin_2 post (nI k) f) (nI k) (nI i) f2 (nI j) nc s.1 rr rw tc tr nk nl nr np nq ny nw nu s.2.1 s.2.2.1 nd s.2.2.2 re)
      (fun j s => yb_I ys gv k (wl + wr) (bg_sel (bs_join bl b wl x y i) (fun j => bl.2 i x = b.2 j y) (bs_jrow bl b wl i) j) s.1 s.2.1 s.2.2.1) b.1 (ov1, ys1, gv1, ro1) hI1 ?_ ?_
    · rintro f2 ⟨ov', ys', gv', ro'⟩ hI
      have hgr : gv' r = nI b.1 := (hI.2.2.2 r (by omega)).trans (yb_n hB2 h202)
      refine ⟨vp_in_nI hk (by decide), ?_⟩
      dsimp only
      rw [ck, hnr, cr, hgr]
      exact ⟨vp_in_nI (by omega) (by decide), br_t (nI_le (Nat.le_refl _) (by omega)) (nm_r (nI_1 i) (ih (ov', ys', gv', ro') hI))⟩
    · rintro f2 j ⟨ov', ys', gv', ro'⟩ hj hI ih2
      have hgr : gv' r = nI b.1 := (hI.2.2.2 r (by omega)).trans (yb_n hB2 h202)
      dsimp only at hI
      refine ⟨vp_in_nI hk (by decide), ?_⟩
      dsimp only
      rw [ck, hnr, cr, hgr, hnl, hnp, hnq]
      refine ⟨vp_in_nI (by omega) (by decide), br_f (nI_ge hj (by omega)) ⟨vp_in_nI hk (by decide), vp_in_nI hk (by decide), yb_at (by omega) ⟨vp_in_nI hk (by decide), vp_in_nI hk (by decide), yb_at (by omega) ?_⟩⟩⟩
      rw [yb_in hI hB hl hi (by omega) hx (by omega), yb_in hI hB2 hr hj (by omega) hy (by omega)]
      refine br_c (fun e => ⟨vp_in_nI hk (by decide), yb_lay (t := 0) (by omega) (by omega) hwl (by omega) fun ro2 h1 _ => ?_⟩) (fun e => nm_r (nI_1 j) (ih2 (ov', ys', gv', ro') ?_))
      · dsimp only
        simp only [ck, hnl, hnr, cl, hwl]
        refine ⟨vp_in_nI hk (by decide), vp_in_nI hk (by decide), vp_in_nI (by omega) (by decide), yb_lay (by omega) (by omega) hwr (by omega) fun ro3 h3 h4 => ?_⟩
        refine yb_give (row := bs_jrow bl b wl i j) hI hk hw (fun c hc => ?_) fun ov4 ys4 gv4 hI4 => nm_r (nI_1 j) (ih2 (ov4, ys4, gv4, ro3) ?_)
        · show ro3 c = if c < wl then bl.2 i c else b.2 j (c - wl)
          by_cases ec : c < wl
          · have z := h1 c ec
            rw [Nat.zero_add] at z
            rw [if_pos ec, h4 c ec, z]
            exact yb_in hI hB hl hi (by omega) ec (by omega)
          · have z := h3 (c - wl) (by omega)
            rw [show wl + (c - wl) = c by omega] at z
            rw [if_neg ec, z]
            exact yb_in hI hB2 hr hj (by omega) (by omega) (by omega)
        · dsimp only
          rw [bg_sel_t (P := fun j => bl.2 i x = b.2 j y) e]
          exact hI4
      · dsimp only
        rw [bg_sel_f (P := fun j => bl.2 i x = b.2 j y) e]
        exact hI
theorem yb_gst {post : SY → Prop} {J : Int32 → Int32 → Prop} {ys gv ro : Nat → Int32} {k j q : Nat} {x2 x3 x4 x5 v : Int32} (hk : k < 12) (hnq : nq k = nI q) (hq : q ≤ 3) (h : J (bg_st (nI q) x5 v) (nI (j + 1))) :
    (nI q = 0 → ∀ y : Int32, y = x5 + v → wY_giveGroup_131 post J (nI k) x2 x3 x4 y (nI j) v nc ov rr rw tc tr nk nl nr np nq ny nw nu ys gv nd ro re) ∧ (¬ nI q = 0 → wY_giveGroup_131 post J (nI k) x2 x3 x4 x5 (nI j) v nc ov rr rw tc tr nk nl nr np nq ny nw nu ys gv nd ro re) := by
  have ck : (nI k).toNatClampNeg = k := nI_clamp (by omega)
  have vk : vp_in (nI k) 12 := vp_in_nI hk (by decide)
  have e161 : ∀ a, ¬ nI q = 3 → J a (nI (j + 1)) → wY_giveGroup_161 post J (nI k) x2 x3 x4 a (nI j) v nc ov rr rw tc tr nk nl nr np nq ny nw nu ys gv nd ro re := fun a e h => ⟨vk, by rw [ck, hnq]; exact br_f e (nm_r (nI_1 j) h)⟩
  have e144 : ∀ a, ¬ nI q = 2 → wY_giveGroup_161 post J (nI k) x2 x3 x4 a (nI j) v nc ov rr rw tc tr nk nl nr np nq ny nw nu ys gv nd ro re → wY_giveGroup_144 post J (nI k) x2 x3 x4 a (nI j) v nc ov rr rw tc tr nk nl nr np nq ny nw nu ys gv nd ro re := fun a e h => ⟨vk, by rw [ck, hnq]; exact br_f e h⟩
  have e131 : ∀ a, ¬ nI q = 1 → wY_giveGroup_144 post J (nI k) x2 x3 x4 a (nI j) v nc ov rr rw tc tr nk nl nr np nq ny nw nu ys gv nd ro re → wY_giveGroup_131 post J (nI k) x2 x3 x4 a (nI j) v nc ov rr rw tc tr nk nl nr np nq ny nw nu ys gv nd ro re := fun a e h => ⟨vk, by rw [ck, hnq]; exact br_f e h⟩
  have : q = 0 ∨ q = 1 ∨ q = 2 ∨ q = 3 := by omega
  rcases this with rfl | rfl | rfl | rfl
  · rw [bg_s0] at h
    exact br_t rfl (nm_e (e131 _ (by decide) (e144 _ (by decide) (e161 _ (by decide) h))))
  · rw [bg_s1] at h
    exact br_f (by decide) ⟨vk, by rw [ck, hnq]; exact br_t rfl (nm_e (e144 _ (by decide) (e161 _ (by decide) h)))⟩
  · rw [bg_s2] at h
    refine br_f (by decide) (e131 _ (by decide) ⟨vk, ?_⟩)
    rw [ck, hnq]
    refine br_t rfl (br_c (fun e => nm_r (nI_1 j) ?_) (fun e => e161 _ (by decide) ?_))
    · rw [if_pos e] at h
      exact h
    · rw [if_neg e] at h
      exact h
  · rw [bg_s3] at h
    refine br_f (by decide) (e131 _ (by decide) (e144 _ (by decide) ⟨vk, ?_⟩))
    rw [ck, hnq]
    refine br_t rfl (br_c (fun e => nm_r (nI_1 j) ?_) (fun e => nm_r (nI_1 j) ?_))
    · rw [if_pos e] at h
      exact h
    · rw [if_neg e] at h
      exact h
theorem yb_ggrp {post : SY → Prop} {ys0 gv0 ys gv ro : Nat → Int32} {k l wl x y q i : Nat} {bl b : bg_T} (hI : yb_I ys0 gv0 k 2 b ov ys gv) (hk : k < 12) (hl : l < k) (hnl : nl k = nI l) (hw : wl ≤ 6) (hnp : np k = nI x) (hx : x < wl) (hnq : nq k = nI q) (hq : q ≤ 3) (hny : ny k = nI y) (hy : y < wl)
    (hB : yb_B l wl bl ys0 gv0) (h20 : bl.1 ≤ 20) (hi : i < bl.1)
    (H : ∀ ov' ys' gv' ro', yb_I ys0 gv0 k 2 (bg_ci (bg_fst (fun i => bl.2 i x) i) (bg_push b (bg_grow (nI q) (fun i => bl.2 i x) (fun i => bl.2 i y) bl.1 i)) b) ov' ys' gv' → post (nc, ov', rr, rw, tc, tr, nk, nl, nr, np, nq, ny, nw, nu, ys', gv', nd, ro', re)) : wpY_giveGroup post (nc, ov, rr, rw, tc, tr, nk, nl, nr, np, nq, ny, nw, nu, ys, gv, nd, ro, re) (nI k) (nI i) := by
  have ck : (nI k).toNatClampNeg = k := nI_clamp (by omega)
  have cl : (nI l).toNatClampNeg = l := nI_clamp (by omega)
  have vk : vp_in (nI k) 12 := vp_in_nI hk (by decide)
  have hgl : gv l = nI bl.1 := (hI.2.2.2 l (by omega)).trans (yb_n hB h20)
  have hkx : ∀ j, j < bl.1 → ys ((l * 20 + j) * 6 + x) = bl.2 j x := fun j hj => yb_in hI hB hl hj (by omega) hx hw
  have hvy : ∀ j, j < bl.1 → ys ((l * 20 + j) * 6 + y) = bl.2 j y := fun j hj => yb_in hI hB hl hj (by omega) hy hw
  have key : ∃ n, wY_giveGroup_64 post (nI k) (nI i) (nI l) (bl.2 i x) nc ov rr rw tc tr nk nl nr np nq ny nw nu ys gv nd ro re n (bg_in (nI q) (bl.2 i y)) 0 := by
    refine loop_0 (fun f j (s : Int32) => wY_giveGroup_64 post (nI k) (nI i) (nI l) (bl.2 i x) nc ov rr rw tc tr nk nl nr np nq ny nw nu ys gv nd ro re f s (nI j)) (fun j s => s = bg_tot (nI q) (fun i => bl.2 i x) (fun i => bl.2 i y) (bl.2 i x) (bl.2 i y) j ∧ ∀ a, a < j → a < i → ¬ bl.2 a x = bl.2 i x) bl.1 (bg_in (nI q) (bl.2 i y)) ⟨rfl, fun a ha => absurd ha (Nat.not_lt_zero a)⟩ ?_ ?_
    · rintro f s ⟨e1, e2⟩
      have hf : bg_fst (fun i => bl.2 i x) i := fun a ha => e2 a (by omega) ha
      refine ⟨vp_in_nI (by omega) (by decide), ?_⟩
      rw [cl, hgl]
      refine br_t (nI_le (Nat.le_refl _) (by omega)) (nm_e (nm_e (yb_give (row := bg_grow (nI q) (fun i => bl.2 i x) (fun i => bl.2 i y) bl.1 i) hI hk (by omega) (fun c hc => ?_) fun ov2 ys2 gv2 hI2 => H ov2 ys2 gv2 _ (by rw [bg_ct hf]; exact hI2))))
      show _ = if c = 0 then bl.2 i x else bg_tot (nI q) (fun i => bl.2 i x) (fun i => bl.2 i y) (bl.2 i x) (bl.2 i y) bl.1
      by_cases c0 : c = 0
      · subst c0
        rw [if_pos rfl, pk_un (by omega), pk_us]
      · obtain rfl : c = 1 := by omega
        rw [if_neg c0, pk_us, e1]
    · rintro f j s hj ⟨e1, e2⟩ ih
      refine ⟨vp_in_nI (by omega) (by decide), ?_⟩
      rw [cl, hgl, ck, hnp, hnq, hny]
      refine br_f (nI_ge hj (by omega)) ⟨vk, yb_at (by omega) ?_⟩
      rw [hkx j hj]
      refine br_c (fun e => pk_le i j (fun hij => ⟨vk, yb_at (by omega) ?_⟩) (fun hji => H ov ys gv ro ?_)) (fun e => nm_r (nI_1 j) (ih s ⟨?_, fun a ha hai => ?_⟩))
      · rw [hvy j hj]
        refine ⟨vk, yb_gst hk hnq hq (ih _ ⟨?_, fun a ha hai => ?_⟩)⟩
        · rw [e1]
          exact (bg_tot_t (ky := fun i => bl.2 i x) (vl := fun i => bl.2 i y) e).symm
        · exact e2 a (by omega) hai
      · rw [bg_cf (fun z => z j hji e)]
        exact hI
      · rw [e1]
        exact (bg_tot_f (ky := fun i => bl.2 i x) (vl := fun i => bl.2 i y) e).symm
      · by_cases ea : a = j
        · subst ea
          exact e
        · exact e2 a (by omega) hai
  have h47 : ∀ z0 : Int32, (¬ nI q = 0 → z0 = bg_in (nI q) (bl.2 i y)) → wY_giveGroup_47 post (nI k) (nI i) (nI l) (bl.2 i x) z0 nc ov rr rw tc tr nk nl nr np nq ny nw nu ys gv nd ro re := by
    intro z0 hz
    refine ⟨vk, ?_⟩
    rw [ck, hnq]
    refine br_c (fun e => ?_) (fun e => ?_)
    · have ei : bg_in (nI q) (bl.2 i y) = 0 := by
        unfold bg_in
        rw [if_pos e]
      rw [ei] at key
      exact key
    · rw [hz e]
      exact key
  refine ⟨vk, nm_r (e' := nI l) (by rw [ck]; exact hnl) ⟨vk, ?_⟩⟩
  rw [ck, hnp, hnq, hny]
  refine yb_at (by omega) ⟨vk, ?_⟩
  rw [hkx i hi]
  refine br_c (fun e => h47 0 fun e0 => ?_) (fun e => ⟨vk, yb_at (by omega) ?_⟩)
  · unfold bg_in
    rw [if_neg e0, if_pos e]
  · rw [hvy i hi]
    refine h47 _ fun e0 => ?_
    unfold bg_in
    rw [if_neg e0, if_neg e]
end
