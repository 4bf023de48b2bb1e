/-! the component: extend, pick, join, group -/
theorem xb_nn1 {t : Nat} (h : t < 2 ^ 31) : ¬ nI t = -1 := fun z => by
  have h1 := nI_pos' h
  rw [z] at h1
  exact absurd h1 (by decide)
section
variable {nc rr rw : Int32} {tc tr nk nw nl nr nf ns nt nu ip rc : Nat → Int32}
theorem xb_ext {post : SX → Prop} {bc br : Nat → Int32} {k l wl op x y : Nat} {bl : bg_T} (hk : k < 12) (hl : l < k) (hnl : nl k = nI l) (hwl : nw l = nI wl) (hw : wl + 1 ≤ 6) (hnf : nf k = nI op) (hop : op ≤ 4) (hns : ns k = nI x) (hx : x < wl) (hnt : nt k = nI y) (hy : y < wl) (h0 : br k = nI 0)
    (hB : xb_B l wl bl bc br) (h20 : bl.1 ≤ 20) (H : ∀ bc' br', xb_I bc br k (wl + 1) (bs_ext bl wl (nI op) x y bl.1) bc' br' → post (nc, rr, rw, tc, tr, nk, nw, nl, nr, nf, ns, nt, nu, ip, bc', br', rc)) : wpX_runExtend post (nc, rr, rw, tc, tr, nk, nw, nl, nr, nf, ns, nt, nu, ip, bc, br, rc) (nI k) := by
  have ck : (nI k).toNatClampNeg = k := nI_clamp (by omega)
  have cl : (nI l).toNatClampNeg = l := nI_clamp (by omega)
  refine ⟨vp_in_nI hk (by decide), nm_r (e' := nI l) (by rw [ck]; exact hnl) ⟨vp_in_nI (by omega) (by decide), nm_r (e' := nI bl.1) (by rw [cl]; exact hB.1) ?_⟩⟩
  refine loop_0 (fun n i (s : (Nat → Int32) × (Nat → Int32)) => wX_runExtend_17 post (nI k) (nI l) (nI bl.1) n (nI i) nc rr rw tc tr nk nw nl nr nf ns nt nu ip s.1 s.2 rc) (fun i s => xb_I bc br k (wl + 1) (bs_ext bl wl (nI op) x y i) s.1 s.2) bl.1 (bc, br) (xb_I0 h0) ?_ ?_
  · rintro n ⟨bc', br'⟩ hI
    exact br_t (nI_le (Nat.le_refl _) (by omega)) (H bc' br' hI)
  · rintro n i ⟨bc', br'⟩ hi hI ih
    have hle : (bs_ext bl wl (nI op) x y i).1 ≤ i := bg_sel0_le _ _ _
    refine br_f (nI_ge hi (by omega)) (xb_rs (xb_addRow hk hI.1.1 (by omega) fun m hm => ?_))
    dsimp only at hI ⊢
    refine ⟨vp_in_nI (by omega) (by decide), ?_⟩
    rw [cl, hwl]
    refine xb_copy (by omega) (by omega) fun bc2 h1 h2 => ?_
    dsimp only
    rw [ck, hns, hnt, hnf, hwl, nI_add, nI_add, nI_add, nI_clamp (by omega), nI_clamp (by omega), nI_clamp (by omega)]
    refine ⟨vp_in_nI hk (by decide), vp_in_nI (by omega) (by decide), nm_r (e' := bl.2 i x) ((h1 _ (by omega)).trans (xb_in hI hB hl hi (by omega) hx (by omega))) ⟨vp_in_nI hk (by decide), vp_in_nI (by omega) (by decide), nm_r (e' := bl.2 i y) ((h1 _ (by omega)).trans (xb_in hI hB hl hi (by omega) hy (by omega))) ⟨vp_in_nI (by omega) (by decide), vp_in_nI hk (by decide), xb_compute hop ⟨vp_in_nI (by omega) (by decide), nm_e (nm_r (nI_1 i) (ih (upd bc2 ((k * 21 + m) * 6 + wl) (bs_op (nI op) (bl.2 i x) (bl.2 i y)), upd br' k (nI ((bs_ext bl wl (nI op) x y i).1 + 1))) ?_))⟩⟩⟩⟩
    have e2 : bs_ext bl wl (nI op) x y (i + 1) = bg_push (bs_ext bl wl (nI op) x y i) (fun c => if c < wl then bl.2 i c else bs_op (nI op) (bl.2 i x) (bl.2 i y)) := bg_sel_t trivial
    dsimp only
    rw [e2]
    refine xb_push hI (by omega) hm (fun j hj => ?_) (fun c hc => ?_)
    · rw [pk_un (by omega)]
      exact h1 j (by omega)
    · by_cases e : c < wl
      · rw [if_pos e, pk_un (by omega), h2 c e]
        exact xb_in hI hB hl hi (by omega) e (by omega)
      · rw [if_neg e]
        obtain rfl : c = wl := by omega
        exact pk_us
theorem xb_pick100 {post : SX → Prop} {J : Int32 → Int32 → Int32 → Int32 → (Nat → Int32) → (Nat → Int32) → (Nat → Int32) → (Nat → Int32) → (Nat → Int32) → (Nat → Int32) → (Nat → Int32) → (Nat → Int32) → (Nat → Int32) → (Nat → Int32) → (Nat → Int32) → (Nat → Int32) → (Nat → Int32) → (Nat → Int32) → Prop} {bc br : Nat → Int32} {k i a A f : Nat} {x2 x3 : Int32} (hk : k < 12) (ha : a + 6 ≤ 1512) (hA : A + f < 1512)
    (ht : nt k = -1 ∨ ∃ t, t < 6 ∧ nt k = nI t) (h0 : nt k = -1 → J (nI (i + 1)) nc rr rw tc tr nk nw nl nr nf ns nt nu ip bc br rc) (h1 : ∀ t, t < 6 → nt k = nI t → J (nI (i + 1)) nc rr rw tc tr nk nw nl nr nf ns nt nu ip (upd bc (A + f) (bc (a + t))) br rc) : wX_runPick_100 post J (nI k) x2 x3 (nI i) (nI a) (nI A) (nI f) nc rr rw tc tr nk nw nl nr nf ns nt nu ip bc br rc := by
  have ck : (nI k).toNatClampNeg = k := nI_clamp (by omega)
  refine ⟨vp_in_nI hk (by decide), ?_⟩
  rw [ck]
  rcases ht with e | ⟨t, ht, e⟩
  · exact br_t e (nm_r (nI_1 i) (h0 e))
  · rw [e, nI_add, nI_add, nI_clamp (by omega), nI_clamp (by omega)]
    exact br_f (xb_nn1 (by omega)) ⟨vp_in_nI hk (by decide), vp_in_nI (by omega) (by decide), vp_in_nI (by omega) (by decide), nm_e (nm_r (nI_1 i) (h1 t ht e))⟩
theorem xb_pick {post : SX → Prop} {bc br : Nat → Int32} {k l w wl x : Nat} {bl : bg_T} (hk : k < 12) (hl : l < k) (hnl : nl k = nI l) (hw : wl ≤ 6) (hnf : nf k = nI x) (hx : x < wl)
    (hs : ns k = -1 ∨ ∃ t, t < wl ∧ ns k = nI t) (ht : nt k = -1 ∨ ∃ t, t < wl ∧ nt k = nI t) (hww : w = 1 + (if ns k = -1 then 0 else 1) + (if nt k = -1 then 0 else 1)) (h0 : br k = nI 0)
    (hB : xb_B l wl bl bc br) (h20 : bl.1 ≤ 20) (H : ∀ bc' br', xb_I bc br k w (bs_pick bl x (ns k) (nt k) bl.1) bc' br' → post (nc, rr, rw, tc, tr, nk, nw, nl, nr, nf, ns, nt, nu, ip, bc', br', rc)) : wpX_runPick post (nc, rr, rw, tc, tr, nk, nw, nl, nr, nf, ns, nt, nu, ip, bc, br, rc) (nI k) := by
  have ck : (nI k).toNatClampNeg = k := nI_clamp (by omega)
  have cl : (nI l).toNatClampNeg = l := nI_clamp (by omega)
  have ht6 : nt k = -1 ∨ ∃ t, t < 6 ∧ nt k = nI t := ht.imp id (fun ⟨t, a, b⟩ => ⟨t, by omega, b⟩)
  refine ⟨vp_in_nI hk (by decide), nm_r (e' := nI l) (by rw [ck]; exact hnl) ⟨vp_in_nI (by omega) (by decide), nm_r (e' := nI bl.1) (by rw [cl]; exact hB.1) ?_⟩⟩
  refine loop_0 (fun n i (s : (Nat → Int32) × (Nat → Int32)) => wX_runPick_17 post (nI k) (nI l) (nI bl.1) n (nI i) nc rr rw tc tr nk nw nl nr nf ns nt nu ip s.1 s.2 rc) (fun i s => xb_I bc br k w (bs_pick bl x (ns k) (nt k) i) s.1 s.2) bl.1 (bc, br) (xb_I0 h0) ?_ ?_
  · rintro n ⟨bc', br'⟩ hI
    exact br_t (nI_le (Nat.le_refl _) (by omega)) (H bc' br' hI)
  · rintro n i ⟨bc', br'⟩ hi hI ih
    have hle : (bs_pick bl x (ns k) (nt k) i).1 ≤ i := bg_sel0_le _ _ _
    have e2 : bs_pick bl x (ns k) (nt k) (i + 1) = bg_push (bs_pick bl x (ns k) (nt k) i) (fun c => if c = 0 then bl.2 i x else if c = 1 ∧ ¬ ns k = -1 then bl.2 i (ns k).toNatClampNeg else bl.2 i (nt k).toNatClampNeg) := bg_sel_t trivial
    refine br_f (nI_ge hi (by omega)) (xb_rs (xb_addRow hk hI.1.1 (by omega) fun m hm => ?_))
    dsimp only at hI ⊢
    have hrd : ∀ c, c < wl → bc' ((l * 21 + i) * 6 + c) = bl.2 i c := fun c hc => xb_in hI hB hl hi (by omega) hc hw
    rw [ck, hnf, nI_add, nI_clamp (by omega), nI_clamp (by omega)]
    refine ⟨vp_in_nI hk (by decide), vp_in_nI (by omega) (by decide), vp_in_nI (by omega) (by decide), nm_e ⟨vp_in_nI hk (by decide), ?_⟩⟩
    rcases hs with es | ⟨s, hs, es⟩
    · refine br_t es (xb_pick100 (f := 1) hk (by omega) (by omega) ht6 (fun et => ?_) (fun t ht et => ?_))
      · refine ih (upd bc' ((k * 21 + m) * 6) (bc' ((l * 21 + i) * 6 + x)), upd br' k (nI ((bs_pick bl x (ns k) (nt k) i).1 + 1))) ?_
        rw [if_pos es, if_pos et] at hww
        dsimp only
        rw [e2]
        refine xb_push hI (by omega) hm (fun j hj => pk_un (by omega)) (fun c hc => ?_)
        obtain rfl : c = 0 := by omega
        rw [if_pos rfl, ← hrd x hx]
        exact pk_us
      · refine ih (upd (upd bc' ((k * 21 + m) * 6) (bc' ((l * 21 + i) * 6 + x))) ((k * 21 + m) * 6 + 1) (upd bc' ((k * 21 + m) * 6) (bc' ((l * 21 + i) * 6 + x)) ((l * 21 + i) * 6 + t)), upd br' k (nI ((bs_pick bl x (ns k) (nt k) i).1 + 1))) ?_
        have htw : t < wl := by
          rcases ht6 with z | z
          · exact absurd (et.symm.trans z) (xb_nn1 (by omega))
          · obtain ⟨t', a, b⟩ := ‹nt k = -1 ∨ ∃ t, t < wl ∧ nt k = nI t›.resolve_left (fun z => xb_nn1 (show t < 2 ^ 31 by omega) (et.symm.trans z))
            have := (nI_eq (by omega) (by omega)).mp (et.symm.trans b)
            omega
        rw [if_pos es, if_neg (by rw [et]; exact xb_nn1 (by omega))] at hww
        dsimp only
        rw [e2]
        refine xb_push hI (by omega) hm (fun j hj => by rw [pk_un (by omega), pk_un (by omega)]) (fun c hc => ?_)
        by_cases c0 : c = 0
        · subst c0
          rw [if_pos rfl, ← hrd x hx, pk_un (by omega)]
          exact pk_us
        · obtain rfl : c = 1 := by omega
          rw [if_neg c0, if_neg (fun z => z.2 es), et, nI_clamp (by omega), ← hrd t htw, pk_us, pk_un (by omega)]
    · have hns : ¬ ns k = -1 := by rw [es]; exact xb_nn1 (by omega)
      have hsc : (ns k).toNatClampNeg = s := by rw [es]; exact nI_clamp (by omega)
      refine br_f hns ?_
      rw [show nI ((l * 21 + i) * 6) + ns k = nI ((l * 21 + i) * 6 + s) from by rw [es, nI_add], nI_clamp (by omega), show nI ((k * 21 + m) * 6) + 1 = nI ((k * 21 + m) * 6 + 1) from nI_1 _, nI_clamp (by omega)]
      refine ⟨vp_in_nI hk (by decide), vp_in_nI (by omega) (by decide), vp_in_nI (by omega) (by decide), nm_e (nm_r (e' := nI 2) rfl (xb_pick100 (f := 2) hk (by omega) (by omega) ht6 (fun et => ?_) (fun t ht et => ?_)))⟩
      · refine ih (upd (upd bc' ((k * 21 + m) * 6) (bc' ((l * 21 + i) * 6 + x))) ((k * 21 + m) * 6 + 1) (upd bc' ((k * 21 + m) * 6) (bc' ((l * 21 + i) * 6 + x)) ((l * 21 + i) * 6 + s)), upd br' k (nI ((bs_pick bl x (ns k) (nt k) i).1 + 1))) ?_
        rw [if_neg hns, if_pos et] at hww
        dsimp only
        rw [e2]
        refine xb_push hI (by omega) hm (fun j hj => by rw [pk_un (by omega), pk_un (by omega)]) (fun c hc => ?_)
        by_cases c0 : c = 0
        · subst c0
          rw [if_pos rfl, ← hrd x hx, pk_un (by omega)]
          exact pk_us
        · obtain rfl : c = 1 := by omega
          rw [if_neg c0, if_pos ⟨rfl, hns⟩, hsc, ← hrd s hs, pk_us, pk_un (by omega)]
      · refine ih (upd (upd (upd bc' ((k * 21 + m) * 6) (bc' ((l * 21 + i) * 6 + x))) ((k * 21 + m) * 6 + 1) (upd bc' ((k * 21 + m) * 6) (bc' ((l * 21 + i) * 6 + x)) ((l * 21 + i) * 6 + s))) ((k * 21 + m) * 6 + 2) (upd (upd bc' ((k * 21 + m) * 6) (bc' ((l * 21 + i) * 6 + x))) ((k * 21 + m) * 6 + 1) (upd bc' ((k * 21 + m) * 6) (bc' ((l * 21 + i) * 6 + x)) ((l * 21 + i) * 6 + s)) ((l * 21 + i) * 6 + t)), upd br' k (nI ((bs_pick bl x (ns k) (nt k) i).1 + 1))) ?_
        have htw : t < wl := by
          obtain ⟨t', a, b⟩ := ‹nt k = -1 ∨ ∃ t, t < wl ∧ nt k = nI t›.resolve_left (fun z => xb_nn1 (show t < 2 ^ 31 by omega) (et.symm.trans z))
          have := (nI_eq (by omega) (by omega)).mp (et.symm.trans b)
          omega
        rw [if_neg hns, if_neg (by rw [et]; exact xb_nn1 (by omega))] at hww
        dsimp only
        rw [e2]
        refine xb_push hI (by omega) hm (fun j hj => by rw [pk_un (by omega), pk_un (by omega), pk_un (by omega)]) (fun c hc => ?_)
        by_cases c0 : c = 0
        · subst c0
          rw [if_pos rfl, ← hrd x hx, pk_un (by omega), pk_un (by omega)]
          exact pk_us
        · by_cases c1 : c = 1
          · subst c1
            rw [if_neg c0, if_pos ⟨rfl, hns⟩, hsc, ← hrd s hs, pk_un (by omega), pk_us, pk_un (by omega)]
          · obtain rfl : c = 2 := by omega
            rw [if_neg c0, if_neg (fun z => c1 z.1), et, nI_clamp (by omega), ← hrd t htw, pk_us, pk_un (by omega), pk_un (by omega)]
theorem xb_join {post : SX → Prop} {bc br : Nat → Int32} {k l r wl wr x y : Nat} {bl b : bg_T} (hk : k < 12) (hl : l < k) (hr : r < k) (hnl : nl k = nI l) (hnr : nr k = nI r) (hwl : nw l = nI wl) (hwr : nw r = nI wr) (hw : wl + wr ≤ 6) (hnf : nf k = nI x) (hx : x < wl) (hns : ns k = nI y) (hy : y < wr) (h0 : br k = nI 0)
    (hB : xb_B l wl bl bc br) (h20 : bl.1 ≤ 20) (hB2 : xb_B r wr b bc br) (h202 : b.1 ≤ 20) (H : ∀ bc' br', xb_I bc br k (wl + wr) (bs_join bl b wl x y bl.1) bc' br' → post (nc, rr, rw, tc, tr, nk, nw, nl, nr, nf, ns, nt, nu, ip, bc', br', rc)) : wpX_runJoin post (nc, rr, rw, tc, tr, nk, nw, nl, nr, nf, ns, nt, nu, ip, bc, br, rc) (nI k) := by
  have ck : (nI k).toNatClampNeg = k := nI_clamp (by omega)
  have cl : (nI l).toNatClampNeg = l := nI_clamp (by omega)
  have cr : (nI r).toNatClampNeg = r := nI_clamp (by omega)
  refine ⟨vp_in_nI hk (by decide), nm_r (e' := nI l) (by rw [ck]; exact hnl) ⟨vp_in_nI hk (by decide), nm_r (e' := nI r) (by rw [ck]; exact hnr) ⟨vp_in_nI (by omega) (by decide), nm_r (e' := nI bl.1) (by rw [cl]; exact hB.1) ⟨vp_in_nI (by omega) (by decide), nm_r (e' := nI b.1) (by rw [cr]; exact hB2.1) ?_⟩⟩⟩⟩
  refine loop_0 (fun n i (s : (Nat → Int32) × (Nat → Int32)) => wX_runJoin_33 post (nI k) (nI l) (nI r) (nI bl.1) (nI b.1) n (nI i) nc rr rw tc tr nk nw nl nr nf ns nt nu ip s.1 s.2 rc) (fun i s => xb_I bc br k (wl + wr) (bs_join bl b wl x y i) s.1 s.2) bl.1 (bc, br) (xb_I0 h0) ?_ ?_
  · rintro n ⟨bc', br'⟩ hI
    exact br_t (nI_le (Nat.le_refl _) (by omega)) (H bc' br' hI)
  · rintro n i ⟨bc1, br1⟩ hi hI1 ih
    have hle1 : (bs_join bl b wl x y i).1 ≤ i * b.1 := bs_join_le _ _ _ _ _ _
    have hle2 : i * b.1 ≤ 20 * 20 := Nat.mul_le_mul (by omega) h202
    refine br_f (nI_ge hi (by omega)) (xb_rs ?_)
    dsimp only at hI1 ⊢
    refine loop_0 (fun f j (s : (Nat → Int32) × (Nat → Int32)) => wX_runJoin_52 post (wX_runJoin_33 post (nI k) (nI l) (nI r) (nI bl.1) (nI b.1) n) (nI k) (nI l) (nI r) (nI bl.1) (nI b.1) (nI i) (nI ((l * 21 + i) * 6)) f (nI j) nc rr rw tc tr nk nw nl nr nf ns nt nu ip s.1 s.2 rc)
      (fun j s => xb_I bc br k (wl + wr) (bg_sel (bs_join bl b wl x y i) (fun j => bl.2 i x = b.2 j y) (bs_jrow bl b wl i) j) s.1 s.2) b.1 (bc1, br1) hI1 ?_ ?_
    · rintro f ⟨bc', br'⟩ hI
      exact br_t (nI_le (Nat.le_refl _) (by omega)) (nm_r (nI_1 i) (ih (bc', br') hI))
    · rintro f j ⟨bc', br'⟩ hj hI ih2
      have hle := bg_sel_le (bs_join bl b wl x y i) (fun j => bl.2 i x = b.2 j y) (bs_jrow bl b wl i) j
      refine br_f (nI_ge hj (by omega)) (xb_rs ?_)
      dsimp only at hI ⊢
      rw [ck, hnf, hns, nI_add, nI_add, nI_clamp (by omega), nI_clamp (by omega), xb_in hI hB hl hi (by omega) hx (by omega), xb_in hI hB2 hr hj (by omega) hy (by omega)]
      refine ⟨vp_in_nI hk (by decide), vp_in_nI (by omega) (by decide), vp_in_nI hk (by decide), vp_in_nI (by omega) (by decide), br_c (fun e => ?_) (fun e => ?_)⟩
      · refine xb_addRow hk hI.1.1 (by omega) fun m hm => ?_
        dsimp only
        refine ⟨vp_in_nI (by omega) (by decide), ?_⟩
        rw [cl, hwl]
        refine xb_copy (by omega) (by omega) fun bc2 h1 h2 => ?_
        dsimp only
        refine ⟨vp_in_nI (by omega) (by decide), vp_in_nI (by omega) (by decide), ?_⟩
        rw [cr, hwl, hwr, nI_add]
        refine xb_copy (by omega) (by omega) fun bc3 h3 h4 => ?_
        refine nm_r (nI_1 j) (ih2 (bc3, upd br' k (nI ((bg_sel (bs_join bl b wl x y i) (fun j => bl.2 i x = b.2 j y) (bs_jrow bl b wl i) j).1 + 1))) ?_)
        dsimp only
        rw [bg_sel_t (P := fun j => bl.2 i x = b.2 j y) e]
        refine xb_push hI (by omega) hm (fun j hj => ?_) (fun c hc => ?_)
        · rw [h3 j (by omega)]
          exact h1 j (by omega)
        · show _ = if c < wl then bl.2 i c else b.2 j (c - wl)
          by_cases ec : c < wl
          · rw [if_pos ec, h3 _ (by omega), h2 c ec]
            exact xb_in hI hB hl hi (by omega) ec (by omega)
          · rw [if_neg ec]
            have z := h4 (c - wl) (by omega)
            rw [show (k * 21 + m) * 6 + wl + (c - wl) = (k * 21 + m) * 6 + c by omega] at z
            rw [z, h1 _ (by omega)]
            exact xb_in hI hB2 hr hj (by omega) (by omega) (by omega)
      · refine nm_r (nI_1 j) (ih2 (bc', br') ?_)
        dsimp only
        rw [bg_sel_f (P := fun j => bl.2 i x = b.2 j y) e]
        exact hI
theorem xb_group {post : SX → Prop} {bc br : Nat → Int32} {k l wl x y q : Nat} {bl : bg_T} (hk : k < 12) (hl : l < k) (hnl : nl k = nI l) (hw : wl ≤ 6) (hnf : nf k = nI x) (hx : x < wl) (hns : ns k = nI q) (hq : q ≤ 3) (hnt : nt k = nI y) (hy : y < wl) (h0 : br k = nI 0)
    (hB : xb_B l wl bl bc br) (h20 : bl.1 ≤ 20) (H : ∀ bc' br', xb_I bc br k 2 (bs_grp (nI q) (fun i => bl.2 i x) (fun i => bl.2 i y) bl.1 bl.1) bc' br' → post (nc, rr, rw, tc, tr, nk, nw, nl, nr, nf, ns, nt, nu, ip, bc', br', rc)) : wpX_runGroup post (nc, rr, rw, tc, tr, nk, nw, nl, nr, nf, ns, nt, nu, ip, bc, br, rc) (nI k) := by
  have ck : (nI k).toNatClampNeg = k := nI_clamp (by omega)
  have cl : (nI l).toNatClampNeg = l := nI_clamp (by omega)
  refine ⟨vp_in_nI hk (by decide), nm_r (e' := nI l) (by rw [ck]; exact hnl) ⟨vp_in_nI (by omega) (by decide), nm_r (e' := nI bl.1) (by rw [cl]; exact hB.1) ?_⟩⟩
  refine loop_0 (fun n i (s : (Nat → Int32) × (Nat → Int32)) => wX_runGroup_17 post (nI k) (nI l) (nI bl.1) n (nI i) nc rr rw tc tr nk nw nl nr nf ns nt nu ip s.1 s.2 rc) (fun i s => xb_I bc br k 2 (bs_grp (nI q) (fun i => bl.2 i x) (fun i => bl.2 i y) i i) s.1 s.2) bl.1 (bc, br) (xb_I0 h0) ?_ ?_
  · rintro n ⟨bc', br'⟩ hI
    exact br_t (nI_le (Nat.le_refl _) (by omega)) (H bc' br' hI)
  · rintro n i ⟨bc', br'⟩ hi hI ih
    dsimp only at hI
    generalize hG : bs_grp (nI q) (fun i => bl.2 i x) (fun i => bl.2 i y) i i = G at hI
    have hle : G.1 ≤ i := by rw [← hG]; exact bg_sel0_le _ _ _
    refine br_f (nI_ge hi (by omega)) (xb_rs ?_)
    dsimp only
    rw [ck, hnf, hnt, nI_add, nI_add, nI_clamp (by omega), nI_clamp (by omega)]
    refine ⟨vp_in_nI hk (by decide), vp_in_nI (by omega) (by decide), nm_r (e' := bl.2 i x) (xb_in hI hB hl hi (by omega) hx hw) ⟨vp_in_nI hk (by decide), vp_in_nI (by omega) (by decide), nm_r (e' := bl.2 i y) (xb_in hI hB hl hi (by omega) hy hw) ?_⟩⟩
    refine xb_find (c := 0) hk hI.1.1 (by omega) (by omega) (fun e => br_t rfl ?_) (fun r hr e => br_f (xb_nn1 (by omega)) ?_)
    · have hf : bg_fst (fun i => bl.2 i x) i := Classical.byContradiction fun z => by
        obtain ⟨r, hr, z2⟩ := (bg_grp_fst (q := nI q) (vl := fun i => bl.2 i y) (N := i)).mpr z
        rw [hG] at hr z2
        exact e r hr ((hI.1.2 r hr (by omega) 0 (by omega)).trans z2)
      obtain ⟨g1, g2⟩ := bg_grp_new (q := nI q) (vl := fun i => bl.2 i y) hf
      rw [hG] at g1 g2
      have done : ∀ bc2 : Nat → Int32, ∀ m, ((G.1 < 20 ∧ m = G.1) ∨ (20 ≤ G.1 ∧ m = 20)) → (∀ j, j < (k * 21 + m) * 6 ∨ (k * 21 + m) * 6 + 6 ≤ j → bc2 j = bc' j) → bc2 ((k * 21 + m) * 6) = bl.2 i x → bc2 ((k * 21 + m) * 6 + 1) = (if nI q = 1 then 1 else bl.2 i y) → wX_runGroup_17 post (nI k) (nI l) (nI bl.1) n (nI (i + 1)) nc rr rw tc tr nk nw nl nr nf ns nt nu ip bc2 (upd br' k (nI (G.1 + 1))) rc := by
        intro bc2 m hm hf1 hf2 hf3
        refine ih (bc2, upd br' k (nI (G.1 + 1))) ?_
        dsimp only
        refine xb_cg (xb_push (row := fun c => if c = 0 then bl.2 i x else if nI q = 1 then 1 else bl.2 i y) hI (by omega) hm hf1 (fun c hc => ?_)) g1 (fun r hr c _ => by rw [g2 r hr]; rfl)
        by_cases c0 : c = 0
        · subst c0
          rw [if_pos rfl]
          exact hf2
        · obtain rfl : c = 1 := by omega
          rw [if_neg c0]
          exact hf3
      refine xb_addRow hk hI.1.1 (by omega) fun m hm => ?_
      dsimp only
      rw [hns, show nI ((k * 21 + m) * 6) + 1 = nI ((k * 21 + m) * 6 + 1) from nI_1 _, nI_clamp (by omega), nI_clamp (by omega)]
      refine ⟨vp_in_nI (by omega) (by decide), nm_e ⟨vp_in_nI hk (by decide), br_c (fun eq => ⟨vp_in_nI (by omega) (by decide), nm_e (nm_r (nI_1 i) (done _ m hm (fun j hj => by rw [pk_un (by omega), pk_un (by omega)]) (by rw [pk_un (by omega)]; exact pk_us) (by rw [if_pos eq]; exact pk_us)))⟩) (fun eq => ⟨vp_in_nI (by omega) (by decide), nm_e (nm_r (nI_1 i) (done _ m hm (fun j hj => by rw [pk_un (by omega), pk_un (by omega)]) (by rw [pk_un (by omega)]; exact pk_us) (by rw [if_neg eq]; exact pk_us)))⟩)⟩⟩
    · have hkey : G.2 r 0 = bl.2 i x := (hI.1.2 r hr (by omega) 0 (by omega)).symm.trans e
      have hr' := hr
      have hkey' := hkey
      rw [← hG] at hr' hkey'
      obtain ⟨g1, g2⟩ := bg_grp_old (q := nI q) (vl := fun i => bl.2 i y) hr' hkey'
      rw [hG] at g1 g2
      rw [hns, show nI ((k * 21 + r) * 6) + 1 = nI ((k * 21 + r) * 6 + 1) from nI_1 _, nI_clamp (by omega)]
      refine ⟨vp_in_nI hk (by decide), vp_in_nI (by omega) (by decide), xb_fold hq ⟨vp_in_nI (by omega) (by decide), nm_e (nm_r (nI_1 i) (ih (upd bc' ((k * 21 + r) * 6 + 1) (bg_st (nI q) (bc' ((k * 21 + r) * 6 + 1)) (bl.2 i y)), br') ?_))⟩⟩
      dsimp only
      refine ⟨⟨by rw [g1]; exact hI.1.1, fun s hs h20' c hc => ?_⟩, fun j hj => ?_, hI.2.2⟩
      · rw [g1] at hs
        rw [g2 s hs c hc]
        by_cases z : s = r ∧ c = 1
        · obtain ⟨rfl, rfl⟩ := z
          rw [if_pos ⟨rfl, rfl⟩, pk_us, hI.1.2 s hs h20' 1 (by omega)]
        · rw [if_neg z, pk_un (by omega)]
          exact hI.1.2 s hs h20' c hc
      · rw [pk_un (by omega)]
        exact hI.2.1 j hj
end
