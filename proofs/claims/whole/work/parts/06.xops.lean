/-! the component: each kind of node, run -/
section
variable {nc rr rw : Int32} {tc tr nk nw nl nr nf ns nt nu ip rc : Nat → Int32}
theorem xb_scan {post : SX → Prop} {bc br : Nat → Int32} {k t h : Nat} (hk : k < 12) (hnf : nf k = nI t) (ht : t < 3) (htr : tr t = nI h) (hh : h ≤ 6) (h0 : br k = nI 0)
    (H : ∀ bc' br', xb_I bc br k 3 (bs_scan tc t h) bc' br' → post (nc, rr, rw, tc, tr, nk, nw, nl, nr, nf, ns, nt, nu, ip, bc', br', rc)) : wpX_runScan post (nc, rr, rw, tc, tr, nk, nw, nl, nr, nf, ns, nt, nu, ip, bc, br, rc) (nI k) := by
  have ck : (nI k).toNatClampNeg = k := nI_clamp (by omega)
  have ct : (nI t).toNatClampNeg = t := nI_clamp (by omega)
  refine ⟨vp_in_nI hk (by decide), nm_r (e' := nI t) (by rw [ck]; exact hnf) ⟨vp_in_nI ht (by decide), nm_r (e' := nI h) (by rw [ct]; exact htr) ?_⟩⟩
  refine loop_0 (fun n i (s : (Nat → Int32) × (Nat → Int32)) => wX_runScan_17 post (nI k) (nI t) (nI h) n (nI i) nc rr rw tc tr nk nw nl nr nf ns nt nu ip s.1 s.2 rc) (fun i s => xb_I bc br k 3 (bs_scan tc t i) s.1 s.2) h (bc, br) (xb_I0 h0) ?_ ?_
  · rintro n ⟨bc', br'⟩ hI
    exact br_t (nI_le (Nat.le_refl _) (by omega)) (H bc' br' hI)
  · rintro n i ⟨bc', br'⟩ hi hI ih
    have hle : (bs_scan tc t i).1 ≤ i := bg_sel0_le _ _ _
    refine br_f (nI_ge hi (by omega)) (nm_r (e' := nI ((t * 6 + i) * 3)) ?_ (xb_addRow hk hI.1.1 (by omega) fun m hm => ?_))
    · rw [show (6 : Int32) = nI 6 from rfl, show (3 : Int32) = nI 3 from rfl, pk_mul, nI_add, pk_mul]
    · dsimp only at hI ⊢
      refine loop_0 (fun f c s => wX_runScan_44 post (wX_runScan_17 post (nI k) (nI t) (nI h) n) (nI k) (nI t) (nI h) (nI i) (nI ((t * 6 + i) * 3)) (nI ((k * 21 + m) * 6)) nc rr rw f (nI c) tc tr nk nw nl nr nf ns nt nu ip s (upd br' k (nI ((bs_scan tc t i).1 + 1))) rc)
        (fun c s => (∀ j, j < (k * 21 + m) * 6 ∨ (k * 21 + m) * 6 + 6 ≤ j → s j = bc' j) ∧ ∀ d, d < c → s ((k * 21 + m) * 6 + d) = tc ((t * 6 + i) * 3 + d)) 3 bc' ⟨fun _ _ => rfl, fun d hd => absurd hd (Nat.not_lt_zero d)⟩ ?_ ?_
      · rintro f s ⟨h1, h2⟩
        refine br_t (nI_le (a := 3) (b := 3) (Nat.le_refl _) (by decide)) (nm_r (nI_1 i) (ih (s, upd br' k (nI ((bs_scan tc t i).1 + 1))) ?_))
        have e : bs_scan tc t (i + 1) = bg_push (bs_scan tc t i) (fun c => tc ((t * 6 + i) * 3 + c)) := bg_sel_t trivial
        dsimp only
        rw [e]
        exact xb_push hI (by omega) hm h1 h2
      · rintro f c s hc ⟨h1, h2⟩ ih2
        refine br_f (nI_ge (b := 3) hc (by decide)) ?_
        rw [nI_add, nI_add, nI_clamp (by omega), nI_clamp (by omega)]
        refine ⟨vp_in_nI (by omega) (by decide), vp_in_nI (by omega) (by decide), nm_e (nm_r (nI_1 c) (ih2 (upd s ((k * 21 + m) * 6 + c) (tc ((t * 6 + i) * 3 + c))) ⟨fun j hj => ?_, fun d hd => ?_⟩))⟩
        · rw [pk_un (by omega)]
          exact h1 j hj
        · by_cases e : d = c
          · subst e
            exact pk_us
          · rw [pk_un (by omega)]
            exact h2 d (by omega)
theorem xb_filter {post : SX → Prop} {bc br : Nat → Int32} {k l w c m : Nat} {bl : bg_T} (hk : k < 12) (hl : l < k) (hnl : nl k = nI l) (hnw : nw k = nI w) (hw : w ≤ 6) (hnf : nf k = nI c) (hc : c < w) (hns : ns k = nI m) (hm : m ≤ 5) (h0 : br k = nI 0)
    (hB : xb_B l w bl bc br) (h20 : bl.1 ≤ 20) (H : ∀ bc' br', xb_I bc br k w (bs_filter bl c (nI m) (nt k) bl.1) bc' br' → post (nc, rr, rw, tc, tr, nk, nw, nl, nr, nf, ns, nt, nu, ip, bc', br', rc)) : wpX_runFilter post (nc, rr, rw, tc, tr, nk, nw, nl, nr, nf, ns, nt, nu, ip, bc, br, rc) (nI k) := by
  have ck : (nI k).toNatClampNeg = k := nI_clamp (by omega)
  have cl : (nI l).toNatClampNeg = l := nI_clamp (by omega)
  refine ⟨vp_in_nI hk (by decide), nm_r (e' := nI l) (by rw [ck]; exact hnl) ⟨vp_in_nI (by omega) (by decide), nm_r (e' := nI bl.1) (by rw [cl]; exact hB.1) ?_⟩⟩
  refine loop_0 (fun n i (s : (Nat → Int32) × (Nat → Int32)) => wX_runFilter_17 post (nI k) (nI l) (nI bl.1) n (nI i) nc rr rw tc tr nk nw nl nr nf ns nt nu ip s.1 s.2 rc) (fun i s => xb_I bc br k w (bs_filter bl c (nI m) (nt k) i) s.1 s.2) bl.1 (bc, br) (xb_I0 h0) ?_ ?_
  · rintro n ⟨bc', br'⟩ hI
    exact br_t (nI_le (Nat.le_refl _) (by omega)) (H bc' br' hI)
  · rintro n i ⟨bc', br'⟩ hi hI ih
    have hle : (bs_filter bl c (nI m) (nt k) i).1 ≤ i := bg_sel0_le _ _ _
    refine br_f (nI_ge hi (by omega)) (xb_rs ?_)
    dsimp only at hI ⊢
    rw [ck, hnf, hns, nI_add, nI_clamp (by omega)]
    refine ⟨vp_in_nI hk (by decide), vp_in_nI (by omega) (by decide), nm_r (xb_in hI hB hl hi (by omega) hc hw) ⟨vp_in_nI hk (by decide), vp_in_nI hk (by decide), xb_holds hm (fun e => ?_) (fun e => ?_)⟩⟩
    · refine br_f (by decide) (xb_addCopy (row := bl.2 i) hI hk (by omega) hnw hw (by omega) (fun d hd => xb_in hI hB hl hi (by omega) hd hw) (fun bc2 br2 hI2 => nm_r (nI_1 i) (ih (bc2, br2) ?_)))
      have e2 : bs_filter bl c (nI m) (nt k) (i + 1) = bg_push (bs_filter bl c (nI m) (nt k) i) (bl.2 i) := bg_sel_t e
      dsimp only
      rw [e2]
      exact hI2
    · refine br_t rfl (nm_r (nI_1 i) (ih (bc', br') ?_))
      have e2 : bs_filter bl c (nI m) (nt k) (i + 1) = bs_filter bl c (nI m) (nt k) i := bg_sel_f e
      dsimp only
      rw [e2]
      exact hI
theorem xb_dist {post : SX → Prop} {bc br : Nat → Int32} {k l w : Nat} {bl : bg_T} (hk : k < 12) (hl : l < k) (hnl : nl k = nI l) (hnw : nw k = nI w) (hw : w ≤ 6) (h0 : br k = nI 0)
    (hB : xb_B l w bl bc br) (h20 : bl.1 ≤ 20) (H : ∀ bc' br', xb_I bc br k w (bs_dist bl w bl.1) bc' br' → post (nc, rr, rw, tc, tr, nk, nw, nl, nr, nf, ns, nt, nu, ip, bc', br', rc)) : wpX_runDistinct post (nc, rr, rw, tc, tr, nk, nw, nl, nr, nf, ns, nt, nu, ip, bc, br, rc) (nI k) := by
  have ck : (nI k).toNatClampNeg = k := nI_clamp (by omega)
  have cl : (nI l).toNatClampNeg = l := nI_clamp (by omega)
  refine ⟨vp_in_nI hk (by decide), nm_r (e' := nI l) (by rw [ck]; exact hnl) ⟨vp_in_nI (by omega) (by decide), nm_r (e' := nI bl.1) (by rw [cl]; exact hB.1) ?_⟩⟩
  refine loop_0 (fun n i (s : (Nat → Int32) × (Nat → Int32)) => wX_runDistinct_17 post (nI k) (nI l) (nI bl.1) n (nI i) nc rr rw tc tr nk nw nl nr nf ns nt nu ip s.1 s.2 rc) (fun i s => xb_I bc br k w (bs_dist bl w i) s.1 s.2) bl.1 (bc, br) (xb_I0 h0) ?_ ?_
  · rintro n ⟨bc', br'⟩ hI
    exact br_t (nI_le (Nat.le_refl _) (by omega)) (H bc' br' hI)
  · rintro n i ⟨bc', br'⟩ hi hI ih
    have hle : (bs_dist bl w i).1 ≤ i := bg_sel0_le _ _ _
    have hin : bg_eqw w (fun c => bc' ((l * 21 + i) * 6 + c)) (bl.2 i) := fun d hd => xb_in hI hB hl hi (by omega) hd hw
    have hout : ∀ r, r < (bs_dist bl w i).1 → bg_eqw w (fun c => bc' ((k * 21 + r) * 6 + c)) ((bs_dist bl w i).2 r) := fun r hr d hd => hI.1.2 r hr (by omega) d hd
    have hx := bs_dist_has bl w i (bl.2 i)
    refine br_f (nI_ge hi (by omega)) (xb_rs ?_)
    dsimp only at hI ⊢
    refine xb_hasRow hk hI.1.1 (by omega) hnw hw (by omega) (fun e => ?_) (fun r hr e => ?_)
    · refine br_t rfl (xb_addCopy (row := bl.2 i) hI hk (by omega) hnw hw (by omega) hin (fun bc2 br2 hI2 => nm_r (nI_1 i) (ih (bc2, br2) ?_)))
      have e2 : bs_dist bl w (i + 1) = bg_push (bs_dist bl w i) (bl.2 i) := by
        refine bg_sel_t fun j hj z => ?_
        obtain ⟨r, hr, z2⟩ := hx.mpr ⟨j, hj, bg_eqw_s z⟩
        exact e r hr (bg_eqw_t (hout r hr) (bg_eqw_t z2 (bg_eqw_s hin)))
      dsimp only
      rw [e2]
      exact hI2
    · refine br_f (by decide) (nm_r (nI_1 i) (ih (bc', br') ?_))
      have e2 : bs_dist bl w (i + 1) = bs_dist bl w i := by
        refine bg_sel_f fun z => ?_
        obtain ⟨j, hj, z2⟩ := hx.mp ⟨r, hr, bg_eqw_t (bg_eqw_s (hout r hr)) (bg_eqw_t e hin)⟩
        exact z j hj (bg_eqw_s z2)
      dsimp only
      rw [e2]
      exact hI
theorem xb_addAll {post : SX → Prop} {bc0 br0 bc br : Nat → Int32} {k l w : Nat} {b bl : bg_T} (hk : k < 12) (hl : l < k) (hnw : nw k = nI w) (hw : w ≤ 6) (hI0 : xb_I bc0 br0 k w b bc br) (hb : b.1 ≤ 20)
    (hB : xb_B l w bl bc0 br0) (h20 : bl.1 ≤ 20) (H : ∀ bc' br', xb_I bc0 br0 k w (bs_all b bl bl.1) bc' br' → post (nc, rr, rw, tc, tr, nk, nw, nl, nr, nf, ns, nt, nu, ip, bc', br', rc)) : wpX_addAllRows post (nc, rr, rw, tc, tr, nk, nw, nl, nr, nf, ns, nt, nu, ip, bc, br, rc) (nI k) (nI l) := by
  have cl : (nI l).toNatClampNeg = l := nI_clamp (by omega)
  refine ⟨vp_in_nI (by omega) (by decide), nm_r (e' := nI bl.1) (by rw [cl]; exact (hI0.2.2 l (by omega)).trans hB.1) ?_⟩
  refine loop_0 (fun n i (s : (Nat → Int32) × (Nat → Int32)) => wX_addAllRows_10 post (nI k) (nI l) (nI bl.1) n (nI i) nc rr rw tc tr nk nw nl nr nf ns nt nu ip s.1 s.2 rc) (fun i s => xb_I bc0 br0 k w (bs_all b bl i) s.1 s.2) bl.1 (bc, br) hI0 ?_ ?_
  · rintro n ⟨bc', br'⟩ hI
    exact br_t (nI_le (Nat.le_refl _) (by omega)) (H bc' br' hI)
  · rintro n i ⟨bc', br'⟩ hi hI ih
    have hle : (bs_all b bl i).1 ≤ b.1 + i := bg_sel_le _ _ _ _
    refine br_f (nI_ge hi (by omega)) (xb_rs ?_)
    dsimp only at hI ⊢
    refine xb_addCopy (row := bl.2 i) hI hk (by omega) hnw hw (by omega) (fun d hd => xb_in hI hB hl hi (by omega) hd hw) (fun bc2 br2 hI2 => nm_r (nI_1 i) (ih (bc2, br2) ?_))
    have e2 : bs_all b bl (i + 1) = bg_push (bs_all b bl i) (bl.2 i) := bg_sel_t trivial
    dsimp only
    rw [e2]
    exact hI2
theorem xb_semi {post : SX → Prop} {bc br : Nat → Int32} {k l r w wr x y : Nat} {pw : Int32} {pos : Prop} {bl b : bg_T} (hk : k < 12) (hl : l < k) (hr : r < k) (hnl : nl k = nI l) (hnr : nr k = nI r) (hnw : nw k = nI w) (hw : w ≤ 6) (hwr : wr ≤ 6) (hnf : nf k = nI x) (hx : x < w) (hns : ns k = nI y) (hy : y < wr) (h0 : br k = nI 0)
    (hpw : (pos ∧ pw = 1) ∨ (¬ pos ∧ pw = 0))
    (hB : xb_B l w bl bc br) (h20 : bl.1 ≤ 20) (hB2 : xb_B r wr b bc br) (h202 : b.1 ≤ 20) (H : ∀ bc' br', xb_I bc br k w (bs_semi bl b x y pos bl.1) bc' br' → post (nc, rr, rw, tc, tr, nk, nw, nl, nr, nf, ns, nt, nu, ip, bc', br', rc)) : wpX_runLeftRows post (nc, rr, rw, tc, tr, nk, nw, nl, nr, nf, ns, nt, nu, ip, bc, br, rc) (nI k) pw := by
  have ck : (nI k).toNatClampNeg = k := nI_clamp (by omega)
  have cl : (nI l).toNatClampNeg = l := nI_clamp (by omega)
  refine ⟨vp_in_nI hk (by decide), nm_r (e' := nI l) (by rw [ck]; exact hnl) ⟨vp_in_nI (by omega) (by decide), nm_r (e' := nI bl.1) (by rw [cl]; exact hB.1) ?_⟩⟩
  refine loop_0 (fun n i (s : (Nat → Int32) × (Nat → Int32)) => wX_runLeftRows_18 post (nI k) pw (nI l) (nI bl.1) n (nI i) nc rr rw tc tr nk nw nl nr nf ns nt nu ip s.1 s.2 rc) (fun i s => xb_I bc br k w (bs_semi bl b x y pos i) s.1 s.2) bl.1 (bc, br) (xb_I0 h0) ?_ ?_
  · rintro n ⟨bc', br'⟩ hI
    exact br_t (nI_le (Nat.le_refl _) (by omega)) (H bc' br' hI)
  · rintro n i ⟨bc', br'⟩ hi hI ih
    have hle : (bs_semi bl b x y pos i).1 ≤ i := bg_sel0_le _ _ _
    have hin : ∀ j, j < b.1 → bc' ((r * 21 + j) * 6 + y) = b.2 j y := fun j hj => xb_in hI hB2 hr hj (by omega) hy hwr
    refine br_f (nI_ge hi (by omega)) (xb_rs ?_)
    dsimp only at hI ⊢
    rw [ck, hnf, hns, hnr, nI_add, nI_clamp (by omega)]
    have tk : ((∃ j, j < b.1 ∧ b.2 j y = bl.2 i x) ↔ pos) → ∀ z0, z0 = pw → wX_runLeftRows_81 post (wX_runLeftRows_18 post (nI k) pw (nI l) (nI bl.1) n) (nI k) pw (nI l) (nI bl.1) (nI i) (nI ((l * 21 + i) * 6)) z0 nc rr rw tc tr nk nw nl nr nf ns nt nu ip bc' br' rc := by
      intro e z0 hz
      refine br_t hz (xb_addCopy (row := bl.2 i) hI hk (by omega) hnw hw (by omega) (fun d hd => xb_in hI hB hl hi (by omega) hd hw) (fun bc2 br2 hI2 => nm_r (nI_1 i) (ih (bc2, br2) ?_)))
      have e2 : bs_semi bl b x y pos (i + 1) = bg_push (bs_semi bl b x y pos i) (bl.2 i) := bg_sel_t e
      dsimp only
      rw [e2]
      exact hI2
    have tn : ¬ ((∃ j, j < b.1 ∧ b.2 j y = bl.2 i x) ↔ pos) → ∀ z0, ¬ z0 = pw → wX_runLeftRows_81 post (wX_runLeftRows_18 post (nI k) pw (nI l) (nI bl.1) n) (nI k) pw (nI l) (nI bl.1) (nI i) (nI ((l * 21 + i) * 6)) z0 nc rr rw tc tr nk nw nl nr nf ns nt nu ip bc' br' rc := by
      intro e z0 hz
      refine br_f hz (nm_r (nI_1 i) (ih (bc', br') ?_))
      have e2 : bs_semi bl b x y pos (i + 1) = bs_semi bl b x y pos i := bg_sel_f e
      dsimp only
      rw [e2]
      exact hI
    refine ⟨vp_in_nI hk (by decide), vp_in_nI (by omega) (by decide), nm_r (xb_in hI hB hl hi (by omega) hx hw) ⟨vp_in_nI hk (by decide), vp_in_nI hk (by decide), ?_⟩⟩
    refine xb_find (by omega) ((hI.2.2 r (by omega)).trans hB2.1) h202 (by omega) (fun e => br_t rfl ?_) (fun j hj e => br_f ?_ ?_)
    · have hne : ¬ ∃ j, j < b.1 ∧ b.2 j y = bl.2 i x := fun ⟨j, hj, z⟩ => e j hj ((hin j hj).trans z)
      rcases hpw with ⟨p, q⟩ | ⟨p, q⟩
      · exact tn (fun z => hne (z.mpr p)) 0 (by rw [q]; decide)
      · exact tk ⟨fun z => absurd z hne, fun z => absurd z p⟩ 0 q.symm
    · intro z
      have hlt : (r * 21 + j) * 6 < 2 ^ 31 := by omega
      have h1 := nI_pos' hlt
      rw [z] at h1
      exact absurd h1 (by decide)
    · have hex : ∃ j, j < b.1 ∧ b.2 j y = bl.2 i x := ⟨j, hj, (hin j hj).symm.trans e⟩
      rcases hpw with ⟨p, q⟩ | ⟨p, q⟩
      · exact tk ⟨fun _ => p, fun _ => hex⟩ 1 q.symm
      · exact tn (fun z => p (z.mp hex)) 1 (by rw [q]; decide)
end
