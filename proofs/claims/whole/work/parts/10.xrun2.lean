/-! the component: keeping, marks, run -/
theorem nd_le {K W L R F S T : Int32} {k : Nat} {D : Nat → Nat → bg_T → Prop} {TB : Nat → bg_T} {w : Nat} {b : bg_T} (H : nd_rel K W L R F S T k D TB w b) (hT : ∀ t, t < 3 → (TB t).1 ≤ 400) (hD : ∀ l wl bl, l < k → (L = nI l ∨ R = nI l) → D l wl bl → bl.1 ≤ 20) : b.1 ≤ 400 := by
  obtain ⟨h1, h2, H⟩ := H
  rcases H with ⟨a, c, d, h3, t, ht, f, rfl⟩ | ⟨a, c, l, bl, x, y, d, e, f, _, _, _, _, rfl⟩ | ⟨a, c, l, wl, bl, op, x, y, d, e, f, _, _, _, _, _, _, _, rfl⟩ | ⟨a, c, l, wl, bl, x, d, e, f, _, _, _, _, _, rfl⟩ | ⟨a, l, r, wl, wr, bl, br, x, y, d, d2, e, e2, f, f2, _, _, _, _, _, rfl⟩ | ⟨a, l, r, wr, bl, br, x, y, d, d2, e, e2, f, f2, _, _, _, _, rfl⟩ | ⟨a, l, r, wr, bl, br, x, y, d, d2, e, e2, f, f2, _, _, _, _, rfl⟩ | ⟨a, c, l, wl, bl, x, q, y, d, e, f, _, _, _, _, _, _, _, rfl⟩ | ⟨a, c, l, bl, d, e, f, rfl⟩ | ⟨a, l, r, bl, br, d, d2, e, e2, f, f2, rfl⟩
  · exact hT t ht
  · exact Nat.le_trans (bg_sel0_le _ _ _) (Nat.le_trans (hD _ _ _ d (Or.inl e) f) (by decide))
  · exact Nat.le_trans (bg_sel0_le _ _ _) (Nat.le_trans (hD _ _ _ d (Or.inl e) f) (by decide))
  · exact Nat.le_trans (bg_sel0_le _ _ _) (Nat.le_trans (hD _ _ _ d (Or.inl e) f) (by decide))
  · exact Nat.le_trans (bs_join_le _ _ _ _ _ _) (Nat.mul_le_mul (hD _ _ _ d (Or.inl e) f) (hD _ _ _ d2 (Or.inr e2) f2))
  · exact Nat.le_trans (bg_sel0_le _ _ _) (Nat.le_trans (hD _ _ _ d (Or.inl e) f) (by decide))
  · exact Nat.le_trans (bg_sel0_le _ _ _) (Nat.le_trans (hD _ _ _ d (Or.inl e) f) (by decide))
  · exact Nat.le_trans (bg_sel0_le _ _ _) (Nat.le_trans (hD _ _ _ d (Or.inl e) f) (by decide))
  · exact Nat.le_trans (bg_sel0_le _ _ _) (Nat.le_trans (hD _ _ _ d (Or.inl e) f) (by decide))
  · have h3 : (bs_all bg_0 bl bl.1).1 ≤ bl.1 := bg_sel0_le _ _ _
    have h4 : (bs_all (bs_all bg_0 bl bl.1) br br.1).1 ≤ (bs_all bg_0 bl bl.1).1 + br.1 := bg_sel_le _ _ _ _
    have h5 := hD _ _ _ d (Or.inl e) f
    have h6 := hD _ _ _ d2 (Or.inr e2) f2
    omega
section
variable {nc rr rw : Int32} {tc tr nk nw nl nr nf ns nt nu ip : Nat → Int32}
theorem xb_kept {post : SX → Prop} {bc br rc : Nat → Int32} {k n w : Nat} (hk : k < 12) (hn : br k = nI n) (hn20 : n ≤ 20) (hw : nw k = nI w) (hw6 : w ≤ 6)
    (H : ∀ rc' : Nat → Int32, (∀ i, i < n → ∀ c, c < w → rc' (i * 6 + c) = bc ((k * 21 + i) * 6 + c)) → post (nc, nI n, nI w, tc, tr, nk, nw, nl, nr, nf, ns, nt, nu, ip, bc, br, rc')) : wpX_keepResult post (nc, rr, rw, tc, tr, nk, nw, nl, nr, nf, ns, nt, nu, ip, bc, br, rc) (nI k) := by
  have ck : (nI k).toNatClampNeg = k := nI_clamp (by omega)
  refine ⟨vp_in_nI hk (by decide), nm_r (e' := nI n) (by rw [ck]; exact hn) ⟨vp_in_nI hk (by decide), nm_r (e' := nI w) (by rw [ck]; exact hw) ?_⟩⟩
  refine loop_0 (fun f i s => wX_keepResult_22 post (nI k) nc (nI n) (nI w) f (nI i) tc tr nk nw nl nr nf ns nt nu ip bc br s) (fun i s => ∀ j, j < i → ∀ c, c < w → s (j * 6 + c) = bc ((k * 21 + j) * 6 + c)) n rc (fun j hj => absurd hj (Nat.not_lt_zero j)) ?_ ?_
  · intro f s hI
    exact br_t (nI_le (Nat.le_refl _) (by omega)) (H s hI)
  · intro f i s hi hI ih
    refine br_f (nI_ge hi (by omega)) (xb_rs ?_)
    refine loop_0 (fun f2 d s2 => wX_keepResult_40 post (wX_keepResult_22 post (nI k) nc (nI n) (nI w) f) (nI k) (nI i) (nI ((k * 21 + i) * 6)) nc (nI n) (nI w) f2 (nI d) tc tr nk nw nl nr nf ns nt nu ip bc br s2) (fun d s2 => (∀ j, j < i → ∀ c, c < w → s2 (j * 6 + c) = bc ((k * 21 + j) * 6 + c)) ∧ ∀ c, c < d → s2 (i * 6 + c) = bc ((k * 21 + i) * 6 + c)) w s ⟨hI, fun c hc => absurd hc (Nat.not_lt_zero c)⟩ ?_ ?_
    · rintro f2 s2 ⟨h1, h2⟩
      refine br_t (nI_le (Nat.le_refl _) (by omega)) (nm_r (nI_1 i) (ih s2 fun j hj c hc => ?_))
      by_cases e : j = i
      · subst e
        exact h2 c hc
      · exact h1 j (by omega) c hc
    · rintro f2 d s2 hd ⟨h1, h2⟩ ih2
      refine br_f (nI_ge hd (by omega)) ?_
      rw [show (6 : Int32) = nI 6 from rfl, pk_mul, nI_add, nI_add, nI_clamp (by omega), nI_clamp (by omega)]
      refine ⟨vp_in_nI (by omega) (by decide), vp_in_nI (by omega) (by decide), nm_e (nm_r (nI_1 d) (ih2 (upd s2 (i * 6 + d) (bc ((k * 21 + i) * 6 + d))) ⟨fun j hj c hc => ?_, fun c hc => ?_⟩))⟩
      · rw [pk_un (by omega)]
        exact h1 j hj c hc
      · by_cases e : c = d
        · subst e
          exact pk_us
        · rw [pk_un (by omega)]
          exact h2 c (by omega)
theorem xb_mark {post : SX → Prop} {bc br rc : Nat → Int32} {R : Nat} (hR : R < 12) (hok : ∀ x, x ≤ R → mk_ok nl nr x)
    (H : ∀ ip' a0 : Nat → Int32, (∀ j, j < R → a0 j = 0) → a0 R = 1 → ip' = mk_F nl nr (R + 1) a0 → post (nc, rr, rw, tc, tr, nk, nw, nl, nr, nf, ns, nt, nu, ip', bc, br, rc)) : wpX_markPlan post (nc, rr, rw, tc, tr, nk, nw, nl, nr, nf, ns, nt, nu, ip, bc, br, rc) (nI R) := by
  have cR : (nI R).toNatClampNeg = R := nI_clamp (by omega)
  refine loop_0 (fun f i s => wX_markPlan_2 post (nI R) nc rr rw f (nI i) tc tr nk nw nl nr nf ns nt nu s bc br rc) (fun i s => ∀ j, j < i → s j = 0) R ip (fun j hj => absurd hj (Nat.not_lt_zero j)) ?_ ?_
  · intro f s hI
    refine br_t (nI_le (Nat.le_refl _) (by omega)) ⟨vp_in_nI hR (by decide), ?_⟩
    rw [cR, xb_b1]
    refine nm_e ?_
    have a1 : ∀ j, j < R → upd s R 1 j = 0 := fun j hj => by rw [pk_un (by omega)]; exact hI j hj
    have a2 : upd s R 1 R = 1 := pk_us
    generalize upd s R 1 = a0 at a1 a2
    have key := pk_loopD (fun f e s => wX_markPlan_29 post nc rr rw f (nI e + (-1)) tc tr nk nw nl nr nf ns nt nu s bc br rc) (fun e s => e ≤ R + 1 ∧ mk_F nl nr e s = mk_F nl nr (R + 1) a0) ?_ ?_ (R + 1) a0 ⟨Nat.le_refl _, rfl⟩
    · rw [pk_m1] at key
      exact ⟨_, key⟩
    · rintro f s ⟨_, hI⟩
      exact br_t (by decide) (H _ a0 a1 a2 hI)
    · rintro f e s ⟨he, hI⟩ ih
      have ce : (nI e).toNatClampNeg = e := nI_clamp (by omega)
      have hS : mk_F nl nr e (mk_S nl nr s e) = mk_F nl nr (R + 1) a0 := hI
      have ih2 := ih (mk_S nl nr s e) ⟨by omega, hS⟩
      rw [pk_m1]
      refine br_f (nI_pos (by omega)) ⟨vp_in_nI (by omega) (by decide), ?_⟩
      rw [ce, xb_b1]
      unfold mk_S at ih2
      refine br_c (fun z => nm_e (by rw [if_pos z] at ih2; exact ih2)) (fun z => ⟨vp_in_nI (by omega) (by decide), ?_⟩)
      rw [if_neg z] at ih2
      have tail : ∀ a : Nat → Int32, wX_markPlan_29 post nc rr rw f (nI e + -1) tc tr nk nw nl nr nf ns nt nu ((if nr e = -1 then a else upd a (nr e).toNatClampNeg 1)) bc br rc → wX_markPlan_64 post (wX_markPlan_29 post nc rr rw f) (nI e) nc rr rw tc tr nk nw nl nr nf ns nt nu a bc br rc := by
        intro a ha
        refine ⟨vp_in_nI (by omega) (by decide), ?_⟩
        rw [ce, xb_b1]
        rcases (hok e (by omega)).2 with er | ⟨r, hr, er⟩
        · rw [if_pos er] at ha
          exact br_t er (nm_e ha)
        · rw [er, if_neg (xb_nn1 (by omega))] at ha
          rw [er]
          exact br_f (xb_nn1 (by omega)) ⟨vp_in_nI (by omega) (by decide), vp_in_nI (by omega) (by decide), nm_e (nm_e ha)⟩
      rcases (hok e (by omega)).1 with el | ⟨l, hl, el⟩
      · rw [if_pos el] at ih2
        exact br_t el (tail _ ih2)
      · rw [el, if_neg (xb_nn1 (by omega))] at ih2
        rw [el]
        exact br_f (xb_nn1 (by omega)) ⟨vp_in_nI (by omega) (by decide), vp_in_nI (by omega) (by decide), nm_e (tail _ ih2)⟩
  · intro f i s hi hI ih
    refine br_f (nI_ge hi (by omega)) ⟨vp_in_nI (by omega) (by decide), ?_⟩
    rw [nI_clamp (by omega), xb_b0]
    refine nm_e (nm_r (nI_1 i) (ih (upd s i 0) fun j hj => ?_))
    by_cases e : j = i
    · subst e
      exact pk_us
    · rw [pk_un e]
      exact hI j (by omega)
theorem xb_loop {post : Int32 → SX → Prop} {bc br rc : Nat → Int32} {R : Nat} {B TB : Nat → bg_T} {Wd : Nat → Nat} (hR : R < 12)
    (hN : ∀ k, k ≤ R → nd_rel (nk k) (nw k) (nl k) (nr k) (nf k) (ns k) (nt k) k (fun l wl bl => nw l = nI wl ∧ wl ≤ 6 ∧ bl = B l) TB (Wd k) (B k))
    (hT : ∀ t, t < 3 → ∃ h, h ≤ 6 ∧ tr t = nI h ∧ TB t = bs_scan tc t h)
    (hM : ∀ k, k ≤ R → ¬ ip k = 0 → ∀ l, (nl k = nI l ∨ nr k = nI l) → l < k → ¬ ip l = 0) (hMR : ¬ ip R = 0)
    (Hov : (∃ k, k ≤ R ∧ ¬ ip k = 0 ∧ 20 < (B k).1) → ∀ bc' br', post (-8) (nc, rr, rw, tc, tr, nk, nw, nl, nr, nf, ns, nt, nu, ip, bc', br', rc))
    (Hok : (∀ k, k ≤ R → ¬ ip k = 0 → (B k).1 ≤ 20) → ∀ bc' br' rc' S, bg_srt (B R).1 (Wd R) (B R).2 S → (∀ i, i < (B R).1 → ∀ c, c < Wd R → rc' (i * 6 + c) = S i c) → post (nI (B R).1) (nc, nI (B R).1, nI (Wd R), tc, tr, nk, nw, nl, nr, nf, ns, nt, nu, ip, bc', br', rc')) :
    ∃ n, wX_run_18 post (nI R) n 0 nc rr rw tc tr nk nw nl nr nf ns nt nu ip bc br rc := by
  have hWd : ∀ k, k ≤ R → Wd k ≤ 6 ∧ nw k = nI (Wd k) := fun k hk => ⟨(hN k hk).1, (hN k hk).2.1⟩
  refine loop_0 (fun f k (s : (Nat → Int32) × (Nat → Int32)) => wX_run_18 post (nI R) f (nI k) nc rr rw tc tr nk nw nl nr nf ns nt nu ip s.1 s.2 rc) (fun k s => ∀ m, m < k → ¬ ip m = 0 → xb_B m (Wd m) (B m) s.1 s.2 ∧ (B m).1 ≤ 20) (R + 1) (bc, br) (fun m hm => absurd hm (Nat.not_lt_zero m)) ?_ ?_
  · rintro f ⟨bc', br'⟩ hI
    obtain ⟨hB, h20⟩ := hI R (by omega) hMR
    have hw := hWd R (Nat.le_refl _)
    refine br_t (nI_lt (by omega) (by omega)) (xb_sort hR hB.1 h20 hw.2 hw.1 fun bc2 hs => ?_)
    dsimp only
    refine xb_kept hR hB.1 h20 hw.2 hw.1 fun rc' hrc => ?_
    exact Hok (fun k hk z => (hI k (by omega) z).2) _ _ rc' _ (bg_srt_c (fun i hi c hc => hB.2 i hi (by omega) c hc) hs) hrc
  · rintro f k ⟨bc', br'⟩ hk hI ih
    have ck : (nI k).toNatClampNeg = k := nI_clamp (by omega)
    refine br_f (nI_nlt (by omega) (by omega)) ⟨vp_in_nI (by omega) (by decide), ?_⟩
    rw [ck]
    refine br_c (fun z => nm_r (nI_1 k) (ih (bc', br') fun m hm z2 => ?_)) (fun z => xb_runNode (by omega) (hN k (by omega)) hT (fun l wl bl hl hlr hd => ?_) fun bc2 br2 hI2 => ?_)
    · by_cases e : m = k
      · subst e
        exact absurd z z2
      · exact hI m (by omega) z2
    · obtain ⟨d1, d2, d3⟩ := hd
      obtain ⟨hB, h20⟩ := hI l hl (hM k (by omega) z l hlr hl)
      have e : wl = Wd l := (nI_eq (by omega) (by have := (hWd l (by omega)).1; omega)).mp (d1.symm.trans (hWd l (by omega)).2)
      subst d3
      subst e
      exact ⟨d1, d2, hB, h20⟩
    · refine ⟨vp_in_nI (by omega) (by decide), ?_⟩
      rw [hI2.1.1]
      have hb : (B k).1 ≤ 400 := nd_le (hN k (by omega)) (fun t ht => by obtain ⟨h, hh, _, e⟩ := hT t ht; rw [e]; exact Nat.le_trans (bg_sel0_le _ _ _) (by omega)) (fun l wl bl hl hlr hd => by rw [hd.2.2]; exact (hI l hl (hM k (by omega) z l hlr hl)).2)
      refine pk_le (B k).1 20 (fun e => nm_r (nI_1 k) (ih (bc2, br2) fun m hm z2 => ?_)) (fun e => Hov ⟨k, by omega, z, e⟩ bc2 br2)
      by_cases em : m = k
      · subst em
        exact ⟨hI2.1, e⟩
      · obtain ⟨hB, h20⟩ := hI m (by omega) z2
        exact ⟨xb_keep hI2 hB (by omega) (hWd m (by omega)).1, h20⟩
end
