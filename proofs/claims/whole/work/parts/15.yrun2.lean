/-! the reference: show, marks, run -/
theorem yr_p (p c : Nat) : 6 * nI p + nI c = nI (p * 6 + c) := by
  rw [show (6 : Int32) = nI 6 from rfl, pk_mul, nI_add]
  exact congrArg nI (by omega)
theorem yr_10 : ¬ (1 : Int32) = 0 := by decide
section
variable {nc rr rw : Int32} {tc tr nk nl nr np nq ny nw nu : Nat → Int32}
theorem yb_show {post : SY → Prop} {ov : Int32} {ys gv nd ro re : Nat → Int32} {k n w : Nat} {S : Nat → Nat → Int32} (hk : k < 12) (hn : gv k = nI n) (hn20 : n ≤ 20) (hw : nw k = nI w) (hw6 : w ≤ 6) (hS : bg_srt n w (fun i c => ys ((k * 20 + i) * 6 + c)) S)
    (H : ∀ re' : Nat → Int32, (∀ p, p < n → ∀ c, c < w → re' (p * 6 + c) = S p c) → post (nc, ov, nI n, nI w, tc, tr, nk, nl, nr, np, nq, ny, nw, nu, ys, gv, nd, ro, re')) : wpY_show post (nc, ov, rr, rw, tc, tr, nk, nl, nr, np, nq, ny, nw, nu, ys, gv, nd, ro, re) (nI k) := by
  have ck : (nI k).toNatClampNeg = k := nI_clamp (by omega)
  have vk : vp_in (nI k) 12 := vp_in_nI hk (by decide)
  refine ⟨vk, nm_r (e' := nI n) (by rw [ck]; exact hn) ⟨vk, nm_r (e' := nI w) (by rw [ck]; exact hw) ?_⟩⟩
  generalize hg : (fun (i : Nat) (c : Nat) => ys ((k * 20 + i) * 6 + c)) = g at hS
  refine loop_0 (fun f i s => wY_show_22 post (nI k) nc ov (nI n) (nI w) f (nI i) tc tr nk nl nr np nq ny nw nu ys gv nd ro s) (fun i s => ∀ a, a < i → ∀ c, c < w → s (bg_pl n w g a * 6 + c) = S (bg_pl n w g a) c) n re (fun a ha => absurd ha (Nat.not_lt_zero a)) ?_ ?_
  · intro f s hI
    refine ⟨vk, ?_⟩
    rw [ck, hn]
    refine br_t (nI_le (Nat.le_refl _) (by omega)) (H s fun p hp c hc => ?_)
    obtain ⟨a, ha, e⟩ := bg_pl_on hS hp
    have z := hI a ha c hc
    rw [e] at z
    exact z
  · intro f i s hi hI ih
    refine ⟨vk, ?_⟩
    rw [ck, hn]
    refine br_f (nI_ge hi (by omega)) ?_
    have hpl := bg_pl_n (w := w) (g := g) hi
    refine loop_0 (fun f2 j x => wY_show_37 post (wY_show_22 post (nI k) nc ov (nI n) (nI w) f) (nI k) (nI i) nc ov (nI n) (nI w) tc tr nk nl nr np nq ny nw nu ys gv nd ro s f2 x (nI j)) (fun j x => x = nI (bg_cnt (fun j => bg_bef w g j i) j)) n 0 rfl ?_ ?_
    · intro f2 x hx
      refine ⟨vk, ?_⟩
      rw [ck, hn]
      refine br_t (nI_le (Nat.le_refl _) (by omega)) ?_
      have hx' : x = nI (bg_pl n w g i) := hx
      rw [hx']
      refine loop_0 (fun f3 c s2 => wY_show_71 post (wY_show_22 post (nI k) nc ov (nI n) (nI w) f) (nI k) (nI i) (nI (bg_pl n w g i)) nc ov (nI n) (nI w) f3 (nI c) tc tr nk nl nr np nq ny nw nu ys gv nd ro s2) (fun c s2 => (∀ j, (j < bg_pl n w g i * 6 ∨ bg_pl n w g i * 6 + 6 ≤ j) → s2 j = s j) ∧ ∀ d, d < c → s2 (bg_pl n w g i * 6 + d) = g i d) 6 s ⟨fun _ _ => rfl, fun d hd => absurd hd (Nat.not_lt_zero d)⟩ ?_ ?_
      · rintro f3 s2 ⟨h1, h2⟩
        refine br_t (nI_le (a := 6) (b := 6) (Nat.le_refl _) (by decide)) (nm_r (nI_1 i) (ih s2 fun a ha c hc => ?_))
        by_cases e : bg_pl n w g a = bg_pl n w g i
        · rw [e, h2 c (by omega)]
          exact (bg_pl_at hS hi c hc).symm
        · have ha' : a ≠ i := fun z => e (by rw [z])
          rw [h1 _ (by omega)]
          exact hI a (by omega) c hc
      · rintro f3 c s2 hc ⟨h1, h2⟩ ih2
        refine br_f (nI_ge (b := 6) hc (by decide)) (br_f (nI_ge (b := 20) (by omega) (by decide)) (yb_at (by omega) ?_))
        rw [yr_p, nI_clamp (by omega)]
        refine ⟨vp_in_nI (by omega) (by decide), nm_e (nm_r (nI_1 c) (ih2 _ ⟨fun j hj => ?_, fun d hd => ?_⟩))⟩
        · rw [pk_un (by omega)]
          exact h1 j hj
        · by_cases e : d = c
          · subst e
            rw [pk_us, ← hg]
          · rw [pk_un (by omega)]
            exact h2 d (by omega)
    · intro f2 j x hj hx ih2
      have hcl := bg_cnt_le (fun j => bg_bef w g j i) j
      refine ⟨vk, ?_⟩
      rw [ck, hn]
      refine br_f (nI_ge hj (by omega)) (yb_less hk (by omega) (by omega) hw hw6 (fun e => br_f (by decide) (nm_e (nm_r (nI_1 j) (ih2 _ ?_)))) (fun e => br_t rfl (nm_r (nI_1 j) (ih2 _ ?_))))
      · rw [hg] at e
        rw [bg_cnt_t (P := fun j => bg_bef w g j i) e, hx, nI_1]
      · rw [hg] at e
        rw [bg_cnt_f (P := fun j => bg_bef w g j i) e, hx]
theorem yb_mark {post : Int32 → SY → Prop} {ov : Int32} {ys gv nd ro re : Nat → Int32} {R : Nat} (hR : R < 12) (hok : ∀ x, x ≤ R → mk_ok nl nr x)
    (H : ∀ nd' a0 : Nat → Int32, (∀ j, j < R → a0 j = 0) → a0 R = 1 → nd' = mk_F nl nr (R + 1) a0 → ∃ f, wY_run_120 post (nI R) f 0 nc 0 rr rw tc tr nk nl nr np nq ny nw nu ys gv nd' ro re) : ∃ f, wY_run_13 post (nI R) nc ov rr rw f 0 tc tr nk nl nr np nq ny nw nu ys gv nd ro re := by
  refine loop_0 (fun f i s => wY_run_13 post (nI R) nc ov rr rw f (nI i) tc tr nk nl nr np nq ny nw nu ys gv s ro re) (fun i s => ∀ j, j < i → s j = if j = R then 1 else 0) 12 nd (fun j hj => absurd hj (Nat.not_lt_zero j)) ?_ ?_
  · intro f s hI
    refine br_t (nI_le (a := 12) (b := 12) (Nat.le_refl _) (by decide)) ?_
    have a1 : ∀ j, j < R → s j = 0 := fun j hj => by rw [hI j (by omega), if_neg (by omega)]
    have a2 : s R = 1 := by rw [hI R hR, if_pos rfl]
    have key := pk_loopD (fun f e s => wY_run_43 post (nI R) nc ov rr rw f (nI e + (-1)) tc tr nk nl nr np nq ny nw nu ys gv s ro re) (fun e s2 => e ≤ R + 1 ∧ mk_F nl nr e s2 = mk_F nl nr (R + 1) s) ?_ ?_ (R + 1) s ⟨Nat.le_refl _, rfl⟩
    · rw [pk_m1] at key
      exact ⟨_, key⟩
    · rintro f s2 ⟨_, hI2⟩
      exact br_t (by decide) (H _ s a1 a2 hI2)
    · rintro f e s2 ⟨he, hI2⟩ ih
      have ce : (nI e).toNatClampNeg = e := nI_clamp (by omega)
      have ve : vp_in (nI e) 12 := vp_in_nI (by omega) (by decide)
      have hS : mk_F nl nr e (mk_S nl nr s2 e) = mk_F nl nr (R + 1) s := hI2
      have ih2 := ih (mk_S nl nr s2 e) ⟨by omega, hS⟩
      have m1 : (-1 : Int32) < 0 := by decide
      rw [pk_m1]
      refine br_f (nI_pos (by omega)) ⟨ve, ?_⟩
      rw [ce, xb_b1]
      unfold mk_S at ih2
      refine br_c (fun z => ⟨ve, ?_⟩) (fun z => ⟨ve, ?_⟩)
      · rw [if_pos z] at ih2
        rw [ce]
        exact br_t z (nm_e ih2)
      · rw [if_neg z] at ih2
        have tail : ∀ a : Nat → Int32, ¬ a e = 0 → wY_run_43 post (nI R) nc ov rr rw f (nI e + -1) tc tr nk nl nr np nq ny nw nu ys gv ((if nr e = -1 then a else upd a (nr e).toNatClampNeg 1)) ro re → wY_run_77 post (wY_run_43 post (nI R) nc ov rr rw f) (nI R) (nI e) nc ov rr rw tc tr nk nl nr np nq ny nw nu ys gv a ro re := by
          intro a hz ha
          refine ⟨ve, ?_⟩
          rw [ce, xb_b1]
          refine br_f hz ⟨ve, ?_⟩
          rcases (hok e (by omega)).2 with er | ⟨r, hr, er⟩
          · rw [if_pos er] at ha
            rw [er]
            exact br_t m1 (nm_e ha)
          · rw [er, if_neg (xb_nn1 (by omega))] at ha
            rw [er]
            exact br_f (nI_pos (by omega)) ⟨ve, vp_in_nI (by omega) (by decide), nm_e (nm_e ha)⟩
        rcases (hok e (by omega)).1 with el | ⟨l, hl, el⟩
        · rw [if_pos el] at ih2
          rw [el]
          exact br_t m1 (tail _ z ih2)
        · rw [el, if_neg (xb_nn1 (by omega))] at ih2
          rw [el]
          exact br_f (nI_pos (by omega)) ⟨ve, vp_in_nI (by omega) (by decide), nm_e (tail _ (mk_u1 z) ih2)⟩
  · intro f i s hi hI ih
    have ci : (nI i).toNatClampNeg = i := nI_clamp (by omega)
    refine br_f (nI_ge (b := 12) hi (by decide)) (pk_eq i R (fun e => ⟨vp_in_nI hi (by decide), ?_⟩) (fun e => ⟨vp_in_nI hi (by decide), ?_⟩))
    · rw [ci, xb_b1]
      refine nm_e (nm_r (nI_1 i) (ih (upd s i 1) fun j hj => ?_))
      by_cases ej : j = i
      · subst ej
        rw [pk_us, if_pos e]
      · rw [pk_un ej]
        exact hI j (by omega)
    · rw [ci, xb_b0]
      refine nm_e (nm_r (nI_1 i) (ih (upd s i 0) fun j hj => ?_))
      by_cases ej : j = i
      · subst ej
        rw [pk_us, if_neg e]
      · rw [pk_un ej]
        exact hI j (by omega)
theorem yb_loop {post : Int32 → SY → Prop} {ys gv nd ro re : Nat → Int32} {R : Nat} {B TB : Nat → bg_T} {Wd : Nat → Nat} (hR : R < 12)
    (hN : ∀ k, k ≤ R → nd_rel (nk k) (nw k) (nl k) (nr k) (np k) (nq k) (ny k) k (fun l wl bl => nw l = nI wl ∧ wl ≤ 6 ∧ bl = B l) TB (Wd k) (B k))
    (hT : ∀ t, t < 3 → ∃ h, h ≤ 6 ∧ tr t = nI h ∧ TB t = bs_scan tc t h)
    (hM : ∀ k, k ≤ R → ¬ nd k = 0 → ∀ l, (nl k = nI l ∨ nr k = nI l) → l < k → ¬ nd l = 0) (hMR : ¬ nd R = 0)
    (Hov : (∃ k, k ≤ R ∧ ¬ nd k = 0 ∧ 20 < (B k).1) → ∀ ov' ys' gv' ro', post (-8) (nc, ov', rr, rw, tc, tr, nk, nl, nr, np, nq, ny, nw, nu, ys', gv', nd, ro', re))
    (Hok : (∀ k, k ≤ R → ¬ nd k = 0 → (B k).1 ≤ 20) → ∃ S, bg_srt (B R).1 (Wd R) (B R).2 S ∧ ∀ ov' ys' gv' ro' re', (∀ p, p < (B R).1 → ∀ c, c < Wd R → re' (p * 6 + c) = S p c) → post (nI (B R).1) (nc, ov', nI (B R).1, nI (Wd R), tc, tr, nk, nl, nr, np, nq, ny, nw, nu, ys', gv', nd, ro', re')) :
    ∃ f, wY_run_120 post (nI R) f 0 nc 0 rr rw tc tr nk nl nr np nq ny nw nu ys gv nd ro re := by
  have hWd : ∀ k, k ≤ R → Wd k ≤ 6 ∧ nw k = nI (Wd k) := fun k hk => ⟨(hN k hk).1, (hN k hk).2.1⟩
  refine loop_0 (fun f k (s : yb_S) => wY_run_120 post (nI R) f (nI k) nc s.1 rr rw tc tr nk nl nr np nq ny nw nu s.2.1 s.2.2.1 nd s.2.2.2 re) (fun k s => (s.1 = 0 ∧ ∀ m, m < k → ¬ nd m = 0 → yb_B m (Wd m) (B m) s.2.1 s.2.2.1 ∧ (B m).1 ≤ 20) ∨ (s.1 = 1 ∧ ∃ k, k ≤ R ∧ ¬ nd k = 0 ∧ 20 < (B k).1)) (R + 1) (0, ys, gv, ro) (Or.inl ⟨rfl, fun m hm => absurd hm (Nat.not_lt_zero m)⟩) ?_ ?_
  · rintro f ⟨ov', ys', gv', ro'⟩ (⟨e, hI⟩ | ⟨e, hI⟩)
    · dsimp only at e
      subst e
      obtain ⟨hB, h20⟩ := hI R (by omega) hMR
      have hw := hWd R (Nat.le_refl _)
      obtain ⟨S, hS, HS⟩ := Hok (fun k hk z => (hI k (by omega) z).2)
      refine br_t (nI_lt (by omega) (by omega)) (br_t rfl (yb_show hR (yb_n hB h20) h20 hw.2 hw.1 (bg_srt_c (fun i hi c hc => (hB.2 i hi (by omega) c hc).symm) hS) fun re' hre => ?_))
      exact HS _ _ _ _ re' hre
    · dsimp only at e
      subst e
      exact br_t (nI_lt (by omega) (by omega)) (br_f yr_10 (Hov hI _ _ _ _))
  · rintro f k ⟨ov', ys', gv', ro'⟩ hk (⟨e, hI⟩ | ⟨e, hI⟩) ih
    · dsimp only at e
      subst e
      have ck : (nI k).toNatClampNeg = k := nI_clamp (by omega)
      refine br_f (nI_nlt (by omega) (by omega)) (br_t rfl ⟨vp_in_nI (by omega) (by decide), ?_⟩)
      dsimp only
      rw [ck]
      refine br_c (fun z => nm_r (nI_1 k) (ih (0, ys', gv', ro') (Or.inl ⟨rfl, fun m hm z2 => ?_⟩))) (fun z => yb_evaluate (by omega) (hN k (by omega)) hT (fun l wl bl hl hlr hd => ?_) fun ov2 ys2 gv2 ro2 hI2 => nm_r (nI_1 k) (ih (ov2, ys2, gv2, ro2) ?_))
      · by_cases e : m = k
        · subst e
          exact absurd z z2
        · exact hI m (by omega) z2
      · obtain ⟨d1, d2, d3⟩ := hd
        obtain ⟨hB, h20⟩ := hI l hl (hM k (by omega) z l hlr hl)
        have e : wl = Wd l := (nI_eq (by omega) (by have := (hWd l (by omega)).1; omega)).mp (d1.symm.trans (hWd l (by omega)).2)
        subst d3
        subst e
        exact ⟨d1, d2, hB, h20⟩
      · by_cases e : (B k).1 ≤ 20
        · refine Or.inl ⟨?_, fun m hm z2 => ?_⟩
          · have z3 := hI2.2.1
            rw [if_pos e] at z3
            exact z3
          · by_cases em : m = k
            · subst em
              exact ⟨hI2.1, e⟩
            · obtain ⟨hB, h20⟩ := hI m (by omega) z2
              exact ⟨yb_keep hI2 hB (by omega) (hWd m (by omega)).1, h20⟩
        · refine Or.inr ⟨?_, k, by omega, z, by omega⟩
          have z3 := hI2.2.1
          rw [if_neg e] at z3
          exact z3
    · dsimp only at e
      subst e
      exact br_f (nI_nlt (by omega) (by omega)) (br_f yr_10 (br_f yr_10 (Hov hI _ _ _ _)))
end
