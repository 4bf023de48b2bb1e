/-! the reference: rows of a bag -/
theorem yr_ad (k i c : Nat) : 6 * (20 * nI k + nI i) + nI c = nI ((k * 20 + i) * 6 + c) := by
  rw [show (20 : Int32) = nI 20 from rfl, show (6 : Int32) = nI 6 from rfl, pk_mul, nI_add, pk_mul, nI_add]
  exact congrArg nI (by omega)
def yb_B (k w : Nat) (b : bg_T) (ys gv : Nat → Int32) : Prop := gv k = nI (if b.1 < 20 then b.1 else 20) ∧ ∀ r, r < b.1 → r < 20 → ∀ c, c < w → ys ((k * 20 + r) * 6 + c) = b.2 r c
def yb_I (ys0 gv0 : Nat → Int32) (k w : Nat) (b : bg_T) (ov : Int32) (ys gv : Nat → Int32) : Prop := yb_B k w b ys gv ∧ (ov = if b.1 ≤ 20 then 0 else 1) ∧ (∀ j, j < k * 120 → ys j = ys0 j) ∧ (∀ m, m ≠ k → gv m = gv0 m)
theorem yb_I0 {ys gv : Nat → Int32} {k w : Nat} (h : gv k = nI 0) : yb_I ys gv k w bg_0 0 ys gv := ⟨⟨h, fun r hr => absurd hr (Nat.not_lt_zero r)⟩, rfl, fun _ _ => rfl, fun _ _ => rfl⟩
theorem yb_n {ys gv : Nat → Int32} {k w : Nat} {b : bg_T} (h : yb_B k w b ys gv) (hb : b.1 ≤ 20) : gv k = nI b.1 := by
  rw [h.1]
  congr 1
  split <;> omega
theorem yb_in {ys0 gv0 ys gv : Nat → Int32} {ov : Int32} {k w l wl i c : Nat} {b bl : bg_T} (hI : yb_I ys0 gv0 k w b ov ys gv) (hB : yb_B l wl bl ys0 gv0) (hl : l < k) (hi : i < bl.1) (h20 : i < 20) (hc : c < wl) (hwl : wl ≤ 6) : ys ((l * 20 + i) * 6 + c) = bl.2 i c := by
  rw [hI.2.2.1 _ (by omega)]
  exact hB.2 i hi h20 c hc
theorem yb_keep {ys0 gv0 ys gv : Nat → Int32} {ov : Int32} {k w l wl : Nat} {b bl : bg_T} (hI : yb_I ys0 gv0 k w b ov ys gv) (hB : yb_B l wl bl ys0 gv0) (hl : l < k) (hwl : wl ≤ 6) : yb_B l wl bl ys gv :=
  ⟨(hI.2.2.2 l (by omega)).trans hB.1, fun r hr h20 c hc => yb_in hI hB hl hr h20 hc hwl⟩
section
variable {nc ov rr rw : Int32} {tc tr nk nl nr np nq ny nw nu nd re : Nat → Int32}
theorem yb_at {post : Int32 → Prop} {ys gv ro : Nat → Int32} {k i c : Nat} (hb : (k * 20 + i) * 6 + c < 1440) (h : post (ys ((k * 20 + i) * 6 + c))) : wpY_at post (nc, ov, rr, rw, tc, tr, nk, nl, nr, np, nq, ny, nw, nu, ys, gv, nd, ro, re) (nI k) (nI i) (nI c) := by
  unfold wpY_at
  dsimp only
  rw [yr_ad, nI_clamp (by omega)]
  exact ⟨vp_in_nI hb (by decide), h⟩
theorem yb_lay {post : SY → Prop} {ys gv ro : Nat → Int32} {m i t w : Nat} (hm : m < 12) (hi : i < 20) (hw : nw m = nI w) (htw : t + w ≤ 6)
    (H : ∀ ro' : Nat → Int32, (∀ c, c < w → ro' (t + c) = ys ((m * 20 + i) * 6 + c)) → (∀ j, j < t → ro' j = ro j) → post (nc, ov, rr, rw, tc, tr, nk, nl, nr, np, nq, ny, nw, nu, ys, gv, nd, ro', re)) : wpY_lay post (nc, ov, rr, rw, tc, tr, nk, nl, nr, np, nq, ny, nw, nu, ys, gv, nd, ro, re) (nI m) (nI i) (nI t) := by
  have cm : (nI m).toNatClampNeg = m := nI_clamp (by omega)
  refine loop_0 (fun f c s => wY_lay_3 post (nI m) (nI i) (nI t) nc ov rr rw f (nI c) tc tr nk nl nr np nq ny nw nu ys gv nd s re) (fun c s => (∀ d, d < c → s (t + d) = ys ((m * 20 + i) * 6 + d)) ∧ (∀ j, j < t → s j = ro j)) w ro ⟨fun d hd => absurd hd (Nat.not_lt_zero d), fun _ _ => rfl⟩ ?_ ?_
  · rintro f s ⟨h1, h2⟩
    refine ⟨vp_in_nI hm (by decide), ?_⟩
    rw [cm, hw]
    exact br_t (nI_le (Nat.le_refl _) (by omega)) (H s h1 h2)
  · rintro f c s hc ⟨h1, h2⟩ ih
    refine ⟨vp_in_nI hm (by decide), ?_⟩
    rw [cm, hw, nI_add]
    refine br_f (nI_ge hc (by omega)) (br_f (nI_ge (b := 6) (by omega) (by decide)) (yb_at (by omega) ⟨vp_in_nI (by omega) (by decide), ?_⟩))
    rw [nI_clamp (by omega)]
    refine nm_e (nm_r (nI_1 c) (ih (upd s (t + c) (ys ((m * 20 + i) * 6 + c))) ⟨fun d hd => ?_, fun j hj => ?_⟩))
    · by_cases e : d = c
      · subst e
        exact pk_us
      · rw [pk_un (by omega)]
        exact h1 d (by omega)
    · rw [pk_un (by omega)]
      exact h2 j hj
theorem yb_give {post : SY → Prop} {ys0 gv0 ys gv ro row : Nat → Int32} {k w : Nat} {b : bg_T} (hI : yb_I ys0 gv0 k w b ov ys gv) (hk : k < 12) (hw : w ≤ 6) (hr : ∀ c, c < w → ro c = row c)
    (H : ∀ ov' ys' gv', yb_I ys0 gv0 k w (bg_push b row) ov' ys' gv' → post (nc, ov', rr, rw, tc, tr, nk, nl, nr, np, nq, ny, nw, nu, ys', gv', nd, ro, re)) : wpY_give post (nc, ov, rr, rw, tc, tr, nk, nl, nr, np, nq, ny, nw, nu, ys, gv, nd, ro, re) (nI k) := by
  have ck : (nI k).toNatClampNeg = k := nI_clamp (by omega)
  refine ⟨vp_in_nI hk (by decide), ?_⟩
  rw [ck, hI.1.1]
  by_cases hb : b.1 < 20
  · rw [if_pos hb]
    refine br_f (fun z => ?_) ?_
    · have z' := (nI_eq (b := 20) (by omega) (by decide)).mp z
      omega
    · refine loop_0 (fun f c s => wY_give_19 post (nI k) nc ov rr rw f (nI c) tc tr nk nl nr np nq ny nw nu s gv nd ro re) (fun c s => (∀ j, j < (k * 20 + b.1) * 6 → s j = ys j) ∧ (∀ d, d < c → s ((k * 20 + b.1) * 6 + d) = ro d)) 6 ys ⟨fun _ _ => rfl, fun d hd => absurd hd (Nat.not_lt_zero d)⟩ ?_ ?_
      · rintro f s ⟨h1, h2⟩
        refine br_t (nI_le (a := 6) (b := 6) (Nat.le_refl _) (by decide)) ⟨vp_in_nI hk (by decide), vp_in_nI hk (by decide), ?_⟩
        rw [ck, hI.1.1, if_pos hb, nI_1]
        refine nm_e (H ov s _ ⟨⟨?_, fun r h h20 c hc => ?_⟩, ?_, fun j hj => ?_, fun m hm => ?_⟩)
        · rw [pk_us]
          show _ = nI (if b.1 + 1 < 20 then b.1 + 1 else 20)
          congr 1
          split <;> omega
        · have h' : r < b.1 + 1 := h
          show s _ = (if r = b.1 then row else b.2 r) c
          by_cases e : r = b.1
          · rw [if_pos e, e, h2 c (by omega)]
            exact hr c hc
          · rw [if_neg e, h1 _ (by omega)]
            exact hI.1.2 r (by omega) h20 c hc
        · rw [hI.2.1]
          show _ = if b.1 + 1 ≤ 20 then (0 : Int32) else 1
          rw [if_pos (by omega), if_pos (by omega)]
        · rw [h1 j (by omega)]
          exact hI.2.2.1 j hj
        · rw [pk_un hm]
          exact hI.2.2.2 m hm
      · rintro f c s hc ⟨h1, h2⟩ ih
        refine br_f (nI_ge (b := 6) hc (by decide)) ⟨vp_in_nI hk (by decide), vp_in_nI hc (by decide), ?_⟩
        rw [ck, hI.1.1, if_pos hb, yr_ad, nI_clamp (by omega), nI_clamp (by omega)]
        refine ⟨vp_in_nI (by omega) (by decide), nm_e (nm_r (nI_1 c) (ih (upd s ((k * 20 + b.1) * 6 + c) (ro c)) ⟨fun j hj => ?_, fun d hd => ?_⟩))⟩
        · rw [pk_un (by omega)]
          exact h1 j hj
        · by_cases e : d = c
          · subst e
            exact pk_us
          · rw [pk_un (by omega)]
            exact h2 d (by omega)
  · rw [if_neg hb]
    refine br_t rfl (H 1 ys gv ⟨⟨?_, fun r h h20 c hc => ?_⟩, ?_, hI.2.2.1, hI.2.2.2⟩)
    · rw [hI.1.1]
      show _ = nI (if b.1 + 1 < 20 then b.1 + 1 else 20)
      congr 1
      split <;> split <;> omega
    · show ys _ = (if r = b.1 then row else b.2 r) c
      rw [if_neg (by omega)]
      exact hI.1.2 r (by omega) h20 c hc
    · show _ = if b.1 + 1 ≤ 20 then (0 : Int32) else 1
      rw [if_neg (by omega)]
theorem yb_holds {post : Int32 → Prop} {x y : Int32} {m : Nat} (hm : m ≤ 5) (h1 : bs_hold x (nI m) y → post 1) (h0 : ¬ bs_hold x (nI m) y → post 0) : wpY_holds post x (nI m) y := by
  have : m = 0 ∨ m = 1 ∨ m = 2 ∨ m = 3 ∨ m = 4 ∨ m = 5 := by omega
  rcases this with rfl | rfl | rfl | rfl | rfl | rfl
  · rw [bs_h0] at h0 h1
    exact br_t (by decide) (br_c h1 h0)
  · rw [bs_h1] at h0 h1
    exact br_f (by decide) (br_t (by decide) (br_c (fun e => h0 (fun z => z e)) h1))
  · rw [bs_h2] at h0 h1
    exact br_f (by decide) (br_f (by decide) (br_t (by decide) (br_c (fun e => h0 (Int32.not_lt.mpr e)) (fun e => h1 (Int32.not_le.mp e)))))
  · rw [bs_h3] at h0 h1
    exact br_f (by decide) (br_f (by decide) (br_f (by decide) (br_t (by decide) (br_c (fun e => h0 (Int32.not_le.mpr e)) (fun e => h1 (Int32.not_lt.mp e))))))
  · rw [bs_h4] at h0 h1
    exact br_f (by decide) (br_f (by decide) (br_f (by decide) (br_f (by decide) (br_t (by decide) (br_c (fun e => h0 (Int32.not_lt.mpr e)) (fun e => h1 (Int32.not_le.mp e)))))))
  · rw [bs_h5] at h0 h1
    exact br_f (by decide) (br_f (by decide) (br_f (by decide) (br_f (by decide) (br_f (by decide) (br_c (fun e => h0 (Int32.not_le.mpr e)) (fun e => h1 (Int32.not_lt.mp e)))))))
theorem yb_if {post : Int32 → Prop} {c : Prop} {a b : Int32} (i : Decidable c) (h : post (if c then a else b)) : (c → post a) ∧ (¬ c → post b) := by
  refine br_c (fun e => ?_) (fun e => ?_)
  · rw [if_pos e] at h
    exact h
  · rw [if_neg e] at h
    exact h
theorem yb_worked {post : Int32 → Prop} {x y : Int32} {m : Nat} (hm : m ≤ 4) (h : post (bs_op (nI m) x y)) : wpY_worked post x (nI m) y := by
  have : m = 0 ∨ m = 1 ∨ m = 2 ∨ m = 3 ∨ m = 4 := by omega
  rcases this with rfl | rfl | rfl | rfl | rfl
  · rw [bs_o0] at h
    exact br_t (by decide) h
  · rw [bs_o1] at h
    exact br_f (by decide) (br_t (by decide) h)
  · rw [bs_o2] at h
    exact br_f (by decide) (br_f (by decide) (br_t (by decide) h))
  · rw [bs_o3] at h
    exact br_f (by decide) (br_f (by decide) (br_f (by decide) (br_t (by decide) (yb_if _ h))))
  · rw [bs_o4] at h
    exact br_f (by decide) (br_f (by decide) (br_f (by decide) (br_f (by decide) (yb_if _ h))))
theorem yb_match {post : Int32 → Prop} {ys gv ro : Nat → Int32} {k l r i n x y : Nat} (hk : k < 12) (hl : l < 12) (hr : r < 12) (hnl : nl k = nI l) (hnr : nr k = nI r) (hnp : np k = nI x) (hx : x < 6) (hnq : nq k = nI y) (hy : y < 6) (hi : i < 20) (hn : gv r = nI n) (hn20 : n ≤ 20)
    (h1 : ∀ j, j < n → ys ((l * 20 + i) * 6 + x) = ys ((r * 20 + j) * 6 + y) → post 1) (h0 : (∀ j, j < n → ¬ ys ((l * 20 + i) * 6 + x) = ys ((r * 20 + j) * 6 + y)) → post 0) : wpY_hasMatch post (nc, ov, rr, rw, tc, tr, nk, nl, nr, np, nq, ny, nw, nu, ys, gv, nd, ro, re) (nI k) (nI i) := by
  have ck : (nI k).toNatClampNeg = k := nI_clamp (by omega)
  have cr : (nI r).toNatClampNeg = r := nI_clamp (by omega)
  refine loop_0 (fun f j (_ : Unit) => wY_hasMatch_2 post (nI k) (nI i) nc ov rr rw tc tr nk nl nr np nq ny nw nu ys gv nd ro re f (nI j)) (fun j _ => ∀ a, a < j → ¬ ys ((l * 20 + i) * 6 + x) = ys ((r * 20 + a) * 6 + y)) n () (fun a ha => absurd ha (Nat.not_lt_zero a)) ?_ ?_
  · intro f s hI
    refine ⟨vp_in_nI hk (by decide), ?_⟩
    rw [ck, hnr, cr, hn]
    exact ⟨vp_in_nI hr (by decide), br_t (nI_le (Nat.le_refl _) (by omega)) (h0 hI)⟩
  · intro f j s hj hI ih
    refine ⟨vp_in_nI hk (by decide), ?_⟩
    rw [ck, hnr, cr, hn, hnl, hnp, hnq]
    refine ⟨vp_in_nI hr (by decide), br_f (nI_ge hj (by omega)) ⟨vp_in_nI hk (by decide), vp_in_nI hk (by decide), yb_at (by omega) ⟨vp_in_nI hk (by decide), vp_in_nI hk (by decide), yb_at (by omega) (br_c (fun e => h1 j hj e) (fun e => nm_r (nI_1 j) (ih () fun a ha => ?_)))⟩⟩⟩
    by_cases ea : a = j
    · subst ea
      exact e
    · exact hI a (by omega)
theorem yb_same {post : Int32 → Prop} {ys gv ro : Nat → Int32} {l i j w : Nat} (hl : l < 12) (hi : i < 20) (hj : j < 20) (hw : nw l = nI w) (hw6 : w ≤ 6)
    (h1 : bg_eqw w (fun c => ys ((l * 20 + i) * 6 + c)) (fun c => ys ((l * 20 + j) * 6 + c)) → post 1) (h0 : ¬ bg_eqw w (fun c => ys ((l * 20 + i) * 6 + c)) (fun c => ys ((l * 20 + j) * 6 + c)) → post 0) : wpY_same post (nc, ov, rr, rw, tc, tr, nk, nl, nr, np, nq, ny, nw, nu, ys, gv, nd, ro, re) (nI l) (nI i) (nI j) := by
  have cl : (nI l).toNatClampNeg = l := nI_clamp (by omega)
  refine loop_0 (fun f c (_ : Unit) => wY_same_3 post (nI l) (nI i) (nI j) nc ov rr rw tc tr nk nl nr np nq ny nw nu ys gv nd ro re f (nI c)) (fun c _ => ∀ d, d < c → ys ((l * 20 + i) * 6 + d) = ys ((l * 20 + j) * 6 + d)) w () (fun a ha => absurd ha (Nat.not_lt_zero a)) ?_ ?_
  · intro f s hI
    refine ⟨vp_in_nI hl (by decide), ?_⟩
    rw [cl, hw]
    exact br_t (nI_le (Nat.le_refl _) (by omega)) (h1 hI)
  · intro f c s hc hI ih
    refine ⟨vp_in_nI hl (by decide), ?_⟩
    rw [cl, hw]
    refine br_f (nI_ge hc (by omega)) (yb_at (by omega) (yb_at (by omega) (br_c (fun e => nm_r (nI_1 c) (ih () fun a ha => ?_)) (fun e => h0 fun z => e (z c hc)))))
    by_cases ea : a = c
    · subst ea
      exact e
    · exact hI a (by omega)
theorem yb_rep {post : Int32 → Prop} {ys gv ro : Nat → Int32} {l i w : Nat} (hl : l < 12) (hi : i < 20) (hw : nw l = nI w) (hw6 : w ≤ 6)
    (h1 : ∀ j, j < i → bg_eqw w (fun c => ys ((l * 20 + i) * 6 + c)) (fun c => ys ((l * 20 + j) * 6 + c)) → post 1) (h0 : (∀ j, j < i → ¬ bg_eqw w (fun c => ys ((l * 20 + i) * 6 + c)) (fun c => ys ((l * 20 + j) * 6 + c))) → post 0) : wpY_repeated post (nc, ov, rr, rw, tc, tr, nk, nl, nr, np, nq, ny, nw, nu, ys, gv, nd, ro, re) (nI l) (nI i) := by
  refine loop_0 (fun f j (_ : Unit) => wY_repeated_2 post (nI l) (nI i) nc ov rr rw tc tr nk nl nr np nq ny nw nu ys gv nd ro re f (nI j)) (fun j _ => ∀ a, a < j → ¬ bg_eqw w (fun c => ys ((l * 20 + i) * 6 + c)) (fun c => ys ((l * 20 + a) * 6 + c))) i () (fun a ha => absurd ha (Nat.not_lt_zero a)) ?_ ?_
  · intro f s hI
    exact br_t (nI_le (Nat.le_refl _) (by omega)) (h0 hI)
  · intro f j s hj hI ih
    refine br_f (nI_ge hj (by omega)) (yb_same hl hi (by omega) hw hw6 (fun e => br_f (by decide) (h1 j hj e)) (fun e => br_t rfl (nm_r (nI_1 j) (ih () fun a ha => ?_))))
    by_cases ea : a = j
    · subst ea
      exact e
    · exact hI a (by omega)
theorem yb_less {post : Int32 → Prop} {ys gv ro : Nat → Int32} {l i j w : Nat} (hl : l < 12) (hi : i < 20) (hj : j < 20) (hw : nw l = nI w) (hw6 : w ≤ 6)
    (h1 : bg_bef w (fun i c => ys ((l * 20 + i) * 6 + c)) i j → post 1) (h0 : ¬ bg_bef w (fun i c => ys ((l * 20 + i) * 6 + c)) i j → post 0) : wpY_less post (nc, ov, rr, rw, tc, tr, nk, nl, nr, np, nq, ny, nw, nu, ys, gv, nd, ro, re) (nI l) (nI i) (nI j) := by
  have cl : (nI l).toNatClampNeg = l := nI_clamp (by omega)
  refine loop_0 (fun f c (_ : Unit) => wY_less_3 post (nI l) (nI i) (nI j) nc ov rr rw tc tr nk nl nr np nq ny nw nu ys gv nd ro re f (nI c)) (fun c _ => ∀ d, d < c → ys ((l * 20 + i) * 6 + d) = ys ((l * 20 + j) * 6 + d)) w () (fun a ha => absurd ha (Nat.not_lt_zero a)) ?_ ?_
  · intro f s hI
    refine ⟨vp_in_nI hl (by decide), ?_⟩
    rw [cl, hw]
    refine br_t (nI_le (Nat.le_refl _) (by omega)) (pk_le j i (fun e => h0 ?_) (fun e => h1 (Or.inr ⟨hI, e⟩)))
    rintro (z | z)
    · exact bg_lt_ne hI z
    · omega
  · intro f c s hc hI ih
    refine ⟨vp_in_nI hl (by decide), ?_⟩
    rw [cl, hw]
    refine br_f (nI_ge hc (by omega)) (yb_at (by omega) (yb_at (by omega) (br_c (fun e => nm_r (nI_1 c) (ih () fun a ha => ?_)) (fun e => yb_at (by omega) (yb_at (by omega) (br_c (fun le => h0 ?_) (fun le => h1 (Or.inl ⟨c, hc, hI, Int32.not_le.mp le⟩))))))))
    · by_cases ea : a = c
      · subst ea
        exact e
      · exact hI a (by omega)
    · rintro (⟨d, hd, f1, f2⟩ | z)
      · rcases Nat.lt_trichotomy c d with x | x | x
        · exact e (f1 c x)
        · subst x
          exact Int32.not_lt.mpr le f2
        · have y := hI d x
          dsimp only at f2
          rw [y] at f2
          exact Int32.lt_irrefl f2
      · exact e (z.1 c hc)
end
