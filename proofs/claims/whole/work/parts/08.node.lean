/-! nodes: what makes one well formed, and what it gives; marks; exchange -/
def nd_rel (K W L R F S T : Int32) (k : Nat) (D : Nat → Nat → bg_T → Prop) (TB : Nat → bg_T) (w : Nat) (b : bg_T) : Prop :=
  w ≤ 6 ∧ W = nI w ∧ (
    (K = nI 0 ∧ L = -1 ∧ R = -1 ∧ w = 3 ∧ ∃ t, t < 3 ∧ F = nI t ∧ b = TB t)
  ∨ (K = nI 1 ∧ R = -1 ∧ ∃ l bl c m, l < k ∧ L = nI l ∧ D l w bl ∧ c < w ∧ F = nI c ∧ m ≤ 5 ∧ S = nI m ∧ b = bs_filter bl c (nI m) T bl.1)
  ∨ (K = nI 2 ∧ R = -1 ∧ ∃ l wl bl op x y, l < k ∧ L = nI l ∧ D l wl bl ∧ w = wl + 1 ∧ op ≤ 4 ∧ F = nI op ∧ x < wl ∧ S = nI x ∧ y < wl ∧ T = nI y ∧ b = bs_ext bl wl (nI op) x y bl.1)
  ∨ (K = nI 3 ∧ R = -1 ∧ ∃ l wl bl x, l < k ∧ L = nI l ∧ D l wl bl ∧ x < wl ∧ F = nI x ∧ (S = -1 ∨ ∃ t, t < wl ∧ S = nI t) ∧ (T = -1 ∨ ∃ t, t < wl ∧ T = nI t) ∧ w = 1 + (if S = -1 then 0 else 1) + (if T = -1 then 0 else 1) ∧ b = bs_pick bl x S T bl.1)
  ∨ (K = nI 4 ∧ ∃ l r wl wr bl br x y, l < k ∧ r < k ∧ L = nI l ∧ R = nI r ∧ D l wl bl ∧ D r wr br ∧ w = wl + wr ∧ x < wl ∧ F = nI x ∧ y < wr ∧ S = nI y ∧ b = bs_join bl br wl x y bl.1)
  ∨ (K = nI 5 ∧ ∃ l r wr bl br x y, l < k ∧ r < k ∧ L = nI l ∧ R = nI r ∧ D l w bl ∧ D r wr br ∧ x < w ∧ F = nI x ∧ y < wr ∧ S = nI y ∧ b = bs_semi bl br x y True bl.1)
  ∨ (K = nI 6 ∧ ∃ l r wr bl br x y, l < k ∧ r < k ∧ L = nI l ∧ R = nI r ∧ D l w bl ∧ D r wr br ∧ x < w ∧ F = nI x ∧ y < wr ∧ S = nI y ∧ b = bs_semi bl br x y False bl.1)
  ∨ (K = nI 7 ∧ R = -1 ∧ ∃ l wl bl x q y, l < k ∧ L = nI l ∧ D l wl bl ∧ w = 2 ∧ x < wl ∧ F = nI x ∧ q ≤ 3 ∧ S = nI q ∧ y < wl ∧ T = nI y ∧ b = bs_grp (nI q) (fun i => bl.2 i x) (fun i => bl.2 i y) bl.1 bl.1)
  ∨ (K = nI 8 ∧ R = -1 ∧ ∃ l bl, l < k ∧ L = nI l ∧ D l w bl ∧ b = bs_dist bl w bl.1)
  ∨ (K = nI 9 ∧ ∃ l r bl br, l < k ∧ r < k ∧ L = nI l ∧ R = nI r ∧ D l w bl ∧ D r w br ∧ b = bs_all (bs_all bg_0 bl bl.1) br br.1))
theorem nd_mono {K W L R F S T : Int32} {k : Nat} {D D' : Nat → Nat → bg_T → Prop} {TB : Nat → bg_T} {w : Nat} {b : bg_T} (h : ∀ l wl bl, l < k → D l wl bl → D' l wl bl) (H : nd_rel K W L R F S T k D TB w b) : nd_rel K W L R F S T k D' TB w b := by
  obtain ⟨h1, h2, H⟩ := H
  refine ⟨h1, h2, ?_⟩
  rcases H with H | ⟨a, c, l, bl, x, y, d, e, f, H⟩ | ⟨a, c, l, wl, bl, op, x, y, d, e, f, H⟩ | ⟨a, c, l, wl, bl, x, d, e, f, H⟩ | ⟨a, l, r, wl, wr, bl, br, x, y, d, d2, e, e2, f, f2, H⟩ | ⟨a, l, r, wr, bl, br, x, y, d, d2, e, e2, f, f2, H⟩ | ⟨a, l, r, wr, bl, br, x, y, d, d2, e, e2, f, f2, H⟩ | ⟨a, c, l, wl, bl, x, q, y, d, e, f, H⟩ | ⟨a, c, l, bl, d, e, f, H⟩ | ⟨a, l, r, bl, br, d, d2, e, e2, f, f2, H⟩
  · exact Or.inl H
  · exact Or.inr (Or.inl ⟨a, c, l, bl, x, y, d, e, h _ _ _ d f, H⟩)
  · exact Or.inr (Or.inr (Or.inl ⟨a, c, l, wl, bl, op, x, y, d, e, h _ _ _ d f, H⟩))
  · exact Or.inr (Or.inr (Or.inr (Or.inl ⟨a, c, l, wl, bl, x, d, e, h _ _ _ d f, H⟩)))
  · exact Or.inr (Or.inr (Or.inr (Or.inr (Or.inl ⟨a, l, r, wl, wr, bl, br, x, y, d, d2, e, e2, h _ _ _ d f, h _ _ _ d2 f2, H⟩))))
  · exact Or.inr (Or.inr (Or.inr (Or.inr (Or.inr (Or.inl ⟨a, l, r, wr, bl, br, x, y, d, d2, e, e2, h _ _ _ d f, h _ _ _ d2 f2, H⟩)))))
  · exact Or.inr (Or.inr (Or.inr (Or.inr (Or.inr (Or.inr (Or.inl ⟨a, l, r, wr, bl, br, x, y, d, d2, e, e2, h _ _ _ d f, h _ _ _ d2 f2, H⟩))))))
  · exact Or.inr (Or.inr (Or.inr (Or.inr (Or.inr (Or.inr (Or.inr (Or.inl ⟨a, c, l, wl, bl, x, q, y, d, e, h _ _ _ d f, H⟩)))))))
  · exact Or.inr (Or.inr (Or.inr (Or.inr (Or.inr (Or.inr (Or.inr (Or.inr (Or.inl ⟨a, c, l, bl, d, e, h _ _ _ d f, H⟩))))))))
  · exact Or.inr (Or.inr (Or.inr (Or.inr (Or.inr (Or.inr (Or.inr (Or.inr (Or.inr ⟨a, l, r, bl, br, d, d2, e, e2, h _ _ _ d f, h _ _ _ d2 f2, H⟩))))))))
theorem nd_lr {K W L R F S T : Int32} {k : Nat} {D : Nat → Nat → bg_T → Prop} {TB : Nat → bg_T} {w : Nat} {b : bg_T} (H : nd_rel K W L R F S T k D TB w b) : (L = -1 ∨ ∃ l, l < k ∧ L = nI l) ∧ (R = -1 ∨ ∃ l, l < k ∧ R = nI l) := by
  obtain ⟨h1, h2, H⟩ := H
  rcases H with ⟨a, c, d, H⟩ | ⟨a, c, l, bl, x, y, d, e, f, H⟩ | ⟨a, c, l, wl, bl, op, x, y, d, e, f, H⟩ | ⟨a, c, l, wl, bl, x, d, e, f, H⟩ | ⟨a, l, r, wl, wr, bl, br, x, y, d, d2, e, e2, f, f2, H⟩ | ⟨a, l, r, wr, bl, br, x, y, d, d2, e, e2, f, f2, H⟩ | ⟨a, l, r, wr, bl, br, x, y, d, d2, e, e2, f, f2, H⟩ | ⟨a, c, l, wl, bl, x, q, y, d, e, f, H⟩ | ⟨a, c, l, bl, d, e, f, H⟩ | ⟨a, l, r, bl, br, d, d2, e, e2, f, f2, H⟩
  · exact ⟨Or.inl c, Or.inl d⟩
  · exact ⟨Or.inr ⟨l, d, e⟩, Or.inl c⟩
  · exact ⟨Or.inr ⟨l, d, e⟩, Or.inl c⟩
  · exact ⟨Or.inr ⟨l, d, e⟩, Or.inl c⟩
  · exact ⟨Or.inr ⟨l, d, e⟩, Or.inr ⟨r, d2, e2⟩⟩
  · exact ⟨Or.inr ⟨l, d, e⟩, Or.inr ⟨r, d2, e2⟩⟩
  · exact ⟨Or.inr ⟨l, d, e⟩, Or.inr ⟨r, d2, e2⟩⟩
  · exact ⟨Or.inr ⟨l, d, e⟩, Or.inl c⟩
  · exact ⟨Or.inr ⟨l, d, e⟩, Or.inl c⟩
  · exact ⟨Or.inr ⟨l, d, e⟩, Or.inr ⟨r, d2, e2⟩⟩
/-! marks -/
def mk_S (nl nr a : Nat → Int32) (x : Nat) : Nat → Int32 :=
  if a x = 0 then a else (if nr x = -1 then (if nl x = -1 then a else upd a (nl x).toNatClampNeg 1) else upd (if nl x = -1 then a else upd a (nl x).toNatClampNeg 1) (nr x).toNatClampNeg 1)
def mk_F (nl nr : Nat → Int32) : Nat → (Nat → Int32) → (Nat → Int32)
  | 0, a => a
  | x + 1, a => mk_F nl nr x (mk_S nl nr a x)
def mk_ok (nl nr : Nat → Int32) (x : Nat) : Prop := (nl x = -1 ∨ ∃ l, l < x ∧ nl x = nI l) ∧ (nr x = -1 ∨ ∃ l, l < x ∧ nr x = nI l)
theorem mk_u1 {a : Nat → Int32} {i j : Nat} (h : ¬ a j = 0) : ¬ upd a i 1 j = 0 := by
  by_cases e : j = i
  · subst e
    rw [pk_us]
    decide
  · rw [pk_un e]
    exact h
theorem mk_S_mono {nl nr a : Nat → Int32} {x j : Nat} (h : ¬ a j = 0) : ¬ mk_S nl nr a x j = 0 := by
  unfold mk_S
  split
  · exact h
  · split
    · split
      · exact h
      · exact mk_u1 h
    · apply mk_u1
      split
      · exact h
      · exact mk_u1 h
theorem mk_S_hi {nl nr a : Nat → Int32} {x j : Nat} (hx : x < 2 ^ 31) (hok : mk_ok nl nr x) (h : x ≤ j) : mk_S nl nr a x j = a j := by
  have hL : ∀ a : Nat → Int32, (if nl x = -1 then a else upd a (nl x).toNatClampNeg 1) j = a j := by
    intro a
    rcases hok.1 with e | ⟨l, hl, e⟩
    · rw [if_pos e]
    · rw [e, if_neg (xb_nn1 (by omega)), nI_clamp (by omega), pk_un (by omega)]
  unfold mk_S
  split
  · rfl
  · rcases hok.2 with e | ⟨l, hl, e⟩
    · rw [if_pos e]
      exact hL a
    · rw [e, if_neg (xb_nn1 (by omega)), nI_clamp (by omega), pk_un (by omega)]
      exact hL a
theorem mk_S_c {nl nr a b : Nat → Int32} {x R : Nat} (hx : x ≤ R) (h : ∀ j, j ≤ R → a j = b j) : ∀ j, j ≤ R → mk_S nl nr a x j = mk_S nl nr b x j := by
  have hu : ∀ (a b : Nat → Int32) (i : Nat), (∀ j, j ≤ R → a j = b j) → ∀ j, j ≤ R → upd a i 1 j = upd b i 1 j := by
    intro a b i h j hj
    by_cases e : j = i
    · subst e
      rw [pk_us, pk_us]
    · rw [pk_un e, pk_un e]
      exact h j hj
  intro j hj
  unfold mk_S
  rw [h x hx]
  split
  · exact h j hj
  · split
    · split
      · exact h j hj
      · exact hu _ _ _ h j hj
    · refine hu _ _ _ (fun j hj => ?_) j hj
      split
      · exact h j hj
      · exact hu _ _ _ h j hj
theorem mk_F_mono {nl nr : Nat → Int32} {j : Nat} : ∀ e a, ¬ a j = 0 → ¬ mk_F nl nr e a j = 0 := by
  intro e
  induction e with
  | zero => exact fun a h => h
  | succ e ih => exact fun a h => ih _ (mk_S_mono h)
theorem mk_F_hi {nl nr : Nat → Int32} {j : Nat} : ∀ e a, e < 2 ^ 31 → (∀ x, x < e → mk_ok nl nr x) → e ≤ j + 1 → mk_F nl nr e a j = a j := by
  intro e
  induction e with
  | zero => exact fun a _ _ _ => rfl
  | succ e ih =>
    intro a h1 h2 h3
    show mk_F nl nr e (mk_S nl nr a e) j = a j
    rw [ih _ (by omega) (fun x hx => h2 x (by omega)) (by omega)]
    exact mk_S_hi (by omega) (h2 e (by omega)) (by omega)
theorem mk_F_c {nl nr : Nat → Int32} {R : Nat} : ∀ e a b, e ≤ R + 1 → (∀ j, j ≤ R → a j = b j) → ∀ j, j ≤ R → mk_F nl nr e a j = mk_F nl nr e b j := by
  intro e
  induction e with
  | zero => exact fun a b _ h => h
  | succ e ih => exact fun a b he h => ih _ _ (by omega) (mk_S_c (by omega) h)
theorem mk_F_cl {nl nr : Nat → Int32} : ∀ e a, e < 2 ^ 31 → (∀ x, x < e → mk_ok nl nr x) → ∀ x, x < e → ¬ mk_F nl nr e a x = 0 → ∀ l, (nl x = nI l ∨ nr x = nI l) → l < x → ¬ mk_F nl nr e a l = 0 := by
  intro e
  induction e with
  | zero => exact fun a _ _ x hx => absurd hx (Nat.not_lt_zero x)
  | succ e ih =>
    intro a h1 h2 x hx hm l hl hlx
    have h2' : ∀ x, x < e → mk_ok nl nr x := fun x hx => h2 x (by omega)
    change ¬ mk_F nl nr e (mk_S nl nr a e) l = 0
    change ¬ mk_F nl nr e (mk_S nl nr a e) x = 0 at hm
    by_cases ex : x = e
    · subst ex
      rw [mk_F_hi x _ (by omega) h2' (by omega), mk_S_hi (by omega) (h2 x (by omega)) (Nat.le_refl x)] at hm
      apply mk_F_mono
      unfold mk_S
      rw [if_neg hm]
      rcases hl with el | el
      · have hL : ¬ (if nl x = -1 then a else upd a (nl x).toNatClampNeg 1) l = 0 := by
          rw [el, if_neg (xb_nn1 (by omega)), nI_clamp (by omega), pk_us]
          decide
        split
        · exact hL
        · exact mk_u1 hL
      · rw [el, if_neg (xb_nn1 (by omega)), nI_clamp (show l < 2 ^ 31 by omega), pk_us]
        decide
    · exact ih _ (by omega) h2' x (by omega) hm l hl hlx
/-! exchange -/
def bg_si (n w : Nat) (g : Nat → Nat → Int32) (p q : Nat) (s : Nat → Nat → Int32) : Prop :=
  (∀ a b, a < p → a < b → b < n → ¬ bg_lt w (s b) (s a)) ∧ bg_perm n w g s ∧ ∀ b, p < b → b < q → ¬ bg_lt w (s b) (s p)
theorem bg_xch {n w p q : Nat} {g s s' : Nat → Nat → Int32} (hpq : p < q) (hq : q < n) (e1 : bg_eqw w (s' p) (s q)) (e2 : bg_eqw w (s' q) (s p)) (e3 : ∀ i, i ≠ p → i ≠ q → i < n → bg_eqw w (s' i) (s i)) (hlt : bg_lt w (s q) (s p)) (H : bg_si n w g p q s) : bg_si n w g p (q + 1) s' := by
  obtain ⟨h1, h2, h3⟩ := H
  refine ⟨fun a b ha hab hb z => ?_, fun P hP => ?_, fun b hb hb2 z => ?_⟩
  · have ea := e3 a (by omega) (by omega) (by omega)
    by_cases b1 : b = p
    · subst b1
      exact h1 a q ha (by omega) hq (bg_lt_c e1 ea z)
    · by_cases b2 : b = q
      · subst b2
        exact h1 a p ha ha (by omega) (bg_lt_c e2 ea z)
      · exact h1 a b ha hab hb (bg_lt_c (e3 b b1 b2 hb) ea z)
  · rw [← h2 P hP]
    refine bg_cnt_sw (p := p) (q := q) (by omega) (by omega) hq ⟨fun z => hP _ _ e1 z, fun z => hP _ _ (bg_eqw_s e1) z⟩ ⟨fun z => hP _ _ e2 z, fun z => hP _ _ (bg_eqw_s e2) z⟩ (fun i hi i1 i2 => ⟨fun z => hP _ _ (e3 i i1 i2 hi) z, fun z => hP _ _ (bg_eqw_s (e3 i i1 i2 hi)) z⟩)
  · by_cases b2 : b = q
    · subst b2
      exact bg_lt_as hlt (bg_lt_c e2 e1 z)
    · have y := bg_lt_c (e3 b (by omega) b2 (by omega)) e1 z
      exact h3 b hb (by omega) (bg_lt_tr y hlt)
theorem bg_srt_c {n w : Nat} {g g' S : Nat → Nat → Int32} (h : ∀ i, i < n → bg_eqw w (g i) (g' i)) (H : bg_srt n w g S) : bg_srt n w g' S := by
  refine ⟨H.1, fun P hP => ?_⟩
  rw [H.2 P hP]
  exact bg_cnt_c n fun i hi => ⟨fun z => hP _ _ (h i hi) z, fun z => hP _ _ (bg_eqw_s (h i hi)) z⟩
