section
/-! rows pasted from kit/rows/PURE-ROWS -/
theorem pk_us {f : Nat → Int32} {k : Nat} {x : Int32} : upd f k x k = x := if_pos rfl
theorem pk_un {f : Nat → Int32} {k j : Nat} {x : Int32} (h : j ≠ k) : upd f k x j = f j := if_neg h
theorem pk_sub {a b : Nat} (h : b ≤ a) : nI a - nI b = nI (a - b) := by
  obtain ⟨c, rfl⟩ : ∃ c, a = c + b := ⟨a - b, by omega⟩
  rw [← nI_add, Int32.add_sub_cancel, Nat.add_sub_cancel]
theorem pk_m1 (n : Nat) : nI (n + 1) + (-1) = nI n := by
  rw [← nI_1, Int32.add_assoc, show (1 : Int32) + (-1) = 0 from rfl, Int32.add_zero]
theorem pk_mul (a b : Nat) : nI a * nI b = nI (a * b) := (Int32.ofNat_mul a b).symm
theorem pk_ix (x : Int32) {n : Nat} (hn : n < 2 ^ 31) : x < 0 ∨ nI n ≤ x ∨ ∃ j : Nat, j < n ∧ x = nI j := by
  by_cases h : x < 0
  · exact Or.inl h
  · obtain ⟨j, hj, rfl⟩ := nI_of h
    by_cases h2 : j < n
    · exact Or.inr (Or.inr ⟨j, h2, rfl⟩)
    · exact Or.inr (Or.inl (nI_le (by omega) hj))
theorem pk_le {x y : Int32} {A B : Prop} (a b : Nat) (f : a ≤ b → A) (g : b < a → B) (hx : x = nI a := by rfl) (hy : y = nI b := by rfl) (ha : a < 2 ^ 31 := by omega) (hb : b < 2 ^ 31 := by omega) : (x ≤ y → A) ∧ (¬ x ≤ y → B) := by
  subst hx hy
  rw [nI_leI ha hb]
  exact ⟨f, fun z => g (by omega)⟩
theorem pk_lt {x y : Int32} {A B : Prop} (a b : Nat) (f : a < b → A) (g : b ≤ a → B) (hx : x = nI a := by rfl) (hy : y = nI b := by rfl) (ha : a < 2 ^ 31 := by omega) (hb : b < 2 ^ 31 := by omega) : (x < y → A) ∧ (¬ x < y → B) := by
  subst hx hy
  rw [nI_ltI ha hb]
  exact ⟨f, fun z => g (by omega)⟩
theorem pk_eq {x y : Int32} {A B : Prop} (a b : Nat) (f : a = b → A) (g : a ≠ b → B) (hx : x = nI a := by rfl) (hy : y = nI b := by rfl) (ha : a < 2 ^ 31 := by omega) (hb : b < 2 ^ 31 := by omega) : (x = y → A) ∧ (¬ x = y → B) := by
  subst hx hy
  rw [nI_eq ha hb]
  exact ⟨f, g⟩
theorem pk_in {x : Int32} (n N : Nat) (h : n < N) (hx : x = nI n := by rfl) (hN : N < 2 ^ 31 := by omega) : vp_in x N := by
  subst hx
  exact vp_in_nI h hN
theorem pk_cl {x : Int32} (n : Nat) (hx : x = nI n := by rfl) (h : n < 2 ^ 31 := by omega) : x.toNatClampNeg = n := by
  subst hx
  exact nI_clamp h
theorem pk_loop {σ : Type} (W : Nat → Nat → σ → Prop) (I : Nat → σ → Prop) (e i0 : Nat) (s : σ) (hi : i0 ≤ e) (h0 : I i0 s) (hx : ∀ n s, I e s → W (n + 1) e s)
    (hs : ∀ n i s, i < e → I i s → (∀ s', I (i + 1) s' → W n (i + 1) s') → W (n + 1) i s) : ∃ n, W n i0 s :=
  ⟨e + 1, loop_i W I e hx hs (e + 1) i0 s hi (by omega) h0⟩
theorem pk_loopD {σ : Type} (W : Nat → Nat → σ → Prop) (I : Nat → σ → Prop) (hx : ∀ n s, I 0 s → W (n + 1) 0 s)
    (hs : ∀ n i s, I (i + 1) s → (∀ s', I i s' → W n i s') → W (n + 1) (i + 1) s) : ∀ (e : Nat) (s : σ), I e s → W (e + 1) e s := by
  intro e
  induction e with
  | zero => exact fun s h => hx 0 s h
  | succ e ih => exact fun s h => hs (e + 1) e s h (fun s' h' => ih s' h')
theorem pk_least (P : Nat → Prop) (h : ∃ k, P k) : ∃ k, P k ∧ ∀ j, j < k → ¬ P j := by
  obtain ⟨k, hk⟩ := h
  induction k using Nat.strongRecOn with
  | ind k ih =>
    by_cases e : ∃ j, j < k ∧ P j
    · obtain ⟨j, hj, pj⟩ := e
      exact ih j hj pj
    · exact ⟨k, hk, fun j hj pj => e ⟨j, hj, pj⟩⟩
end
section
/-! bags: a number of rows, and the rows -/
abbrev bg_T : Type := Nat × (Nat → Nat → Int32)
def bg_0 : bg_T := (0, fun _ _ => 0)
def bg_push (b : bg_T) (r : Nat → Int32) : bg_T := (b.1 + 1, fun i => if i = b.1 then r else b.2 i)
noncomputable def bg_ci {α : Type} (P : Prop) (a b : α) : α := @ite α P (Classical.propDecidable P) a b
theorem bg_ct {α : Type} {P : Prop} {a b : α} (h : P) : bg_ci P a b = a := by
  unfold bg_ci; exact if_pos h
theorem bg_cf {α : Type} {P : Prop} {a b : α} (h : ¬ P) : bg_ci P a b = b := by
  unfold bg_ci; exact if_neg h
noncomputable def bg_sel (b : bg_T) (P : Nat → Prop) (row : Nat → Nat → Int32) : Nat → bg_T
  | 0 => b
  | i + 1 => bg_ci (P i) (bg_push (bg_sel b P row i) (row i)) (bg_sel b P row i)
theorem bg_sel_t {b : bg_T} {P : Nat → Prop} {row : Nat → Nat → Int32} {i : Nat} (h : P i) : bg_sel b P row (i + 1) = bg_push (bg_sel b P row i) (row i) := bg_ct h
theorem bg_sel_f {b : bg_T} {P : Nat → Prop} {row : Nat → Nat → Int32} {i : Nat} (h : ¬ P i) : bg_sel b P row (i + 1) = bg_sel b P row i := bg_cf h
theorem bg_sel_le (b : bg_T) (P : Nat → Prop) (row : Nat → Nat → Int32) (i : Nat) : (bg_sel b P row i).1 ≤ b.1 + i := by
  induction i with
  | zero => exact Nat.le_refl _
  | succ i ih =>
    by_cases h : P i
    · rw [bg_sel_t h]
      show (bg_sel b P row i).1 + 1 ≤ _
      omega
    · rw [bg_sel_f h]
      omega
theorem bg_ix (P : Nat → Prop) (i : Nat) : ∃ (m : Nat) (ix : Nat → Nat),
    (∀ row : Nat → Nat → Int32, (bg_sel bg_0 P row i).1 = m ∧ ∀ r, r < m → (bg_sel bg_0 P row i).2 r = row (ix r)) ∧
    (∀ r, r < m → ix r < i ∧ P (ix r)) ∧ (∀ j, j < i → P j → ∃ r, r < m ∧ ix r = j) ∧ (∀ r s, r < s → s < m → ix r < ix s) := by
  induction i with
  | zero => exact ⟨0, fun _ => 0, fun row => ⟨rfl, fun r h => absurd h (Nat.not_lt_zero r)⟩, fun r h => absurd h (Nat.not_lt_zero r), fun j h => absurd h (Nat.not_lt_zero j), fun r s _ h => absurd h (Nat.not_lt_zero s)⟩
  | succ i ih =>
    obtain ⟨m, ix, h1, h2, h3, h4⟩ := ih
    by_cases hp : P i
    · refine ⟨m + 1, fun r => if r = m then i else ix r, fun row => ?_, fun r hr => ?_, fun j hj hpj => ?_, fun r s hrs hs => ?_⟩
      · rw [bg_sel_t hp]
        obtain ⟨e1, e2⟩ := h1 row
        refine ⟨by show _ + 1 = _; rw [e1], fun r hr => ?_⟩
        show (if r = (bg_sel bg_0 P row i).1 then row i else (bg_sel bg_0 P row i).2 r) = row (if r = m then i else ix r)
        rw [e1]
        by_cases hm : r = m
        · rw [if_pos hm, if_pos hm]
        · rw [if_neg hm, if_neg hm]
          exact e2 r (by omega)
      · dsimp only
        by_cases hm : r = m
        · rw [if_pos hm]
          exact ⟨by omega, hp⟩
        · rw [if_neg hm]
          have := h2 r (by omega)
          exact ⟨by omega, this.2⟩
      · by_cases hji : j = i
        · exact ⟨m, by omega, by dsimp only; rw [if_pos rfl, hji]⟩
        · obtain ⟨r, hr, e⟩ := h3 j (by omega) hpj
          exact ⟨r, by omega, by dsimp only; rw [if_neg (show ¬ r = m by omega)]; exact e⟩
      · dsimp only
        by_cases hm : s = m
        · rw [if_neg (show ¬ r = m by omega), if_pos hm]
          exact (h2 r (by omega)).1
        · rw [if_neg (show ¬ r = m by omega), if_neg hm]
          exact h4 r s hrs (by omega)
    · refine ⟨m, ix, fun row => ?_, fun r hr => ?_, fun j hj hpj => ?_, h4⟩
      · rw [bg_sel_f hp]
        exact h1 row
      · have := h2 r hr
        exact ⟨by omega, this.2⟩
      · by_cases hji : j = i
        · exact absurd (hji ▸ hpj) hp
        · exact h3 j (by omega) hpj
/-! distinct -/
def bg_eqw (w : Nat) (a b : Nat → Int32) : Prop := ∀ c, c < w → a c = b c
theorem bg_eqw_s {w : Nat} {a b : Nat → Int32} (h : bg_eqw w a b) : bg_eqw w b a := fun c hc => (h c hc).symm
theorem bg_eqw_t {w : Nat} {a b d : Nat → Int32} (h : bg_eqw w a b) (k : bg_eqw w b d) : bg_eqw w a d := fun c hc => (h c hc).trans (k c hc)
noncomputable def bs_dist (b : bg_T) (w i : Nat) : bg_T := bg_sel bg_0 (fun i => ∀ j, j < i → ¬ bg_eqw w (b.2 i) (b.2 j)) b.2 i
theorem bs_dist_has (b : bg_T) (w i : Nat) (x : Nat → Int32) : (∃ r, r < (bs_dist b w i).1 ∧ bg_eqw w ((bs_dist b w i).2 r) x) ↔ ∃ j, j < i ∧ bg_eqw w (b.2 j) x := by
  obtain ⟨m, ix, h1, h2, h3, h4⟩ := bg_ix (fun i => ∀ j, j < i → ¬ bg_eqw w (b.2 i) (b.2 j)) i
  obtain ⟨e1, e2⟩ := h1 b.2
  unfold bs_dist
  rw [e1]
  constructor
  · rintro ⟨r, hr, h⟩
    rw [e2 r hr] at h
    exact ⟨ix r, (h2 r hr).1, h⟩
  · intro h
    obtain ⟨j, ⟨hj, hx⟩, hl⟩ := pk_least _ h
    obtain ⟨r, hr, e⟩ := h3 j hj (fun a ha z => hl a ha ⟨by omega, bg_eqw_t (bg_eqw_s z) hx⟩)
    exact ⟨r, hr, by rw [e2 r hr, e]; exact hx⟩
/-! group -/
def bg_in (q v : Int32) : Int32 := if q = 0 then 0 else if q = 1 then 0 else v
def bg_st (q a v : Int32) : Int32 := if q = 0 then a + v else if q = 1 then a + 1 else if q = 2 then (if v < a then v else a) else (if v ≤ a then a else v)
def bg_tot (q : Int32) (ky vl : Nat → Int32) (k0 v0 : Int32) : Nat → Int32
  | 0 => bg_in q v0
  | j + 1 => if ky j = k0 then bg_st q (bg_tot q ky vl k0 v0 j) (vl j) else bg_tot q ky vl k0 v0 j
theorem bg_tot_t {q : Int32} {ky vl : Nat → Int32} {k0 v0 : Int32} {j : Nat} (h : ky j = k0) : bg_tot q ky vl k0 v0 (j + 1) = bg_st q (bg_tot q ky vl k0 v0 j) (vl j) := if_pos h
theorem bg_tot_f {q : Int32} {ky vl : Nat → Int32} {k0 v0 : Int32} {j : Nat} (h : ¬ ky j = k0) : bg_tot q ky vl k0 v0 (j + 1) = bg_tot q ky vl k0 v0 j := if_neg h
def bg_grow (q : Int32) (ky vl : Nat → Int32) (N i : Nat) : Nat → Int32 := fun c => if c = 0 then ky i else bg_tot q ky vl (ky i) (vl i) N
def bg_fst (ky : Nat → Int32) (i : Nat) : Prop := ∀ j, j < i → ¬ ky j = ky i
noncomputable def bs_grp (q : Int32) (ky vl : Nat → Int32) (N i : Nat) : bg_T := bg_sel bg_0 (bg_fst ky) (bg_grow q ky vl N) i
theorem bg_tot_lo {q : Int32} {ky vl : Nat → Int32} {i : Nat} {v0 : Int32} (h : bg_fst ky i) : ∀ N, N ≤ i → bg_tot q ky vl (ky i) v0 N = bg_in q v0 := by
  intro N
  induction N with
  | zero => exact fun _ => rfl
  | succ N ih => exact fun hN => (bg_tot_f (h N hN)).trans (ih (by omega))
theorem bg_st_in (q v : Int32) : bg_st q (bg_in q v) v = if q = 1 then 1 else v := by
  unfold bg_st bg_in
  by_cases h0 : q = 0
  · subst h0
    simp
  · by_cases h1 : q = 1
    · subst h1
      simp
    · by_cases h2 : q = 2
      · subst h2
        simp
      · simp [h0, h1, h2]
theorem bg_tot_first {q : Int32} {ky vl : Nat → Int32} {i : Nat} (h : bg_fst ky i) : bg_tot q ky vl (ky i) (vl i) (i + 1) = if q = 1 then 1 else vl i := by
  rw [bg_tot_t rfl, bg_tot_lo h i (Nat.le_refl i), bg_st_in]
theorem bg_grp_fst {q : Int32} {ky vl : Nat → Int32} {N i : Nat} : (∃ r, r < (bs_grp q ky vl N i).1 ∧ (bs_grp q ky vl N i).2 r 0 = ky i) ↔ ¬ bg_fst ky i := by
  obtain ⟨m, ix, h1, h2, h3, h4⟩ := bg_ix (bg_fst ky) i
  obtain ⟨e1, e2⟩ := h1 (bg_grow q ky vl N)
  unfold bs_grp
  rw [e1]
  constructor
  · rintro ⟨r, hr, h⟩ hf
    rw [e2 r hr] at h
    exact hf (ix r) (h2 r hr).1 h
  · intro h
    have h' : ∃ j, j < i ∧ ky j = ky i := by
      refine Classical.byContradiction fun z => h fun j hj e => z ⟨j, hj, e⟩
    obtain ⟨j, ⟨hj, hx⟩, hl⟩ := pk_least _ h'
    obtain ⟨r, hr, e⟩ := h3 j hj (fun a ha z => hl a ha ⟨by omega, z.trans hx⟩)
    exact ⟨r, hr, by rw [e2 r hr, e]; exact hx⟩
theorem bg_grp_new {q : Int32} {ky vl : Nat → Int32} {i : Nat} (hf : bg_fst ky i) : (bs_grp q ky vl (i + 1) (i + 1)).1 = (bs_grp q ky vl i i).1 + 1 ∧
    ∀ r, r < (bs_grp q ky vl i i).1 + 1 → (bs_grp q ky vl (i + 1) (i + 1)).2 r = if r = (bs_grp q ky vl i i).1 then (fun c => if c = 0 then ky i else if q = 1 then 1 else vl i) else (bs_grp q ky vl i i).2 r := by
  obtain ⟨m, ix, h1, h2, h3, h4⟩ := bg_ix (bg_fst ky) i
  obtain ⟨e1, e2⟩ := h1 (bg_grow q ky vl i)
  obtain ⟨d1, d2⟩ := h1 (bg_grow q ky vl (i + 1))
  unfold bs_grp
  rw [bg_sel_t hf, e1]
  refine ⟨by show _ + 1 = _; rw [d1], fun r hr => ?_⟩
  show (if r = (bg_sel bg_0 (bg_fst ky) (bg_grow q ky vl (i + 1)) i).1 then bg_grow q ky vl (i + 1) i else (bg_sel bg_0 (bg_fst ky) (bg_grow q ky vl (i + 1)) i).2 r) = _
  rw [d1]
  by_cases hm : r = m
  · rw [if_pos hm, if_pos hm]
    funext c
    show (if c = 0 then ky i else bg_tot q ky vl (ky i) (vl i) (i + 1)) = _
    rw [bg_tot_first hf]
  · rw [if_neg hm, if_neg hm, d2 r (by omega), e2 r (by omega)]
    funext c
    show (if c = 0 then _ else bg_tot q ky vl _ _ (i + 1)) = (if c = 0 then _ else bg_tot q ky vl _ _ i)
    rw [bg_tot_f (fun z => hf (ix r) (h2 r (by omega)).1 z.symm)]
theorem bg_grp_old {q : Int32} {ky vl : Nat → Int32} {i r : Nat} (hr : r < (bs_grp q ky vl i i).1) (hk : (bs_grp q ky vl i i).2 r 0 = ky i) : (bs_grp q ky vl (i + 1) (i + 1)).1 = (bs_grp q ky vl i i).1 ∧
    ∀ s, s < (bs_grp q ky vl i i).1 → ∀ c, c < 2 → (bs_grp q ky vl (i + 1) (i + 1)).2 s c = if s = r ∧ c = 1 then bg_st q ((bs_grp q ky vl i i).2 r 1) (vl i) else (bs_grp q ky vl i i).2 s c := by
  have hf : ¬ bg_fst ky i := bg_grp_fst.mp ⟨r, hr, hk⟩
  obtain ⟨m, ix, h1, h2, h3, h4⟩ := bg_ix (bg_fst ky) i
  obtain ⟨e1, e2⟩ := h1 (bg_grow q ky vl i)
  obtain ⟨d1, d2⟩ := h1 (bg_grow q ky vl (i + 1))
  unfold bs_grp at hr hk ⊢
  rw [bg_sel_f hf, e1]
  rw [e1] at hr
  rw [e2 r hr] at hk ⊢
  have hk' : ky (ix r) = ky i := hk
  refine ⟨d1, fun s hs c hc => ?_⟩
  rw [d2 s hs, e2 s hs]
  show (if c = 0 then ky (ix s) else bg_tot q ky vl (ky (ix s)) (vl (ix s)) (i + 1)) = if s = r ∧ c = 1 then bg_st q (bg_tot q ky vl (ky (ix r)) (vl (ix r)) i) (vl i) else (if c = 0 then ky (ix s) else bg_tot q ky vl (ky (ix s)) (vl (ix s)) i)
  by_cases hc0 : c = 0
  · rw [if_pos hc0, if_neg (by omega), if_pos hc0]
  · rw [if_neg hc0, if_neg hc0]
    by_cases hsr : s = r
    · rw [if_pos ⟨hsr, by omega⟩, hsr, bg_tot_t hk'.symm]
    · rw [if_neg (fun z => hsr z.1)]
      apply bg_tot_f
      intro z
      have z' : ky (ix r) = ky (ix s) := hk'.trans z
      rcases Nat.lt_or_gt_of_ne hsr with h | h
      · exact (h2 r hr).2 (ix s) (h4 s r h hr) z'.symm
      · exact (h2 s hs).2 (ix r) (h4 r s h hs) z'
end
section
/-! counting, the order of rows, sorted arrangements -/
noncomputable def bg_n (P : Prop) : Nat := bg_ci P 1 0
theorem bg_n1 {P : Prop} (h : P) : bg_n P = 1 := bg_ct h
theorem bg_n0 {P : Prop} (h : ¬ P) : bg_n P = 0 := bg_cf h
theorem bg_n_c {P Q : Prop} (h : P ↔ Q) : bg_n P = bg_n Q := by rw [propext h]
noncomputable def bg_cnt (P : Nat → Prop) : Nat → Nat
  | 0 => 0
  | n + 1 => bg_cnt P n + bg_n (P n)
theorem bg_cnt_s (P : Nat → Prop) (n : Nat) : bg_cnt P (n + 1) = bg_cnt P n + bg_n (P n) := rfl
theorem bg_cnt_t {P : Nat → Prop} {n : Nat} (h : P n) : bg_cnt P (n + 1) = bg_cnt P n + 1 := by rw [bg_cnt_s, bg_n1 h]
theorem bg_cnt_f {P : Nat → Prop} {n : Nat} (h : ¬ P n) : bg_cnt P (n + 1) = bg_cnt P n := by rw [bg_cnt_s, bg_n0 h]; rfl
theorem bg_cnt_c {P Q : Nat → Prop} : ∀ n, (∀ i, i < n → (P i ↔ Q i)) → bg_cnt P n = bg_cnt Q n := by
  intro n
  induction n with
  | zero => exact fun _ => rfl
  | succ n ih =>
    intro h
    rw [bg_cnt_s, bg_cnt_s, ih (fun i hi => h i (by omega)), bg_n_c (h n (by omega))]
theorem bg_cnt_m {P Q : Nat → Prop} : ∀ n, (∀ i, i < n → P i → Q i) → bg_cnt P n ≤ bg_cnt Q n := by
  intro n
  induction n with
  | zero => exact fun _ => Nat.le_refl _
  | succ n ih =>
    intro h
    have := ih (fun i hi => h i (by omega))
    by_cases hp : P n
    · rw [bg_cnt_t hp, bg_cnt_t (h n (by omega) hp)]
      omega
    · rw [bg_cnt_f hp, bg_cnt_s]
      omega
theorem bg_cnt_lt {P Q : Nat → Prop} {k : Nat} (hq : Q k) (hp : ¬ P k) : ∀ n, k < n → (∀ i, i < n → P i → Q i) → bg_cnt P n < bg_cnt Q n := by
  intro n
  induction n with
  | zero => exact fun h => absurd h (Nat.not_lt_zero k)
  | succ n ih =>
    intro hk h
    by_cases e : k = n
    · subst e
      have := bg_cnt_m (P := P) (Q := Q) k (fun i hi => h i (by omega))
      rw [bg_cnt_f hp, bg_cnt_t hq]
      omega
    · have := ih (by omega) (fun i hi => h i (by omega))
      by_cases hp : P n
      · rw [bg_cnt_t hp, bg_cnt_t (h n (by omega) hp)]
        omega
      · rw [bg_cnt_f hp, bg_cnt_s]
        omega
theorem bg_cnt_le (P : Nat → Prop) : ∀ n, bg_cnt P n ≤ n := by
  intro n
  induction n with
  | zero => exact Nat.le_refl _
  | succ n ih =>
    by_cases hp : P n
    · rw [bg_cnt_t hp]; omega
    · rw [bg_cnt_f hp]; omega
theorem bg_cnt_all {P : Nat → Prop} : ∀ n, (∀ i, i < n → P i) → bg_cnt P n = n := by
  intro n
  induction n with
  | zero => exact fun _ => rfl
  | succ n ih =>
    intro h
    rw [bg_cnt_t (h n (by omega)), ih (fun i hi => h i (by omega))]
theorem bg_cnt_u {P : Nat → Prop} {p : Nat} (Q : Prop) : ∀ n, p < n → bg_cnt (fun i => (i = p ∧ Q) ∨ (i ≠ p ∧ P i)) n + bg_n (P p) = bg_cnt P n + bg_n Q := by
  intro n
  induction n with
  | zero => exact fun h => absurd h (Nat.not_lt_zero p)
  | succ n ih =>
    intro h
    rw [bg_cnt_s, bg_cnt_s]
    by_cases e : p = n
    · subst e
      rw [bg_cnt_c (Q := P) p (fun i hi => ⟨fun z => z.elim (fun y => absurd y.1 (by omega)) (fun y => y.2), fun z => Or.inr ⟨by omega, z⟩⟩)]
      rw [bg_n_c (show ((p = p ∧ Q) ∨ (p ≠ p ∧ P p)) ↔ Q from ⟨fun z => z.elim (fun y => y.2) (fun y => absurd rfl y.1), fun z => Or.inl ⟨rfl, z⟩⟩)]
      omega
    · have := ih (by omega)
      rw [bg_n_c (show ((n = p ∧ Q) ∨ (n ≠ p ∧ P n)) ↔ P n from ⟨fun z => z.elim (fun y => absurd y.1.symm e) (fun y => y.2), fun z => Or.inr ⟨fun y => e y.symm, z⟩⟩)]
      omega
theorem bg_cnt_sw {P Q : Nat → Prop} {p q n : Nat} (hpq : p ≠ q) (hp : p < n) (hq : q < n) (h1 : Q p ↔ P q) (h2 : Q q ↔ P p) (h3 : ∀ i, i < n → i ≠ p → i ≠ q → (Q i ↔ P i)) : bg_cnt Q n = bg_cnt P n := by
  have a := bg_cnt_u (P := P) (p := p) (P q) n hp
  have b := bg_cnt_u (P := fun i => (i = p ∧ P q) ∨ (i ≠ p ∧ P i)) (p := q) (P p) n hq
  have c : bg_cnt Q n = bg_cnt (fun i => (i = q ∧ P p) ∨ (i ≠ q ∧ ((i = p ∧ P q) ∨ (i ≠ p ∧ P i)))) n := by
    refine bg_cnt_c n fun i hi => ?_
    by_cases e1 : i = q
    · subst e1
      exact h2.trans ⟨fun z => Or.inl ⟨rfl, z⟩, fun z => z.elim (fun y => y.2) (fun y => absurd rfl y.1)⟩
    · by_cases e2 : i = p
      · subst e2
        exact h1.trans ⟨fun z => Or.inr ⟨e1, Or.inl ⟨rfl, z⟩⟩, fun z => z.elim (fun y => absurd y.1 e1) (fun y => y.2.elim (fun x => x.2) (fun x => absurd rfl x.1))⟩
      · exact (h3 i hi e2 e1).trans ⟨fun z => Or.inr ⟨e1, Or.inr ⟨e2, z⟩⟩, fun z => z.elim (fun y => absurd y.1 e1) (fun y => y.2.elim (fun x => absurd x.1 e2) (fun x => x.2))⟩
  have d : bg_n ((q = p ∧ P q) ∨ (q ≠ p ∧ P q)) = bg_n (P q) := bg_n_c ⟨fun z => z.elim (fun y => y.2) (fun y => y.2), fun z => Or.inr ⟨fun y => hpq y.symm, z⟩⟩
  rw [d] at b
  omega
theorem bg_cnt_or {P Q : Nat → Prop} : ∀ n, (∀ i, i < n → P i → ¬ Q i) → bg_cnt (fun i => P i ∨ Q i) n = bg_cnt P n + bg_cnt Q n := by
  intro n
  induction n with
  | zero => exact fun _ => rfl
  | succ n ih =>
    intro h
    have := ih (fun i hi => h i (by omega))
    by_cases hp : P n
    · rw [bg_cnt_t (P := fun i => P i ∨ Q i) (Or.inl hp), bg_cnt_t hp, bg_cnt_f (h n (by omega) hp)]
      omega
    · by_cases hq : Q n
      · rw [bg_cnt_t (P := fun i => P i ∨ Q i) (Or.inr hq), bg_cnt_f hp, bg_cnt_t hq]
        omega
      · rw [bg_cnt_f (P := fun i => P i ∨ Q i) (fun z => z.elim hp hq), bg_cnt_f hp, bg_cnt_f hq]
        omega
theorem bg_cnt_lo {E : Nat → Prop} {i : Nat} : ∀ n, i ≤ n → bg_cnt (fun j => E j ∧ j < i) n = bg_cnt E i := by
  intro n
  induction n with
  | zero =>
    intro h
    obtain rfl : i = 0 := by omega
    rfl
  | succ n ih =>
    intro h
    by_cases e : i = n + 1
    · subst e
      exact bg_cnt_c _ fun j hj => ⟨fun z => z.1, fun z => ⟨z, hj⟩⟩
    · rw [bg_cnt_f (P := fun j => E j ∧ j < i) (fun z => by have := z.2; omega)]
      exact ih (by omega)
theorem bg_cnt_iv {E : Nat → Prop} {t : Nat} : ∀ n, t < bg_cnt E n → ∃ i, i < n ∧ E i ∧ bg_cnt E i = t := by
  intro n
  induction n with
  | zero => exact fun h => absurd h (Nat.not_lt_zero t)
  | succ n ih =>
    intro h
    by_cases e : t < bg_cnt E n
    · obtain ⟨i, hi, a, b⟩ := ih e
      exact ⟨i, by omega, a, b⟩
    · by_cases hp : E n
      · rw [bg_cnt_t hp] at h
        exact ⟨n, by omega, hp, by omega⟩
      · rw [bg_cnt_f hp] at h
        omega
theorem bg_cnt_dc {D : Nat → Prop} : ∀ n, (∀ a b, a < b → b < n → D b → D a) → ∀ p, p < n → (D p ↔ p < bg_cnt D n) := by
  intro n
  induction n with
  | zero => exact fun _ p h => absurd h (Nat.not_lt_zero p)
  | succ n ih =>
    intro h p hp
    by_cases hd : D n
    · have ha : ∀ i, i < n + 1 → D i := fun i hi => by
        by_cases e : i = n
        · exact e ▸ hd
        · exact h i n (by omega) (by omega) hd
      rw [bg_cnt_all (n + 1) ha]
      exact ⟨fun _ => hp, fun _ => ha p hp⟩
    · rw [bg_cnt_f hd]
      by_cases e : p = n
      · subst e
        have := bg_cnt_le D p
        exact ⟨fun z => absurd z hd, fun z => by omega⟩
      · exact ih (fun a b hab hb => h a b hab (by omega)) p (by omega)
/-! the order of rows -/
def bg_lt (w : Nat) (a b : Nat → Int32) : Prop := ∃ c, c < w ∧ (∀ d, d < c → a d = b d) ∧ a c < b c
theorem bg_lt_tr {w : Nat} {a b e : Nat → Int32} (h : bg_lt w a b) (k : bg_lt w b e) : bg_lt w a e := by
  obtain ⟨c, hc, h1, h2⟩ := h
  obtain ⟨d, hd, k1, k2⟩ := k
  rcases Nat.lt_trichotomy c d with l | l | l
  · exact ⟨c, hc, fun x hx => (h1 x hx).trans (k1 x (by omega)), by rw [← k1 c l]; exact h2⟩
  · subst l
    exact ⟨c, hc, fun x hx => (h1 x hx).trans (k1 x hx), Int32.lt_trans h2 k2⟩
  · exact ⟨d, hd, fun x hx => (h1 x (by omega)).trans (k1 x hx), by rw [h1 d l]; exact k2⟩
theorem bg_lt_ir {w : Nat} {a : Nat → Int32} : ¬ bg_lt w a a := fun ⟨_, _, _, h⟩ => Int32.lt_irrefl h
theorem bg_lt_as {w : Nat} {a b : Nat → Int32} (h : bg_lt w a b) : ¬ bg_lt w b a := fun k => bg_lt_ir (bg_lt_tr h k)
theorem bg_lt_ne {w : Nat} {a b : Nat → Int32} (h : bg_eqw w a b) : ¬ bg_lt w a b := fun ⟨c, hc, _, k⟩ => by
  rw [h c hc] at k
  exact Int32.lt_irrefl k
theorem bg_lt_3 (w : Nat) (a b : Nat → Int32) : bg_lt w a b ∨ bg_eqw w a b ∨ bg_lt w b a := by
  by_cases h : bg_eqw w a b
  · exact Or.inr (Or.inl h)
  · have h' : ∃ c, c < w ∧ ¬ a c = b c := Classical.byContradiction fun z => h fun c hc => Classical.byContradiction fun y => z ⟨c, hc, y⟩
    obtain ⟨c, ⟨hc, hne⟩, hl⟩ := pk_least _ h'
    have e : ∀ d, d < c → a d = b d := fun d hd => Classical.byContradiction fun y => hl d hd ⟨by omega, y⟩
    by_cases l : a c < b c
    · exact Or.inl ⟨c, hc, e, l⟩
    · refine Or.inr (Or.inr ⟨c, hc, fun d hd => (e d hd).symm, ?_⟩)
      rcases Int32.le_total (a c) (b c) with y | y
      · exact absurd (Int32.lt_of_le_of_ne y hne) l
      · exact Int32.lt_of_le_of_ne y (fun z => hne z.symm)
theorem bg_lt_c {w : Nat} {a a' b b' : Nat → Int32} (h : bg_eqw w a a') (k : bg_eqw w b b') (l : bg_lt w a b) : bg_lt w a' b' := by
  obtain ⟨c, hc, h1, h2⟩ := l
  exact ⟨c, hc, fun d hd => by rw [← h d (by omega), ← k d (by omega)]; exact h1 d hd, by rw [← h c hc, ← k c hc]; exact h2⟩
theorem bg_le_lt {w : Nat} {x y v : Nat → Int32} (h : ¬ bg_lt w y x) (k : bg_lt w y v) : bg_lt w x v := by
  rcases bg_lt_3 w x y with l | l | l
  · exact bg_lt_tr l k
  · exact bg_lt_c (bg_eqw_s l) (fun _ _ => rfl) k
  · exact absurd l h
theorem bg_lt_le {w : Nat} {v x y : Nat → Int32} (k : bg_lt w v x) (h : ¬ bg_lt w y x) : bg_lt w v y := by
  rcases bg_lt_3 w x y with l | l | l
  · exact bg_lt_tr k l
  · exact bg_lt_c (fun _ _ => rfl) l k
  · exact absurd l h
def bg_perm (n w : Nat) (g S : Nat → Nat → Int32) : Prop := ∀ P : (Nat → Int32) → Prop, (∀ x y, bg_eqw w x y → P x → P y) → bg_cnt (fun i => P (S i)) n = bg_cnt (fun i => P (g i)) n
def bg_srt (n w : Nat) (g S : Nat → Nat → Int32) : Prop := (∀ a b, a < b → b < n → ¬ bg_lt w (S b) (S a)) ∧ bg_perm n w g S
def bg_bef (w : Nat) (g : Nat → Nat → Int32) (j i : Nat) : Prop := bg_lt w (g j) (g i) ∨ (bg_eqw w (g j) (g i) ∧ j < i)
noncomputable def bg_pl (n w : Nat) (g : Nat → Nat → Int32) (i : Nat) : Nat := bg_cnt (fun j => bg_bef w g j i) n
theorem bg_seg {n w : Nat} {g S : Nat → Nat → Int32} (h : bg_srt n w g S) (v : Nat → Int32) {p : Nat} (hp : p < n) :
    (bg_lt w (S p) v ↔ p < bg_cnt (fun j => bg_lt w (g j) v) n) ∧ (¬ bg_lt w v (S p) ↔ p < bg_cnt (fun j => ¬ bg_lt w v (g j)) n) := by
  obtain ⟨h1, h2⟩ := h
  constructor
  · rw [← h2 (fun x => bg_lt w x v) (fun x y e l => bg_lt_c e (fun _ _ => rfl) l)]
    exact bg_cnt_dc (D := fun i => bg_lt w (S i) v) n (fun a b hab hb l => bg_le_lt (h1 a b hab hb) l) p hp
  · rw [← h2 (fun x => ¬ bg_lt w v x) (fun x y e l z => l (bg_lt_c (fun _ _ => rfl) (bg_eqw_s e) z))]
    exact bg_cnt_dc (D := fun i => ¬ bg_lt w v (S i)) n (fun a b hab hb l z => l (bg_lt_le z (h1 a b hab hb))) p hp
theorem bg_pl_lt {n w : Nat} {g : Nat → Nat → Int32} {i : Nat} (hi : i < n) : bg_pl n w g i < bg_cnt (fun j => ¬ bg_lt w (g i) (g j)) n := by
  refine bg_cnt_lt (k := i) bg_lt_ir (fun z => z.elim bg_lt_ir (fun y => Nat.lt_irrefl i y.2)) n hi (fun j _ z => ?_)
  rcases z with z | z
  · exact bg_lt_as z
  · exact bg_lt_ne (bg_eqw_s z.1)
theorem bg_pl_n {n w : Nat} {g : Nat → Nat → Int32} {i : Nat} (hi : i < n) : bg_pl n w g i < n := Nat.lt_of_lt_of_le (bg_pl_lt hi) (bg_cnt_le _ n)
theorem bg_pl_at {n w : Nat} {g S : Nat → Nat → Int32} (h : bg_srt n w g S) {i : Nat} (hi : i < n) : bg_eqw w (S (bg_pl n w g i)) (g i) := by
  obtain ⟨a, b⟩ := bg_seg h (g i) (bg_pl_n (w := w) (g := g) hi)
  have h1 : bg_cnt (fun j => bg_lt w (g j) (g i)) n ≤ bg_pl n w g i := bg_cnt_m n (fun j _ z => Or.inl z)
  have h2 := b.mpr (bg_pl_lt hi)
  rcases bg_lt_3 w (S (bg_pl n w g i)) (g i) with l | l | l
  · have := a.mp l
    omega
  · exact l
  · exact absurd l h2
theorem bg_pl_on {n w : Nat} {g S : Nat → Nat → Int32} (h : bg_srt n w g S) {p : Nat} (hp : p < n) : ∃ i, i < n ∧ bg_pl n w g i = p := by
  obtain ⟨a, b⟩ := bg_seg h (S p) hp
  have h1 : ¬ p < bg_cnt (fun j => bg_lt w (g j) (S p)) n := fun z => bg_lt_ir (a.mpr z)
  have h2 := b.mp bg_lt_ir
  have h3 : bg_cnt (fun j => ¬ bg_lt w (S p) (g j)) n = bg_cnt (fun j => bg_lt w (g j) (S p)) n + bg_cnt (fun j => bg_eqw w (g j) (S p)) n := by
    rw [← bg_cnt_or n (fun i _ z y => bg_lt_ne y z)]
    refine bg_cnt_c n fun j _ => ⟨fun z => ?_, fun z => ?_⟩
    · rcases bg_lt_3 w (g j) (S p) with l | l | l
      · exact Or.inl l
      · exact Or.inr l
      · exact absurd l z
    · rcases z with z | z
      · exact bg_lt_as z
      · exact bg_lt_ne (bg_eqw_s z)
  obtain ⟨i, hi, he, hc⟩ := bg_cnt_iv (E := fun j => bg_eqw w (g j) (S p)) (t := p - bg_cnt (fun j => bg_lt w (g j) (S p)) n) n (by omega)
  refine ⟨i, hi, ?_⟩
  have h4 : bg_pl n w g i = bg_cnt (fun j => bg_lt w (g j) (S p)) n + bg_cnt (fun j => bg_eqw w (g j) (S p) ∧ j < i) n := by
    rw [← bg_cnt_or n (fun i _ z y => bg_lt_ne y.1 z)]
    refine bg_cnt_c n fun j _ => ⟨fun z => ?_, fun z => ?_⟩
    · rcases z with z | z
      · exact Or.inl (bg_lt_c (fun _ _ => rfl) he z)
      · exact Or.inr ⟨bg_eqw_t z.1 he, z.2⟩
    · rcases z with z | z
      · exact Or.inl (bg_lt_c (fun _ _ => rfl) (bg_eqw_s he) z)
      · exact Or.inr ⟨bg_eqw_t z.1 (bg_eqw_s he), z.2⟩
  rw [h4, bg_cnt_lo n (by omega), hc]
  omega
end
section
/-! the component: rows of a bag -/
theorem xr_ad (k m : Nat) : (nI k * 21 + nI m) * 6 = nI ((k * 21 + m) * 6) := by
  rw [show (21 : Int32) = nI 21 from rfl, show (6 : Int32) = nI 6 from rfl, pk_mul, nI_add, pk_mul]
def xb_B (k w : Nat) (b : bg_T) (bc br : Nat → Int32) : Prop := br k = nI b.1 ∧ ∀ r, r < b.1 → r < 20 → ∀ c, c < w → bc ((k * 21 + r) * 6 + c) = b.2 r c
def xb_I (bc0 br0 : Nat → Int32) (k w : Nat) (b : bg_T) (bc br : Nat → Int32) : Prop := xb_B k w b bc br ∧ (∀ j, j < k * 126 → bc j = bc0 j) ∧ (∀ m, m ≠ k → br m = br0 m)
theorem xb_I0 {bc br : Nat → Int32} {k w : Nat} (h : br k = nI 0) : xb_I bc br k w bg_0 bc br := ⟨⟨h, fun r hr => absurd hr (Nat.not_lt_zero r)⟩, fun _ _ => rfl, fun _ _ => rfl⟩
theorem xb_in {bc0 br0 bc br : Nat → Int32} {k w l wl i c : Nat} {b bl : bg_T} (hI : xb_I bc0 br0 k w b bc br) (hB : xb_B l wl bl bc0 br0) (hl : l < k) (hi : i < bl.1) (h20 : i < 20) (hc : c < wl) (hwl : wl ≤ 6) : bc ((l * 21 + i) * 6 + c) = bl.2 i c := by
  rw [hI.2.1 _ (by omega)]
  exact hB.2 i hi h20 c hc
theorem xb_keep {bc0 br0 bc br : Nat → Int32} {k w l wl : Nat} {b bl : bg_T} (hI : xb_I bc0 br0 k w b bc br) (hB : xb_B l wl bl bc0 br0) (hl : l < k) (hwl : wl ≤ 6) : xb_B l wl bl bc br :=
  ⟨(hI.2.2 l (by omega)).trans hB.1, fun r hr h20 c hc => xb_in hI hB hl hr h20 hc hwl⟩
theorem xb_cg {bc0 br0 bc br : Nat → Int32} {k w : Nat} {b b' : bg_T} (hI : xb_I bc0 br0 k w b bc br) (h1 : b'.1 = b.1) (h2 : ∀ r, r < b.1 → ∀ c, c < w → b'.2 r c = b.2 r c) : xb_I bc0 br0 k w b' bc br :=
  ⟨⟨by rw [h1]; exact hI.1.1, fun r hr h20 c hc => by rw [h1] at hr; rw [h2 r hr c hc]; exact hI.1.2 r hr h20 c hc⟩, hI.2⟩
theorem xb_push {bc0 br0 bc br bc' : Nat → Int32} {k w m : Nat} {b : bg_T} {row : Nat → Int32} (hI : xb_I bc0 br0 k w b bc br) (hw : w ≤ 6) (hm : (b.1 < 20 ∧ m = b.1) ∨ (20 ≤ b.1 ∧ m = 20))
    (hf : ∀ j, j < (k * 21 + m) * 6 ∨ (k * 21 + m) * 6 + 6 ≤ j → bc' j = bc j) (hr : ∀ c, c < w → bc' ((k * 21 + m) * 6 + c) = row c) : xb_I bc0 br0 k w (bg_push b row) bc' (upd br k (nI (b.1 + 1))) := by
  refine ⟨⟨pk_us, fun r h h20 c hc => ?_⟩, fun j hj => ?_, fun x hx => ?_⟩
  · have h' : r < b.1 + 1 := h
    show bc' _ = (if r = b.1 then row else b.2 r) c
    by_cases e : r = b.1
    · rw [if_pos e, ← hr c hc]
      have : m = r := by omega
      rw [this]
    · rw [if_neg e, hf _ (by omega)]
      exact hI.1.2 r (by omega) h20 c hc
  · rw [hf j (by omega)]
    exact hI.2.1 j hj
  · rw [pk_un hx]
    exact hI.2.2 x hx
section
variable {nc rr rw : Int32} {tc tr nk nw nl nr nf ns nt nu ip rc : Nat → Int32}
theorem xb_rs {post : Int32 → Prop} {u : SX} {k i : Nat} (h : post (nI ((k * 21 + i) * 6))) : wpX_rowStart post u (nI k) (nI i) := by
  show post ((nI k * 21 + nI i) * 6)
  rw [xr_ad]
  exact h
theorem xb_addRow {post : Int32 → SX → Prop} {bc br : Nat → Int32} {k n : Nat} (hk : k < 12) (hn : br k = nI n) (hn' : n < 1000000)
    (h : ∀ m, ((n < 20 ∧ m = n) ∨ (20 ≤ n ∧ m = 20)) → post (nI ((k * 21 + m) * 6)) (nc, rr, rw, tc, tr, nk, nw, nl, nr, nf, ns, nt, nu, ip, bc, upd br k (nI (n + 1)), rc)) : wpX_addRow post (nc, rr, rw, tc, tr, nk, nw, nl, nr, nf, ns, nt, nu, ip, bc, br, rc) (nI k) := by
  have ck : (nI k).toNatClampNeg = k := nI_clamp (by omega)
  refine ⟨vp_in_nI hk (by decide), nm_r (e' := nI n) (by rw [ck]; exact hn) ⟨vp_in_nI hk (by decide), nm_r (e' := upd br k (nI (n + 1))) (by rw [ck, nI_1]) ?_⟩⟩
  refine pk_le 20 n (fun hc => ?_) (fun hc => ?_)
  · exact xb_rs (h 20 (Or.inr ⟨hc, rfl⟩))
  · exact xb_rs (h n (Or.inl ⟨hc, rfl⟩))
theorem xb_copy {post : SX → Prop} {bc br : Nat → Int32} {a t w : Nat} (hat : a + w ≤ t) (ht : t + w ≤ 1512)
    (h : ∀ bc', (∀ j, j < t ∨ t + w ≤ j → bc' j = bc j) → (∀ c, c < w → bc' (t + c) = bc (a + c)) → post (nc, rr, rw, tc, tr, nk, nw, nl, nr, nf, ns, nt, nu, ip, bc', br, rc)) : wpX_copyCells post (nc, rr, rw, tc, tr, nk, nw, nl, nr, nf, ns, nt, nu, ip, bc, br, rc) (nI a) (nI t) (nI w) := by
  refine loop_0 (fun n i s => wX_copyCells_3 post (nI a) (nI t) (nI w) nc rr rw n (nI i) tc tr nk nw nl nr nf ns nt nu ip s br rc) (fun i s => (∀ j, j < t ∨ t + i ≤ j → s j = bc j) ∧ (∀ c, c < i → s (t + c) = bc (a + c))) w bc ⟨fun _ _ => rfl, fun c hc => absurd hc (Nat.not_lt_zero c)⟩ ?_ ?_
  · rintro n s ⟨h1, h2⟩
    exact br_t (nI_le (Nat.le_refl w) (by omega)) (h s h1 h2)
  · rintro n i s hi ⟨h1, h2⟩ ih
    refine br_f (nI_ge hi (by omega)) ⟨?_, ?_, ?_⟩
    · rw [nI_add]
      exact vp_in_nI (by omega) (by decide)
    · rw [nI_add]
      exact vp_in_nI (by omega) (by decide)
    · refine nm_r (e' := upd s (t + i) (s (a + i))) (by rw [nI_add, nI_add, nI_clamp (by omega), nI_clamp (by omega)]) ?_
      refine nm_r (nI_1 i) (ih (upd s (t + i) (s (a + i))) ⟨fun j hj => ?_, fun c hc => ?_⟩)
      · rw [pk_un (by omega)]
        exact h1 j (by omega)
      · by_cases e : c = i
        · subst e
          rw [pk_us]
          exact h1 _ (Or.inl (by omega))
        · rw [pk_un (by omega)]
          exact h2 c (by omega)
theorem xb_addCopy {post : SX → Prop} {bc0 br0 bc br row : Nat → Int32} {k w a : Nat} {b : bg_T} (hI : xb_I bc0 br0 k w b bc br) (hk : k < 12) (hb : b.1 < 1000000) (hw : nw k = nI w) (hw6 : w ≤ 6) (ha : a + w ≤ k * 126)
    (hrow : ∀ c, c < w → bc (a + c) = row c) (h : ∀ bc' br', xb_I bc0 br0 k w (bg_push b row) bc' br' → post (nc, rr, rw, tc, tr, nk, nw, nl, nr, nf, ns, nt, nu, ip, bc', br', rc)) : wpX_addCopy post (nc, rr, rw, tc, tr, nk, nw, nl, nr, nf, ns, nt, nu, ip, bc, br, rc) (nI k) (nI a) := by
  unfold wpX_addCopy
  dsimp only
  refine xb_addRow hk hI.1.1 hb fun m hm => ?_
  dsimp only
  refine ⟨vp_in_nI hk (by decide), ?_⟩
  rw [nI_clamp (show k < 2 ^ 31 by omega), hw]
  refine xb_copy (by omega) (by omega) fun bc' h1 h2 => ?_
  exact h _ _ (xb_push hI hw6 hm (fun j hj => h1 j (by omega)) (fun c hc => (h2 c hc).trans (hrow c hc)))
theorem xb_find {post : Int32 → Prop} {bc br : Nat → Int32} {k c n : Nat} {x : Int32} (hk : k < 12) (hn : br k = nI n) (hn' : n ≤ 20) (hc : c < 6)
    (h0 : (∀ r, r < n → ¬ bc ((k * 21 + r) * 6 + c) = x) → post (-1)) (h1 : ∀ r, r < n → bc ((k * 21 + r) * 6 + c) = x → post (nI ((k * 21 + r) * 6))) : wpX_findValue post (nc, rr, rw, tc, tr, nk, nw, nl, nr, nf, ns, nt, nu, ip, bc, br, rc) (nI k) (nI c) x := by
  have ck : (nI k).toNatClampNeg = k := nI_clamp (by omega)
  refine loop_0 (fun n i (_ : Unit) => wX_findValue_3 post (nI k) (nI c) x nc rr rw tc tr nk nw nl nr nf ns nt nu ip bc br rc n (nI i)) (fun i _ => ∀ r, r < i → ¬ bc ((k * 21 + r) * 6 + c) = x) n () (fun r hr => absurd hr (Nat.not_lt_zero r)) ?_ ?_
  · intro f s hI
    refine ⟨vp_in_nI hk (by decide), ?_⟩
    rw [ck, hn]
    exact br_t (nI_le (Nat.le_refl n) (by omega)) (h0 hI)
  · intro f i s hi hI ih
    refine ⟨vp_in_nI hk (by decide), ?_⟩
    rw [ck, hn]
    refine br_f (nI_ge hi (by omega)) (xb_rs ?_)
    rw [nI_add, nI_clamp (by omega)]
    refine ⟨vp_in_nI (by omega) (by decide), br_c (fun e => h1 i hi e) (fun e => nm_r (nI_1 i) (ih () fun r hr => ?_))⟩
    by_cases er : r = i
    · subst er
      exact e
    · exact hI r (by omega)
theorem xb_fd {post : Int32 → Prop} {bc br : Nat → Int32} {a b w : Nat} (ha : a + w ≤ 1512) (hb : b + w ≤ 1512)
    (h : ∀ c, c ≤ w → (∀ d, d < c → bc (a + d) = bc (b + d)) → (c < w → ¬ bc (a + c) = bc (b + c)) → post (nI c)) : wpX_firstDifference post (nc, rr, rw, tc, tr, nk, nw, nl, nr, nf, ns, nt, nu, ip, bc, br, rc) (nI a) (nI b) (nI w) := by
  refine loop_0 (fun n i (_ : Unit) => wX_firstDifference_3 post (nI a) (nI b) (nI w) nc rr rw tc tr nk nw nl nr nf ns nt nu ip bc br rc n (nI i)) (fun i _ => ∀ d, d < i → bc (a + d) = bc (b + d)) w () (fun r hr => absurd hr (Nat.not_lt_zero r)) ?_ ?_
  · intro f s hI
    exact br_t (nI_le (Nat.le_refl w) (by omega)) (h w (Nat.le_refl w) hI (fun z => absurd z (Nat.lt_irrefl w)))
  · intro f i s hi hI ih
    refine br_f (nI_ge hi (by omega)) ?_
    rw [nI_add, nI_add, nI_clamp (by omega), nI_clamp (by omega)]
    refine ⟨vp_in_nI (by omega) (by decide), vp_in_nI (by omega) (by decide), br_c (fun e => nm_r (nI_1 i) (ih () fun r hr => ?_)) (fun e => h i (by omega) hI (fun _ => e))⟩
    by_cases er : r = i
    · subst er
      exact e
    · exact hI r (by omega)
theorem xb_hasRow {post : Int32 → Prop} {bc br : Nat → Int32} {k a n w : Nat} (hk : k < 12) (hn : br k = nI n) (hn' : n ≤ 20) (hw : nw k = nI w) (hw6 : w ≤ 6) (ha : a + w ≤ 1512)
    (h0 : (∀ r, r < n → ¬ bg_eqw w (fun c => bc ((k * 21 + r) * 6 + c)) (fun c => bc (a + c))) → post 0) (h1 : ∀ r, r < n → bg_eqw w (fun c => bc ((k * 21 + r) * 6 + c)) (fun c => bc (a + c)) → post 1) : wpX_hasRow post (nc, rr, rw, tc, tr, nk, nw, nl, nr, nf, ns, nt, nu, ip, bc, br, rc) (nI k) (nI a) := by
  have ck : (nI k).toNatClampNeg = k := nI_clamp (by omega)
  refine loop_0 (fun n i (_ : Unit) => wX_hasRow_2 post (nI k) (nI a) nc rr rw tc tr nk nw nl nr nf ns nt nu ip bc br rc n (nI i)) (fun i _ => ∀ r, r < i → ¬ bg_eqw w (fun c => bc ((k * 21 + r) * 6 + c)) (fun c => bc (a + c))) n () (fun r hr => absurd hr (Nat.not_lt_zero r)) ?_ ?_
  · intro f s hI
    refine ⟨vp_in_nI hk (by decide), ?_⟩
    rw [ck, hn]
    exact br_t (nI_le (Nat.le_refl n) (by omega)) (h0 hI)
  · intro f i s hi hI ih
    refine ⟨vp_in_nI hk (by decide), ?_⟩
    rw [ck, hn]
    refine br_f (nI_ge hi (by omega)) (xb_rs ⟨vp_in_nI hk (by decide), ?_⟩)
    rw [hw]
    refine xb_fd (by omega) ha fun c hc e1 e2 => ⟨vp_in_nI hk (by decide), ?_⟩
    refine pk_eq c w (fun e => h1 i hi (by subst e; exact e1)) (fun e => nm_r (nI_1 i) (ih () fun r hr => ?_))
    by_cases er : r = i
    · subst er
      exact fun z => e2 (by omega) (z c (by omega))
    · exact hI r (by omega)
theorem xb_before {post : Int32 → Prop} {bc br : Nat → Int32} {a b w : Nat} (ha : a + w ≤ 1512) (hb : b + w ≤ 1512)
    (h1 : bg_lt w (fun c => bc (a + c)) (fun c => bc (b + c)) → post 1) (h0 : ¬ bg_lt w (fun c => bc (a + c)) (fun c => bc (b + c)) → post 0) : wpX_comesBefore post (nc, rr, rw, tc, tr, nk, nw, nl, nr, nf, ns, nt, nu, ip, bc, br, rc) (nI a) (nI b) (nI w) := by
  unfold wpX_comesBefore
  dsimp only
  refine xb_fd ha hb fun c hc e1 e2 => ?_
  refine pk_le w c (fun e => h0 (bg_lt_ne fun d hd => e1 d (by omega))) (fun e => ?_)
  rw [nI_add, nI_add, nI_clamp (by omega), nI_clamp (by omega)]
  refine ⟨vp_in_nI (by omega) (by decide), vp_in_nI (by omega) (by decide), br_c (fun l => h0 ?_) (fun l => h1 ⟨c, e, e1, Int32.not_le.mp l⟩)⟩
  rintro ⟨d, hd, f1, f2⟩
  rcases Nat.lt_trichotomy c d with x | x | x
  · exact e2 e (f1 c x)
  · subst x
    exact Int32.not_lt.mpr l f2
  · have := e1 d x
    dsimp only at f2
    rw [this] at f2
    exact Int32.lt_irrefl f2
theorem xb_swap {post : SX → Prop} {bc br : Nat → Int32} {a b w : Nat} (hab : a + w ≤ b ∨ b + w ≤ a) (ha : a + w ≤ 1512) (hb : b + w ≤ 1512)
    (h : ∀ bc', (∀ j, (j < a ∨ a + w ≤ j) → (j < b ∨ b + w ≤ j) → bc' j = bc j) → (∀ c, c < w → bc' (a + c) = bc (b + c)) → (∀ c, c < w → bc' (b + c) = bc (a + c)) → post (nc, rr, rw, tc, tr, nk, nw, nl, nr, nf, ns, nt, nu, ip, bc', br, rc)) : wpX_swapRows post (nc, rr, rw, tc, tr, nk, nw, nl, nr, nf, ns, nt, nu, ip, bc, br, rc) (nI a) (nI b) (nI w) := by
  refine loop_0 (fun n i s => wX_swapRows_3 post (nI a) (nI b) (nI w) nc rr rw n (nI i) tc tr nk nw nl nr nf ns nt nu ip s br rc) (fun i s => (∀ j, (j < a ∨ a + i ≤ j) → (j < b ∨ b + i ≤ j) → s j = bc j) ∧ (∀ c, c < i → s (a + c) = bc (b + c)) ∧ (∀ c, c < i → s (b + c) = bc (a + c))) w bc ⟨fun _ _ _ => rfl, fun c hc => absurd hc (Nat.not_lt_zero c), fun c hc => absurd hc (Nat.not_lt_zero c)⟩ ?_ ?_
  · rintro n s ⟨h1, h2, h3⟩
    exact br_t (nI_le (Nat.le_refl w) (by omega)) (h s h1 h2 h3)
  · rintro n i s hi ⟨h1, h2, h3⟩ ih
    refine br_f (nI_ge hi (by omega)) ?_
    rw [nI_add, nI_add, nI_clamp (by omega), nI_clamp (by omega)]
    refine ⟨vp_in_nI (by omega) (by decide), nm_e ⟨vp_in_nI (by omega) (by decide), vp_in_nI (by omega) (by decide), nm_e ⟨vp_in_nI (by omega) (by decide), nm_e (nm_r (nI_1 i) ?_)⟩⟩⟩
    refine ih (upd (upd s (a + i) (s (b + i))) (b + i) (s (a + i))) ⟨fun j hj1 hj2 => ?_, fun c hc => ?_, fun c hc => ?_⟩
    · rw [pk_un (by omega), pk_un (by omega)]
      exact h1 j (by omega) (by omega)
    · rw [pk_un (by omega)]
      by_cases e : c = i
      · subst e
        rw [pk_us]
        exact h1 _ (by omega) (by omega)
      · rw [pk_un (by omega)]
        exact h2 c (by omega)
    · by_cases e : c = i
      · subst e
        rw [pk_us]
        exact h1 _ (by omega) (by omega)
      · rw [pk_un (by omega), pk_un (by omega)]
        exact h3 c (by omega)
end
end
section
/-! what each kind of node gives -/
theorem bg_sel0_le (P : Nat → Prop) (row : Nat → Nat → Int32) (i : Nat) : (bg_sel bg_0 P row i).1 ≤ i := by
  have h := bg_sel_le bg_0 P row i
  have e : bg_0.1 = 0 := rfl
  omega
def bs_hold (x m y : Int32) : Prop := if m = 0 then x = y else if m = 1 then ¬ x = y else if m = 2 then x < y else if m = 3 then x ≤ y else if m = 4 then y < x else y ≤ x
theorem bs_h0 {x y : Int32} : bs_hold x (nI 0) y ↔ x = y := by
  unfold bs_hold; rw [if_pos (by decide)]
theorem bs_h1 {x y : Int32} : bs_hold x (nI 1) y ↔ ¬ x = y := by
  unfold bs_hold; rw [if_neg (by decide), if_pos (by decide)]
theorem bs_h2 {x y : Int32} : bs_hold x (nI 2) y ↔ x < y := by
  unfold bs_hold; rw [if_neg (by decide), if_neg (by decide), if_pos (by decide)]
theorem bs_h3 {x y : Int32} : bs_hold x (nI 3) y ↔ x ≤ y := by
  unfold bs_hold; rw [if_neg (by decide), if_neg (by decide), if_neg (by decide), if_pos (by decide)]
theorem bs_h4 {x y : Int32} : bs_hold x (nI 4) y ↔ y < x := by
  unfold bs_hold; rw [if_neg (by decide), if_neg (by decide), if_neg (by decide), if_neg (by decide), if_pos (by decide)]
theorem bs_h5 {x y : Int32} : bs_hold x (nI 5) y ↔ y ≤ x := by
  unfold bs_hold; rw [if_neg (by decide), if_neg (by decide), if_neg (by decide), if_neg (by decide), if_neg (by decide)]
def bs_op (m x y : Int32) : Int32 := if m = 0 then x + y else if m = 1 then x - y else if m = 2 then x * y else if m = 3 then (if y ≤ x then y else x) else (if x ≤ y then y else x)
theorem bs_o0 {x y : Int32} : bs_op (nI 0) x y = x + y := by
  unfold bs_op; rw [if_pos (by decide)]
theorem bs_o1 {x y : Int32} : bs_op (nI 1) x y = x - y := by
  unfold bs_op; rw [if_neg (by decide), if_pos (by decide)]
theorem bs_o2 {x y : Int32} : bs_op (nI 2) x y = x * y := by
  unfold bs_op; rw [if_neg (by decide), if_neg (by decide), if_pos (by decide)]
theorem bs_o3 {x y : Int32} : bs_op (nI 3) x y = if y ≤ x then y else x := by
  unfold bs_op; rw [if_neg (by decide), if_neg (by decide), if_neg (by decide), if_pos (by decide)]
theorem bs_o4 {x y : Int32} : bs_op (nI 4) x y = if x ≤ y then y else x := by
  unfold bs_op; rw [if_neg (by decide), if_neg (by decide), if_neg (by decide), if_neg (by decide)]
theorem bg_s0 {a v : Int32} : bg_st (nI 0) a v = a + v := by
  unfold bg_st; rw [if_pos (by decide)]
theorem bg_s1 {a v : Int32} : bg_st (nI 1) a v = a + 1 := by
  unfold bg_st; rw [if_neg (by decide), if_pos (by decide)]
theorem bg_s2 {a v : Int32} : bg_st (nI 2) a v = if v < a then v else a := by
  unfold bg_st; rw [if_neg (by decide), if_neg (by decide), if_pos (by decide)]
theorem bg_s3 {a v : Int32} : bg_st (nI 3) a v = if v ≤ a then a else v := by
  unfold bg_st; rw [if_neg (by decide), if_neg (by decide), if_neg (by decide)]
noncomputable def bs_scan (tc : Nat → Int32) (t i : Nat) : bg_T := bg_sel bg_0 (fun _ => True) (fun i c => tc ((t * 6 + i) * 3 + c)) i
noncomputable def bs_filter (b : bg_T) (c : Nat) (m y : Int32) (i : Nat) : bg_T := bg_sel bg_0 (fun i => bs_hold (b.2 i c) m y) b.2 i
noncomputable def bs_ext (b : bg_T) (w : Nat) (op : Int32) (x y : Nat) (i : Nat) : bg_T := bg_sel bg_0 (fun _ => True) (fun i c => if c < w then b.2 i c else bs_op op (b.2 i x) (b.2 i y)) i
noncomputable def bs_pick (b : bg_T) (x : Nat) (s t : Int32) (i : Nat) : bg_T := bg_sel bg_0 (fun _ => True) (fun i c => if c = 0 then b.2 i x else if c = 1 ∧ ¬ s = -1 then b.2 i s.toNatClampNeg else b.2 i t.toNatClampNeg) i
noncomputable def bs_semi (bl b : bg_T) (x y : Nat) (pos : Prop) (i : Nat) : bg_T := bg_sel bg_0 (fun i => (∃ j, j < b.1 ∧ b.2 j y = bl.2 i x) ↔ pos) bl.2 i
def bs_jrow (bl b : bg_T) (w i : Nat) : Nat → Nat → Int32 := fun j c => if c < w then bl.2 i c else b.2 j (c - w)
noncomputable def bs_join (bl b : bg_T) (w x y : Nat) : Nat → bg_T
  | 0 => bg_0
  | i + 1 => bg_sel (bs_join bl b w x y i) (fun j => bl.2 i x = b.2 j y) (bs_jrow bl b w i) b.1
theorem bs_join_le (bl b : bg_T) (w x y i : Nat) : (bs_join bl b w x y i).1 ≤ i * b.1 := by
  induction i with
  | zero => exact Nat.zero_le _
  | succ i ih =>
    have h := bg_sel_le (bs_join bl b w x y i) (fun j => bl.2 i x = b.2 j y) (bs_jrow bl b w i) b.1
    have e : (i + 1) * b.1 = i * b.1 + b.1 := Nat.succ_mul i b.1
    show (bg_sel _ _ _ _).1 ≤ _
    omega
noncomputable def bs_all (b bl : bg_T) (i : Nat) : bg_T := bg_sel b (fun _ => True) bl.2 i
section
variable {nc rr rw : Int32} {tc tr nk nw nl nr nf ns nt nu ip rc : Nat → Int32}
theorem xb_holds {post : Int32 → Prop} {bc br : Nat → Int32} {x y : Int32} {m : Nat} (hm : m ≤ 5) (h1 : bs_hold x (nI m) y → post 1) (h0 : ¬ bs_hold x (nI m) y → post 0) : wpX_holds post (nc, rr, rw, tc, tr, nk, nw, nl, nr, nf, ns, nt, nu, ip, bc, br, rc) x (nI m) y := by
  have : m = 0 ∨ m = 1 ∨ m = 2 ∨ m = 3 ∨ m = 4 ∨ m = 5 := by omega
  rcases this with rfl | rfl | rfl | rfl | rfl | rfl
  · rw [bs_h0] at h0 h1
    exact br_f (by decide) (br_f (by decide) (br_t (by decide) (br_c h1 h0)))
  · rw [bs_h1] at h0 h1
    exact br_f (by decide) (br_f (by decide) (br_f (by decide) (br_t (by decide) (br_c (fun e => h0 (fun z => z e)) h1))))
  · rw [bs_h2] at h0 h1
    exact br_f (by decide) (br_f (by decide) (br_f (by decide) (br_f (by decide) (br_t (by decide) (br_c (fun e => h0 (Int32.not_lt.mpr e)) (fun e => h1 (Int32.not_le.mp e)))))))
  · rw [bs_h3] at h0 h1
    exact br_f (by decide) (br_f (by decide) (br_f (by decide) (br_f (by decide) (br_f (by decide) (br_t (by decide) (br_c (fun e => h0 (Int32.not_le.mpr e)) (fun e => h1 (Int32.not_lt.mp e))))))))
  · rw [bs_h4] at h0 h1
    exact br_f (by decide) (br_f (by decide) (br_f (by decide) (br_f (by decide) (br_f (by decide) (br_f (by decide) (br_t (by decide) (br_c (fun e => h0 (Int32.not_lt.mpr e)) (fun e => h1 (Int32.not_le.mp e)))))))))
  · rw [bs_h5] at h0 h1
    exact br_f (by decide) (br_t (by decide) (br_c (fun e => h0 (Int32.not_le.mpr e)) (fun e => h1 (Int32.not_lt.mp e))))
theorem xb_lesser {post : Int32 → Prop} {bc br : Nat → Int32} {x y : Int32} (h : post (if y ≤ x then y else x)) : wpX_lesser post (nc, rr, rw, tc, tr, nk, nw, nl, nr, nf, ns, nt, nu, ip, bc, br, rc) x y := by
  refine br_c (fun e => ?_) (fun e => ?_)
  · rw [if_pos e] at h
    exact h
  · rw [if_neg e] at h
    exact h
theorem xb_greater {post : Int32 → Prop} {bc br : Nat → Int32} {x y : Int32} (h : post (if x ≤ y then y else x)) : wpX_greater post (nc, rr, rw, tc, tr, nk, nw, nl, nr, nf, ns, nt, nu, ip, bc, br, rc) x y := by
  refine br_c (fun e => ?_) (fun e => ?_)
  · rw [if_pos e] at h
    exact h
  · rw [if_neg e] at h
    exact h
theorem xb_compute {post : Int32 → Prop} {bc br : Nat → Int32} {x y : Int32} {m : Nat} (hm : m ≤ 4) (h : post (bs_op (nI m) x y)) : wpX_compute post (nc, rr, rw, tc, tr, nk, nw, nl, nr, nf, ns, nt, nu, ip, bc, br, rc) (nI m) x y := by
  have : m = 0 ∨ m = 1 ∨ m = 2 ∨ m = 3 ∨ m = 4 := by omega
  rcases this with rfl | rfl | rfl | rfl | rfl
  · rw [bs_o0] at h
    exact br_f (by decide) (br_f (by decide) (br_t (by decide) h))
  · rw [bs_o1] at h
    exact br_f (by decide) (br_f (by decide) (br_f (by decide) (br_t (by decide) h)))
  · rw [bs_o2] at h
    exact br_f (by decide) (br_f (by decide) (br_f (by decide) (br_f (by decide) (br_t (by decide) h))))
  · rw [bs_o3] at h
    exact br_f (by decide) (br_f (by decide) (br_f (by decide) (br_f (by decide) (br_f (by decide) (br_t (by decide) (xb_lesser h))))))
  · rw [bs_o4] at h
    exact br_f (by decide) (br_t (by decide) (xb_greater h))
theorem xb_fold {post : Int32 → Prop} {bc br : Nat → Int32} {x y : Int32} {m : Nat} (hm : m ≤ 3) (h : post (bg_st (nI m) x y)) : wpX_fold post (nc, rr, rw, tc, tr, nk, nw, nl, nr, nf, ns, nt, nu, ip, bc, br, rc) (nI m) x y := by
  have : m = 0 ∨ m = 1 ∨ m = 2 ∨ m = 3 := by omega
  rcases this with rfl | rfl | rfl | rfl
  · rw [bg_s0] at h
    exact br_f (by decide) (br_f (by decide) (br_t (by decide) h))
  · rw [bg_s1] at h
    exact br_f (by decide) (br_f (by decide) (br_f (by decide) (br_t (by decide) h)))
  · rw [bg_s2] at h
    refine br_f (by decide) (br_f (by decide) (br_f (by decide) (br_f (by decide) (br_t (by decide) (xb_lesser ?_)))))
    have e : (if y < x then y else x) = if y ≤ x then y else x := by
      by_cases l : y < x
      · rw [if_pos l, if_pos (Int32.le_of_lt l)]
      · rw [if_neg l]
        by_cases l2 : y ≤ x
        · rw [if_pos l2]
          exact Int32.le_antisymm (Int32.not_lt.mp l) l2
        · rw [if_neg l2]
    rw [← e]
    exact h
  · rw [bg_s3] at h
    refine br_f (by decide) (br_t (by decide) (xb_greater ?_))
    have e : (if y ≤ x then x else y) = if x ≤ y then y else x := by
      by_cases l : y ≤ x
      · rw [if_pos l]
        by_cases l2 : x ≤ y
        · rw [if_pos l2]
          exact Int32.le_antisymm l2 l
        · rw [if_neg l2]
      · rw [if_neg l, if_pos (Int32.le_of_lt (Int32.not_le.mp l))]
    rw [← e]
    exact h
end
end
section
/-! the component: each kind of node, run -/
section
variable {nc rr rw : Int32} {tc tr nk nw nl nr nf ns nt nu ip rc : Nat → Int32}
theorem xb_scan {post : SX → Prop} {bc br : Nat → Int32} {k t h : Nat} (hk : k < 12) (hnf : nf k = nI t) (ht : t < 3) (htr : tr t = nI h) (hh : h ≤ 6) (h0 : br k = nI 0)
    (H : ∀ bc' br', xb_I bc br k 3 (bs_scan tc t h) bc' br' → post (nc, rr, rw, tc, tr, nk, nw, nl, nr, nf, ns, nt, nu, ip, bc', br', rc)) : wpX_runScan post (nc, rr, rw, tc, tr, nk, nw, nl, nr, nf, ns, nt, nu, ip, bc, br, rc) (nI k) := by
  have ck : (nI k).toNatClampNeg = k := nI_clamp (by omega)
  have ct : (nI t).toNatClampNeg = t := nI_clamp (by omega)
  refine ⟨vp_in_nI hk (by decide), nm_r (e' := nI t) (by rw [ck]; exact hnf) ⟨vp_in_nI ht (by decide), nm_r (e' := nI h) (by rw [ct]; exact htr) ?_⟩⟩
  refine loop_0 (fun n i (s : (Nat → Int32) × (Nat → Int32)) => wX_runScan_17 post (nI k) (nI t) (nI h) n (nI i) nc rr rw tc tr nk nw nl nr nf ns nt nu ip s.1 s.2 rc) (fun i s => xb_I bc br k 3 (bs_scan tc t i) s.1 s.2) h (bc, br) (xb_I0 h0) ?_ ?_
  · rintro n ⟨bc', br'⟩ hI
    exact br_t (nI_le (Nat.le_refl _) (by omega)) (H bc' br' hI)
  · rintro n i ⟨bc', br'⟩ hi hI ih
    have hle : (bs_scan tc t i).1 ≤ i := bg_sel0_le _ _ _
    refine br_f (nI_ge hi (by omega)) (nm_r (e' := nI ((t * 6 + i) * 3)) ?_ (xb_addRow hk hI.1.1 (by omega) fun m hm => ?_))
    · rw [show (6 : Int32) = nI 6 from rfl, show (3 : Int32) = nI 3 from rfl, pk_mul, nI_add, pk_mul]
    · dsimp only at hI ⊢
      refine loop_0 (fun f c s => wX_runScan_44 post (wX_runScan_17 post (nI k) (nI t) (nI h) n) (nI k) (nI t) (nI h) (nI i) (nI ((t * 6 + i) * 3)) (nI ((k * 21 + m) * 6)) nc rr rw f (nI c) tc tr nk nw nl nr nf ns nt nu ip s (upd br' k (nI ((bs_scan tc t i).1 + 1))) rc)
        (fun c s => (∀ j, j < (k * 21 + m) * 6 ∨ (k * 21 + m) * 6 + 6 ≤ j → s j = bc' j) ∧ ∀ d, d < c → s ((k * 21 + m) * 6 + d) = tc ((t * 6 + i) * 3 + d)) 3 bc' ⟨fun _ _ => rfl, fun d hd => absurd hd (Nat.not_lt_zero d)⟩ ?_ ?_
      · rintro f s ⟨h1, h2⟩
        refine br_t (nI_le (a := 3) (b := 3) (Nat.le_refl _) (by decide)) (nm_r (nI_1 i) (ih (s, upd br' k (nI ((bs_scan tc t i).1 + 1))) ?_))
        have e : bs_scan tc t (i + 1) = bg_push (bs_scan tc t i) (fun c => tc ((t * 6 + i) * 3 + c)) := bg_sel_t trivial
        dsimp only
        rw [e]
        exact xb_push hI (by omega) hm h1 h2
      · rintro f c s hc ⟨h1, h2⟩ ih2
        refine br_f (nI_ge (b := 3) hc (by decide)) ?_
        rw [nI_add, nI_add, nI_clamp (by omega), nI_clamp (by omega)]
        refine ⟨vp_in_nI (by omega) (by decide), vp_in_nI (by omega) (by decide), nm_e (nm_r (nI_1 c) (ih2 (upd s ((k * 21 + m) * 6 + c) (tc ((t * 6 + i) * 3 + c))) ⟨fun j hj => ?_, fun d hd => ?_⟩))⟩
        · rw [pk_un (by omega)]
          exact h1 j hj
        · by_cases e : d = c
          · subst e
            exact pk_us
          · rw [pk_un (by omega)]
            exact h2 d (by omega)
theorem xb_filter {post : SX → Prop} {bc br : Nat → Int32} {k l w c m : Nat} {bl : bg_T} (hk : k < 12) (hl : l < k) (hnl : nl k = nI l) (hnw : nw k = nI w) (hw : w ≤ 6) (hnf : nf k = nI c) (hc : c < w) (hns : ns k = nI m) (hm : m ≤ 5) (h0 : br k = nI 0)
    (hB : xb_B l w bl bc br) (h20 : bl.1 ≤ 20) (H : ∀ bc' br', xb_I bc br k w (bs_filter bl c (nI m) (nt k) bl.1) bc' br' → post (nc, rr, rw, tc, tr, nk, nw, nl, nr, nf, ns, nt, nu, ip, bc', br', rc)) : wpX_runFilter post (nc, rr, rw, tc, tr, nk, nw, nl, nr, nf, ns, nt, nu, ip, bc, br, rc) (nI k) := by
  have ck : (nI k).toNatClampNeg = k := nI_clamp (by omega)
  have cl : (nI l).toNatClampNeg = l := nI_clamp (by omega)
  refine ⟨vp_in_nI hk (by decide), nm_r (e' := nI l) (by rw [ck]; exact hnl) ⟨vp_in_nI (by omega) (by decide), nm_r (e' := nI bl.1) (by rw [cl]; exact hB.1) ?_⟩⟩
  refine loop_0 (fun n i (s : (Nat → Int32) × (Nat → Int32)) => wX_runFilter_17 post (nI k) (nI l) (nI bl.1) n (nI i) nc rr rw tc tr nk nw nl nr nf ns nt nu ip s.1 s.2 rc) (fun i s => xb_I bc br k w (bs_filter bl c (nI m) (nt k) i) s.1 s.2) bl.1 (bc, br) (xb_I0 h0) ?_ ?_
  · rintro n ⟨bc', br'⟩ hI
    exact br_t (nI_le (Nat.le_refl _) (by omega)) (H bc' br' hI)
  · rintro n i ⟨bc', br'⟩ hi hI ih
    have hle : (bs_filter bl c (nI m) (nt k) i).1 ≤ i := bg_sel0_le _ _ _
    refine br_f (nI_ge hi (by omega)) (xb_rs ?_)
    dsimp only at hI ⊢
    rw [ck, hnf, hns, nI_add, nI_clamp (by omega)]
    refine ⟨vp_in_nI hk (by decide), vp_in_nI (by omega) (by decide), nm_r (xb_in hI hB hl hi (by omega) hc hw) ⟨vp_in_nI hk (by decide), vp_in_nI hk (by decide), xb_holds hm (fun e => ?_) (fun e => ?_)⟩⟩
    · refine br_f (by decide) (xb_addCopy (row := bl.2 i) hI hk (by omega) hnw hw (by omega) (fun d hd => xb_in hI hB hl hi (by omega) hd hw) (fun bc2 br2 hI2 => nm_r (nI_1 i) (ih (bc2, br2) ?_)))
      have e2 : bs_filter bl c (nI m) (nt k) (i + 1) = bg_push (bs_filter bl c (nI m) (nt k) i) (bl.2 i) := bg_sel_t e
      dsimp only
      rw [e2]
      exact hI2
    · refine br_t rfl (nm_r (nI_1 i) (ih (bc', br') ?_))
      have e2 : bs_filter bl c (nI m) (nt k) (i + 1) = bs_filter bl c (nI m) (nt k) i := bg_sel_f e
      dsimp only
      rw [e2]
      exact hI
theorem xb_dist {post : SX → Prop} {bc br : Nat → Int32} {k l w : Nat} {bl : bg_T} (hk : k < 12) (hl : l < k) (hnl : nl k = nI l) (hnw : nw k = nI w) (hw : w ≤ 6) (h0 : br k = nI 0)
    (hB : xb_B l w bl bc br) (h20 : bl.1 ≤ 20) (H : ∀ bc' br', xb_I bc br k w (bs_dist bl w bl.1) bc' br' → post (nc, rr, rw, tc, tr, nk, nw, nl, nr, nf, ns, nt, nu, ip, bc', br', rc)) : wpX_runDistinct post (nc, rr, rw, tc, tr, nk, nw, nl, nr, nf, ns, nt, nu, ip, bc, br, rc) (nI k) := by
  have ck : (nI k).toNatClampNeg = k := nI_clamp (by omega)
  have cl : (nI l).toNatClampNeg = l := nI_clamp (by omega)
  refine ⟨vp_in_nI hk (by decide), nm_r (e' := nI l) (by rw [ck]; exact hnl) ⟨vp_in_nI (by omega) (by decide), nm_r (e' := nI bl.1) (by rw [cl]; exact hB.1) ?_⟩⟩
  refine loop_0 (fun n i (s : (Nat → Int32) × (Nat → Int32)) => wX_runDistinct_17 post (nI k) (nI l) (nI bl.1) n (nI i) nc rr rw tc tr nk nw nl nr nf ns nt nu ip s.1 s.2 rc) (fun i s => xb_I bc br k w (bs_dist bl w i) s.1 s.2) bl.1 (bc, br) (xb_I0 h0) ?_ ?_
  · rintro n ⟨bc', br'⟩ hI
    exact br_t (nI_le (Nat.le_refl _) (by omega)) (H bc' br' hI)
  · rintro n i ⟨bc', br'⟩ hi hI ih
    have hle : (bs_dist bl w i).1 ≤ i := bg_sel0_le _ _ _
    have hin : bg_eqw w (fun c => bc' ((l * 21 + i) * 6 + c)) (bl.2 i) := fun d hd => xb_in hI hB hl hi (by omega) hd hw
    have hout : ∀ r, r < (bs_dist bl w i).1 → bg_eqw w (fun c => bc' ((k * 21 + r) * 6 + c)) ((bs_dist bl w i).2 r) := fun r hr d hd => hI.1.2 r hr (by omega) d hd
    have hx := bs_dist_has bl w i (bl.2 i)
    refine br_f (nI_ge hi (by omega)) (xb_rs ?_)
    dsimp only at hI ⊢
    refine xb_hasRow hk hI.1.1 (by omega) hnw hw (by omega) (fun e => ?_) (fun r hr e => ?_)
    · refine br_t rfl (xb_addCopy (row := bl.2 i) hI hk (by omega) hnw hw (by omega) hin (fun bc2 br2 hI2 => nm_r (nI_1 i) (ih (bc2, br2) ?_)))
      have e2 : bs_dist bl w (i + 1) = bg_push (bs_dist bl w i) (bl.2 i) := by
        refine bg_sel_t fun j hj z => ?_
        obtain ⟨r, hr, z2⟩ := hx.mpr ⟨j, hj, bg_eqw_s z⟩
        exact e r hr (bg_eqw_t (hout r hr) (bg_eqw_t z2 (bg_eqw_s hin)))
      dsimp only
      rw [e2]
      exact hI2
    · refine br_f (by decide) (nm_r (nI_1 i) (ih (bc', br') ?_))
      have e2 : bs_dist bl w (i + 1) = bs_dist bl w i := by
        refine bg_sel_f fun z => ?_
        obtain ⟨j, hj, z2⟩ := hx.mp ⟨r, hr, bg_eqw_t (bg_eqw_s (hout r hr)) (bg_eqw_t e hin)⟩
        exact z j hj (bg_eqw_s z2)
      dsimp only
      rw [e2]
      exact hI
theorem xb_addAll {post : SX → Prop} {bc0 br0 bc br : Nat → Int32} {k l w : Nat} {b bl : bg_T} (hk : k < 12) (hl : l < k) (hnw : nw k = nI w) (hw : w ≤ 6) (hI0 : xb_I bc0 br0 k w b bc br) (hb : b.1 ≤ 20)
    (hB : xb_B l w bl bc0 br0) (h20 : bl.1 ≤ 20) (H : ∀ bc' br', xb_I bc0 br0 k w (bs_all b bl bl.1) bc' br' → post (nc, rr, rw, tc, tr, nk, nw, nl, nr, nf, ns, nt, nu, ip, bc', br', rc)) : wpX_addAllRows post (nc, rr, rw, tc, tr, nk, nw, nl, nr, nf, ns, nt, nu, ip, bc, br, rc) (nI k) (nI l) := by
  have cl : (nI l).toNatClampNeg = l := nI_clamp (by omega)
  refine ⟨vp_in_nI (by omega) (by decide), nm_r (e' := nI bl.1) (by rw [cl]; exact (hI0.2.2 l (by omega)).trans hB.1) ?_⟩
  refine loop_0 (fun n i (s : (Nat → Int32) × (Nat → Int32)) => wX_addAllRows_10 post (nI k) (nI l) (nI bl.1) n (nI i) nc rr rw tc tr nk nw nl nr nf ns nt nu ip s.1 s.2 rc) (fun i s => xb_I bc0 br0 k w (bs_all b bl i) s.1 s.2) bl.1 (bc, br) hI0 ?_ ?_
  · rintro n ⟨bc', br'⟩ hI
    exact br_t (nI_le (Nat.le_refl _) (by omega)) (H bc' br' hI)
  · rintro n i ⟨bc', br'⟩ hi hI ih
    have hle : (bs_all b bl i).1 ≤ b.1 + i := bg_sel_le _ _ _ _
    refine br_f (nI_ge hi (by omega)) (xb_rs ?_)
    dsimp only at hI ⊢
    refine xb_addCopy (row := bl.2 i) hI hk (by omega) hnw hw (by omega) (fun d hd => xb_in hI hB hl hi (by omega) hd hw) (fun bc2 br2 hI2 => nm_r (nI_1 i) (ih (bc2, br2) ?_))
    have e2 : bs_all b bl (i + 1) = bg_push (bs_all b bl i) (bl.2 i) := bg_sel_t trivial
    dsimp only
    rw [e2]
    exact hI2
theorem xb_semi {post : SX → Prop} {bc br : Nat → Int32} {k l r w wr x y : Nat} {pw : Int32} {pos : Prop} {bl b : bg_T} (hk : k < 12) (hl : l < k) (hr : r < k) (hnl : nl k = nI l) (hnr : nr k = nI r) (hnw : nw k = nI w) (hw : w ≤ 6) (hwr : wr ≤ 6) (hnf : nf k = nI x) (hx : x < w) (hns : ns k = nI y) (hy : y < wr) (h0 : br k = nI 0)
    (hpw : (pos ∧ pw = 1) ∨ (¬ pos ∧ pw = 0))
    (hB : xb_B l w bl bc br) (h20 : bl.1 ≤ 20) (hB2 : xb_B r wr b bc br) (h202 : b.1 ≤ 20) (H : ∀ bc' br', xb_I bc br k w (bs_semi bl b x y pos bl.1) bc' br' → post (nc, rr, rw, tc, tr, nk, nw, nl, nr, nf, ns, nt, nu, ip, bc', br', rc)) : wpX_runLeftRows post (nc, rr, rw, tc, tr, nk, nw, nl, nr, nf, ns, nt, nu, ip, bc, br, rc) (nI k) pw := by
  have ck : (nI k).toNatClampNeg = k := nI_clamp (by omega)
  have cl : (nI l).toNatClampNeg = l := nI_clamp (by omega)
  refine ⟨vp_in_nI hk (by decide), nm_r (e' := nI l) (by rw [ck]; exact hnl) ⟨vp_in_nI (by omega) (by decide), nm_r (e' := nI bl.1) (by rw [cl]; exact hB.1) ?_⟩⟩
  refine loop_0 (fun n i (s : (Nat → Int32) × (Nat → Int32)) => wX_runLeftRows_18 post (nI k) pw (nI l) (nI bl.1) n (nI i) nc rr rw tc tr nk nw nl nr nf ns nt nu ip s.1 s.2 rc) (fun i s => xb_I bc br k w (bs_semi bl b x y pos i) s.1 s.2) bl.1 (bc, br) (xb_I0 h0) ?_ ?_
  · rintro n ⟨bc', br'⟩ hI
    exact br_t (nI_le (Nat.le_refl _) (by omega)) (H bc' br' hI)
  · rintro n i ⟨bc', br'⟩ hi hI ih
    have hle : (bs_semi bl b x y pos i).1 ≤ i := bg_sel0_le _ _ _
    have hin : ∀ j, j < b.1 → bc' ((r * 21 + j) * 6 + y) = b.2 j y := fun j hj => xb_in hI hB2 hr hj (by omega) hy hwr
    refine br_f (nI_ge hi (by omega)) (xb_rs ?_)
    dsimp only at hI ⊢
    rw [ck, hnf, hns, hnr, nI_add, nI_clamp (by omega)]
    have tk : ((∃ j, j < b.1 ∧ b.2 j y = bl.2 i x) ↔ pos) → ∀ z0, z0 = pw → wX_runLeftRows_81 post (wX_runLeftRows_18 post (nI k) pw (nI l) (nI bl.1) n) (nI k) pw (nI l) (nI bl.1) (nI i) (nI ((l * 21 + i) * 6)) z0 nc rr rw tc tr nk nw nl nr nf ns nt nu ip bc' br' rc := by
      intro e z0 hz
      refine br_t hz (xb_addCopy (row := bl.2 i) hI hk (by omega) hnw hw (by omega) (fun d hd => xb_in hI hB hl hi (by omega) hd hw) (fun bc2 br2 hI2 => nm_r (nI_1 i) (ih (bc2, br2) ?_)))
      have e2 : bs_semi bl b x y pos (i + 1) = bg_push (bs_semi bl b x y pos i) (bl.2 i) := bg_sel_t e
      dsimp only
      rw [e2]
      exact hI2
    have tn : ¬ ((∃ j, j < b.1 ∧ b.2 j y = bl.2 i x) ↔ pos) → ∀ z0, ¬ z0 = pw → wX_runLeftRows_81 post (wX_runLeftRows_18 post (nI k) pw (nI l) (nI bl.1) n) (nI k) pw (nI l) (nI bl.1) (nI i) (nI ((l * 21 + i) * 6)) z0 nc rr rw tc tr nk nw nl nr nf ns nt nu ip bc' br' rc := by
      intro e z0 hz
      refine br_f hz (nm_r (nI_1 i) (ih (bc', br') ?_))
      have e2 : bs_semi bl b x y pos (i + 1) = bs_semi bl b x y pos i := bg_sel_f e
      dsimp only
      rw [e2]
      exact hI
    refine ⟨vp_in_nI hk (by decide), vp_in_nI (by omega) (by decide), nm_r (xb_in hI hB hl hi (by omega) hx hw) ⟨vp_in_nI hk (by decide), vp_in_nI hk (by decide), ?_⟩⟩
    refine xb_find (by omega) ((hI.2.2 r (by omega)).trans hB2.1) h202 (by omega) (fun e => br_t rfl ?_) (fun j hj e => br_f ?_ ?_)
    · have hne : ¬ ∃ j, j < b.1 ∧ b.2 j y = bl.2 i x := fun ⟨j, hj, z⟩ => e j hj ((hin j hj).trans z)
      rcases hpw with ⟨p, q⟩ | ⟨p, q⟩
      · exact tn (fun z => hne (z.mpr p)) 0 (by rw [q]; decide)
      · exact tk ⟨fun z => absurd z hne, fun z => absurd z p⟩ 0 q.symm
    · intro z
      have hlt : (r * 21 + j) * 6 < 2 ^ 31 := by omega
      have h1 := nI_pos' hlt
      rw [z] at h1
      exact absurd h1 (by decide)
    · have hex : ∃ j, j < b.1 ∧ b.2 j y = bl.2 i x := ⟨j, hj, (hin j hj).symm.trans e⟩
      rcases hpw with ⟨p, q⟩ | ⟨p, q⟩
      · exact tk ⟨fun _ => p, fun _ => hex⟩ 1 q.symm
      · exact tn (fun z => p (z.mp hex)) 1 (by rw [q]; decide)
end
end
section
/-! the component: extend, pick, join, group -/
theorem xb_nn1 {t : Nat} (h : t < 2 ^ 31) : ¬ nI t = -1 := fun z => by
  have h1 := nI_pos' h
  rw [z] at h1
  exact absurd h1 (by decide)
section
variable {nc rr rw : Int32} {tc tr nk nw nl nr nf ns nt nu ip rc : Nat → Int32}
theorem xb_ext {post : SX → Prop} {bc br : Nat → Int32} {k l wl op x y : Nat} {bl : bg_T} (hk : k < 12) (hl : l < k) (hnl : nl k = nI l) (hwl : nw l = nI wl) (hw : wl + 1 ≤ 6) (hnf : nf k = nI op) (hop : op ≤ 4) (hns : ns k = nI x) (hx : x < wl) (hnt : nt k = nI y) (hy : y < wl) (h0 : br k = nI 0)
    (hB : xb_B l wl bl bc br) (h20 : bl.1 ≤ 20) (H : ∀ bc' br', xb_I bc br k (wl + 1) (bs_ext bl wl (nI op) x y bl.1) bc' br' → post (nc, rr, rw, tc, tr, nk, nw, nl, nr, nf, ns, nt, nu, ip, bc', br', rc)) : wpX_runExtend post (nc, rr, rw, tc, tr, nk, nw, nl, nr, nf, ns, nt, nu, ip, bc, br, rc) (nI k) := by
  have ck : (nI k).toNatClampNeg = k := nI_clamp (by omega)
  have cl : (nI l).toNatClampNeg = l := nI_clamp (by omega)
  refine ⟨vp_in_nI hk (by decide), nm_r (e' := nI l) (by rw [ck]; exact hnl) ⟨vp_in_nI (by omega) (by decide), nm_r (e' := nI bl.1) (by rw [cl]; exact hB.1) ?_⟩⟩
  refine loop_0 (fun n i (s : (Nat → Int32) × (Nat → Int32)) => wX_runExtend_17 post (nI k) (nI l) (nI bl.1) n (nI i) nc rr rw tc tr nk nw nl nr nf ns nt nu ip s.1 s.2 rc) (fun i s => xb_I bc br k (wl + 1) (bs_ext bl wl (nI op) x y i) s.1 s.2) bl.1 (bc, br) (xb_I0 h0) ?_ ?_
  · rintro n ⟨bc', br'⟩ hI
    exact br_t (nI_le (Nat.le_refl _) (by omega)) (H bc' br' hI)
  · rintro n i ⟨bc', br'⟩ hi hI ih
    have hle : (bs_ext bl wl (nI op) x y i).1 ≤ i := bg_sel0_le _ _ _
    refine br_f (nI_ge hi (by omega)) (xb_rs (xb_addRow hk hI.1.1 (by omega) fun m hm => ?_))
    dsimp only at hI ⊢
    refine ⟨vp_in_nI (by omega) (by decide), ?_⟩
    rw [cl, hwl]
    refine xb_copy (by omega) (by omega) fun bc2 h1 h2 => ?_
    dsimp only
    rw [ck, hns, hnt, hnf, hwl, nI_add, nI_add, nI_add, nI_clamp (by omega), nI_clamp (by omega), nI_clamp (by omega)]
    refine ⟨vp_in_nI hk (by decide), vp_in_nI (by omega) (by decide), nm_r (e' := bl.2 i x) ((h1 _ (by omega)).trans (xb_in hI hB hl hi (by omega) hx (by omega))) ⟨vp_in_nI hk (by decide), vp_in_nI (by omega) (by decide), nm_r (e' := bl.2 i y) ((h1 _ (by omega)).trans (xb_in hI hB hl hi (by omega) hy (by omega))) ⟨vp_in_nI (by omega) (by decide), vp_in_nI hk (by decide), xb_compute hop ⟨vp_in_nI (by omega) (by decide), nm_e (nm_r (nI_1 i) (ih (upd bc2 ((k * 21 + m) * 6 + wl) (bs_op (nI op) (bl.2 i x) (bl.2 i y)), upd br' k (nI ((bs_ext bl wl (nI op) x y i).1 + 1))) ?_))⟩⟩⟩⟩
    have e2 : bs_ext bl wl (nI op) x y (i + 1) = bg_push (bs_ext bl wl (nI op) x y i) (fun c => if c < wl then bl.2 i c else bs_op (nI op) (bl.2 i x) (bl.2 i y)) := bg_sel_t trivial
    dsimp only
    rw [e2]
    refine xb_push hI (by omega) hm (fun j hj => ?_) (fun c hc => ?_)
    · rw [pk_un (by omega)]
      exact h1 j (by omega)
    · by_cases e : c < wl
      · rw [if_pos e, pk_un (by omega), h2 c e]
        exact xb_in hI hB hl hi (by omega) e (by omega)
      · rw [if_neg e]
        obtain rfl : c = wl := by omega
        exact pk_us
theorem xb_pick100 {post : SX → Prop} {J : Int32 → Int32 → Int32 → Int32 → (Nat → Int32) → (Nat → Int32) → (Nat → Int32) → (Nat → Int32) → (Nat → Int32) → (Nat → Int32) → (Nat → Int32) → (Nat → Int32) → (Nat → Int32) → (Nat → Int32) → (Nat → Int32) → (Nat → Int32) → (Nat → Int32) → (Nat → Int32) → Prop} {bc br : Nat → Int32} {k i a A f : Nat} {x2 x3 : Int32} (hk : k < 12) (ha : a + 6 ≤ 1512) (hA : A + f < 1512)
    (ht : nt k = -1 ∨ ∃ t, t < 6 ∧ nt k = nI t) (h0 : nt k = -1 → J (nI (i + 1)) nc rr rw tc tr nk nw nl nr nf ns nt nu ip bc br rc) (h1 : ∀ t, t < 6 → nt k = nI t → J (nI (i + 1)) nc rr rw tc tr nk nw nl nr nf ns nt nu ip (upd bc (A + f) (bc (a + t))) br rc) : wX_runPick_100 post J (nI k) x2 x3 (nI i) (nI a) (nI A) (nI f) nc rr rw tc tr nk nw nl nr nf ns nt nu ip bc br rc := by
  have ck : (nI k).toNatClampNeg = k := nI_clamp (by omega)
  refine ⟨vp_in_nI hk (by decide), ?_⟩
  rw [ck]
  rcases ht with e | ⟨t, ht, e⟩
  · exact br_t e (nm_r (nI_1 i) (h0 e))
  · rw [e, nI_add, nI_add, nI_clamp (by omega), nI_clamp (by omega)]
    exact br_f (xb_nn1 (by omega)) ⟨vp_in_nI hk (by decide), vp_in_nI (by omega) (by decide), vp_in_nI (by omega) (by decide), nm_e (nm_r (nI_1 i) (h1 t ht e))⟩
theorem xb_pick {post : SX → Prop} {bc br : Nat → Int32} {k l w wl x : Nat} {bl : bg_T} (hk : k < 12) (hl : l < k) (hnl : nl k = nI l) (hw : wl ≤ 6) (hnf : nf k = nI x) (hx : x < wl)
    (hs : ns k = -1 ∨ ∃ t, t < wl ∧ ns k = nI t) (ht : nt k = -1 ∨ ∃ t, t < wl ∧ nt k = nI t) (hww : w = 1 + (if ns k = -1 then 0 else 1) + (if nt k = -1 then 0 else 1)) (h0 : br k = nI 0)
    (hB : xb_B l wl bl bc br) (h20 : bl.1 ≤ 20) (H : ∀ bc' br', xb_I bc br k w (bs_pick bl x (ns k) (nt k) bl.1) bc' br' → post (nc, rr, rw, tc, tr, nk, nw, nl, nr, nf, ns, nt, nu, ip, bc', br', rc)) : wpX_runPick post (nc, rr, rw, tc, tr, nk, nw, nl, nr, nf, ns, nt, nu, ip, bc, br, rc) (nI k) := by
  have ck : (nI k).toNatClampNeg = k := nI_clamp (by omega)
  have cl : (nI l).toNatClampNeg = l := nI_clamp (by omega)
  have ht6 : nt k = -1 ∨ ∃ t, t < 6 ∧ nt k = nI t := ht.imp id (fun ⟨t, a, b⟩ => ⟨t, by omega, b⟩)
  refine ⟨vp_in_nI hk (by decide), nm_r (e' := nI l) (by rw [ck]; exact hnl) ⟨vp_in_nI (by omega) (by decide), nm_r (e' := nI bl.1) (by rw [cl]; exact hB.1) ?_⟩⟩
  refine loop_0 (fun n i (s : (Nat → Int32) × (Nat → Int32)) => wX_runPick_17 post (nI k) (nI l) (nI bl.1) n (nI i) nc rr rw tc tr nk nw nl nr nf ns nt nu ip s.1 s.2 rc) (fun i s => xb_I bc br k w (bs_pick bl x (ns k) (nt k) i) s.1 s.2) bl.1 (bc, br) (xb_I0 h0) ?_ ?_
  · rintro n ⟨bc', br'⟩ hI
    exact br_t (nI_le (Nat.le_refl _) (by omega)) (H bc' br' hI)
  · rintro n i ⟨bc', br'⟩ hi hI ih
    have hle : (bs_pick bl x (ns k) (nt k) i).1 ≤ i := bg_sel0_le _ _ _
    have e2 : bs_pick bl x (ns k) (nt k) (i + 1) = bg_push (bs_pick bl x (ns k) (nt k) i) (fun c => if c = 0 then bl.2 i x else if c = 1 ∧ ¬ ns k = -1 then bl.2 i (ns k).toNatClampNeg else bl.2 i (nt k).toNatClampNeg) := bg_sel_t trivial
    refine br_f (nI_ge hi (by omega)) (xb_rs (xb_addRow hk hI.1.1 (by omega) fun m hm => ?_))
    dsimp only at hI ⊢
    have hrd : ∀ c, c < wl → bc' ((l * 21 + i) * 6 + c) = bl.2 i c := fun c hc => xb_in hI hB hl hi (by omega) hc hw
    rw [ck, hnf, nI_add, nI_clamp (by omega), nI_clamp (by omega)]
    refine ⟨vp_in_nI hk (by decide), vp_in_nI (by omega) (by decide), vp_in_nI (by omega) (by decide), nm_e ⟨vp_in_nI hk (by decide), ?_⟩⟩
    rcases hs with es | ⟨s, hs, es⟩
    · refine br_t es (xb_pick100 (f := 1) hk (by omega) (by omega) ht6 (fun et => ?_) (fun t ht et => ?_))
      · refine ih (upd bc' ((k * 21 + m) * 6) (bc' ((l * 21 + i) * 6 + x)), upd br' k (nI ((bs_pick bl x (ns k) (nt k) i).1 + 1))) ?_
        rw [if_pos es, if_pos et] at hww
        dsimp only
        rw [e2]
        refine xb_push hI (by omega) hm (fun j hj => pk_un (by omega)) (fun c hc => ?_)
        obtain rfl : c = 0 := by omega
        rw [if_pos rfl, ← hrd x hx]
        exact pk_us
      · refine ih (upd (upd bc' ((k * 21 + m) * 6) (bc' ((l * 21 + i) * 6 + x))) ((k * 21 + m) * 6 + 1) (upd bc' ((k * 21 + m) * 6) (bc' ((l * 21 + i) * 6 + x)) ((l * 21 + i) * 6 + t)), upd br' k (nI ((bs_pick bl x (ns k) (nt k) i).1 + 1))) ?_
        have htw : t < wl := by
          rcases ht6 with z | z
          · exact absurd (et.symm.trans z) (xb_nn1 (by omega))
          · obtain ⟨t', a, b⟩ := ‹nt k = -1 ∨ ∃ t, t < wl ∧ nt k = nI t›.resolve_left (fun z => xb_nn1 (show t < 2 ^ 31 by omega) (et.symm.trans z))
            have := (nI_eq (by omega) (by omega)).mp (et.symm.trans b)
            omega
        rw [if_pos es, if_neg (by rw [et]; exact xb_nn1 (by omega))] at hww
        dsimp only
        rw [e2]
        refine xb_push hI (by omega) hm (fun j hj => by rw [pk_un (by omega), pk_un (by omega)]) (fun c hc => ?_)
        by_cases c0 : c = 0
        · subst c0
          rw [if_pos rfl, ← hrd x hx, pk_un (by omega)]
          exact pk_us
        · obtain rfl : c = 1 := by omega
          rw [if_neg c0, if_neg (fun z => z.2 es), et, nI_clamp (by omega), ← hrd t htw, pk_us, pk_un (by omega)]
    · have hns : ¬ ns k = -1 := by rw [es]; exact xb_nn1 (by omega)
      have hsc : (ns k).toNatClampNeg = s := by rw [es]; exact nI_clamp (by omega)
      refine br_f hns ?_
      rw [show nI ((l * 21 + i) * 6) + ns k = nI ((l * 21 + i) * 6 + s) from by rw [es, nI_add], nI_clamp (by omega), show nI ((k * 21 + m) * 6) + 1 = nI ((k * 21 + m) * 6 + 1) from nI_1 _, nI_clamp (by omega)]
      refine ⟨vp_in_nI hk (by decide), vp_in_nI (by omega) (by decide), vp_in_nI (by omega) (by decide), nm_e (nm_r (e' := nI 2) rfl (xb_pick100 (f := 2) hk (by omega) (by omega) ht6 (fun et => ?_) (fun t ht et => ?_)))⟩
      · refine ih (upd (upd bc' ((k * 21 + m) * 6) (bc' ((l * 21 + i) * 6 + x))) ((k * 21 + m) * 6 + 1) (upd bc' ((k * 21 + m) * 6) (bc' ((l * 21 + i) * 6 + x)) ((l * 21 + i) * 6 + s)), upd br' k (nI ((bs_pick bl x (ns k) (nt k) i).1 + 1))) ?_
        rw [if_neg hns, if_pos et] at hww
        dsimp only
        rw [e2]
        refine xb_push hI (by omega) hm (fun j hj => by rw [pk_un (by omega), pk_un (by omega)]) (fun c hc => ?_)
        by_cases c0 : c = 0
        · subst c0
          rw [if_pos rfl, ← hrd x hx, pk_un (by omega)]
          exact pk_us
        · obtain rfl : c = 1 := by omega
          rw [if_neg c0, if_pos ⟨rfl, hns⟩, hsc, ← hrd s hs, pk_us, pk_un (by omega)]
      · refine ih (upd (upd (upd bc' ((k * 21 + m) * 6) (bc' ((l * 21 + i) * 6 + x))) ((k * 21 + m) * 6 + 1) (upd bc' ((k * 21 + m) * 6) (bc' ((l * 21 + i) * 6 + x)) ((l * 21 + i) * 6 + s))) ((k * 21 + m) * 6 + 2) (upd (upd bc' ((k * 21 + m) * 6) (bc' ((l * 21 + i) * 6 + x))) ((k * 21 + m) * 6 + 1) (upd bc' ((k * 21 + m) * 6) (bc' ((l * 21 + i) * 6 + x)) ((l * 21 + i) * 6 + s)) ((l * 21 + i) * 6 + t)), upd br' k (nI ((bs_pick bl x (ns k) (nt k) i).1 + 1))) ?_
        have htw : t < wl := by
          obtain ⟨t', a, b⟩ := ‹nt k = -1 ∨ ∃ t, t < wl ∧ nt k = nI t›.resolve_left (fun z => xb_nn1 (show t < 2 ^ 31 by omega) (et.symm.trans z))
          have := (nI_eq (by omega) (by omega)).mp (et.symm.trans b)
          omega
        rw [if_neg hns, if_neg (by rw [et]; exact xb_nn1 (by omega))] at hww
        dsimp only
        rw [e2]
        refine xb_push hI (by omega) hm (fun j hj => by rw [pk_un (by omega), pk_un (by omega), pk_un (by omega)]) (fun c hc => ?_)
        by_cases c0 : c = 0
        · subst c0
          rw [if_pos rfl, ← hrd x hx, pk_un (by omega), pk_un (by omega)]
          exact pk_us
        · by_cases c1 : c = 1
          · subst c1
            rw [if_neg c0, if_pos ⟨rfl, hns⟩, hsc, ← hrd s hs, pk_un (by omega), pk_us, pk_un (by omega)]
          · obtain rfl : c = 2 := by omega
            rw [if_neg c0, if_neg (fun z => c1 z.1), et, nI_clamp (by omega), ← hrd t htw, pk_us, pk_un (by omega), pk_un (by omega)]
theorem xb_join {post : SX → Prop} {bc br : Nat → Int32} {k l r wl wr x y : Nat} {bl b : bg_T} (hk : k < 12) (hl : l < k) (hr : r < k) (hnl : nl k = nI l) (hnr : nr k = nI r) (hwl : nw l = nI wl) (hwr : nw r = nI wr) (hw : wl + wr ≤ 6) (hnf : nf k = nI x) (hx : x < wl) (hns : ns k = nI y) (hy : y < wr) (h0 : br k = nI 0)
    (hB : xb_B l wl bl bc br) (h20 : bl.1 ≤ 20) (hB2 : xb_B r wr b bc br) (h202 : b.1 ≤ 20) (H : ∀ bc' br', xb_I bc br k (wl + wr) (bs_join bl b wl x y bl.1) bc' br' → post (nc, rr, rw, tc, tr, nk, nw, nl, nr, nf, ns, nt, nu, ip, bc', br', rc)) : wpX_runJoin post (nc, rr, rw, tc, tr, nk, nw, nl, nr, nf, ns, nt, nu, ip, bc, br, rc) (nI k) := by
  have ck : (nI k).toNatClampNeg = k := nI_clamp (by omega)
  have cl : (nI l).toNatClampNeg = l := nI_clamp (by omega)
  have cr : (nI r).toNatClampNeg = r := nI_clamp (by omega)
  refine ⟨vp_in_nI hk (by decide), nm_r (e' := nI l) (by rw [ck]; exact hnl) ⟨vp_in_nI hk (by decide), nm_r (e' := nI r) (by rw [ck]; exact hnr) ⟨vp_in_nI (by omega) (by decide), nm_r (e' := nI bl.1) (by rw [cl]; exact hB.1) ⟨vp_in_nI (by omega) (by decide), nm_r (e' := nI b.1) (by rw [cr]; exact hB2.1) ?_⟩⟩⟩⟩
  refine loop_0 (fun n i (s : (Nat → Int32) × (Nat → Int32)) => wX_runJoin_33 post (nI k) (nI l) (nI r) (nI bl.1) (nI b.1) n (nI i) nc rr rw tc tr nk nw nl nr nf ns nt nu ip s.1 s.2 rc) (fun i s => xb_I bc br k (wl + wr) (bs_join bl b wl x y i) s.1 s.2) bl.1 (bc, br) (xb_I0 h0) ?_ ?_
  · rintro n ⟨bc', br'⟩ hI
    exact br_t (nI_le (Nat.le_refl _) (by omega)) (H bc' br' hI)
  · rintro n i ⟨bc1, br1⟩ hi hI1 ih
    have hle1 : (bs_join bl b wl x y i).1 ≤ i * b.1 := bs_join_le _ _ _ _ _ _
    have hle2 : i * b.1 ≤ 20 * 20 := Nat.mul_le_mul (by omega) h202
    refine br_f (nI_ge hi (by omega)) (xb_rs ?_)
    dsimp only at hI1 ⊢
    refine loop_0 (fun f j (s : (Nat → Int32) × (Nat → Int32)) => wX_runJoin_52 post (wX_runJoin_33 post (nI k) (nI l) (nI r) (nI bl.1) (nI b.1) n) (nI k) (nI l) (nI r) (nI bl.1) (nI b.1) (nI i) (nI ((l * 21 + i) * 6)) f (nI j) nc rr rw tc tr nk nw nl nr nf ns nt nu ip s.1 s.2 rc)
      (fun j s => xb_I bc br k (wl + wr) (bg_sel (bs_join bl b wl x y i) (fun j => bl.2 i x = b.2 j y) (bs_jrow bl b wl i) j) s.1 s.2) b.1 (bc1, br1) hI1 ?_ ?_
    · rintro f ⟨bc', br'⟩ hI
      exact br_t (nI_le (Nat.le_refl _) (by omega)) (nm_r (nI_1 i) (ih (bc', br') hI))
    · rintro f j ⟨bc', br'⟩ hj hI ih2
      have hle := bg_sel_le (bs_join bl b wl x y i) (fun j => bl.2 i x = b.2 j y) (bs_jrow bl b wl i) j
      refine br_f (nI_ge hj (by omega)) (xb_rs ?_)
      dsimp only at hI ⊢
      rw [ck, hnf, hns, nI_add, nI_add, nI_clamp (by omega), nI_clamp (by omega), xb_in hI hB hl hi (by omega) hx (by omega), xb_in hI hB2 hr hj (by omega) hy (by omega)]
      refine ⟨vp_in_nI hk (by decide), vp_in_nI (by omega) (by decide), vp_in_nI hk (by decide), vp_in_nI (by omega) (by decide), br_c (fun e => ?_) (fun e => ?_)⟩
      · refine xb_addRow hk hI.1.1 (by omega) fun m hm => ?_
        dsimp only
        refine ⟨vp_in_nI (by omega) (by decide), ?_⟩
        rw [cl, hwl]
        refine xb_copy (by omega) (by omega) fun bc2 h1 h2 => ?_
        dsimp only
        refine ⟨vp_in_nI (by omega) (by decide), vp_in_nI (by omega) (by decide), ?_⟩
        rw [cr, hwl, hwr, nI_add]
        refine xb_copy (by omega) (by omega) fun bc3 h3 h4 => ?_
        refine nm_r (nI_1 j) (ih2 (bc3, upd br' k (nI ((bg_sel (bs_join bl b wl x y i) (fun j => bl.2 i x = b.2 j y) (bs_jrow bl b wl i) j).1 + 1))) ?_)
        dsimp only
        rw [bg_sel_t (P := fun j => bl.2 i x = b.2 j y) e]
        refine xb_push hI (by omega) hm (fun j hj => ?_) (fun c hc => ?_)
        · rw [h3 j (by omega)]
          exact h1 j (by omega)
        · show _ = if c < wl then bl.2 i c else b.2 j (c - wl)
          by_cases ec : c < wl
          · rw [if_pos ec, h3 _ (by omega), h2 c ec]
            exact xb_in hI hB hl hi (by omega) ec (by omega)
          · rw [if_neg ec]
            have z := h4 (c - wl) (by omega)
            rw [show (k * 21 + m) * 6 + wl + (c - wl) = (k * 21 + m) * 6 + c by omega] at z
            rw [z, h1 _ (by omega)]
            exact xb_in hI hB2 hr hj (by omega) (by omega) (by omega)
      · refine nm_r (nI_1 j) (ih2 (bc', br') ?_)
        dsimp only
        rw [bg_sel_f (P := fun j => bl.2 i x = b.2 j y) e]
        exact hI
theorem xb_group {post : SX → Prop} {bc br : Nat → Int32} {k l wl x y q : Nat} {bl : bg_T} (hk : k < 12) (hl : l < k) (hnl : nl k = nI l) (hw : wl ≤ 6) (hnf : nf k = nI x) (hx : x < wl) (hns : ns k = nI q) (hq : q ≤ 3) (hnt : nt k = nI y) (hy : y < wl) (h0 : br k = nI 0)
    (hB : xb_B l wl bl bc br) (h20 : bl.1 ≤ 20) (H : ∀ bc' br', xb_I bc br k 2 (bs_grp (nI q) (fun i => bl.2 i x) (fun i => bl.2 i y) bl.1 bl.1) bc' br' → post (nc, rr, rw, tc, tr, nk, nw, nl, nr, nf, ns, nt, nu, ip, bc', br', rc)) : wpX_runGroup post (nc, rr, rw, tc, tr, nk, nw, nl, nr, nf, ns, nt, nu, ip, bc, br, rc) (nI k) := by
  have ck : (nI k).toNatClampNeg = k := nI_clamp (by omega)
  have cl : (nI l).toNatClampNeg = l := nI_clamp (by omega)
  refine ⟨vp_in_nI hk (by decide), nm_r (e' := nI l) (by rw [ck]; exact hnl) ⟨vp_in_nI (by omega) (by decide), nm_r (e' := nI bl.1) (by rw [cl]; exact hB.1) ?_⟩⟩
  refine loop_0 (fun n i (s : (Nat → Int32) × (Nat → Int32)) => wX_runGroup_17 post (nI k) (nI l) (nI bl.1) n (nI i) nc rr rw tc tr nk nw nl nr nf ns nt nu ip s.1 s.2 rc) (fun i s => xb_I bc br k 2 (bs_grp (nI q) (fun i => bl.2 i x) (fun i => bl.2 i y) i i) s.1 s.2) bl.1 (bc, br) (xb_I0 h0) ?_ ?_
  · rintro n ⟨bc', br'⟩ hI
    exact br_t (nI_le (Nat.le_refl _) (by omega)) (H bc' br' hI)
  · rintro n i ⟨bc', br'⟩ hi hI ih
    dsimp only at hI
    generalize hG : bs_grp (nI q) (fun i => bl.2 i x) (fun i => bl.2 i y) i i = G at hI
    have hle : G.1 ≤ i := by rw [← hG]; exact bg_sel0_le _ _ _
    refine br_f (nI_ge hi (by omega)) (xb_rs ?_)
    dsimp only
    rw [ck, hnf, hnt, nI_add, nI_add, nI_clamp (by omega), nI_clamp (by omega)]
    refine ⟨vp_in_nI hk (by decide), vp_in_nI (by omega) (by decide), nm_r (e' := bl.2 i x) (xb_in hI hB hl hi (by omega) hx hw) ⟨vp_in_nI hk (by decide), vp_in_nI (by omega) (by decide), nm_r (e' := bl.2 i y) (xb_in hI hB hl hi (by omega) hy hw) ?_⟩⟩
    refine xb_find (c := 0) hk hI.1.1 (by omega) (by omega) (fun e => br_t rfl ?_) (fun r hr e => br_f (xb_nn1 (by omega)) ?_)
    · have hf : bg_fst (fun i => bl.2 i x) i := Classical.byContradiction fun z => by
        obtain ⟨r, hr, z2⟩ := (bg_grp_fst (q := nI q) (vl := fun i => bl.2 i y) (N := i)).mpr z
        rw [hG] at hr z2
        exact e r hr ((hI.1.2 r hr (by omega) 0 (by omega)).trans z2)
      obtain ⟨g1, g2⟩ := bg_grp_new (q := nI q) (vl := fun i => bl.2 i y) hf
      rw [hG] at g1 g2
      have done : ∀ bc2 : Nat → Int32, ∀ m, ((G.1 < 20 ∧ m = G.1) ∨ (20 ≤ G.1 ∧ m = 20)) → (∀ j, j < (k * 21 + m) * 6 ∨ (k * 21 + m) * 6 + 6 ≤ j → bc2 j = bc' j) → bc2 ((k * 21 + m) * 6) = bl.2 i x → bc2 ((k * 21 + m) * 6 + 1) = (if nI q = 1 then 1 else bl.2 i y) → wX_runGroup_17 post (nI k) (nI l) (nI bl.1) n (nI (i + 1)) nc rr rw tc tr nk nw nl nr nf ns nt nu ip bc2 (upd br' k (nI (G.1 + 1))) rc := by
        intro bc2 m hm hf1 hf2 hf3
        refine ih (bc2, upd br' k (nI (G.1 + 1))) ?_
        dsimp only
        refine xb_cg (xb_push (row := fun c => if c = 0 then bl.2 i x else if nI q = 1 then 1 else bl.2 i y) hI (by omega) hm hf1 (fun c hc => ?_)) g1 (fun r hr c _ => by rw [g2 r hr]; rfl)
        by_cases c0 : c = 0
        · subst c0
          rw [if_pos rfl]
          exact hf2
        · obtain rfl : c = 1 := by omega
          rw [if_neg c0]
          exact hf3
      refine xb_addRow hk hI.1.1 (by omega) fun m hm => ?_
      dsimp only
      rw [hns, show nI ((k * 21 + m) * 6) + 1 = nI ((k * 21 + m) * 6 + 1) from nI_1 _, nI_clamp (by omega), nI_clamp (by omega)]
      refine ⟨vp_in_nI (by omega) (by decide), nm_e ⟨vp_in_nI hk (by decide), br_c (fun eq => ⟨vp_in_nI (by omega) (by decide), nm_e (nm_r (nI_1 i) (done _ m hm (fun j hj => by rw [pk_un (by omega), pk_un (by omega)]) (by rw [pk_un (by omega)]; exact pk_us) (by rw [if_pos eq]; exact pk_us)))⟩) (fun eq => ⟨vp_in_nI (by omega) (by decide), nm_e (nm_r (nI_1 i) (done _ m hm (fun j hj => by rw [pk_un (by omega), pk_un (by omega)]) (by rw [pk_un (by omega)]; exact pk_us) (by rw [if_neg eq]; exact pk_us)))⟩)⟩⟩
    · have hkey : G.2 r 0 = bl.2 i x := (hI.1.2 r hr (by omega) 0 (by omega)).symm.trans e
      have hr' := hr
      have hkey' := hkey
      rw [← hG] at hr' hkey'
      obtain ⟨g1, g2⟩ := bg_grp_old (q := nI q) (vl := fun i => bl.2 i y) hr' hkey'
      rw [hG] at g1 g2
      rw [hns, show nI ((k * 21 + r) * 6) + 1 = nI ((k * 21 + r) * 6 + 1) from nI_1 _, nI_clamp (by omega)]
      refine ⟨vp_in_nI hk (by decide), vp_in_nI (by omega) (by decide), xb_fold hq ⟨vp_in_nI (by omega) (by decide), nm_e (nm_r (nI_1 i) (ih (upd bc' ((k * 21 + r) * 6 + 1) (bg_st (nI q) (bc' ((k * 21 + r) * 6 + 1)) (bl.2 i y)), br') ?_))⟩⟩
      dsimp only
      refine ⟨⟨by rw [g1]; exact hI.1.1, fun s hs h20' c hc => ?_⟩, fun j hj => ?_, hI.2.2⟩
      · rw [g1] at hs
        rw [g2 s hs c hc]
        by_cases z : s = r ∧ c = 1
        · obtain ⟨rfl, rfl⟩ := z
          rw [if_pos ⟨rfl, rfl⟩, pk_us, hI.1.2 s hs h20' 1 (by omega)]
        · rw [if_neg z, pk_un (by omega)]
          exact hI.1.2 s hs h20' c hc
      · rw [pk_un (by omega)]
        exact hI.2.1 j hj
end
end
section
/-! nodes: what makes one well formed, and what it gives; marks; exchange -/
def nd_rel (K W L R F S T : Int32) (k : Nat) (D : Nat → Nat → bg_T → Prop) (TB : Nat → bg_T) (w : Nat) (b : bg_T) : Prop :=
  w ≤ 6 ∧ W = nI w ∧ (
    (K = nI 0 ∧ L = -1 ∧ R = -1 ∧ w = 3 ∧ ∃ t, t < 3 ∧ F = nI t ∧ b = TB t)
  ∨ (K = nI 1 ∧ R = -1 ∧ ∃ l bl c m, l < k ∧ L = nI l ∧ D l w bl ∧ c < w ∧ F = nI c ∧ m ≤ 5 ∧ S = nI m ∧ b = bs_filter bl c (nI m) T bl.1)
  ∨ (K = nI 2 ∧ R = -1 ∧ ∃ l wl bl op x y, l < k ∧ L = nI l ∧ D l wl bl ∧ w = wl + 1 ∧ op ≤ 4 ∧ F = nI op ∧ x < wl ∧ S = nI x ∧ y < wl ∧ T = nI y ∧ b = bs_ext bl wl (nI op) x y bl.1)
  ∨ (K = nI 3 ∧ R = -1 ∧ ∃ l wl bl x, l < k ∧ L = nI l ∧ D l wl bl ∧ x < wl ∧ F = nI x ∧ (S = -1 ∨ ∃ t, t < wl ∧ S = nI t) ∧ (T = -1 ∨ ∃ t, t < wl ∧ T = nI t) ∧ w = 1 + (if S = -1 then 0 else 1) + (if T = -1 then 0 else 1) ∧ b = bs_pick bl x S T bl.1)
  ∨ (K = nI 4 ∧ ∃ l r wl wr bl br x y, l < k ∧ r < k ∧ L = nI l ∧ R = nI r ∧ D l wl bl ∧ D r wr br ∧ w = wl + wr ∧ x < wl ∧ F = nI x ∧ y < wr ∧ S = nI y ∧ b = bs_join bl br wl x y bl.1)
  ∨ (K = nI 5 ∧ ∃ l r wr bl br x y, l < k ∧ r < k ∧ L = nI l ∧ R = nI r ∧ D l w bl ∧ D r wr br ∧ x < w ∧ F = nI x ∧ y < wr ∧ S = nI y ∧ b = bs_semi bl br x y True bl.1)
  ∨ (K = nI 6 ∧ ∃ l r wr bl br x y, l < k ∧ r < k ∧ L = nI l ∧ R = nI r ∧ D l w bl ∧ D r wr br ∧ x < w ∧ F = nI x ∧ y < wr ∧ S = nI y ∧ b = bs_semi bl br x y False bl.1)
  ∨ (K = nI 7 ∧ R = -1 ∧ ∃ l wl bl x q y, l < k ∧ L = nI l ∧ D l wl bl ∧ w = 2 ∧ x < wl ∧ F = nI x ∧ q ≤ 3 ∧ S = nI q ∧ y < wl ∧ T = nI y ∧ b = bs_grp (nI q) (fun i => bl.2 i x) (fun i => bl.2 i y) bl.1 bl.1)
  ∨ (K = nI 8 ∧ R = -1 ∧ ∃ l bl, l < k ∧ L = nI l ∧ D l w bl ∧ b = bs_dist bl w bl.1)
  ∨ (K = nI 9 ∧ ∃ l r bl br, l < k ∧ r < k ∧ L = nI l ∧ R = nI r ∧ D l w bl ∧ D r w br ∧ b = bs_all (bs_all bg_0 bl bl.1) br br.1))
theorem nd_mono {K W L R F S T : Int32} {k : Nat} {D D' : Nat → Nat → bg_T → Prop} {TB : Nat → bg_T} {w : Nat} {b : bg_T} (h : ∀ l wl bl, l < k → D l wl bl → D' l wl bl) (H : nd_rel K W L R F S T k D TB w b) : nd_rel K W L R F S T k D' TB w b := by
  obtain ⟨h1, h2, H⟩ := H
  refine ⟨h1, h2, ?_⟩
  rcases H with H | ⟨a, c, l, bl, x, y, d, e, f, H⟩ | ⟨a, c, l, wl, bl, op, x, y, d, e, f, H⟩ | ⟨a, c, l, wl, bl, x, d, e, f, H⟩ | ⟨a, l, r, wl, wr, bl, br, x, y, d, d2, e, e2, f, f2, H⟩ | ⟨a, l, r, wr, bl, br, x, y, d, d2, e, e2, f, f2, H⟩ | ⟨a, l, r, wr, bl, br, x, y, d, d2, e, e2, f, f2, H⟩ | ⟨a, c, l, wl, bl, x, q, y, d, e, f, H⟩ | ⟨a, c, l, bl, d, e, f, H⟩ | ⟨a, l, r, bl, br, d, d2, e, e2, f, f2, H⟩
  · exact Or.inl H
  · exact Or.inr (Or.inl ⟨a, c, l, bl, x, y, d, e, h _ _ _ d f, H⟩)
  · exact Or.inr (Or.inr (Or.inl ⟨a, c, l, wl, bl, op, x, y, d, e, h _ _ _ d f, H⟩))
  · exact Or.inr (Or.inr (Or.inr (Or.inl ⟨a, c, l, wl, bl, x, d, e, h _ _ _ d f, H⟩)))
  · exact Or.inr (Or.inr (Or.inr (Or.inr (Or.inl ⟨a, l, r, wl, wr, bl, br, x, y, d, d2, e, e2, h _ _ _ d f, h _ _ _ d2 f2, H⟩))))
  · exact Or.inr (Or.inr (Or.inr (Or.inr (Or.inr (Or.inl ⟨a, l, r, wr, bl, br, x, y, d, d2, e, e2, h _ _ _ d f, h _ _ _ d2 f2, H⟩)))))
  · exact Or.inr (Or.inr (Or.inr (Or.inr (Or.inr (Or.inr (Or.inl ⟨a, l, r, wr, bl, br, x, y, d, d2, e, e2, h _ _ _ d f, h _ _ _ d2 f2, H⟩))))))
  · exact Or.inr (Or.inr (Or.inr (Or.inr (Or.inr (Or.inr (Or.inr (Or.inl ⟨a, c, l, wl, bl, x, q, y, d, e, h _ _ _ d f, H⟩)))))))
  · exact Or.inr (Or.inr (Or.inr (Or.inr (Or.inr (Or.inr (Or.inr (Or.inr (Or.inl ⟨a, c, l, bl, d, e, h _ _ _ d f, H⟩))))))))
  · exact Or.inr (Or.inr (Or.inr (Or.inr (Or.inr (Or.inr (Or.inr (Or.inr (Or.inr ⟨a, l, r, bl, br, d, d2, e, e2, h _ _ _ d f, h _ _ _ d2 f2, H⟩))))))))
theorem nd_lr {K W L R F S T : Int32} {k : Nat} {D : Nat → Nat → bg_T → Prop} {TB : Nat → bg_T} {w : Nat} {b : bg_T} (H : nd_rel K W L R F S T k D TB w b) : (L = -1 ∨ ∃ l, l < k ∧ L = nI l) ∧ (R = -1 ∨ ∃ l, l < k ∧ R = nI l) := by
  obtain ⟨h1, h2, H⟩ := H
  rcases H with ⟨a, c, d, H⟩ | ⟨a, c, l, bl, x, y, d, e, f, H⟩ | ⟨a, c, l, wl, bl, op, x, y, d, e, f, H⟩ | ⟨a, c, l, wl, bl, x, d, e, f, H⟩ | ⟨a, l, r, wl, wr, bl, br, x, y, d, d2, e, e2, f, f2, H⟩ | ⟨a, l, r, wr, bl, br, x, y, d, d2, e, e2, f, f2, H⟩ | ⟨a, l, r, wr, bl, br, x, y, d, d2, e, e2, f, f2, H⟩ | ⟨a, c, l, wl, bl, x, q, y, d, e, f, H⟩ | ⟨a, c, l, bl, d, e, f, H⟩ | ⟨a, l, r, bl, br, d, d2, e, e2, f, f2, H⟩
  · exact ⟨Or.inl c, Or.inl d⟩
  · exact ⟨Or.inr ⟨l, d, e⟩, Or.inl c⟩
  · exact ⟨Or.inr ⟨l, d, e⟩, Or.inl c⟩
  · exact ⟨Or.inr ⟨l, d, e⟩, Or.inl c⟩
  · exact ⟨Or.inr ⟨l, d, e⟩, Or.inr ⟨r, d2, e2⟩⟩
  · exact ⟨Or.inr ⟨l, d, e⟩, Or.inr ⟨r, d2, e2⟩⟩
  · exact ⟨Or.inr ⟨l, d, e⟩, Or.inr ⟨r, d2, e2⟩⟩
  · exact ⟨Or.inr ⟨l, d, e⟩, Or.inl c⟩
  · exact ⟨Or.inr ⟨l, d, e⟩, Or.inl c⟩
  · exact ⟨Or.inr ⟨l, d, e⟩, Or.inr ⟨r, d2, e2⟩⟩
/-! marks -/
def mk_S (nl nr a : Nat → Int32) (x : Nat) : Nat → Int32 :=
  if a x = 0 then a else (if nr x = -1 then (if nl x = -1 then a else upd a (nl x).toNatClampNeg 1) else upd (if nl x = -1 then a else upd a (nl x).toNatClampNeg 1) (nr x).toNatClampNeg 1)
def mk_F (nl nr : Nat → Int32) : Nat → (Nat → Int32) → (Nat → Int32)
  | 0, a => a
  | x + 1, a => mk_F nl nr x (mk_S nl nr a x)
def mk_ok (nl nr : Nat → Int32) (x : Nat) : Prop := (nl x = -1 ∨ ∃ l, l < x ∧ nl x = nI l) ∧ (nr x = -1 ∨ ∃ l, l < x ∧ nr x = nI l)
theorem mk_u1 {a : Nat → Int32} {i j : Nat} (h : ¬ a j = 0) : ¬ upd a i 1 j = 0 := by
  by_cases e : j = i
  · subst e
    rw [pk_us]
    decide
  · rw [pk_un e]
    exact h
theorem mk_S_mono {nl nr a : Nat → Int32} {x j : Nat} (h : ¬ a j = 0) : ¬ mk_S nl nr a x j = 0 := by
  unfold mk_S
  split
  · exact h
  · split
    · split
      · exact h
      · exact mk_u1 h
    · apply mk_u1
      split
      · exact h
      · exact mk_u1 h
theorem mk_S_hi {nl nr a : Nat → Int32} {x j : Nat} (hx : x < 2 ^ 31) (hok : mk_ok nl nr x) (h : x ≤ j) : mk_S nl nr a x j = a j := by
  have hL : ∀ a : Nat → Int32, (if nl x = -1 then a else upd a (nl x).toNatClampNeg 1) j = a j := by
    intro a
    rcases hok.1 with e | ⟨l, hl, e⟩
    · rw [if_pos e]
    · rw [e, if_neg (xb_nn1 (by omega)), nI_clamp (by omega), pk_un (by omega)]
  unfold mk_S
  split
  · rfl
  · rcases hok.2 with e | ⟨l, hl, e⟩
    · rw [if_pos e]
      exact hL a
    · rw [e, if_neg (xb_nn1 (by omega)), nI_clamp (by omega), pk_un (by omega)]
      exact hL a
theorem mk_S_c {nl nr a b : Nat → Int32} {x R : Nat} (hx : x ≤ R) (h : ∀ j, j ≤ R → a j = b j) : ∀ j, j ≤ R → mk_S nl nr a x j = mk_S nl nr b x j := by
  have hu : ∀ (a b : Nat → Int32) (i : Nat), (∀ j, j ≤ R → a j = b j) → ∀ j, j ≤ R → upd a i 1 j = upd b i 1 j := by
    intro a b i h j hj
    by_cases e : j = i
    · subst e
      rw [pk_us, pk_us]
    · rw [pk_un e, pk_un e]
      exact h j hj
  intro j hj
  unfold mk_S
  rw [h x hx]
  split
  · exact h j hj
  · split
    · split
      · exact h j hj
      · exact hu _ _ _ h j hj
    · refine hu _ _ _ (fun j hj => ?_) j hj
      split
      · exact h j hj
      · exact hu _ _ _ h j hj
theorem mk_F_mono {nl nr : Nat → Int32} {j : Nat} : ∀ e a, ¬ a j = 0 → ¬ mk_F nl nr e a j = 0 := by
  intro e
  induction e with
  | zero => exact fun a h => h
  | succ e ih => exact fun a h => ih _ (mk_S_mono h)
theorem mk_F_hi {nl nr : Nat → Int32} {j : Nat} : ∀ e a, e < 2 ^ 31 → (∀ x, x < e → mk_ok nl nr x) → e ≤ j + 1 → mk_F nl nr e a j = a j := by
  intro e
  induction e with
  | zero => exact fun a _ _ _ => rfl
  | succ e ih =>
    intro a h1 h2 h3
    show mk_F nl nr e (mk_S nl nr a e) j = a j
    rw [ih _ (by omega) (fun x hx => h2 x (by omega)) (by omega)]
    exact mk_S_hi (by omega) (h2 e (by omega)) (by omega)
theorem mk_F_c {nl nr : Nat → Int32} {R : Nat} : ∀ e a b, e ≤ R + 1 → (∀ j, j ≤ R → a j = b j) → ∀ j, j ≤ R → mk_F nl nr e a j = mk_F nl nr e b j := by
  intro e
  induction e with
  | zero => exact fun a b _ h => h
  | succ e ih => exact fun a b he h => ih _ _ (by omega) (mk_S_c (by omega) h)
theorem mk_F_cl {nl nr : Nat → Int32} : ∀ e a, e < 2 ^ 31 → (∀ x, x < e → mk_ok nl nr x) → ∀ x, x < e → ¬ mk_F nl nr e a x = 0 → ∀ l, (nl x = nI l ∨ nr x = nI l) → l < x → ¬ mk_F nl nr e a l = 0 := by
  intro e
  induction e with
  | zero => exact fun a _ _ x hx => absurd hx (Nat.not_lt_zero x)
  | succ e ih =>
    intro a h1 h2 x hx hm l hl hlx
    have h2' : ∀ x, x < e → mk_ok nl nr x := fun x hx => h2 x (by omega)
    change ¬ mk_F nl nr e (mk_S nl nr a e) l = 0
    change ¬ mk_F nl nr e (mk_S nl nr a e) x = 0 at hm
    by_cases ex : x = e
    · subst ex
      rw [mk_F_hi x _ (by omega) h2' (by omega), mk_S_hi (by omega) (h2 x (by omega)) (Nat.le_refl x)] at hm
      apply mk_F_mono
      unfold mk_S
      rw [if_neg hm]
      rcases hl with el | el
      · have hL : ¬ (if nl x = -1 then a else upd a (nl x).toNatClampNeg 1) l = 0 := by
          rw [el, if_neg (xb_nn1 (by omega)), nI_clamp (by omega), pk_us]
          decide
        split
        · exact hL
        · exact mk_u1 hL
      · rw [el, if_neg (xb_nn1 (by omega)), nI_clamp (show l < 2 ^ 31 by omega), pk_us]
        decide
    · exact ih _ (by omega) h2' x (by omega) hm l hl hlx
/-! exchange -/
def bg_si (n w : Nat) (g : Nat → Nat → Int32) (p q : Nat) (s : Nat → Nat → Int32) : Prop :=
  (∀ a b, a < p → a < b → b < n → ¬ bg_lt w (s b) (s a)) ∧ bg_perm n w g s ∧ ∀ b, p < b → b < q → ¬ bg_lt w (s b) (s p)
theorem bg_xch {n w p q : Nat} {g s s' : Nat → Nat → Int32} (hpq : p < q) (hq : q < n) (e1 : bg_eqw w (s' p) (s q)) (e2 : bg_eqw w (s' q) (s p)) (e3 : ∀ i, i ≠ p → i ≠ q → i < n → bg_eqw w (s' i) (s i)) (hlt : bg_lt w (s q) (s p)) (H : bg_si n w g p q s) : bg_si n w g p (q + 1) s' := by
  obtain ⟨h1, h2, h3⟩ := H
  refine ⟨fun a b ha hab hb z => ?_, fun P hP => ?_, fun b hb hb2 z => ?_⟩
  · have ea := e3 a (by omega) (by omega) (by omega)
    by_cases b1 : b = p
    · subst b1
      exact h1 a q ha (by omega) hq (bg_lt_c e1 ea z)
    · by_cases b2 : b = q
      · subst b2
        exact h1 a p ha ha (by omega) (bg_lt_c e2 ea z)
      · exact h1 a b ha hab hb (bg_lt_c (e3 b b1 b2 hb) ea z)
  · rw [← h2 P hP]
    refine bg_cnt_sw (p := p) (q := q) (by omega) (by omega) hq ⟨fun z => hP _ _ e1 z, fun z => hP _ _ (bg_eqw_s e1) z⟩ ⟨fun z => hP _ _ e2 z, fun z => hP _ _ (bg_eqw_s e2) z⟩ (fun i hi i1 i2 => ⟨fun z => hP _ _ (e3 i i1 i2 hi) z, fun z => hP _ _ (bg_eqw_s (e3 i i1 i2 hi)) z⟩)
  · by_cases b2 : b = q
    · subst b2
      exact bg_lt_as hlt (bg_lt_c e2 e1 z)
    · have y := bg_lt_c (e3 b (by omega) b2 (by omega)) e1 z
      exact h3 b hb (by omega) (bg_lt_tr y hlt)
theorem bg_srt_c {n w : Nat} {g g' S : Nat → Nat → Int32} (h : ∀ i, i < n → bg_eqw w (g i) (g' i)) (H : bg_srt n w g S) : bg_srt n w g' S := by
  refine ⟨H.1, fun P hP => ?_⟩
  rw [H.2 P hP]
  exact bg_cnt_c n fun i hi => ⟨fun z => hP _ _ (h i hi) z, fun z => hP _ _ (bg_eqw_s (h i hi)) z⟩
end
section
/-! the component: a node, sorting, keeping, marks, run -/
theorem xb_b1 : vp_nar .boolean 1 = 1 := rfl
theorem xb_b0 : vp_nar .boolean 0 = 0 := rfl
section
variable {nc rr rw : Int32} {tc tr nk nw nl nr nf ns nt nu ip rc : Nat → Int32}
theorem xb_runNode {post : SX → Prop} {bc br : Nat → Int32} {k w : Nat} {b : bg_T} {D : Nat → Nat → bg_T → Prop} {TB : Nat → bg_T} (hk : k < 12) (hN : nd_rel (nk k) (nw k) (nl k) (nr k) (nf k) (ns k) (nt k) k D TB w b)
    (hT : ∀ t, t < 3 → ∃ h, h ≤ 6 ∧ tr t = nI h ∧ TB t = bs_scan tc t h)
    (hD : ∀ l wl bl, l < k → (nl k = nI l ∨ nr k = nI l) → D l wl bl → nw l = nI wl ∧ wl ≤ 6 ∧ xb_B l wl bl bc br ∧ bl.1 ≤ 20)
    (H : ∀ bc' br', xb_I bc br k w b bc' br' → post (nc, rr, rw, tc, tr, nk, nw, nl, nr, nf, ns, nt, nu, ip, bc', br', rc)) : wpX_runNode post (nc, rr, rw, tc, tr, nk, nw, nl, nr, nf, ns, nt, nu, ip, bc, br, rc) (nI k) := by
  have ck : (nI k).toNatClampNeg = k := nI_clamp (by omega)
  have hU : ∀ l wl bl, l < k → xb_B l wl bl bc br → xb_B l wl bl bc (upd br k (nI 0)) := fun l wl bl hl h => ⟨by rw [pk_un (by omega)]; exact h.1, h.2⟩
  have h0 : upd br k (nI 0) k = nI 0 := pk_us
  have HH : ∀ bc' br', xb_I bc (upd br k (nI 0)) k w b bc' br' → post (nc, rr, rw, tc, tr, nk, nw, nl, nr, nf, ns, nt, nu, ip, bc', br', rc) := fun bc' br' h => H bc' br' ⟨h.1, h.2.1, fun m hm => (h.2.2 m hm).trans (pk_un hm)⟩
  obtain ⟨hw6, hW, hC⟩ := hN
  refine ⟨vp_in_nI hk (by decide), nm_r (e' := upd br k (nI 0)) (by rw [ck]; rfl) ⟨vp_in_nI hk (by decide), ?_⟩⟩
  rcases hC with ⟨hK, hL, hR, e3, t, ht, hF, hb⟩ | ⟨hK, hR, l, bl, c, m, hl, hL, hd, hc, hF, hm, hS, hb⟩ | ⟨hK, hR, l, wl, bl, op, x, y, hl, hL, hd, hw, hop, hF, hx, hS, hy, hT', hb⟩ | ⟨hK, hR, l, wl, bl, x, hl, hL, hd, hx, hF, hS, hT', hw, hb⟩ | ⟨hK, l, r, wl, wr, bl, b2, x, y, hl, hr, hL, hR, hd, hd2, hw, hx, hF, hy, hS, hb⟩ | ⟨hK, l, r, wr, bl, b2, x, y, hl, hr, hL, hR, hd, hd2, hx, hF, hy, hS, hb⟩ | ⟨hK, l, r, wr, bl, b2, x, y, hl, hr, hL, hR, hd, hd2, hx, hF, hy, hS, hb⟩ | ⟨hK, hR, l, wl, bl, x, q, y, hl, hL, hd, hw, hx, hF, hq, hS, hy, hT', hb⟩ | ⟨hK, hR, l, bl, hl, hL, hd, hb⟩ | ⟨hK, l, r, bl, b2, hl, hr, hL, hR, hd, hd2, hb⟩
  · obtain ⟨h, hh, e1, e2⟩ := hT t ht
    refine nm_r (e' := nI 0) (by rw [ck]; exact hK) (br_f (by decide) (br_f (by decide) (br_t (by decide) (xb_scan hk hF ht e1 hh h0 (fun bc' br' hI => HH bc' br' ?_)))))
    rw [hb, e2, e3]
    exact hI
  · obtain ⟨d1, d2, d3, d4⟩ := hD l _ bl hl (Or.inl hL) hd
    refine nm_r (e' := nI 1) (by rw [ck]; exact hK) (br_f (by decide) (br_f (by decide) (br_f (by decide) (br_t (by decide) (xb_filter hk hl hL hW hw6 hF hc hS hm h0 (hU _ _ _ hl d3) d4 (fun bc' br' hI => HH bc' br' ?_))))))
    rw [hb]
    exact hI
  · obtain ⟨d1, d2, d3, d4⟩ := hD l _ bl hl (Or.inl hL) hd
    subst hw
    refine nm_r (e' := nI 2) (by rw [ck]; exact hK) (br_f (by decide) (br_f (by decide) (br_f (by decide) (br_f (by decide) (br_t (by decide) (xb_ext hk hl hL d1 hw6 hF hop hS hx hT' hy h0 (hU _ _ _ hl d3) d4 (fun bc' br' hI => HH bc' br' ?_)))))))
    rw [hb]
    exact hI
  · obtain ⟨d1, d2, d3, d4⟩ := hD l _ bl hl (Or.inl hL) hd
    refine nm_r (e' := nI 3) (by rw [ck]; exact hK) (br_f (by decide) (br_f (by decide) (br_f (by decide) (br_f (by decide) (br_f (by decide) (br_t (by decide) (xb_pick hk hl hL d2 hF hx hS hT' hw h0 (hU _ _ _ hl d3) d4 (fun bc' br' hI => HH bc' br' ?_))))))))
    rw [hb]
    exact hI
  · obtain ⟨d1, d2, d3, d4⟩ := hD l _ bl hl (Or.inl hL) hd
    obtain ⟨f1, f2, f3, f4⟩ := hD r _ b2 hr (Or.inr hR) hd2
    subst hw
    refine nm_r (e' := nI 4) (by rw [ck]; exact hK) (br_f (by decide) (br_f (by decide) (br_f (by decide) (br_f (by decide) (br_f (by decide) (br_f (by decide) (br_t (by decide) (xb_join hk hl hr hL hR d1 f1 hw6 hF hx hS hy h0 (hU _ _ _ hl d3) d4 (hU _ _ _ hr f3) f4 (fun bc' br' hI => HH bc' br' ?_)))))))))
    rw [hb]
    exact hI
  · obtain ⟨d1, d2, d3, d4⟩ := hD l _ bl hl (Or.inl hL) hd
    obtain ⟨f1, f2, f3, f4⟩ := hD r _ b2 hr (Or.inr hR) hd2
    refine nm_r (e' := nI 5) (by rw [ck]; exact hK) (br_f (by decide) (br_f (by decide) (br_f (by decide) (br_f (by decide) (br_f (by decide) (br_f (by decide) (br_f (by decide) (br_t (by decide) (xb_semi hk hl hr hL hR hW hw6 f2 hF hx hS hy h0 (Or.inl ⟨trivial, rfl⟩) (hU _ _ _ hl d3) d4 (hU _ _ _ hr f3) f4 (fun bc' br' hI => HH bc' br' ?_))))))))))
    rw [hb]
    exact hI
  · obtain ⟨d1, d2, d3, d4⟩ := hD l _ bl hl (Or.inl hL) hd
    obtain ⟨f1, f2, f3, f4⟩ := hD r _ b2 hr (Or.inr hR) hd2
    refine nm_r (e' := nI 6) (by rw [ck]; exact hK) (br_f (by decide) (br_f (by decide) (br_f (by decide) (br_f (by decide) (br_f (by decide) (br_f (by decide) (br_f (by decide) (br_f (by decide) (br_t (by decide) (xb_semi hk hl hr hL hR hW hw6 f2 hF hx hS hy h0 (Or.inr ⟨id, rfl⟩) (hU _ _ _ hl d3) d4 (hU _ _ _ hr f3) f4 (fun bc' br' hI => HH bc' br' ?_)))))))))))
    rw [hb]
    exact hI
  · obtain ⟨d1, d2, d3, d4⟩ := hD l _ bl hl (Or.inl hL) hd
    subst hw
    refine nm_r (e' := nI 7) (by rw [ck]; exact hK) (br_f (by decide) (br_f (by decide) (br_f (by decide) (br_f (by decide) (br_f (by decide) (br_f (by decide) (br_f (by decide) (br_f (by decide) (br_f (by decide) (br_t (by decide) (xb_group hk hl hL d2 hF hx hS hq hT' hy h0 (hU _ _ _ hl d3) d4 (fun bc' br' hI => HH bc' br' ?_))))))))))))
    rw [hb]
    exact hI
  · obtain ⟨d1, d2, d3, d4⟩ := hD l _ bl hl (Or.inl hL) hd
    refine nm_r (e' := nI 8) (by rw [ck]; exact hK) (br_f (by decide) (br_f (by decide) (br_f (by decide) (br_f (by decide) (br_f (by decide) (br_f (by decide) (br_f (by decide) (br_f (by decide) (br_f (by decide) (br_f (by decide) (br_t (by decide) (xb_dist hk hl hL hW hw6 h0 (hU _ _ _ hl d3) d4 (fun bc' br' hI => HH bc' br' ?_)))))))))))))
    rw [hb]
    exact hI
  · obtain ⟨d1, d2, d3, d4⟩ := hD l _ bl hl (Or.inl hL) hd
    obtain ⟨f1, f2, f3, f4⟩ := hD r _ b2 hr (Or.inr hR) hd2
    refine nm_r (e' := nI 9) (by rw [ck]; exact hK) (br_f (by decide) (br_t (by decide) ⟨vp_in_nI hk (by decide), ?_⟩))
    rw [ck, hL]
    refine xb_addAll hk hl hW hw6 (xb_I0 h0) (Nat.zero_le _) (hU _ _ _ hl d3) d4 (fun bc1 br1 hI1 => ?_)
    dsimp only
    refine ⟨vp_in_nI hk (by decide), ?_⟩
    try rw [ck]
    rw [hR]
    refine xb_addAll hk hr hW hw6 hI1 (Nat.le_trans (bg_sel0_le _ _ _) d4) (hU _ _ _ hr f3) f4 (fun bc' br' hI => HH bc' br' ?_)
    rw [hb]
    exact hI
theorem xb_sort {post : SX → Prop} {bc br : Nat → Int32} {k n w : Nat} (hk : k < 12) (hn : br k = nI n) (hn20 : n ≤ 20) (hw : nw k = nI w) (hw6 : w ≤ 6)
    (H : ∀ bc', bg_srt n w (fun i c => bc ((k * 21 + i) * 6 + c)) (fun i c => bc' ((k * 21 + i) * 6 + c)) → post (nc, rr, rw, tc, tr, nk, nw, nl, nr, nf, ns, nt, nu, ip, bc', br, rc)) : wpX_sortBag post (nc, rr, rw, tc, tr, nk, nw, nl, nr, nf, ns, nt, nu, ip, bc, br, rc) (nI k) := by
  have ck : (nI k).toNatClampNeg = k := nI_clamp (by omega)
  refine loop_0 (fun f p s => wX_sortBag_2 post (nI k) f (nI p) nc rr rw tc tr nk nw nl nr nf ns nt nu ip s br rc) (fun p s => bg_si n w (fun i c => bc ((k * 21 + i) * 6 + c)) p (p + 1) (fun i c => s ((k * 21 + i) * 6 + c))) n bc ⟨fun a b h => absurd h (Nat.not_lt_zero a), fun P _ => rfl, fun b h1 h2 => by omega⟩ ?_ ?_
  · rintro f s ⟨h1, h2, h3⟩
    refine ⟨vp_in_nI hk (by decide), ?_⟩
    rw [ck, hn]
    exact br_t (nI_le (Nat.le_refl _) (by omega)) (H s ⟨fun a b hab hb => h1 a b (by omega) hab hb, h2⟩)
  · rintro f p s hp hI ih
    refine ⟨vp_in_nI hk (by decide), ?_⟩
    rw [ck, hn]
    refine br_f (nI_ge hp (by omega)) (xb_rs (nm_r (nI_1 p) ?_))
    refine pk_loop (fun f2 q s => wX_sortBag_24 post (wX_sortBag_2 post (nI k) f) (nI k) (nI p) (nI ((k * 21 + p) * 6)) f2 (nI q) nc rr rw tc tr nk nw nl nr nf ns nt nu ip s br rc) (fun q s => p < q ∧ bg_si n w (fun i c => bc ((k * 21 + i) * 6 + c)) p q (fun i c => s ((k * 21 + i) * 6 + c))) n (p + 1) s hp ⟨Nat.lt_succ_self p, hI⟩ ?_ ?_
    · rintro f2 s ⟨_, h1, h2, h3⟩
      refine ⟨vp_in_nI hk (by decide), ?_⟩
      rw [ck, hn]
      refine br_t (nI_le (Nat.le_refl _) (by omega)) (nm_r (nI_1 p) (ih s ⟨fun a b ha hab hb => ?_, h2, fun b h4 h5 => by omega⟩))
      by_cases e : a = p
      · subst e
        exact h3 b hab hb
      · exact h1 a b (by omega) hab hb
    · rintro f2 q s hq ⟨hpq, hI2⟩ ih2
      refine ⟨vp_in_nI hk (by decide), ?_⟩
      rw [ck, hn]
      refine br_f (nI_ge hq (by omega)) (xb_rs ⟨vp_in_nI hk (by decide), ?_⟩)
      rw [hw]
      refine xb_before (by omega) (by omega) (fun e => br_f (by decide) ⟨vp_in_nI hk (by decide), xb_swap (by omega) (by omega) (by omega) fun bc' h1 h2 h3 => nm_r (nI_1 q) (ih2 bc' ⟨by omega, ?_⟩)⟩) (fun e => br_t rfl (nm_r (nI_1 q) (ih2 s ⟨by omega, hI2.1, hI2.2.1, fun b h1 h2 => ?_⟩)))
      · exact bg_xch (s := fun i c => s ((k * 21 + i) * 6 + c)) (s' := fun i c => bc' ((k * 21 + i) * 6 + c)) hpq hq h3 h2 (fun i i1 i2 hi c hc => h1 _ (by omega) (by omega)) e hI2
      · by_cases eb : b = q
        · subst eb
          exact e
        · exact hI2.2.2 b h1 (by omega)
end
end
section
/-! the component: keeping, marks, run -/
theorem nd_le {K W L R F S T : Int32} {k : Nat} {D : Nat → Nat → bg_T → Prop} {TB : Nat → bg_T} {w : Nat} {b : bg_T} (H : nd_rel K W L R F S T k D TB w b) (hT : ∀ t, t < 3 → (TB t).1 ≤ 400) (hD : ∀ l wl bl, l < k → (L = nI l ∨ R = nI l) → D l wl bl → bl.1 ≤ 20) : b.1 ≤ 400 := by
  obtain ⟨h1, h2, H⟩ := H
  rcases H with ⟨a, c, d, h3, t, ht, f, rfl⟩ | ⟨a, c, l, bl, x, y, d, e, f, _, _, _, _, rfl⟩ | ⟨a, c, l, wl, bl, op, x, y, d, e, f, _, _, _, _, _, _, _, rfl⟩ | ⟨a, c, l, wl, bl, x, d, e, f, _, _, _, _, _, rfl⟩ | ⟨a, l, r, wl, wr, bl, br, x, y, d, d2, e, e2, f, f2, _, _, _, _, _, rfl⟩ | ⟨a, l, r, wr, bl, br, x, y, d, d2, e, e2, f, f2, _, _, _, _, rfl⟩ | ⟨a, l, r, wr, bl, br, x, y, d, d2, e, e2, f, f2, _, _, _, _, rfl⟩ | ⟨a, c, l, wl, bl, x, q, y, d, e, f, _, _, _, _, _, _, _, rfl⟩ | ⟨a, c, l, bl, d, e, f, rfl⟩ | ⟨a, l, r, bl, br, d, d2, e, e2, f, f2, rfl⟩
  · exact hT t ht
  · exact Nat.le_trans (bg_sel0_le _ _ _) (Nat.le_trans (hD _ _ _ d (Or.inl e) f) (by decide))
  · exact Nat.le_trans (bg_sel0_le _ _ _) (Nat.le_trans (hD _ _ _ d (Or.inl e) f) (by decide))
  · exact Nat.le_trans (bg_sel0_le _ _ _) (Nat.le_trans (hD _ _ _ d (Or.inl e) f) (by decide))
  · exact Nat.le_trans (bs_join_le _ _ _ _ _ _) (Nat.mul_le_mul (hD _ _ _ d (Or.inl e) f) (hD _ _ _ d2 (Or.inr e2) f2))
  · exact Nat.le_trans (bg_sel0_le _ _ _) (Nat.le_trans (hD _ _ _ d (Or.inl e) f) (by decide))
  · exact Nat.le_trans (bg_sel0_le _ _ _) (Nat.le_trans (hD _ _ _ d (Or.inl e) f) (by decide))
  · exact Nat.le_trans (bg_sel0_le _ _ _) (Nat.le_trans (hD _ _ _ d (Or.inl e) f) (by decide))
  · exact Nat.le_trans (bg_sel0_le _ _ _) (Nat.le_trans (hD _ _ _ d (Or.inl e) f) (by decide))
  · have h3 : (bs_all bg_0 bl bl.1).1 ≤ bl.1 := bg_sel0_le _ _ _
    have h4 : (bs_all (bs_all bg_0 bl bl.1) br br.1).1 ≤ (bs_all bg_0 bl bl.1).1 + br.1 := bg_sel_le _ _ _ _
    have h5 := hD _ _ _ d (Or.inl e) f
    have h6 := hD _ _ _ d2 (Or.inr e2) f2
    omega
section
variable {nc rr rw : Int32} {tc tr nk nw nl nr nf ns nt nu ip : Nat → Int32}
theorem xb_kept {post : SX → Prop} {bc br rc : Nat → Int32} {k n w : Nat} (hk : k < 12) (hn : br k = nI n) (hn20 : n ≤ 20) (hw : nw k = nI w) (hw6 : w ≤ 6)
    (H : ∀ rc' : Nat → Int32, (∀ i, i < n → ∀ c, c < w → rc' (i * 6 + c) = bc ((k * 21 + i) * 6 + c)) → post (nc, nI n, nI w, tc, tr, nk, nw, nl, nr, nf, ns, nt, nu, ip, bc, br, rc')) : wpX_keepResult post (nc, rr, rw, tc, tr, nk, nw, nl, nr, nf, ns, nt, nu, ip, bc, br, rc) (nI k) := by
  have ck : (nI k).toNatClampNeg = k := nI_clamp (by omega)
  refine ⟨vp_in_nI hk (by decide), nm_r (e' := nI n) (by rw [ck]; exact hn) ⟨vp_in_nI hk (by decide), nm_r (e' := nI w) (by rw [ck]; exact hw) ?_⟩⟩
  refine loop_0 (fun f i s => wX_keepResult_22 post (nI k) nc (nI n) (nI w) f (nI i) tc tr nk nw nl nr nf ns nt nu ip bc br s) (fun i s => ∀ j, j < i → ∀ c, c < w → s (j * 6 + c) = bc ((k * 21 + j) * 6 + c)) n rc (fun j hj => absurd hj (Nat.not_lt_zero j)) ?_ ?_
  · intro f s hI
    exact br_t (nI_le (Nat.le_refl _) (by omega)) (H s hI)
  · intro f i s hi hI ih
    refine br_f (nI_ge hi (by omega)) (xb_rs ?_)
    refine loop_0 (fun f2 d s2 => wX_keepResult_40 post (wX_keepResult_22 post (nI k) nc (nI n) (nI w) f) (nI k) (nI i) (nI ((k * 21 + i) * 6)) nc (nI n) (nI w) f2 (nI d) tc tr nk nw nl nr nf ns nt nu ip bc br s2) (fun d s2 => (∀ j, j < i → ∀ c, c < w → s2 (j * 6 + c) = bc ((k * 21 + j) * 6 + c)) ∧ ∀ c, c < d → s2 (i * 6 + c) = bc ((k * 21 + i) * 6 + c)) w s ⟨hI, fun c hc => absurd hc (Nat.not_lt_zero c)⟩ ?_ ?_
    · rintro f2 s2 ⟨h1, h2⟩
      refine br_t (nI_le (Nat.le_refl _) (by omega)) (nm_r (nI_1 i) (ih s2 fun j hj c hc => ?_))
      by_cases e : j = i
      · subst e
        exact h2 c hc
      · exact h1 j (by omega) c hc
    · rintro f2 d s2 hd ⟨h1, h2⟩ ih2
      refine br_f (nI_ge hd (by omega)) ?_
      rw [show (6 : Int32) = nI 6 from rfl, pk_mul, nI_add, nI_add, nI_clamp (by omega), nI_clamp (by omega)]
      refine ⟨vp_in_nI (by omega) (by decide), vp_in_nI (by omega) (by decide), nm_e (nm_r (nI_1 d) (ih2 (upd s2 (i * 6 + d) (bc ((k * 21 + i) * 6 + d))) ⟨fun j hj c hc => ?_, fun c hc => ?_⟩))⟩
      · rw [pk_un (by omega)]
        exact h1 j hj c hc
      · by_cases e : c = d
        · subst e
          exact pk_us
        · rw [pk_un (by omega)]
          exact h2 c (by omega)
theorem xb_mark {post : SX → Prop} {bc br rc : Nat → Int32} {R : Nat} (hR : R < 12) (hok : ∀ x, x ≤ R → mk_ok nl nr x)
    (H : ∀ ip' a0 : Nat → Int32, (∀ j, j < R → a0 j = 0) → a0 R = 1 → ip' = mk_F nl nr (R + 1) a0 → post (nc, rr, rw, tc, tr, nk, nw, nl, nr, nf, ns, nt, nu, ip', bc, br, rc)) : wpX_markPlan post (nc, rr, rw, tc, tr, nk, nw, nl, nr, nf, ns, nt, nu, ip, bc, br, rc) (nI R) := by
  have cR : (nI R).toNatClampNeg = R := nI_clamp (by omega)
  refine loop_0 (fun f i s => wX_markPlan_2 post (nI R) nc rr rw f (nI i) tc tr nk nw nl nr nf ns nt nu s bc br rc) (fun i s => ∀ j, j < i → s j = 0) R ip (fun j hj => absurd hj (Nat.not_lt_zero j)) ?_ ?_
  · intro f s hI
    refine br_t (nI_le (Nat.le_refl _) (by omega)) ⟨vp_in_nI hR (by decide), ?_⟩
    rw [cR, xb_b1]
    refine nm_e ?_
    have a1 : ∀ j, j < R → upd s R 1 j = 0 := fun j hj => by rw [pk_un (by omega)]; exact hI j hj
    have a2 : upd s R 1 R = 1 := pk_us
    generalize upd s R 1 = a0 at a1 a2
    have key := pk_loopD (fun f e s => wX_markPlan_29 post nc rr rw f (nI e + (-1)) tc tr nk nw nl nr nf ns nt nu s bc br rc) (fun e s => e ≤ R + 1 ∧ mk_F nl nr e s = mk_F nl nr (R + 1) a0) ?_ ?_ (R + 1) a0 ⟨Nat.le_refl _, rfl⟩
    · rw [pk_m1] at key
      exact ⟨_, key⟩
    · rintro f s ⟨_, hI⟩
      exact br_t (by decide) (H _ a0 a1 a2 hI)
    · rintro f e s ⟨he, hI⟩ ih
      have ce : (nI e).toNatClampNeg = e := nI_clamp (by omega)
      have hS : mk_F nl nr e (mk_S nl nr s e) = mk_F nl nr (R + 1) a0 := hI
      have ih2 := ih (mk_S nl nr s e) ⟨by omega, hS⟩
      rw [pk_m1]
      refine br_f (nI_pos (by omega)) ⟨vp_in_nI (by omega) (by decide), ?_⟩
      rw [ce, xb_b1]
      unfold mk_S at ih2
      refine br_c (fun z => nm_e (by rw [if_pos z] at ih2; exact ih2)) (fun z => ⟨vp_in_nI (by omega) (by decide), ?_⟩)
      rw [if_neg z] at ih2
      have tail : ∀ a : Nat → Int32, wX_markPlan_29 post nc rr rw f (nI e + -1) tc tr nk nw nl nr nf ns nt nu ((if nr e = -1 then a else upd a (nr e).toNatClampNeg 1)) bc br rc → wX_markPlan_64 post (wX_markPlan_29 post nc rr rw f) (nI e) nc rr rw tc tr nk nw nl nr nf ns nt nu a bc br rc := by
        intro a ha
        refine ⟨vp_in_nI (by omega) (by decide), ?_⟩
        rw [ce, xb_b1]
        rcases (hok e (by omega)).2 with er | ⟨r, hr, er⟩
        · rw [if_pos er] at ha
          exact br_t er (nm_e ha)
        · rw [er, if_neg (xb_nn1 (by omega))] at ha
          rw [er]
          exact br_f (xb_nn1 (by omega)) ⟨vp_in_nI (by omega) (by decide), vp_in_nI (by omega) (by decide), nm_e (nm_e ha)⟩
      rcases (hok e (by omega)).1 with el | ⟨l, hl, el⟩
      · rw [if_pos el] at ih2
        exact br_t el (tail _ ih2)
      · rw [el, if_neg (xb_nn1 (by omega))] at ih2
        rw [el]
        exact br_f (xb_nn1 (by omega)) ⟨vp_in_nI (by omega) (by decide), vp_in_nI (by omega) (by decide), nm_e (tail _ ih2)⟩
  · intro f i s hi hI ih
    refine br_f (nI_ge hi (by omega)) ⟨vp_in_nI (by omega) (by decide), ?_⟩
    rw [nI_clamp (by omega), xb_b0]
    refine nm_e (nm_r (nI_1 i) (ih (upd s i 0) fun j hj => ?_))
    by_cases e : j = i
    · subst e
      exact pk_us
    · rw [pk_un e]
      exact hI j (by omega)
theorem xb_loop {post : Int32 → SX → Prop} {bc br rc : Nat → Int32} {R : Nat} {B TB : Nat → bg_T} {Wd : Nat → Nat} (hR : R < 12)
    (hN : ∀ k, k ≤ R → nd_rel (nk k) (nw k) (nl k) (nr k) (nf k) (ns k) (nt k) k (fun l wl bl => nw l = nI wl ∧ wl ≤ 6 ∧ bl = B l) TB (Wd k) (B k))
    (hT : ∀ t, t < 3 → ∃ h, h ≤ 6 ∧ tr t = nI h ∧ TB t = bs_scan tc t h)
    (hM : ∀ k, k ≤ R → ¬ ip k = 0 → ∀ l, (nl k = nI l ∨ nr k = nI l) → l < k → ¬ ip l = 0) (hMR : ¬ ip R = 0)
    (Hov : (∃ k, k ≤ R ∧ ¬ ip k = 0 ∧ 20 < (B k).1) → ∀ bc' br', post (-8) (nc, rr, rw, tc, tr, nk, nw, nl, nr, nf, ns, nt, nu, ip, bc', br', rc))
    (Hok : (∀ k, k ≤ R → ¬ ip k = 0 → (B k).1 ≤ 20) → ∀ bc' br' rc' S, bg_srt (B R).1 (Wd R) (B R).2 S → (∀ i, i < (B R).1 → ∀ c, c < Wd R → rc' (i * 6 + c) = S i c) → post (nI (B R).1) (nc, nI (B R).1, nI (Wd R), tc, tr, nk, nw, nl, nr, nf, ns, nt, nu, ip, bc', br', rc')) :
    ∃ n, wX_run_18 post (nI R) n 0 nc rr rw tc tr nk nw nl nr nf ns nt nu ip bc br rc := by
  have hWd : ∀ k, k ≤ R → Wd k ≤ 6 ∧ nw k = nI (Wd k) := fun k hk => ⟨(hN k hk).1, (hN k hk).2.1⟩
  refine loop_0 (fun f k (s : (Nat → Int32) × (Nat → Int32)) => wX_run_18 post (nI R) f (nI k) nc rr rw tc tr nk nw nl nr nf ns nt nu ip s.1 s.2 rc) (fun k s => ∀ m, m < k → ¬ ip m = 0 → xb_B m (Wd m) (B m) s.1 s.2 ∧ (B m).1 ≤ 20) (R + 1) (bc, br) (fun m hm => absurd hm (Nat.not_lt_zero m)) ?_ ?_
  · rintro f ⟨bc', br'⟩ hI
    obtain ⟨hB, h20⟩ := hI R (by omega) hMR
    have hw := hWd R (Nat.le_refl _)
    refine br_t (nI_lt (by omega) (by omega)) (xb_sort hR hB.1 h20 hw.2 hw.1 fun bc2 hs => ?_)
    dsimp only
    refine xb_kept hR hB.1 h20 hw.2 hw.1 fun rc' hrc => ?_
    exact Hok (fun k hk z => (hI k (by omega) z).2) _ _ rc' _ (bg_srt_c (fun i hi c hc => hB.2 i hi (by omega) c hc) hs) hrc
  · rintro f k ⟨bc', br'⟩ hk hI ih
    have ck : (nI k).toNatClampNeg = k := nI_clamp (by omega)
    refine br_f (nI_nlt (by omega) (by omega)) ⟨vp_in_nI (by omega) (by decide), ?_⟩
    rw [ck]
    refine br_c (fun z => nm_r (nI_1 k) (ih (bc', br') fun m hm z2 => ?_)) (fun z => xb_runNode (by omega) (hN k (by omega)) hT (fun l wl bl hl hlr hd => ?_) fun bc2 br2 hI2 => ?_)
    · by_cases e : m = k
      · subst e
        exact absurd z z2
      · exact hI m (by omega) z2
    · obtain ⟨d1, d2, d3⟩ := hd
      obtain ⟨hB, h20⟩ := hI l hl (hM k (by omega) z l hlr hl)
      have e : wl = Wd l := (nI_eq (by omega) (by have := (hWd l (by omega)).1; omega)).mp (d1.symm.trans (hWd l (by omega)).2)
      subst d3
      subst e
      exact ⟨d1, d2, hB, h20⟩
    · refine ⟨vp_in_nI (by omega) (by decide), ?_⟩
      rw [hI2.1.1]
      have hb : (B k).1 ≤ 400 := nd_le (hN k (by omega)) (fun t ht => by obtain ⟨h, hh, _, e⟩ := hT t ht; rw [e]; exact Nat.le_trans (bg_sel0_le _ _ _) (by omega)) (fun l wl bl hl hlr hd => by rw [hd.2.2]; exact (hI l hl (hM k (by omega) z l hlr hl)).2)
      refine pk_le (B k).1 20 (fun e => nm_r (nI_1 k) (ih (bc2, br2) fun m hm z2 => ?_)) (fun e => Hov ⟨k, by omega, z, e⟩ bc2 br2)
      by_cases em : m = k
      · subst em
        exact ⟨hI2.1, e⟩
      · obtain ⟨hB, h20⟩ := hI m (by omega) z2
        exact ⟨xb_keep hI2 hB (by omega) (hWd m (by omega)).1, h20⟩
end
end
section
/-! the reference: rows of a bag -/
theorem yr_ad (k i c : Nat) : 6 * (20 * nI k + nI i) + nI c = nI ((k * 20 + i) * 6 + c) := by
  rw [show (20 : Int32) = nI 20 from rfl, show (6 : Int32) = nI 6 from rfl, pk_mul, nI_add, pk_mul, nI_add]
  exact congrArg nI (by omega)
def yb_B (k w : Nat) (b : bg_T) (ys gv : Nat → Int32) : Prop := gv k = nI (if b.1 < 20 then b.1 else 20) ∧ ∀ r, r < b.1 → r < 20 → ∀ c, c < w → ys ((k * 20 + r) * 6 + c) = b.2 r c
def yb_I (ys0 gv0 : Nat → Int32) (k w : Nat) (b : bg_T) (ov : Int32) (ys gv : Nat → Int32) : Prop := yb_B k w b ys gv ∧ (ov = if b.1 ≤ 20 then 0 else 1) ∧ (∀ j, j < k * 120 → ys j = ys0 j) ∧ (∀ m, m ≠ k → gv m = gv0 m)
theorem yb_I0 {ys gv : Nat → Int32} {k w : Nat} (h : gv k = nI 0) : yb_I ys gv k w bg_0 0 ys gv := ⟨⟨h, fun r hr => absurd hr (Nat.not_lt_zero r)⟩, rfl, fun _ _ => rfl, fun _ _ => rfl⟩
theorem yb_n {ys gv : Nat → Int32} {k w : Nat} {b : bg_T} (h : yb_B k w b ys gv) (hb : b.1 ≤ 20) : gv k = nI b.1 := by
  rw [h.1]
  congr 1
  split <;> omega
theorem yb_in {ys0 gv0 ys gv : Nat → Int32} {ov : Int32} {k w l wl i c : Nat} {b bl : bg_T} (hI : yb_I ys0 gv0 k w b ov ys gv) (hB : yb_B l wl bl ys0 gv0) (hl : l < k) (hi : i < bl.1) (h20 : i < 20) (hc : c < wl) (hwl : wl ≤ 6) : ys ((l * 20 + i) * 6 + c) = bl.2 i c := by
  rw [hI.2.2.1 _ (by omega)]
  exact hB.2 i hi h20 c hc
theorem yb_keep {ys0 gv0 ys gv : Nat → Int32} {ov : Int32} {k w l wl : Nat} {b bl : bg_T} (hI : yb_I ys0 gv0 k w b ov ys gv) (hB : yb_B l wl bl ys0 gv0) (hl : l < k) (hwl : wl ≤ 6) : yb_B l wl bl ys gv :=
  ⟨(hI.2.2.2 l (by omega)).trans hB.1, fun r hr h20 c hc => yb_in hI hB hl hr h20 hc hwl⟩
section
variable {nc ov rr rw : Int32} {tc tr nk nl nr np nq ny nw nu nd re : Nat → Int32}
theorem yb_at {post : Int32 → Prop} {ys gv ro : Nat → Int32} {k i c : Nat} (hb : (k * 20 + i) * 6 + c < 1440) (h : post (ys ((k * 20 + i) * 6 + c))) : wpY_at post (nc, ov, rr, rw, tc, tr, nk, nl, nr, np, nq, ny, nw, nu, ys, gv, nd, ro, re) (nI k) (nI i) (nI c) := by
  unfold wpY_at
  dsimp only
  rw [yr_ad, nI_clamp (by omega)]
  exact ⟨vp_in_nI hb (by decide), h⟩
theorem yb_lay {post : SY → Prop} {ys gv ro : Nat → Int32} {m i t w : Nat} (hm : m < 12) (hi : i < 20) (hw : nw m = nI w) (htw : t + w ≤ 6)
    (H : ∀ ro' : Nat → Int32, (∀ c, c < w → ro' (t + c) = ys ((m * 20 + i) * 6 + c)) → (∀ j, j < t → ro' j = ro j) → post (nc, ov, rr, rw, tc, tr, nk, nl, nr, np, nq, ny, nw, nu, ys, gv, nd, ro', re)) : wpY_lay post (nc, ov, rr, rw, tc, tr, nk, nl, nr, np, nq, ny, nw, nu, ys, gv, nd, ro, re) (nI m) (nI i) (nI t) := by
  have cm : (nI m).toNatClampNeg = m := nI_clamp (by omega)
  refine loop_0 (fun f c s => wY_lay_3 post (nI m) (nI i) (nI t) nc ov rr rw f (nI c) tc tr nk nl nr np nq ny nw nu ys gv nd s re) (fun c s => (∀ d, d < c → s (t + d) = ys ((m * 20 + i) * 6 + d)) ∧ (∀ j, j < t → s j = ro j)) w ro ⟨fun d hd => absurd hd (Nat.not_lt_zero d), fun _ _ => rfl⟩ ?_ ?_
  · rintro f s ⟨h1, h2⟩
    refine ⟨vp_in_nI hm (by decide), ?_⟩
    rw [cm, hw]
    exact br_t (nI_le (Nat.le_refl _) (by omega)) (H s h1 h2)
  · rintro f c s hc ⟨h1, h2⟩ ih
    refine ⟨vp_in_nI hm (by decide), ?_⟩
    rw [cm, hw, nI_add]
    refine br_f (nI_ge hc (by omega)) (br_f (nI_ge (b := 6) (by omega) (by decide)) (yb_at (by omega) ⟨vp_in_nI (by omega) (by decide), ?_⟩))
    rw [nI_clamp (by omega)]
    refine nm_e (nm_r (nI_1 c) (ih (upd s (t + c) (ys ((m * 20 + i) * 6 + c))) ⟨fun d hd => ?_, fun j hj => ?_⟩))
    · by_cases e : d = c
      · subst e
        exact pk_us
      · rw [pk_un (by omega)]
        exact h1 d (by omega)
    · rw [pk_un (by omega)]
      exact h2 j hj
theorem yb_give {post : SY → Prop} {ys0 gv0 ys gv ro row : Nat → Int32} {k w : Nat} {b : bg_T} (hI : yb_I ys0 gv0 k w b ov ys gv) (hk : k < 12) (hw : w ≤ 6) (hr : ∀ c, c < w → ro c = row c)
    (H : ∀ ov' ys' gv', yb_I ys0 gv0 k w (bg_push b row) ov' ys' gv' → post (nc, ov', rr, rw, tc, tr, nk, nl, nr, np, nq, ny, nw, nu, ys', gv', nd, ro, re)) : wpY_give post (nc, ov, rr, rw, tc, tr, nk, nl, nr, np, nq, ny, nw, nu, ys, gv, nd, ro, re) (nI k) := by
  have ck : (nI k).toNatClampNeg = k := nI_clamp (by omega)
  refine ⟨vp_in_nI hk (by decide), ?_⟩
  rw [ck, hI.1.1]
  by_cases hb : b.1 < 20
  · rw [if_pos hb]
    refine br_f (fun z => ?_) ?_
    · have z' := (nI_eq (b := 20) (by omega) (by decide)).mp z
      omega
    · refine loop_0 (fun f c s => wY_give_19 post (nI k) nc ov rr rw f (nI c) tc tr nk nl nr np nq ny nw nu s gv nd ro re) (fun c s => (∀ j, j < (k * 20 + b.1) * 6 → s j = ys j) ∧ (∀ d, d < c → s ((k * 20 + b.1) * 6 + d) = ro d)) 6 ys ⟨fun _ _ => rfl, fun d hd => absurd hd (Nat.not_lt_zero d)⟩ ?_ ?_
      · rintro f s ⟨h1, h2⟩
        refine br_t (nI_le (a := 6) (b := 6) (Nat.le_refl _) (by decide)) ⟨vp_in_nI hk (by decide), vp_in_nI hk (by decide), ?_⟩
        rw [ck, hI.1.1, if_pos hb, nI_1]
        refine nm_e (H ov s _ ⟨⟨?_, fun r h h20 c hc => ?_⟩, ?_, fun j hj => ?_, fun m hm => ?_⟩)
        · rw [pk_us]
          show _ = nI (if b.1 + 1 < 20 then b.1 + 1 else 20)
          congr 1
          split <;> omega
        · have h' : r < b.1 + 1 := h
          show s _ = (if r = b.1 then row else b.2 r) c
          by_cases e : r = b.1
          · rw [if_pos e, e, h2 c (by omega)]
            exact hr c hc
          · rw [if_neg e, h1 _ (by omega)]
            exact hI.1.2 r (by omega) h20 c hc
        · rw [hI.2.1]
          show _ = if b.1 + 1 ≤ 20 then (0 : Int32) else 1
          rw [if_pos (by omega), if_pos (by omega)]
        · rw [h1 j (by omega)]
          exact hI.2.2.1 j hj
        · rw [pk_un hm]
          exact hI.2.2.2 m hm
      · rintro f c s hc ⟨h1, h2⟩ ih
        refine br_f (nI_ge (b := 6) hc (by decide)) ⟨vp_in_nI hk (by decide), vp_in_nI hc (by decide), ?_⟩
        rw [ck, hI.1.1, if_pos hb, yr_ad, nI_clamp (by omega), nI_clamp (by omega)]
        refine ⟨vp_in_nI (by omega) (by decide), nm_e (nm_r (nI_1 c) (ih (upd s ((k * 20 + b.1) * 6 + c) (ro c)) ⟨fun j hj => ?_, fun d hd => ?_⟩))⟩
        · rw [pk_un (by omega)]
          exact h1 j hj
        · by_cases e : d = c
          · subst e
            exact pk_us
          · rw [pk_un (by omega)]
            exact h2 d (by omega)
  · rw [if_neg hb]
    refine br_t rfl (H 1 ys gv ⟨⟨?_, fun r h h20 c hc => ?_⟩, ?_, hI.2.2.1, hI.2.2.2⟩)
    · rw [hI.1.1]
      show _ = nI (if b.1 + 1 < 20 then b.1 + 1 else 20)
      congr 1
      split <;> split <;> omega
    · show ys _ = (if r = b.1 then row else b.2 r) c
      rw [if_neg (by omega)]
      exact hI.1.2 r (by omega) h20 c hc
    · show _ = if b.1 + 1 ≤ 20 then (0 : Int32) else 1
      rw [if_neg (by omega)]
theorem yb_holds {post : Int32 → Prop} {x y : Int32} {m : Nat} (hm : m ≤ 5) (h1 : bs_hold x (nI m) y → post 1) (h0 : ¬ bs_hold x (nI m) y → post 0) : wpY_holds post x (nI m) y := by
  have : m = 0 ∨ m = 1 ∨ m = 2 ∨ m = 3 ∨ m = 4 ∨ m = 5 := by omega
  rcases this with rfl | rfl | rfl | rfl | rfl | rfl
  · rw [bs_h0] at h0 h1
    exact br_t (by decide) (br_c h1 h0)
  · rw [bs_h1] at h0 h1
    exact br_f (by decide) (br_t (by decide) (br_c (fun e => h0 (fun z => z e)) h1))
  · rw [bs_h2] at h0 h1
    exact br_f (by decide) (br_f (by decide) (br_t (by decide) (br_c (fun e => h0 (Int32.not_lt.mpr e)) (fun e => h1 (Int32.not_le.mp e)))))
  · rw [bs_h3] at h0 h1
    exact br_f (by decide) (br_f (by decide) (br_f (by decide) (br_t (by decide) (br_c (fun e => h0 (Int32.not_le.mpr e)) (fun e => h1 (Int32.not_lt.mp e))))))
  · rw [bs_h4] at h0 h1
    exact br_f (by decide) (br_f (by decide) (br_f (by decide) (br_f (by decide) (br_t (by decide) (br_c (fun e => h0 (Int32.not_lt.mpr e)) (fun e => h1 (Int32.not_le.mp e)))))))
  · rw [bs_h5] at h0 h1
    exact br_f (by decide) (br_f (by decide) (br_f (by decide) (br_f (by decide) (br_f (by decide) (br_c (fun e => h0 (Int32.not_le.mpr e)) (fun e => h1 (Int32.not_lt.mp e)))))))
theorem yb_if {post : Int32 → Prop} {c : Prop} {a b : Int32} (i : Decidable c) (h : post (if c then a else b)) : (c → post a) ∧ (¬ c → post b) := by
  refine br_c (fun e => ?_) (fun e => ?_)
  · rw [if_pos e] at h
    exact h
  · rw [if_neg e] at h
    exact h
theorem yb_worked {post : Int32 → Prop} {x y : Int32} {m : Nat} (hm : m ≤ 4) (h : post (bs_op (nI m) x y)) : wpY_worked post x (nI m) y := by
  have : m = 0 ∨ m = 1 ∨ m = 2 ∨ m = 3 ∨ m = 4 := by omega
  rcases this with rfl | rfl | rfl | rfl | rfl
  · rw [bs_o0] at h
    exact br_t (by decide) h
  · rw [bs_o1] at h
    exact br_f (by decide) (br_t (by decide) h)
  · rw [bs_o2] at h
    exact br_f (by decide) (br_f (by decide) (br_t (by decide) h))
  · rw [bs_o3] at h
    exact br_f (by decide) (br_f (by decide) (br_f (by decide) (br_t (by decide) (yb_if _ h))))
  · rw [bs_o4] at h
    exact br_f (by decide) (br_f (by decide) (br_f (by decide) (br_f (by decide) (yb_if _ h))))
theorem yb_match {post : Int32 → Prop} {ys gv ro : Nat → Int32} {k l r i n x y : Nat} (hk : k < 12) (hl : l < 12) (hr : r < 12) (hnl : nl k = nI l) (hnr : nr k = nI r) (hnp : np k = nI x) (hx : x < 6) (hnq : nq k = nI y) (hy : y < 6) (hi : i < 20) (hn : gv r = nI n) (hn20 : n ≤ 20)
    (h1 : ∀ j, j < n → ys ((l * 20 + i) * 6 + x) = ys ((r * 20 + j) * 6 + y) → post 1) (h0 : (∀ j, j < n → ¬ ys ((l * 20 + i) * 6 + x) = ys ((r * 20 + j) * 6 + y)) → post 0) : wpY_hasMatch post (nc, ov, rr, rw, tc, tr, nk, nl, nr, np, nq, ny, nw, nu, ys, gv, nd, ro, re) (nI k) (nI i) := by
  have ck : (nI k).toNatClampNeg = k := nI_clamp (by omega)
  have cr : (nI r).toNatClampNeg = r := nI_clamp (by omega)
  refine loop_0 (fun f j (_ : Unit) => wY_hasMatch_2 post (nI k) (nI i) nc ov rr rw tc tr nk nl nr np nq ny nw nu ys gv nd ro re f (nI j)) (fun j _ => ∀ a, a < j → ¬ ys ((l * 20 + i) * 6 + x) = ys ((r * 20 + a) * 6 + y)) n () (fun a ha => absurd ha (Nat.not_lt_zero a)) ?_ ?_
  · intro f s hI
    refine ⟨vp_in_nI hk (by decide), ?_⟩
    rw [ck, hnr, cr, hn]
    exact ⟨vp_in_nI hr (by decide), br_t (nI_le (Nat.le_refl _) (by omega)) (h0 hI)⟩
  · intro f j s hj hI ih
    refine ⟨vp_in_nI hk (by decide), ?_⟩
    rw [ck, hnr, cr, hn, hnl, hnp, hnq]
    refine ⟨vp_in_nI hr (by decide), br_f (nI_ge hj (by omega)) ⟨vp_in_nI hk (by decide), vp_in_nI hk (by decide), yb_at (by omega) ⟨vp_in_nI hk (by decide), vp_in_nI hk (by decide), yb_at (by omega) (br_c (fun e => h1 j hj e) (fun e => nm_r (nI_1 j) (ih () fun a ha => ?_)))⟩⟩⟩
    by_cases ea : a = j
    · subst ea
      exact e
    · exact hI a (by omega)
theorem yb_same {post : Int32 → Prop} {ys gv ro : Nat → Int32} {l i j w : Nat} (hl : l < 12) (hi : i < 20) (hj : j < 20) (hw : nw l = nI w) (hw6 : w ≤ 6)
    (h1 : bg_eqw w (fun c => ys ((l * 20 + i) * 6 + c)) (fun c => ys ((l * 20 + j) * 6 + c)) → post 1) (h0 : ¬ bg_eqw w (fun c => ys ((l * 20 + i) * 6 + c)) (fun c => ys ((l * 20 + j) * 6 + c)) → post 0) : wpY_same post (nc, ov, rr, rw, tc, tr, nk, nl, nr, np, nq, ny, nw, nu, ys, gv, nd, ro, re) (nI l) (nI i) (nI j) := by
  have cl : (nI l).toNatClampNeg = l := nI_clamp (by omega)
  refine loop_0 (fun f c (_ : Unit) => wY_same_3 post (nI l) (nI i) (nI j) nc ov rr rw tc tr nk nl nr np nq ny nw nu ys gv nd ro re f (nI c)) (fun c _ => ∀ d, d < c → ys ((l * 20 + i) * 6 + d) = ys ((l * 20 + j) * 6 + d)) w () (fun a ha => absurd ha (Nat.not_lt_zero a)) ?_ ?_
  · intro f s hI
    refine ⟨vp_in_nI hl (by decide), ?_⟩
    rw [cl, hw]
    exact br_t (nI_le (Nat.le_refl _) (by omega)) (h1 hI)
  · intro f c s hc hI ih
    refine ⟨vp_in_nI hl (by decide), ?_⟩
    rw [cl, hw]
    refine br_f (nI_ge hc (by omega)) (yb_at (by omega) (yb_at (by omega) (br_c (fun e => nm_r (nI_1 c) (ih () fun a ha => ?_)) (fun e => h0 fun z => e (z c hc)))))
    by_cases ea : a = c
    · subst ea
      exact e
    · exact hI a (by omega)
theorem yb_rep {post : Int32 → Prop} {ys gv ro : Nat → Int32} {l i w : Nat} (hl : l < 12) (hi : i < 20) (hw : nw l = nI w) (hw6 : w ≤ 6)
    (h1 : ∀ j, j < i → bg_eqw w (fun c => ys ((l * 20 + i) * 6 + c)) (fun c => ys ((l * 20 + j) * 6 + c)) → post 1) (h0 : (∀ j, j < i → ¬ bg_eqw w (fun c => ys ((l * 20 + i) * 6 + c)) (fun c => ys ((l * 20 + j) * 6 + c))) → post 0) : wpY_repeated post (nc, ov, rr, rw, tc, tr, nk, nl, nr, np, nq, ny, nw, nu, ys, gv, nd, ro, re) (nI l) (nI i) := by
  refine loop_0 (fun f j (_ : Unit) => wY_repeated_2 post (nI l) (nI i) nc ov rr rw tc tr nk nl nr np nq ny nw nu ys gv nd ro re f (nI j)) (fun j _ => ∀ a, a < j → ¬ bg_eqw w (fun c => ys ((l * 20 + i) * 6 + c)) (fun c => ys ((l * 20 + a) * 6 + c))) i () (fun a ha => absurd ha (Nat.not_lt_zero a)) ?_ ?_
  · intro f s hI
    exact br_t (nI_le (Nat.le_refl _) (by omega)) (h0 hI)
  · intro f j s hj hI ih
    refine br_f (nI_ge hj (by omega)) (yb_same hl hi (by omega) hw hw6 (fun e => br_f (by decide) (h1 j hj e)) (fun e => br_t rfl (nm_r (nI_1 j) (ih () fun a ha => ?_))))
    by_cases ea : a = j
    · subst ea
      exact e
    · exact hI a (by omega)
theorem yb_less {post : Int32 → Prop} {ys gv ro : Nat → Int32} {l i j w : Nat} (hl : l < 12) (hi : i < 20) (hj : j < 20) (hw : nw l = nI w) (hw6 : w ≤ 6)
    (h1 : bg_bef w (fun i c => ys ((l * 20 + i) * 6 + c)) i j → post 1) (h0 : ¬ bg_bef w (fun i c => ys ((l * 20 + i) * 6 + c)) i j → post 0) : wpY_less post (nc, ov, rr, rw, tc, tr, nk, nl, nr, np, nq, ny, nw, nu, ys, gv, nd, ro, re) (nI l) (nI i) (nI j) := by
  have cl : (nI l).toNatClampNeg = l := nI_clamp (by omega)
  refine loop_0 (fun f c (_ : Unit) => wY_less_3 post (nI l) (nI i) (nI j) nc ov rr rw tc tr nk nl nr np nq ny nw nu ys gv nd ro re f (nI c)) (fun c _ => ∀ d, d < c → ys ((l * 20 + i) * 6 + d) = ys ((l * 20 + j) * 6 + d)) w () (fun a ha => absurd ha (Nat.not_lt_zero a)) ?_ ?_
  · intro f s hI
    refine ⟨vp_in_nI hl (by decide), ?_⟩
    rw [cl, hw]
    refine br_t (nI_le (Nat.le_refl _) (by omega)) (pk_le j i (fun e => h0 ?_) (fun e => h1 (Or.inr ⟨hI, e⟩)))
    rintro (z | z)
    · exact bg_lt_ne hI z
    · omega
  · intro f c s hc hI ih
    refine ⟨vp_in_nI hl (by decide), ?_⟩
    rw [cl, hw]
    refine br_f (nI_ge hc (by omega)) (yb_at (by omega) (yb_at (by omega) (br_c (fun e => nm_r (nI_1 c) (ih () fun a ha => ?_)) (fun e => yb_at (by omega) (yb_at (by omega) (br_c (fun le => h0 ?_) (fun le => h1 (Or.inl ⟨c, hc, hI, Int32.not_le.mp le⟩))))))))
    · by_cases ea : a = c
      · subst ea
        exact e
      · exact hI a (by omega)
    · rintro (⟨d, hd, f1, f2⟩ | z)
      · rcases Nat.lt_trichotomy c d with x | x | x
        · exact e (f1 c x)
        · subst x
          exact Int32.not_lt.mpr le f2
        · have y := hI d x
          dsimp only at f2
          rw [y] at f2
          exact Int32.lt_irrefl f2
      · exact e (z.1 c hc)
end
end
section
/-! the reference: tables, joins, groups -/
theorem yr_t (t i c : Nat) : 3 * (6 * nI t + nI i) + nI c = nI ((t * 6 + i) * 3 + c) := by
  rw [show (6 : Int32) = nI 6 from rfl, show (3 : Int32) = nI 3 from rfl, pk_mul, nI_add, pk_mul, nI_add]
  exact congrArg nI (by omega)
abbrev yb_S : Type := Int32 × (Nat → Int32) × (Nat → Int32) × (Nat → Int32)
section
variable {nc ov rr rw : Int32} {tc tr nk nl nr np nq ny nw nu nd re : Nat → Int32}
theorem yb_scan {post : SY → Prop} {ys gv ro : Nat → Int32} {k t h : Nat} (hk : k < 12) (hnp : np k = nI t) (ht : t < 3) (htr : tr t = nI h) (hh : h ≤ 6) (h0 : gv k = nI 0)
    (H : ∀ ov' ys' gv' ro', yb_I ys gv k 3 (bs_scan tc t h) ov' ys' gv' → post (nc, ov', rr, rw, tc, tr, nk, nl, nr, np, nq, ny, nw, nu, ys', gv', nd, ro', re)) : wpY_giveTable post (nc, 0, rr, rw, tc, tr, nk, nl, nr, np, nq, ny, nw, nu, ys, gv, nd, ro, re) (nI k) := by
  have ck : (nI k).toNatClampNeg = k := nI_clamp (by omega)
  have ct : (nI t).toNatClampNeg = t := nI_clamp (by omega)
  refine loop_0 (fun f i (s : yb_S) => wY_giveTable_2 post (nI k) f (nI i) nc s.1 rr rw tc tr nk nl nr np nq ny nw nu s.2.1 s.2.2.1 nd s.2.2.2 re) (fun i s => yb_I ys gv k 3 (bs_scan tc t i) s.1 s.2.1 s.2.2.1) h (0, ys, gv, ro) (yb_I0 h0) ?_ ?_
  · rintro f ⟨ov', ys', gv', ro'⟩ hI
    refine ⟨vp_in_nI hk (by decide), ?_⟩
    rw [ck, hnp, ct, htr]
    exact ⟨vp_in_nI ht (by decide), br_t (nI_le (Nat.le_refl _) (by omega)) (H _ _ _ _ hI)⟩
  · rintro f i ⟨ov', ys', gv', ro'⟩ hi hI ih
    refine ⟨vp_in_nI hk (by decide), ?_⟩
    rw [ck, hnp, ct, htr]
    refine ⟨vp_in_nI ht (by decide), br_f (nI_ge hi (by omega)) ?_⟩
    refine loop_0 (fun f2 c s => wY_giveTable_19 post (wY_giveTable_2 post (nI k) f) (nI k) (nI i) nc ov' rr rw f2 (nI c) tc tr nk nl nr np nq ny nw nu ys' gv' nd s re) (fun c s => ∀ d, d < c → s d = tc ((t * 6 + i) * 3 + d)) 3 ro' (fun d hd => absurd hd (Nat.not_lt_zero d)) ?_ ?_
    · intro f2 s h1
      refine br_t (nI_le (a := 3) (b := 3) (Nat.le_refl _) (by decide)) (yb_give (row := fun c => tc ((t * 6 + i) * 3 + c)) hI hk (by omega) h1 fun ov2 ys2 gv2 hI2 => nm_r (nI_1 i) (ih (ov2, ys2, gv2, s) ?_))
      have e : bs_scan tc t (i + 1) = bg_push (bs_scan tc t i) (fun c => tc ((t * 6 + i) * 3 + c)) := bg_sel_t trivial
      dsimp only
      rw [e]
      exact hI2
    · intro f2 c s hc h1 ih2
      refine br_f (nI_ge (b := 3) hc (by decide)) ⟨vp_in_nI hk (by decide), ?_⟩
      rw [ck, hnp, yr_t, nI_clamp (by omega), nI_clamp (by omega)]
      refine ⟨vp_in_nI (by omega) (by decide), vp_in_nI (by omega) (by decide), nm_e (nm_r (nI_1 c) (ih2 (upd s c (tc ((t * 6 + i) * 3 + c))) fun d hd => ?_))⟩
      by_cases e : d = c
      · subst e
        exact pk_us
      · rw [pk_un e]
        exact h1 d (by omega)
theorem yb_join {post : SY → Prop} {ys gv ro : Nat → Int32} {k l r wl wr x y : Nat} {bl b : bg_T} (hk : k < 12) (hl : l < k) (hr : r < k) (hnl : nl k = nI l) (hnr : nr k = nI r) (hwl : nw l = nI wl) (hwr : nw r = nI wr) (hw : wl + wr ≤ 6) (hnp : np k = nI x) (hx : x < wl) (hnq : nq k = nI y) (hy : y < wr) (h0 : gv k = nI 0)
    (hB : yb_B l wl bl ys gv) (h20 : bl.1 ≤ 20) (hB2 : yb_B r wr b ys gv) (h202 : b.1 ≤ 20) (H : ∀ ov' ys' gv' ro', yb_I ys gv k (wl + wr) (bs_join bl b wl x y bl.1) ov' ys' gv' → post (nc, ov', rr, rw, tc, tr, nk, nl, nr, np, nq, ny, nw, nu, ys', gv', nd, ro', re)) : wpY_giveJoin post (nc, 0, rr, rw, tc, tr, nk, nl, nr, np, nq, ny, nw, nu, ys, gv, nd, ro, re) (nI k) := by
  have ck : (nI k).toNatClampNeg = k := nI_clamp (by omega)
  have cl : (nI l).toNatClampNeg = l := nI_clamp (by omega)
  have cr : (nI r).toNatClampNeg = r := nI_clamp (by omega)
  refine loop_0 (fun f i (s : yb_S) => wY_giveJoin_2 post (nI k) f (nI i) nc s.1 rr rw tc tr nk nl nr np nq ny nw nu s.2.1 s.2.2.1 nd s.2.2.2 re) (fun i s => yb_I ys gv k (wl + wr) (bs_join bl b wl x y i) s.1 s.2.1 s.2.2.1) bl.1 (0, ys, gv, ro) (yb_I0 h0) ?_ ?_
  · rintro f ⟨ov', ys', gv', ro'⟩ hI
    have hgl : gv' l = nI bl.1 := (hI.2.2.2 l (by omega)).trans (yb_n hB h20)
    refine ⟨vp_in_nI hk (by decide), ?_⟩
    dsimp only
    rw [ck, hnl, cl, hgl]
    exact ⟨vp_in_nI (by omega) (by decide), br_t (nI_le (Nat.le_refl _) (by omega)) (H _ _ _ _ hI)⟩
  · rintro f i ⟨ov1, ys1, gv1, ro1⟩ hi hI1 ih
    have hgl : gv1 l = nI bl.1 := (hI1.2.2.2 l (by omega)).trans (yb_n hB h20)
    refine ⟨vp_in_nI hk (by decide), ?_⟩
    dsimp only
    rw [ck, hnl, cl, hgl]
    refine ⟨vp_in_nI (by omega) (by decide), br_f (nI_ge hi (by omega)) ?_⟩
    refine loop_0 (fun f2 j (s : yb_S) => wY_giveJoin_19 post (wY_giveJoin_2 post (nI k) f) (nI k) (nI i) f2 (nI j) nc s.1 rr rw tc tr nk nl nr np nq ny nw nu s.2.1 s.2.2.1 nd s.2.2.2 re)
      (fun j s => yb_I ys gv k (wl + wr) (bg_sel (bs_join bl b wl x y i) (fun j => bl.2 i x = b.2 j y) (bs_jrow bl b wl i) j) s.1 s.2.1 s.2.2.1) b.1 (ov1, ys1, gv1, ro1) hI1 ?_ ?_
    · rintro f2 ⟨ov', ys', gv', ro'⟩ hI
      have hgr : gv' r = nI b.1 := (hI.2.2.2 r (by omega)).trans (yb_n hB2 h202)
      refine ⟨vp_in_nI hk (by decide), ?_⟩
      dsimp only
      rw [ck, hnr, cr, hgr]
      exact ⟨vp_in_nI (by omega) (by decide), br_t (nI_le (Nat.le_refl _) (by omega)) (nm_r (nI_1 i) (ih (ov', ys', gv', ro') hI))⟩
    · rintro f2 j ⟨ov', ys', gv', ro'⟩ hj hI ih2
      have hgr : gv' r = nI b.1 := (hI.2.2.2 r (by omega)).trans (yb_n hB2 h202)
      dsimp only at hI
      refine ⟨vp_in_nI hk (by decide), ?_⟩
      dsimp only
      rw [ck, hnr, cr, hgr, hnl, hnp, hnq]
      refine ⟨vp_in_nI (by omega) (by decide), br_f (nI_ge hj (by omega)) ⟨vp_in_nI hk (by decide), vp_in_nI hk (by decide), yb_at (by omega) ⟨vp_in_nI hk (by decide), vp_in_nI hk (by decide), yb_at (by omega) ?_⟩⟩⟩
      rw [yb_in hI hB hl hi (by omega) hx (by omega), yb_in hI hB2 hr hj (by omega) hy (by omega)]
      refine br_c (fun e => ⟨vp_in_nI hk (by decide), yb_lay (t := 0) (by omega) (by omega) hwl (by omega) fun ro2 h1 _ => ?_⟩) (fun e => nm_r (nI_1 j) (ih2 (ov', ys', gv', ro') ?_))
      · dsimp only
        simp only [ck, hnl, hnr, cl, hwl]
        refine ⟨vp_in_nI hk (by decide), vp_in_nI hk (by decide), vp_in_nI (by omega) (by decide), yb_lay (by omega) (by omega) hwr (by omega) fun ro3 h3 h4 => ?_⟩
        refine yb_give (row := bs_jrow bl b wl i j) hI hk hw (fun c hc => ?_) fun ov4 ys4 gv4 hI4 => nm_r (nI_1 j) (ih2 (ov4, ys4, gv4, ro3) ?_)
        · show ro3 c = if c < wl then bl.2 i c else b.2 j (c - wl)
          by_cases ec : c < wl
          · have z := h1 c ec
            rw [Nat.zero_add] at z
            rw [if_pos ec, h4 c ec, z]
            exact yb_in hI hB hl hi (by omega) ec (by omega)
          · have z := h3 (c - wl) (by omega)
            rw [show wl + (c - wl) = c by omega] at z
            rw [if_neg ec, z]
            exact yb_in hI hB2 hr hj (by omega) (by omega) (by omega)
        · dsimp only
          rw [bg_sel_t (P := fun j => bl.2 i x = b.2 j y) e]
          exact hI4
      · dsimp only
        rw [bg_sel_f (P := fun j => bl.2 i x = b.2 j y) e]
        exact hI
theorem yb_gst {post : SY → Prop} {J : Int32 → Int32 → Prop} {ys gv ro : Nat → Int32} {k j q : Nat} {x2 x3 x4 x5 v : Int32} (hk : k < 12) (hnq : nq k = nI q) (hq : q ≤ 3) (h : J (bg_st (nI q) x5 v) (nI (j + 1))) :
    (nI q = 0 → ∀ y : Int32, y = x5 + v → wY_giveGroup_131 post J (nI k) x2 x3 x4 y (nI j) v nc ov rr rw tc tr nk nl nr np nq ny nw nu ys gv nd ro re) ∧ (¬ nI q = 0 → wY_giveGroup_131 post J (nI k) x2 x3 x4 x5 (nI j) v nc ov rr rw tc tr nk nl nr np nq ny nw nu ys gv nd ro re) := by
  have ck : (nI k).toNatClampNeg = k := nI_clamp (by omega)
  have vk : vp_in (nI k) 12 := vp_in_nI hk (by decide)
  have e161 : ∀ a, ¬ nI q = 3 → J a (nI (j + 1)) → wY_giveGroup_161 post J (nI k) x2 x3 x4 a (nI j) v nc ov rr rw tc tr nk nl nr np nq ny nw nu ys gv nd ro re := fun a e h => ⟨vk, by rw [ck, hnq]; exact br_f e (nm_r (nI_1 j) h)⟩
  have e144 : ∀ a, ¬ nI q = 2 → wY_giveGroup_161 post J (nI k) x2 x3 x4 a (nI j) v nc ov rr rw tc tr nk nl nr np nq ny nw nu ys gv nd ro re → wY_giveGroup_144 post J (nI k) x2 x3 x4 a (nI j) v nc ov rr rw tc tr nk nl nr np nq ny nw nu ys gv nd ro re := fun a e h => ⟨vk, by rw [ck, hnq]; exact br_f e h⟩
  have e131 : ∀ a, ¬ nI q = 1 → wY_giveGroup_144 post J (nI k) x2 x3 x4 a (nI j) v nc ov rr rw tc tr nk nl nr np nq ny nw nu ys gv nd ro re → wY_giveGroup_131 post J (nI k) x2 x3 x4 a (nI j) v nc ov rr rw tc tr nk nl nr np nq ny nw nu ys gv nd ro re := fun a e h => ⟨vk, by rw [ck, hnq]; exact br_f e h⟩
  have : q = 0 ∨ q = 1 ∨ q = 2 ∨ q = 3 := by omega
  rcases this with rfl | rfl | rfl | rfl
  · rw [bg_s0] at h
    exact br_t rfl (nm_e (e131 _ (by decide) (e144 _ (by decide) (e161 _ (by decide) h))))
  · rw [bg_s1] at h
    exact br_f (by decide) ⟨vk, by rw [ck, hnq]; exact br_t rfl (nm_e (e144 _ (by decide) (e161 _ (by decide) h)))⟩
  · rw [bg_s2] at h
    refine br_f (by decide) (e131 _ (by decide) ⟨vk, ?_⟩)
    rw [ck, hnq]
    refine br_t rfl (br_c (fun e => nm_r (nI_1 j) ?_) (fun e => e161 _ (by decide) ?_))
    · rw [if_pos e] at h
      exact h
    · rw [if_neg e] at h
      exact h
  · rw [bg_s3] at h
    refine br_f (by decide) (e131 _ (by decide) (e144 _ (by decide) ⟨vk, ?_⟩))
    rw [ck, hnq]
    refine br_t rfl (br_c (fun e => nm_r (nI_1 j) ?_) (fun e => nm_r (nI_1 j) ?_))
    · rw [if_pos e] at h
      exact h
    · rw [if_neg e] at h
      exact h
theorem yb_ggrp {post : SY → Prop} {ys0 gv0 ys gv ro : Nat → Int32} {k l wl x y q i : Nat} {bl b : bg_T} (hI : yb_I ys0 gv0 k 2 b ov ys gv) (hk : k < 12) (hl : l < k) (hnl : nl k = nI l) (hw : wl ≤ 6) (hnp : np k = nI x) (hx : x < wl) (hnq : nq k = nI q) (hq : q ≤ 3) (hny : ny k = nI y) (hy : y < wl)
    (hB : yb_B l wl bl ys0 gv0) (h20 : bl.1 ≤ 20) (hi : i < bl.1)
    (H : ∀ ov' ys' gv' ro', yb_I ys0 gv0 k 2 (bg_ci (bg_fst (fun i => bl.2 i x) i) (bg_push b (bg_grow (nI q) (fun i => bl.2 i x) (fun i => bl.2 i y) bl.1 i)) b) ov' ys' gv' → post (nc, ov', rr, rw, tc, tr, nk, nl, nr, np, nq, ny, nw, nu, ys', gv', nd, ro', re)) : wpY_giveGroup post (nc, ov, rr, rw, tc, tr, nk, nl, nr, np, nq, ny, nw, nu, ys, gv, nd, ro, re) (nI k) (nI i) := by
  have ck : (nI k).toNatClampNeg = k := nI_clamp (by omega)
  have cl : (nI l).toNatClampNeg = l := nI_clamp (by omega)
  have vk : vp_in (nI k) 12 := vp_in_nI hk (by decide)
  have hgl : gv l = nI bl.1 := (hI.2.2.2 l (by omega)).trans (yb_n hB h20)
  have hkx : ∀ j, j < bl.1 → ys ((l * 20 + j) * 6 + x) = bl.2 j x := fun j hj => yb_in hI hB hl hj (by omega) hx hw
  have hvy : ∀ j, j < bl.1 → ys ((l * 20 + j) * 6 + y) = bl.2 j y := fun j hj => yb_in hI hB hl hj (by omega) hy hw
  have key : ∃ n, wY_giveGroup_64 post (nI k) (nI i) (nI l) (bl.2 i x) nc ov rr rw tc tr nk nl nr np nq ny nw nu ys gv nd ro re n (bg_in (nI q) (bl.2 i y)) 0 := by
    refine loop_0 (fun f j (s : Int32) => wY_giveGroup_64 post (nI k) (nI i) (nI l) (bl.2 i x) nc ov rr rw tc tr nk nl nr np nq ny nw nu ys gv nd ro re f s (nI j)) (fun j s => s = bg_tot (nI q) (fun i => bl.2 i x) (fun i => bl.2 i y) (bl.2 i x) (bl.2 i y) j ∧ ∀ a, a < j → a < i → ¬ bl.2 a x = bl.2 i x) bl.1 (bg_in (nI q) (bl.2 i y)) ⟨rfl, fun a ha => absurd ha (Nat.not_lt_zero a)⟩ ?_ ?_
    · rintro f s ⟨e1, e2⟩
      have hf : bg_fst (fun i => bl.2 i x) i := fun a ha => e2 a (by omega) ha
      refine ⟨vp_in_nI (by omega) (by decide), ?_⟩
      rw [cl, hgl]
      refine br_t (nI_le (Nat.le_refl _) (by omega)) (nm_e (nm_e (yb_give (row := bg_grow (nI q) (fun i => bl.2 i x) (fun i => bl.2 i y) bl.1 i) hI hk (by omega) (fun c hc => ?_) fun ov2 ys2 gv2 hI2 => H ov2 ys2 gv2 _ (by rw [bg_ct hf]; exact hI2))))
      show _ = if c = 0 then bl.2 i x else bg_tot (nI q) (fun i => bl.2 i x) (fun i => bl.2 i y) (bl.2 i x) (bl.2 i y) bl.1
      by_cases c0 : c = 0
      · subst c0
        rw [if_pos rfl, pk_un (by omega), pk_us]
      · obtain rfl : c = 1 := by omega
        rw [if_neg c0, pk_us, e1]
    · rintro f j s hj ⟨e1, e2⟩ ih
      refine ⟨vp_in_nI (by omega) (by decide), ?_⟩
      rw [cl, hgl, ck, hnp, hnq, hny]
      refine br_f (nI_ge hj (by omega)) ⟨vk, yb_at (by omega) ?_⟩
      rw [hkx j hj]
      refine br_c (fun e => pk_le i j (fun hij => ⟨vk, yb_at (by omega) ?_⟩) (fun hji => H ov ys gv ro ?_)) (fun e => nm_r (nI_1 j) (ih s ⟨?_, fun a ha hai => ?_⟩))
      · rw [hvy j hj]
        refine ⟨vk, yb_gst hk hnq hq (ih _ ⟨?_, fun a ha hai => ?_⟩)⟩
        · rw [e1]
          exact (bg_tot_t (ky := fun i => bl.2 i x) (vl := fun i => bl.2 i y) e).symm
        · exact e2 a (by omega) hai
      · rw [bg_cf (fun z => z j hji e)]
        exact hI
      · rw [e1]
        exact (bg_tot_f (ky := fun i => bl.2 i x) (vl := fun i => bl.2 i y) e).symm
      · by_cases ea : a = j
        · subst ea
          exact e
        · exact e2 a (by omega) hai
  have h47 : ∀ z0 : Int32, (¬ nI q = 0 → z0 = bg_in (nI q) (bl.2 i y)) → wY_giveGroup_47 post (nI k) (nI i) (nI l) (bl.2 i x) z0 nc ov rr rw tc tr nk nl nr np nq ny nw nu ys gv nd ro re := by
    intro z0 hz
    refine ⟨vk, ?_⟩
    rw [ck, hnq]
    refine br_c (fun e => ?_) (fun e => ?_)
    · have ei : bg_in (nI q) (bl.2 i y) = 0 := by
        unfold bg_in
        rw [if_pos e]
      rw [ei] at key
      exact key
    · rw [hz e]
      exact key
  refine ⟨vk, nm_r (e' := nI l) (by rw [ck]; exact hnl) ⟨vk, ?_⟩⟩
  rw [ck, hnp, hnq, hny]
  refine yb_at (by omega) ⟨vk, ?_⟩
  rw [hkx i hi]
  refine br_c (fun e => h47 0 fun e0 => ?_) (fun e => ⟨vk, yb_at (by omega) ?_⟩)
  · unfold bg_in
    rw [if_neg e0, if_pos e]
  · rw [hvy i hi]
    refine h47 _ fun e0 => ?_
    unfold bg_in
    rw [if_neg e0, if_neg e]
end
end
section
/-! the reference: giveFor, kind by kind -/
section
variable {nc ov rr rw : Int32} {tc tr nk nl nr np nq ny nw nu nd re : Nat → Int32}
theorem yb_for1 {post : SY → Prop} {ys0 gv0 ys gv ro : Nat → Int32} {k l w i c m : Nat} {bl b : bg_T} (hI : yb_I ys0 gv0 k w b ov ys gv) (hk : k < 12) (hl : l < k) (hi : i < bl.1) (h20 : bl.1 ≤ 20) (hnk : nk k = nI 1) (hnl : nl k = nI l) (hwl : nw l = nI w) (hw : w ≤ 6) (hnp : np k = nI c) (hc : c < w) (hnq : nq k = nI m) (hm : m ≤ 5)
    (hB : yb_B l w bl ys0 gv0) (H : ∀ ov' ys' gv' ro', yb_I ys0 gv0 k w (bg_ci (bs_hold (bl.2 i c) (nI m) (ny k)) (bg_push b (bl.2 i)) b) ov' ys' gv' → post (nc, ov', rr, rw, tc, tr, nk, nl, nr, np, nq, ny, nw, nu, ys', gv', nd, ro', re)) : wpY_giveFor post (nc, ov, rr, rw, tc, tr, nk, nl, nr, np, nq, ny, nw, nu, ys, gv, nd, ro, re) (nI k) (nI i) := by
  have ck : (nI k).toNatClampNeg = k := nI_clamp (by omega)
  have cl : (nI l).toNatClampNeg = l := nI_clamp (by omega)
  have vk : vp_in (nI k) 12 := vp_in_nI hk (by decide)
  refine ⟨vk, nm_r (e' := nI l) (by rw [ck]; exact hnl) ⟨vk, nm_r (e' := nI 1) (by rw [ck]; exact hnk) (yb_lay (t := 0) (by omega) (by omega) hwl (by omega) fun ro' h1 _ => ?_)⟩⟩
  dsimp only
  rw [ck, hnp, hnq]
  refine br_t (by decide) ⟨vk, yb_at (by omega) ⟨vk, vk, ?_⟩⟩
  rw [yb_in hI hB hl hi (by omega) hc hw]
  refine yb_holds hm (fun e => br_f (by decide) (yb_give (row := bl.2 i) hI hk hw (fun d hd => ?_) fun ov2 ys2 gv2 hI2 => ?_)) (fun e => br_t rfl ?_)
  · have z := h1 d hd
    rw [Nat.zero_add] at z
    exact z.trans (yb_in hI hB hl hi (by omega) hd hw)
  · exact br_f (by decide) (br_f (by decide) (br_f (by decide) (br_f (by decide) (br_f (by decide) (br_f (by decide) (br_f (by decide) (H ov2 ys2 gv2 ro' (by rw [bg_ct e]; exact hI2))))))))
  · exact br_f (by decide) (br_f (by decide) (br_f (by decide) (br_f (by decide) (br_f (by decide) (br_f (by decide) (br_f (by decide) (H ov ys gv ro' (by rw [bg_cf e]; exact hI))))))))
theorem yb_for2 {post : SY → Prop} {ys0 gv0 ys gv ro : Nat → Int32} {k l wl i op x y : Nat} {bl b : bg_T} (hI : yb_I ys0 gv0 k (wl + 1) b ov ys gv) (hk : k < 12) (hl : l < k) (hi : i < bl.1) (h20 : bl.1 ≤ 20) (hnk : nk k = nI 2) (hnl : nl k = nI l) (hwl : nw l = nI wl) (hwk : nw k = nI (wl + 1)) (hw : wl + 1 ≤ 6) (hnp : np k = nI op) (hop : op ≤ 4) (hnq : nq k = nI x) (hx : x < wl) (hny : ny k = nI y) (hy : y < wl)
    (hB : yb_B l wl bl ys0 gv0) (H : ∀ ov' ys' gv' ro', yb_I ys0 gv0 k (wl + 1) (bg_ci True (bg_push b (fun c => if c < wl then bl.2 i c else bs_op (nI op) (bl.2 i x) (bl.2 i y))) b) ov' ys' gv' → post (nc, ov', rr, rw, tc, tr, nk, nl, nr, np, nq, ny, nw, nu, ys', gv', nd, ro', re)) : wpY_giveFor post (nc, ov, rr, rw, tc, tr, nk, nl, nr, np, nq, ny, nw, nu, ys, gv, nd, ro, re) (nI k) (nI i) := by
  have ck : (nI k).toNatClampNeg = k := nI_clamp (by omega)
  have vk : vp_in (nI k) 12 := vp_in_nI hk (by decide)
  refine ⟨vk, nm_r (e' := nI l) (by rw [ck]; exact hnl) ⟨vk, nm_r (e' := nI 2) (by rw [ck]; exact hnk) (yb_lay (t := 0) (by omega) (by omega) hwl (by omega) fun ro' h1 _ => ?_)⟩⟩
  dsimp only
  refine br_f (by decide) (br_t (by decide) ⟨vk, vk, ?_⟩)
  rw [ck, hnp, hnq, hny, hwk, show nI (wl + 1) - 1 = nI wl from nI_pred wl]
  refine yb_at (by omega) ⟨vk, vk, yb_at (by omega) ?_⟩
  rw [yb_in hI hB hl hi (by omega) hx (by omega), yb_in hI hB hl hi (by omega) hy (by omega)]
  refine yb_worked hop ⟨vp_in_nI (by omega) (by decide), ?_⟩
  rw [nI_clamp (show wl < 2 ^ 31 by omega)]
  refine nm_e (yb_give (row := fun c => if c < wl then bl.2 i c else bs_op (nI op) (bl.2 i x) (bl.2 i y)) hI hk hw (fun d hd => ?_) fun ov2 ys2 gv2 hI2 => ?_)
  · by_cases e : d < wl
    · have z := h1 d e
      rw [Nat.zero_add] at z
      rw [if_pos e, pk_un (by omega), z]
      exact yb_in hI hB hl hi (by omega) e (by omega)
    · obtain rfl : d = wl := by omega
      rw [if_neg e, pk_us]
  · exact br_f (by decide) (br_f (by decide) (br_f (by decide) (br_f (by decide) (br_f (by decide) (br_f (by decide) (H ov2 ys2 gv2 _ (by rw [bg_ct trivial]; exact hI2)))))))
theorem yb_for3 {post : SY → Prop} {ys0 gv0 ys gv ro : Nat → Int32} {k l w wl i x : Nat} {bl b : bg_T} (hI : yb_I ys0 gv0 k w b ov ys gv) (hk : k < 12) (hl : l < k) (hi : i < bl.1) (h20 : bl.1 ≤ 20) (hnk : nk k = nI 3) (hnl : nl k = nI l) (hwl : nw l = nI wl) (hw : wl ≤ 6) (hnp : np k = nI x) (hx : x < wl)
    (hs : nq k = -1 ∨ ∃ t, t < wl ∧ nq k = nI t) (ht : ny k = -1 ∨ ∃ t, t < wl ∧ ny k = nI t) (hww : w = 1 + (if nq k = -1 then 0 else 1) + (if ny k = -1 then 0 else 1))
    (hB : yb_B l wl bl ys0 gv0) (H : ∀ ov' ys' gv' ro', yb_I ys0 gv0 k w (bg_ci True (bg_push b (fun c => if c = 0 then bl.2 i x else if c = 1 ∧ ¬ nq k = -1 then bl.2 i (nq k).toNatClampNeg else bl.2 i (ny k).toNatClampNeg)) b) ov' ys' gv' → post (nc, ov', rr, rw, tc, tr, nk, nl, nr, np, nq, ny, nw, nu, ys', gv', nd, ro', re)) : wpY_giveFor post (nc, ov, rr, rw, tc, tr, nk, nl, nr, np, nq, ny, nw, nu, ys, gv, nd, ro, re) (nI k) (nI i) := by
  have ck : (nI k).toNatClampNeg = k := nI_clamp (by omega)
  have vk : vp_in (nI k) 12 := vp_in_nI hk (by decide)
  have hrd : ∀ c, c < wl → ys ((l * 20 + i) * 6 + c) = bl.2 i c := fun c hc => yb_in hI hB hl hi (by omega) hc hw
  have hw6 : w ≤ 6 := by
    rw [hww]
    split <;> split <;> omega
  have tail : ∀ ro2 : Nat → Int32, (∀ c, c < w → ro2 c = if c = 0 then bl.2 i x else if c = 1 ∧ ¬ nq k = -1 then bl.2 i (nq k).toNatClampNeg else bl.2 i (ny k).toNatClampNeg) → wY_giveFor_206 post (nI k) (nI i) (nI l) (nI 3) nc ov rr rw tc tr nk nl nr np nq ny nw nu ys gv nd ro2 re := fun ro2 hr =>
    yb_give (row := fun c => if c = 0 then bl.2 i x else if c = 1 ∧ ¬ nq k = -1 then bl.2 i (nq k).toNatClampNeg else bl.2 i (ny k).toNatClampNeg) hI hk hw6 hr fun ov2 ys2 gv2 hI2 => br_f (by decide) (br_f (by decide) (br_f (by decide) (br_f (by decide) (br_f (by decide) (H ov2 ys2 gv2 ro2 (by rw [bg_ct trivial]; exact hI2))))))
  have m1 : (-1 : Int32) < 0 := by decide
  refine ⟨vk, nm_r (e' := nI l) (by rw [ck]; exact hnl) ⟨vk, nm_r (e' := nI 3) (by rw [ck]; exact hnk) (yb_lay (t := 0) (by omega) (by omega) hwl (by omega) fun ro' _ _ => ?_)⟩⟩
  dsimp only
  refine br_f (by decide) (br_f (by decide) (br_t (by decide) ⟨vk, ?_⟩))
  rw [ck, hnp]
  refine yb_at (by omega) ?_
  rw [hrd x hx]
  refine nm_e ⟨vk, ?_⟩
  rcases hs with es | ⟨s, hs, es⟩
  · refine br_t (by rw [es]; exact m1) ⟨vk, ?_⟩
    rw [ck]
    rcases ht with et | ⟨t, ht, et⟩
    · refine br_t (by rw [et]; exact m1) (tail _ fun c hc => ?_)
      rw [if_pos es, if_pos et] at hww
      obtain rfl : c = 0 := by omega
      rw [if_pos rfl, pk_us]
    · refine br_f (by rw [et]; exact nI_pos (by omega)) ⟨vk, ?_⟩
      rw [show ny k = nI t from et]
      refine yb_at (by omega) ⟨vp_in_nI (n := 1) (by omega) (by decide), nm_e (tail _ fun c hc => ?_)⟩
      rw [if_pos es, if_neg (by rw [et]; exact xb_nn1 (by omega))] at hww
      by_cases c0 : c = 0
      · subst c0
        rw [if_pos rfl, pk_un (by decide), pk_us]
      · obtain rfl : c = 1 := by omega
        rw [if_neg c0, if_neg (fun z => z.2 es), et, nI_clamp (by omega), ← hrd t ht]
        exact pk_us
  · have hns : ¬ nq k = -1 := by rw [es]; exact xb_nn1 (by omega)
    refine br_f (by rw [es]; exact nI_pos (by omega)) ⟨vk, ?_⟩
    rw [show nq k = nI s from es]
    refine yb_at (by omega) (nm_e (nm_r (e' := nI 2) rfl ⟨vk, ?_⟩))
    rw [ck, hrd s hs]
    have hsc : (nq k).toNatClampNeg = s := by rw [es]; exact nI_clamp (by omega)
    rcases ht with et | ⟨t, ht, et⟩
    · refine br_t (by rw [et]; exact m1) (tail _ fun c hc => ?_)
      rw [if_neg hns, if_pos et] at hww
      by_cases c0 : c = 0
      · subst c0
        rw [if_pos rfl, pk_un (by decide), pk_us]
      · obtain rfl : c = 1 := by omega
        rw [if_neg c0, if_pos ⟨rfl, hns⟩, hsc]
        exact pk_us
    · refine br_f (by rw [et]; exact nI_pos (by omega)) ⟨vk, ?_⟩
      rw [show ny k = nI t from et]
      refine yb_at (by omega) ⟨vp_in_nI (n := 2) (by omega) (by decide), nm_e (tail _ fun c hc => ?_)⟩
      rw [if_neg hns, if_neg (by rw [et]; exact xb_nn1 (by omega))] at hww
      by_cases c0 : c = 0
      · subst c0
        rw [if_pos rfl, pk_un (by decide), pk_un (by decide), pk_us]
      · by_cases c1 : c = 1
        · subst c1
          rw [if_neg c0, if_pos ⟨rfl, hns⟩, hsc, pk_un (by decide)]
          exact pk_us
        · obtain rfl : c = 2 := by omega
          rw [if_neg c0, if_neg (fun z => c1 z.1), et, nI_clamp (show t < 2 ^ 31 by omega), ← hrd t ht]
          exact pk_us
theorem yb_for56 {post : SY → Prop} {ys0 gv0 ys gv ro : Nat → Int32} {k l r w wr i x y K : Nat} {pos : Prop} {bl b2 b : bg_T} (hI : yb_I ys0 gv0 k w b ov ys gv) (hk : k < 12) (hl : l < k) (hr : r < k) (hi : i < bl.1) (h20 : bl.1 ≤ 20) (h202 : b2.1 ≤ 20) (hK : (pos ∧ K = 5) ∨ (¬ pos ∧ K = 6)) (hnk : nk k = nI K) (hnl : nl k = nI l) (hnr : nr k = nI r) (hwl : nw l = nI w) (hw : w ≤ 6) (hwr : wr ≤ 6) (hnp : np k = nI x) (hx : x < w) (hnq : nq k = nI y) (hy : y < wr)
    (hB : yb_B l w bl ys0 gv0) (hB2 : yb_B r wr b2 ys0 gv0) (H : ∀ ov' ys' gv' ro', yb_I ys0 gv0 k w (bg_ci ((∃ j, j < b2.1 ∧ b2.2 j y = bl.2 i x) ↔ pos) (bg_push b (bl.2 i)) b) ov' ys' gv' → post (nc, ov', rr, rw, tc, tr, nk, nl, nr, np, nq, ny, nw, nu, ys', gv', nd, ro', re)) : wpY_giveFor post (nc, ov, rr, rw, tc, tr, nk, nl, nr, np, nq, ny, nw, nu, ys, gv, nd, ro, re) (nI k) (nI i) := by
  have ck : (nI k).toNatClampNeg = k := nI_clamp (by omega)
  have vk : vp_in (nI k) 12 := vp_in_nI hk (by decide)
  have hgr : gv r = nI b2.1 := (hI.2.2.2 r (by omega)).trans (yb_n hB2 h202)
  have hx' := yb_in hI hB hl hi (by omega) hx hw
  have hy' : ∀ j, j < b2.1 → ys ((r * 20 + j) * 6 + y) = b2.2 j y := fun j hj => yb_in hI hB2 hr hj (by omega) hy hwr
  have hex : ∀ j, j < b2.1 → ys ((l * 20 + i) * 6 + x) = ys ((r * 20 + j) * 6 + y) → ∃ j, j < b2.1 ∧ b2.2 j y = bl.2 i x := fun j hj e => ⟨j, hj, by rw [← hx', e, hy' j hj]⟩
  have hne : (∀ j, j < b2.1 → ¬ ys ((l * 20 + i) * 6 + x) = ys ((r * 20 + j) * 6 + y)) → ¬ ∃ j, j < b2.1 ∧ b2.2 j y = bl.2 i x := fun e ⟨j, hj, z⟩ => e j hj (by rw [hx', hy' j hj, z])
  refine ⟨vk, nm_r (e' := nI l) (by rw [ck]; exact hnl) ⟨vk, nm_r (e' := nI K) (by rw [ck]; exact hnk) (yb_lay (t := 0) (by omega) (by omega) hwl (by omega) fun ro' h1 _ => ?_)⟩⟩
  have hrow : ∀ d, d < w → ro' d = bl.2 i d := fun d hd => by
    have z := h1 d hd
    rw [Nat.zero_add] at z
    exact z.trans (yb_in hI hB hl hi (by omega) hd hw)
  dsimp only
  rcases hK with ⟨hp, rfl⟩ | ⟨hp, rfl⟩
  · refine br_f (by decide) (br_f (by decide) (br_f (by decide) (br_t (by decide) (yb_match hk (by omega) (by omega) hnl hnr hnp (by omega) hnq (by omega) (by omega) hgr h202 (fun j hj e => ?_) (fun e => ?_)))))
    · refine br_f (by decide) (yb_give (row := bl.2 i) hI hk hw hrow fun ov2 ys2 gv2 hI2 => ?_)
      exact br_f (by decide) (br_f (by decide) (br_f (by decide) (H ov2 ys2 gv2 ro' (by rw [bg_ct ⟨fun _ => hp, fun _ => hex j hj e⟩]; exact hI2))))
    · refine br_t rfl (br_f (by decide) (br_f (by decide) (br_f (by decide) (br_f (by decide) (H ov ys gv ro' ?_)))))
      rw [bg_cf (fun z => hne e (z.mpr hp))]
      exact hI
  · refine br_f (by decide) (br_f (by decide) (br_f (by decide) (br_f (by decide) (br_t (by decide) (yb_match hk (by omega) (by omega) hnl hnr hnp (by omega) hnq (by omega) (by omega) hgr h202 (fun j hj e => ?_) (fun e => ?_))))))
    · refine br_f (by decide) (br_f (by decide) (br_f (by decide) (br_f (by decide) (H ov ys gv ro' ?_))))
      rw [bg_cf (fun z => hp (z.mp (hex j hj e)))]
      exact hI
    · refine br_t rfl (yb_give (row := bl.2 i) hI hk hw hrow fun ov2 ys2 gv2 hI2 => ?_)
      exact br_f (by decide) (br_f (by decide) (br_f (by decide) (H ov2 ys2 gv2 ro' (by rw [bg_ct ⟨fun z => absurd z (hne e), fun z => absurd z hp⟩]; exact hI2))))
theorem yb_for7 {post : SY → Prop} {ys0 gv0 ys gv ro : Nat → Int32} {k l wl x y q i : Nat} {bl b : bg_T} (hI : yb_I ys0 gv0 k 2 b ov ys gv) (hk : k < 12) (hl : l < k) (hi : i < bl.1) (h20 : bl.1 ≤ 20) (hnk : nk k = nI 7) (hnl : nl k = nI l) (hwl : nw l = nI wl) (hw : wl ≤ 6) (hnp : np k = nI x) (hx : x < wl) (hnq : nq k = nI q) (hq : q ≤ 3) (hny : ny k = nI y) (hy : y < wl)
    (hB : yb_B l wl bl ys0 gv0)
    (H : ∀ ov' ys' gv' ro', yb_I ys0 gv0 k 2 (bg_ci (bg_fst (fun i => bl.2 i x) i) (bg_push b (bg_grow (nI q) (fun i => bl.2 i x) (fun i => bl.2 i y) bl.1 i)) b) ov' ys' gv' → post (nc, ov', rr, rw, tc, tr, nk, nl, nr, np, nq, ny, nw, nu, ys', gv', nd, ro', re)) : wpY_giveFor post (nc, ov, rr, rw, tc, tr, nk, nl, nr, np, nq, ny, nw, nu, ys, gv, nd, ro, re) (nI k) (nI i) := by
  have ck : (nI k).toNatClampNeg = k := nI_clamp (by omega)
  have vk : vp_in (nI k) 12 := vp_in_nI hk (by decide)
  refine ⟨vk, nm_r (e' := nI l) (by rw [ck]; exact hnl) ⟨vk, nm_r (e' := nI 7) (by rw [ck]; exact hnk) (yb_lay (t := 0) (by omega) (by omega) hwl (by omega) fun ro' h1 _ => ?_)⟩⟩
  dsimp only
  refine br_f (by decide) (br_f (by decide) (br_f (by decide) (br_f (by decide) (br_f (by decide) (br_t (by decide) (yb_ggrp hI hk hl hnl hw hnp hx hnq hq hny hy hB h20 hi fun ov2 ys2 gv2 ro2 hI2 => ?_))))))
  exact br_f (by decide) (br_f (by decide) (H ov2 ys2 gv2 ro2 hI2))
theorem yb_for8 {post : SY → Prop} {ys0 gv0 ys gv ro : Nat → Int32} {k l w i : Nat} {bl b : bg_T} (hI : yb_I ys0 gv0 k w b ov ys gv) (hk : k < 12) (hl : l < k) (hi : i < bl.1) (h20 : bl.1 ≤ 20) (hnk : nk k = nI 8) (hnl : nl k = nI l) (hwl : nw l = nI w) (hw : w ≤ 6)
    (hB : yb_B l w bl ys0 gv0) (H : ∀ ov' ys' gv' ro', yb_I ys0 gv0 k w (bg_ci (∀ j, j < i → ¬ bg_eqw w (bl.2 i) (bl.2 j)) (bg_push b (bl.2 i)) b) ov' ys' gv' → post (nc, ov', rr, rw, tc, tr, nk, nl, nr, np, nq, ny, nw, nu, ys', gv', nd, ro', re)) : wpY_giveFor post (nc, ov, rr, rw, tc, tr, nk, nl, nr, np, nq, ny, nw, nu, ys, gv, nd, ro, re) (nI k) (nI i) := by
  have ck : (nI k).toNatClampNeg = k := nI_clamp (by omega)
  have vk : vp_in (nI k) 12 := vp_in_nI hk (by decide)
  have hrd : ∀ j, j < bl.1 → bg_eqw w (fun c => ys ((l * 20 + j) * 6 + c)) (bl.2 j) := fun j hj c hc => yb_in hI hB hl hj (by omega) hc hw
  refine ⟨vk, nm_r (e' := nI l) (by rw [ck]; exact hnl) ⟨vk, nm_r (e' := nI 8) (by rw [ck]; exact hnk) (yb_lay (t := 0) (by omega) (by omega) hwl (by omega) fun ro' h1 _ => ?_)⟩⟩
  dsimp only
  refine br_f (by decide) (br_f (by decide) (br_f (by decide) (br_f (by decide) (br_f (by decide) (br_f (by decide) (br_t (by decide) (yb_rep (by omega) (by omega) hwl hw (fun j hj e => br_f (by decide) (br_f (by decide) (H ov ys gv ro' ?_))) (fun e => br_t rfl (yb_give (row := bl.2 i) hI hk hw (fun d hd => ?_) fun ov2 ys2 gv2 hI2 => H ov2 ys2 gv2 ro' ?_)))))))))
  · rw [bg_cf (fun z => z j hj (bg_eqw_t (bg_eqw_s (hrd i hi)) (bg_eqw_t e (hrd j (by omega)))))]
    exact hI
  · have z := h1 d hd
    rw [Nat.zero_add] at z
    exact z.trans (yb_in hI hB hl hi (by omega) hd hw)
  · rw [bg_ct (fun j hj z => e j hj (bg_eqw_t (hrd i hi) (bg_eqw_t z (bg_eqw_s (hrd j (by omega))))))]
    exact hI2
theorem yb_for9 {post : SY → Prop} {ys0 gv0 ys gv ro : Nat → Int32} {k l w i : Nat} {bl b : bg_T} (hI : yb_I ys0 gv0 k w b ov ys gv) (hk : k < 12) (hl : l < k) (hi : i < bl.1) (h20 : bl.1 ≤ 20) (hnk : nk k = nI 9) (hnl : nl k = nI l) (hwl : nw l = nI w) (hw : w ≤ 6)
    (hB : yb_B l w bl ys0 gv0) (H : ∀ ov' ys' gv' ro', yb_I ys0 gv0 k w (bg_ci True (bg_push b (bl.2 i)) b) ov' ys' gv' → post (nc, ov', rr, rw, tc, tr, nk, nl, nr, np, nq, ny, nw, nu, ys', gv', nd, ro', re)) : wpY_giveFor post (nc, ov, rr, rw, tc, tr, nk, nl, nr, np, nq, ny, nw, nu, ys, gv, nd, ro, re) (nI k) (nI i) := by
  have ck : (nI k).toNatClampNeg = k := nI_clamp (by omega)
  have vk : vp_in (nI k) 12 := vp_in_nI hk (by decide)
  refine ⟨vk, nm_r (e' := nI l) (by rw [ck]; exact hnl) ⟨vk, nm_r (e' := nI 9) (by rw [ck]; exact hnk) (yb_lay (t := 0) (by omega) (by omega) hwl (by omega) fun ro' h1 _ => ?_)⟩⟩
  dsimp only
  refine br_f (by decide) (br_f (by decide) (br_f (by decide) (br_f (by decide) (br_f (by decide) (br_f (by decide) (br_f (by decide) (br_t (by decide) (yb_give (row := bl.2 i) hI hk hw (fun d hd => ?_) fun ov2 ys2 gv2 hI2 => H ov2 ys2 gv2 ro' ?_))))))))
  · have z := h1 d hd
    rw [Nat.zero_add] at z
    exact z.trans (yb_in hI hB hl hi (by omega) hd hw)
  · rw [bg_ct trivial]
    exact hI2
end
end
section
/-! the reference: evaluate -/
section
variable {nc rr rw : Int32} {tc tr nk nl nr np nq ny nw nu nd re : Nat → Int32}
theorem yb_ev73 {post : SY → Prop} {ov : Int32} {ys gv ro : Nat → Int32} {k K : Nat} (hk : k < 12) (hnk : nk k = nI K) (hK : ¬ nI K = 9) (h : post (nc, ov, rr, rw, tc, tr, nk, nl, nr, np, nq, ny, nw, nu, ys, gv, nd, ro, re)) : ∃ n, wY_evaluate_73 post (nI k) n 0 nc ov rr rw tc tr nk nl nr np nq ny nw nu ys gv nd ro re := by
  have ck : (nI k).toNatClampNeg = k := nI_clamp (by omega)
  refine ⟨1, vp_in_nI hk (by decide), ?_⟩
  rw [ck, hnk]
  exact br_f hK h
theorem yb_ev44 {post : SY → Prop} {ys0 gv0 ys gv ro : Nat → Int32} {k l n w : Nat} {F : Nat → bg_T} (hk : k < 12) (hl : l < k) (hnl : nl k = nI l) (hn : gv0 l = nI n) (hn20 : n ≤ 20) (h0 : yb_I ys0 gv0 k w (F 0) 0 ys gv)
    (Hs : ∀ i, i < n → ∀ (P : SY → Prop) ov1 ys1 gv1 ro1, yb_I ys0 gv0 k w (F i) ov1 ys1 gv1 → (∀ ov2 ys2 gv2 ro2, yb_I ys0 gv0 k w (F (i + 1)) ov2 ys2 gv2 → P (nc, ov2, rr, rw, tc, tr, nk, nl, nr, np, nq, ny, nw, nu, ys2, gv2, nd, ro2, re)) → wpY_giveFor P (nc, ov1, rr, rw, tc, tr, nk, nl, nr, np, nq, ny, nw, nu, ys1, gv1, nd, ro1, re) (nI k) (nI i))
    (Hx : ∀ ov2 ys2 gv2 ro2, yb_I ys0 gv0 k w (F n) ov2 ys2 gv2 → ∃ f, wY_evaluate_73 post (nI k) f 0 nc ov2 rr rw tc tr nk nl nr np nq ny nw nu ys2 gv2 nd ro2 re) : ∃ f, wY_evaluate_44 post (nI k) f 0 nc 0 rr rw tc tr nk nl nr np nq ny nw nu ys gv nd ro re := by
  have ck : (nI k).toNatClampNeg = k := nI_clamp (by omega)
  have cl : (nI l).toNatClampNeg = l := nI_clamp (by omega)
  refine loop_0 (fun f i (s : yb_S) => wY_evaluate_44 post (nI k) f (nI i) nc s.1 rr rw tc tr nk nl nr np nq ny nw nu s.2.1 s.2.2.1 nd s.2.2.2 re) (fun i s => yb_I ys0 gv0 k w (F i) s.1 s.2.1 s.2.2.1) n (0, ys, gv, ro) h0 ?_ ?_
  · rintro f ⟨ov', ys', gv', ro'⟩ hI
    have hg : gv' l = nI n := (hI.2.2.2 l (by omega)).trans hn
    refine ⟨vp_in_nI hk (by decide), ?_⟩
    dsimp only
    rw [ck, hnl, cl, hg]
    exact ⟨vp_in_nI (by omega) (by decide), br_t (nI_le (Nat.le_refl _) (by omega)) (Hx _ _ _ _ hI)⟩
  · rintro f i ⟨ov', ys', gv', ro'⟩ hi hI ih
    have hg : gv' l = nI n := (hI.2.2.2 l (by omega)).trans hn
    refine ⟨vp_in_nI hk (by decide), ?_⟩
    dsimp only
    rw [ck, hnl, cl, hg]
    refine ⟨vp_in_nI (by omega) (by decide), br_f (nI_ge hi (by omega)) (Hs i hi _ _ _ _ _ hI fun ov2 ys2 gv2 ro2 hI2 => ?_)⟩
    exact nm_r (nI_1 i) (ih (ov2, ys2, gv2, ro2) hI2)
theorem yb_all {post : SY → Prop} {ov : Int32} {ys0 gv0 ys gv ro : Nat → Int32} {k r w : Nat} {b bl : bg_T} (hk : k < 12) (hr : r < k) (hnk : nk k = nI 9) (hnr : nr k = nI r) (hwr : nw r = nI w) (hw : w ≤ 6) (hI0 : yb_I ys0 gv0 k w b ov ys gv) (hB : yb_B r w bl ys0 gv0) (h20 : bl.1 ≤ 20)
    (H : ∀ ov' ys' gv' ro', yb_I ys0 gv0 k w (bs_all b bl bl.1) ov' ys' gv' → post (nc, ov', rr, rw, tc, tr, nk, nl, nr, np, nq, ny, nw, nu, ys', gv', nd, ro', re)) : ∃ f, wY_evaluate_73 post (nI k) f 0 nc ov rr rw tc tr nk nl nr np nq ny nw nu ys gv nd ro re := by
  have ck : (nI k).toNatClampNeg = k := nI_clamp (by omega)
  have cr : (nI r).toNatClampNeg = r := nI_clamp (by omega)
  have hn := yb_n hB h20
  refine loop_0 (fun f i (s : yb_S) => wY_evaluate_73 post (nI k) f (nI i) nc s.1 rr rw tc tr nk nl nr np nq ny nw nu s.2.1 s.2.2.1 nd s.2.2.2 re) (fun i s => yb_I ys0 gv0 k w (bs_all b bl i) s.1 s.2.1 s.2.2.1) bl.1 (ov, ys, gv, ro) hI0 ?_ ?_
  · rintro f ⟨ov', ys', gv', ro'⟩ hI
    have hg : gv' r = nI bl.1 := (hI.2.2.2 r (by omega)).trans hn
    refine ⟨vp_in_nI hk (by decide), ?_⟩
    dsimp only
    rw [ck, hnk, hnr, cr, hg]
    exact br_t (by decide) ⟨vp_in_nI hk (by decide), vp_in_nI (by omega) (by decide), br_t (nI_le (Nat.le_refl _) (by omega)) (H _ _ _ _ hI)⟩
  · rintro f i ⟨ov', ys', gv', ro'⟩ hi hI ih
    have hg : gv' r = nI bl.1 := (hI.2.2.2 r (by omega)).trans hn
    dsimp only at hI
    refine ⟨vp_in_nI hk (by decide), ?_⟩
    dsimp only
    rw [ck, hnk, hnr, cr, hg]
    refine br_t (by decide) ⟨vp_in_nI hk (by decide), vp_in_nI (by omega) (by decide), br_f (nI_ge hi (by omega)) ⟨vp_in_nI hk (by decide), yb_lay (t := 0) (by omega) (by omega) hwr (by omega) fun ro2 h1 _ => ?_⟩⟩
    refine yb_give (row := bl.2 i) hI hk hw (fun d hd => ?_) fun ov2 ys2 gv2 hI2 => nm_r (nI_1 i) (ih (ov2, ys2, gv2, ro2) ?_)
    · have z := h1 d hd
      rw [Nat.zero_add] at z
      exact z.trans (yb_in hI hB hr hi (by omega) hd hw)
    · have e2 : bs_all b bl (i + 1) = bg_push (bs_all b bl i) (bl.2 i) := bg_sel_t trivial
      dsimp only
      rw [e2]
      exact hI2
theorem yb_evaluate {post : SY → Prop} {ys gv ro : Nat → Int32} {k w : Nat} {b : bg_T} {D : Nat → Nat → bg_T → Prop} {TB : Nat → bg_T} (hk : k < 12) (hN : nd_rel (nk k) (nw k) (nl k) (nr k) (np k) (nq k) (ny k) k D TB w b)
    (hT : ∀ t, t < 3 → ∃ h, h ≤ 6 ∧ tr t = nI h ∧ TB t = bs_scan tc t h)
    (hD : ∀ l wl bl, l < k → (nl k = nI l ∨ nr k = nI l) → D l wl bl → nw l = nI wl ∧ wl ≤ 6 ∧ yb_B l wl bl ys gv ∧ bl.1 ≤ 20)
    (H : ∀ ov' ys' gv' ro', yb_I ys gv k w b ov' ys' gv' → post (nc, ov', rr, rw, tc, tr, nk, nl, nr, np, nq, ny, nw, nu, ys', gv', nd, ro', re)) : wpY_evaluate post (nc, 0, rr, rw, tc, tr, nk, nl, nr, np, nq, ny, nw, nu, ys, gv, nd, ro, re) (nI k) := by
  have ck : (nI k).toNatClampNeg = k := nI_clamp (by omega)
  have vk : vp_in (nI k) 12 := vp_in_nI hk (by decide)
  have hU : ∀ l wl bl, l < k → yb_B l wl bl ys gv → yb_B l wl bl ys (upd gv k (nI 0)) := fun l wl bl hl h => ⟨by rw [pk_un (by omega)]; exact h.1, h.2⟩
  have h0 : upd gv k (nI 0) k = nI 0 := pk_us
  have HH : ∀ ov' ys' gv' ro', yb_I ys (upd gv k (nI 0)) k w b ov' ys' gv' → post (nc, ov', rr, rw, tc, tr, nk, nl, nr, np, nq, ny, nw, nu, ys', gv', nd, ro', re) := fun ov' ys' gv' ro' h => H ov' ys' gv' ro' ⟨h.1, h.2.1, h.2.2.1, fun m hm => (h.2.2.2 m hm).trans (pk_un hm)⟩
  obtain ⟨hw6, hW, hC⟩ := hN
  refine ⟨vk, nm_r (e' := upd gv k (nI 0)) (by rw [ck]; rfl) ⟨vk, ?_⟩⟩
  rw [ck]
  rcases hC with ⟨hK, hL, hR, e3, t, ht, hF, hb⟩ | ⟨hK, hR, l, bl, c, m, hl, hL, hd, hc, hF, hm, hS, hb⟩ | ⟨hK, hR, l, wl, bl, op, x, y, hl, hL, hd, hw, hop, hF, hx, hS, hy, hT', hb⟩ | ⟨hK, hR, l, wl, bl, x, hl, hL, hd, hx, hF, hS, hT', hw, hb⟩ | ⟨hK, l, r, wl, wr, bl, b2, x, y, hl, hr, hL, hR, hd, hd2, hw, hx, hF, hy, hS, hb⟩ | ⟨hK, l, r, wr, bl, b2, x, y, hl, hr, hL, hR, hd, hd2, hx, hF, hy, hS, hb⟩ | ⟨hK, l, r, wr, bl, b2, x, y, hl, hr, hL, hR, hd, hd2, hx, hF, hy, hS, hb⟩ | ⟨hK, hR, l, wl, bl, x, q, y, hl, hL, hd, hw, hx, hF, hq, hS, hy, hT', hb⟩ | ⟨hK, hR, l, bl, hl, hL, hd, hb⟩ | ⟨hK, l, r, bl, b2, hl, hr, hL, hR, hd, hd2, hb⟩
  · obtain ⟨h, hh, e1, e2⟩ := hT t ht
    rw [hK]
    refine br_t (by decide) (yb_scan hk hF ht e1 hh h0 (fun ov' ys' gv' ro' hI => HH ov' ys' gv' ro' ?_))
    rw [hb, e2, e3]
    exact hI
  · obtain ⟨d1, d2, d3, d4⟩ := hD l _ bl hl (Or.inl hL) hd
    have d5 := hU _ _ _ hl d3
    rw [hK]
    refine br_f (by decide) ⟨vk, br_f (by decide) (yb_ev44 (F := bs_filter bl c (nI m) (ny k)) hk hl hL (yb_n d5 d4) d4 (yb_I0 h0) (fun i hi P ov1 ys1 gv1 ro1 hI HP => yb_for1 hI hk hl hi d4 hK hL d1 hw6 hF hc hS hm d5 HP) (fun ov' ys' gv' ro' hI => yb_ev73 hk hK (by decide) (HH ov' ys' gv' ro' ?_)))⟩
    rw [hb]
    exact hI
  · obtain ⟨d1, d2, d3, d4⟩ := hD l _ bl hl (Or.inl hL) hd
    have d5 := hU _ _ _ hl d3
    subst hw
    rw [hK]
    refine br_f (by decide) ⟨vk, br_f (by decide) (yb_ev44 (F := bs_ext bl wl (nI op) x y) hk hl hL (yb_n d5 d4) d4 (yb_I0 h0) (fun i hi P ov1 ys1 gv1 ro1 hI HP => yb_for2 hI hk hl hi d4 hK hL d1 hW hw6 hF hop hS hx hT' hy d5 HP) (fun ov' ys' gv' ro' hI => yb_ev73 hk hK (by decide) (HH ov' ys' gv' ro' ?_)))⟩
    rw [hb]
    exact hI
  · obtain ⟨d1, d2, d3, d4⟩ := hD l _ bl hl (Or.inl hL) hd
    have d5 := hU _ _ _ hl d3
    rw [hK]
    refine br_f (by decide) ⟨vk, br_f (by decide) (yb_ev44 (F := bs_pick bl x (nq k) (ny k)) hk hl hL (yb_n d5 d4) d4 (yb_I0 h0) (fun i hi P ov1 ys1 gv1 ro1 hI HP => yb_for3 hI hk hl hi d4 hK hL d1 d2 hF hx hS hT' hw d5 HP) (fun ov' ys' gv' ro' hI => yb_ev73 hk hK (by decide) (HH ov' ys' gv' ro' ?_)))⟩
    rw [hb]
    exact hI
  · obtain ⟨d1, d2, d3, d4⟩ := hD l _ bl hl (Or.inl hL) hd
    obtain ⟨f1, f2, f3, f4⟩ := hD r _ b2 hr (Or.inr hR) hd2
    subst hw
    rw [hK]
    refine br_f (by decide) ⟨vk, br_t (by decide) (yb_join hk hl hr hL hR d1 f1 hw6 hF hx hS hy h0 (hU _ _ _ hl d3) d4 (hU _ _ _ hr f3) f4 (fun ov' ys' gv' ro' hI => HH ov' ys' gv' ro' ?_))⟩
    rw [hb]
    exact hI
  · obtain ⟨d1, d2, d3, d4⟩ := hD l _ bl hl (Or.inl hL) hd
    obtain ⟨f1, f2, f3, f4⟩ := hD r _ b2 hr (Or.inr hR) hd2
    have d5 := hU _ _ _ hl d3
    rw [hK]
    refine br_f (by decide) ⟨vk, br_f (by decide) (yb_ev44 (F := bs_semi bl b2 x y True) hk hl hL (yb_n d5 d4) d4 (yb_I0 h0) (fun i hi P ov1 ys1 gv1 ro1 hI HP => yb_for56 hI hk hl hr hi d4 f4 (Or.inl ⟨trivial, rfl⟩) hK hL hR d1 hw6 f2 hF hx hS hy d5 (hU _ _ _ hr f3) HP) (fun ov' ys' gv' ro' hI => yb_ev73 hk hK (by decide) (HH ov' ys' gv' ro' ?_)))⟩
    rw [hb]
    exact hI
  · obtain ⟨d1, d2, d3, d4⟩ := hD l _ bl hl (Or.inl hL) hd
    obtain ⟨f1, f2, f3, f4⟩ := hD r _ b2 hr (Or.inr hR) hd2
    have d5 := hU _ _ _ hl d3
    rw [hK]
    refine br_f (by decide) ⟨vk, br_f (by decide) (yb_ev44 (F := bs_semi bl b2 x y False) hk hl hL (yb_n d5 d4) d4 (yb_I0 h0) (fun i hi P ov1 ys1 gv1 ro1 hI HP => yb_for56 hI hk hl hr hi d4 f4 (Or.inr ⟨id, rfl⟩) hK hL hR d1 hw6 f2 hF hx hS hy d5 (hU _ _ _ hr f3) HP) (fun ov' ys' gv' ro' hI => yb_ev73 hk hK (by decide) (HH ov' ys' gv' ro' ?_)))⟩
    rw [hb]
    exact hI
  · obtain ⟨d1, d2, d3, d4⟩ := hD l _ bl hl (Or.inl hL) hd
    have d5 := hU _ _ _ hl d3
    subst hw
    rw [hK]
    refine br_f (by decide) ⟨vk, br_f (by decide) (yb_ev44 (F := bs_grp (nI q) (fun i => bl.2 i x) (fun i => bl.2 i y) bl.1) hk hl hL (yb_n d5 d4) d4 (yb_I0 h0) (fun i hi P ov1 ys1 gv1 ro1 hI HP => yb_for7 hI hk hl hi d4 hK hL d1 d2 hF hx hS hq hT' hy d5 HP) (fun ov' ys' gv' ro' hI => yb_ev73 hk hK (by decide) (HH ov' ys' gv' ro' ?_)))⟩
    rw [hb]
    exact hI
  · obtain ⟨d1, d2, d3, d4⟩ := hD l _ bl hl (Or.inl hL) hd
    have d5 := hU _ _ _ hl d3
    rw [hK]
    refine br_f (by decide) ⟨vk, br_f (by decide) (yb_ev44 (F := bs_dist bl w) hk hl hL (yb_n d5 d4) d4 (yb_I0 h0) (fun i hi P ov1 ys1 gv1 ro1 hI HP => yb_for8 hI hk hl hi d4 hK hL d1 hw6 d5 HP) (fun ov' ys' gv' ro' hI => yb_ev73 hk hK (by decide) (HH ov' ys' gv' ro' ?_)))⟩
    rw [hb]
    exact hI
  · obtain ⟨d1, d2, d3, d4⟩ := hD l _ bl hl (Or.inl hL) hd
    obtain ⟨f1, f2, f3, f4⟩ := hD r _ b2 hr (Or.inr hR) hd2
    have d5 := hU _ _ _ hl d3
    rw [hK]
    refine br_f (by decide) ⟨vk, br_f (by decide) (yb_ev44 (F := bs_all bg_0 bl) hk hl hL (yb_n d5 d4) d4 (yb_I0 h0) (fun i hi P ov1 ys1 gv1 ro1 hI HP => yb_for9 hI hk hl hi d4 hK hL d1 hw6 d5 HP) (fun ov' ys' gv' ro' hI => yb_all hk hr hK hR f1 hw6 hI (hU _ _ _ hr f3) f4 fun ov2 ys2 gv2 ro2 hI2 => HH ov2 ys2 gv2 ro2 ?_))⟩
    rw [hb]
    exact hI2
end
end
section
/-! the reference: show, marks, run -/
theorem yr_p (p c : Nat) : 6 * nI p + nI c = nI (p * 6 + c) := by
  rw [show (6 : Int32) = nI 6 from rfl, pk_mul, nI_add]
  exact congrArg nI (by omega)
theorem yr_10 : ¬ (1 : Int32) = 0 := by decide
section
variable {nc rr rw : Int32} {tc tr nk nl nr np nq ny nw nu : Nat → Int32}
theorem yb_show {post : SY → Prop} {ov : Int32} {ys gv nd ro re : Nat → Int32} {k n w : Nat} {S : Nat → Nat → Int32} (hk : k < 12) (hn : gv k = nI n) (hn20 : n ≤ 20) (hw : nw k = nI w) (hw6 : w ≤ 6) (hS : bg_srt n w (fun i c => ys ((k * 20 + i) * 6 + c)) S)
    (H : ∀ re' : Nat → Int32, (∀ p, p < n → ∀ c, c < w → re' (p * 6 + c) = S p c) → post (nc, ov, nI n, nI w, tc, tr, nk, nl, nr, np, nq, ny, nw, nu, ys, gv, nd, ro, re')) : wpY_show post (nc, ov, rr, rw, tc, tr, nk, nl, nr, np, nq, ny, nw, nu, ys, gv, nd, ro, re) (nI k) := by
  have ck : (nI k).toNatClampNeg = k := nI_clamp (by omega)
  have vk : vp_in (nI k) 12 := vp_in_nI hk (by decide)
  refine ⟨vk, nm_r (e' := nI n) (by rw [ck]; exact hn) ⟨vk, nm_r (e' := nI w) (by rw [ck]; exact hw) ?_⟩⟩
  generalize hg : (fun (i : Nat) (c : Nat) => ys ((k * 20 + i) * 6 + c)) = g at hS
  refine loop_0 (fun f i s => wY_show_22 post (nI k) nc ov (nI n) (nI w) f (nI i) tc tr nk nl nr np nq ny nw nu ys gv nd ro s) (fun i s => ∀ a, a < i → ∀ c, c < w → s (bg_pl n w g a * 6 + c) = S (bg_pl n w g a) c) n re (fun a ha => absurd ha (Nat.not_lt_zero a)) ?_ ?_
  · intro f s hI
    refine ⟨vk, ?_⟩
    rw [ck, hn]
    refine br_t (nI_le (Nat.le_refl _) (by omega)) (H s fun p hp c hc => ?_)
    obtain ⟨a, ha, e⟩ := bg_pl_on hS hp
    have z := hI a ha c hc
    rw [e] at z
    exact z
  · intro f i s hi hI ih
    refine ⟨vk, ?_⟩
    rw [ck, hn]
    refine br_f (nI_ge hi (by omega)) ?_
    have hpl := bg_pl_n (w := w) (g := g) hi
    refine loop_0 (fun f2 j x => wY_show_37 post (wY_show_22 post (nI k) nc ov (nI n) (nI w) f) (nI k) (nI i) nc ov (nI n) (nI w) tc tr nk nl nr np nq ny nw nu ys gv nd ro s f2 x (nI j)) (fun j x => x = nI (bg_cnt (fun j => bg_bef w g j i) j)) n 0 rfl ?_ ?_
    · intro f2 x hx
      refine ⟨vk, ?_⟩
      rw [ck, hn]
      refine br_t (nI_le (Nat.le_refl _) (by omega)) ?_
      have hx' : x = nI (bg_pl n w g i) := hx
      rw [hx']
      refine loop_0 (fun f3 c s2 => wY_show_71 post (wY_show_22 post (nI k) nc ov (nI n) (nI w) f) (nI k) (nI i) (nI (bg_pl n w g i)) nc ov (nI n) (nI w) f3 (nI c) tc tr nk nl nr np nq ny nw nu ys gv nd ro s2) (fun c s2 => (∀ j, (j < bg_pl n w g i * 6 ∨ bg_pl n w g i * 6 + 6 ≤ j) → s2 j = s j) ∧ ∀ d, d < c → s2 (bg_pl n w g i * 6 + d) = g i d) 6 s ⟨fun _ _ => rfl, fun d hd => absurd hd (Nat.not_lt_zero d)⟩ ?_ ?_
      · rintro f3 s2 ⟨h1, h2⟩
        refine br_t (nI_le (a := 6) (b := 6) (Nat.le_refl _) (by decide)) (nm_r (nI_1 i) (ih s2 fun a ha c hc => ?_))
        by_cases e : bg_pl n w g a = bg_pl n w g i
        · rw [e, h2 c (by omega)]
          exact (bg_pl_at hS hi c hc).symm
        · have ha' : a ≠ i := fun z => e (by rw [z])
          rw [h1 _ (by omega)]
          exact hI a (by omega) c hc
      · rintro f3 c s2 hc ⟨h1, h2⟩ ih2
        refine br_f (nI_ge (b := 6) hc (by decide)) (br_f (nI_ge (b := 20) (by omega) (by decide)) (yb_at (by omega) ?_))
        rw [yr_p, nI_clamp (by omega)]
        refine ⟨vp_in_nI (by omega) (by decide), nm_e (nm_r (nI_1 c) (ih2 _ ⟨fun j hj => ?_, fun d hd => ?_⟩))⟩
        · rw [pk_un (by omega)]
          exact h1 j hj
        · by_cases e : d = c
          · subst e
            rw [pk_us, ← hg]
          · rw [pk_un (by omega)]
            exact h2 d (by omega)
    · intro f2 j x hj hx ih2
      have hcl := bg_cnt_le (fun j => bg_bef w g j i) j
      refine ⟨vk, ?_⟩
      rw [ck, hn]
      refine br_f (nI_ge hj (by omega)) (yb_less hk (by omega) (by omega) hw hw6 (fun e => br_f (by decide) (nm_e (nm_r (nI_1 j) (ih2 _ ?_)))) (fun e => br_t rfl (nm_r (nI_1 j) (ih2 _ ?_))))
      · rw [hg] at e
        rw [bg_cnt_t (P := fun j => bg_bef w g j i) e, hx, nI_1]
      · rw [hg] at e
        rw [bg_cnt_f (P := fun j => bg_bef w g j i) e, hx]
theorem yb_mark {post : Int32 → SY → Prop} {ov : Int32} {ys gv nd ro re : Nat → Int32} {R : Nat} (hR : R < 12) (hok : ∀ x, x ≤ R → mk_ok nl nr x)
    (H : ∀ nd' a0 : Nat → Int32, (∀ j, j < R → a0 j = 0) → a0 R = 1 → nd' = mk_F nl nr (R + 1) a0 → ∃ f, wY_run_120 post (nI R) f 0 nc 0 rr rw tc tr nk nl nr np nq ny nw nu ys gv nd' ro re) : ∃ f, wY_run_13 post (nI R) nc ov rr rw f 0 tc tr nk nl nr np nq ny nw nu ys gv nd ro re := by
  refine loop_0 (fun f i s => wY_run_13 post (nI R) nc ov rr rw f (nI i) tc tr nk nl nr np nq ny nw nu ys gv s ro re) (fun i s => ∀ j, j < i → s j = if j = R then 1 else 0) 12 nd (fun j hj => absurd hj (Nat.not_lt_zero j)) ?_ ?_
  · intro f s hI
    refine br_t (nI_le (a := 12) (b := 12) (Nat.le_refl _) (by decide)) ?_
    have a1 : ∀ j, j < R → s j = 0 := fun j hj => by rw [hI j (by omega), if_neg (by omega)]
    have a2 : s R = 1 := by rw [hI R hR, if_pos rfl]
    have key := pk_loopD (fun f e s => wY_run_43 post (nI R) nc ov rr rw f (nI e + (-1)) tc tr nk nl nr np nq ny nw nu ys gv s ro re) (fun e s2 => e ≤ R + 1 ∧ mk_F nl nr e s2 = mk_F nl nr (R + 1) s) ?_ ?_ (R + 1) s ⟨Nat.le_refl _, rfl⟩
    · rw [pk_m1] at key
      exact ⟨_, key⟩
    · rintro f s2 ⟨_, hI2⟩
      exact br_t (by decide) (H _ s a1 a2 hI2)
    · rintro f e s2 ⟨he, hI2⟩ ih
      have ce : (nI e).toNatClampNeg = e := nI_clamp (by omega)
      have ve : vp_in (nI e) 12 := vp_in_nI (by omega) (by decide)
      have hS : mk_F nl nr e (mk_S nl nr s2 e) = mk_F nl nr (R + 1) s := hI2
      have ih2 := ih (mk_S nl nr s2 e) ⟨by omega, hS⟩
      have m1 : (-1 : Int32) < 0 := by decide
      rw [pk_m1]
      refine br_f (nI_pos (by omega)) ⟨ve, ?_⟩
      rw [ce, xb_b1]
      unfold mk_S at ih2
      refine br_c (fun z => ⟨ve, ?_⟩) (fun z => ⟨ve, ?_⟩)
      · rw [if_pos z] at ih2
        rw [ce]
        exact br_t z (nm_e ih2)
      · rw [if_neg z] at ih2
        have tail : ∀ a : Nat → Int32, ¬ a e = 0 → wY_run_43 post (nI R) nc ov rr rw f (nI e + -1) tc tr nk nl nr np nq ny nw nu ys gv ((if nr e = -1 then a else upd a (nr e).toNatClampNeg 1)) ro re → wY_run_77 post (wY_run_43 post (nI R) nc ov rr rw f) (nI R) (nI e) nc ov rr rw tc tr nk nl nr np nq ny nw nu ys gv a ro re := by
          intro a hz ha
          refine ⟨ve, ?_⟩
          rw [ce, xb_b1]
          refine br_f hz ⟨ve, ?_⟩
          rcases (hok e (by omega)).2 with er | ⟨r, hr, er⟩
          · rw [if_pos er] at ha
            rw [er]
            exact br_t m1 (nm_e ha)
          · rw [er, if_neg (xb_nn1 (by omega))] at ha
            rw [er]
            exact br_f (nI_pos (by omega)) ⟨ve, vp_in_nI (by omega) (by decide), nm_e (nm_e ha)⟩
        rcases (hok e (by omega)).1 with el | ⟨l, hl, el⟩
        · rw [if_pos el] at ih2
          rw [el]
          exact br_t m1 (tail _ z ih2)
        · rw [el, if_neg (xb_nn1 (by omega))] at ih2
          rw [el]
          exact br_f (nI_pos (by omega)) ⟨ve, vp_in_nI (by omega) (by decide), nm_e (tail _ (mk_u1 z) ih2)⟩
  · intro f i s hi hI ih
    have ci : (nI i).toNatClampNeg = i := nI_clamp (by omega)
    refine br_f (nI_ge (b := 12) hi (by decide)) (pk_eq i R (fun e => ⟨vp_in_nI hi (by decide), ?_⟩) (fun e => ⟨vp_in_nI hi (by decide), ?_⟩))
    · rw [ci, xb_b1]
      refine nm_e (nm_r (nI_1 i) (ih (upd s i 1) fun j hj => ?_))
      by_cases ej : j = i
      · subst ej
        rw [pk_us, if_pos e]
      · rw [pk_un ej]
        exact hI j (by omega)
    · rw [ci, xb_b0]
      refine nm_e (nm_r (nI_1 i) (ih (upd s i 0) fun j hj => ?_))
      by_cases ej : j = i
      · subst ej
        rw [pk_us, if_neg e]
      · rw [pk_un ej]
        exact hI j (by omega)
theorem yb_loop {post : Int32 → SY → Prop} {ys gv nd ro re : Nat → Int32} {R : Nat} {B TB : Nat → bg_T} {Wd : Nat → Nat} (hR : R < 12)
    (hN : ∀ k, k ≤ R → nd_rel (nk k) (nw k) (nl k) (nr k) (np k) (nq k) (ny k) k (fun l wl bl => nw l = nI wl ∧ wl ≤ 6 ∧ bl = B l) TB (Wd k) (B k))
    (hT : ∀ t, t < 3 → ∃ h, h ≤ 6 ∧ tr t = nI h ∧ TB t = bs_scan tc t h)
    (hM : ∀ k, k ≤ R → ¬ nd k = 0 → ∀ l, (nl k = nI l ∨ nr k = nI l) → l < k → ¬ nd l = 0) (hMR : ¬ nd R = 0)
    (Hov : (∃ k, k ≤ R ∧ ¬ nd k = 0 ∧ 20 < (B k).1) → ∀ ov' ys' gv' ro', post (-8) (nc, ov', rr, rw, tc, tr, nk, nl, nr, np, nq, ny, nw, nu, ys', gv', nd, ro', re))
    (Hok : (∀ k, k ≤ R → ¬ nd k = 0 → (B k).1 ≤ 20) → ∃ S, bg_srt (B R).1 (Wd R) (B R).2 S ∧ ∀ ov' ys' gv' ro' re', (∀ p, p < (B R).1 → ∀ c, c < Wd R → re' (p * 6 + c) = S p c) → post (nI (B R).1) (nc, ov', nI (B R).1, nI (Wd R), tc, tr, nk, nl, nr, np, nq, ny, nw, nu, ys', gv', nd, ro', re')) :
    ∃ f, wY_run_120 post (nI R) f 0 nc 0 rr rw tc tr nk nl nr np nq ny nw nu ys gv nd ro re := by
  have hWd : ∀ k, k ≤ R → Wd k ≤ 6 ∧ nw k = nI (Wd k) := fun k hk => ⟨(hN k hk).1, (hN k hk).2.1⟩
  refine loop_0 (fun f k (s : yb_S) => wY_run_120 post (nI R) f (nI k) nc s.1 rr rw tc tr nk nl nr np nq ny nw nu s.2.1 s.2.2.1 nd s.2.2.2 re) (fun k s => (s.1 = 0 ∧ ∀ m, m < k → ¬ nd m = 0 → yb_B m (Wd m) (B m) s.2.1 s.2.2.1 ∧ (B m).1 ≤ 20) ∨ (s.1 = 1 ∧ ∃ k, k ≤ R ∧ ¬ nd k = 0 ∧ 20 < (B k).1)) (R + 1) (0, ys, gv, ro) (Or.inl ⟨rfl, fun m hm => absurd hm (Nat.not_lt_zero m)⟩) ?_ ?_
  · rintro f ⟨ov', ys', gv', ro'⟩ (⟨e, hI⟩ | ⟨e, hI⟩)
    · dsimp only at e
      subst e
      obtain ⟨hB, h20⟩ := hI R (by omega) hMR
      have hw := hWd R (Nat.le_refl _)
      obtain ⟨S, hS, HS⟩ := Hok (fun k hk z => (hI k (by omega) z).2)
      refine br_t (nI_lt (by omega) (by omega)) (br_t rfl (yb_show hR (yb_n hB h20) h20 hw.2 hw.1 (bg_srt_c (fun i hi c hc => (hB.2 i hi (by omega) c hc).symm) hS) fun re' hre => ?_))
      exact HS _ _ _ _ re' hre
    · dsimp only at e
      subst e
      exact br_t (nI_lt (by omega) (by omega)) (br_f yr_10 (Hov hI _ _ _ _))
  · rintro f k ⟨ov', ys', gv', ro'⟩ hk (⟨e, hI⟩ | ⟨e, hI⟩) ih
    · dsimp only at e
      subst e
      have ck : (nI k).toNatClampNeg = k := nI_clamp (by omega)
      refine br_f (nI_nlt (by omega) (by omega)) (br_t rfl ⟨vp_in_nI (by omega) (by decide), ?_⟩)
      dsimp only
      rw [ck]
      refine br_c (fun z => nm_r (nI_1 k) (ih (0, ys', gv', ro') (Or.inl ⟨rfl, fun m hm z2 => ?_⟩))) (fun z => yb_evaluate (by omega) (hN k (by omega)) hT (fun l wl bl hl hlr hd => ?_) fun ov2 ys2 gv2 ro2 hI2 => nm_r (nI_1 k) (ih (ov2, ys2, gv2, ro2) ?_))
      · by_cases e : m = k
        · subst e
          exact absurd z z2
        · exact hI m (by omega) z2
      · obtain ⟨d1, d2, d3⟩ := hd
        obtain ⟨hB, h20⟩ := hI l hl (hM k (by omega) z l hlr hl)
        have e : wl = Wd l := (nI_eq (by omega) (by have := (hWd l (by omega)).1; omega)).mp (d1.symm.trans (hWd l (by omega)).2)
        subst d3
        subst e
        exact ⟨d1, d2, hB, h20⟩
      · by_cases e : (B k).1 ≤ 20
        · refine Or.inl ⟨?_, fun m hm z2 => ?_⟩
          · have z3 := hI2.2.1
            rw [if_pos e] at z3
            exact z3
          · by_cases em : m = k
            · subst em
              exact ⟨hI2.1, e⟩
            · obtain ⟨hB, h20⟩ := hI m (by omega) z2
              exact ⟨yb_keep hI2 hB (by omega) (hWd m (by omega)).1, h20⟩
        · refine Or.inr ⟨?_, k, by omega, z, by omega⟩
          have z3 := hI2.2.1
          rw [if_neg e] at z3
          exact z3
    · dsimp only at e
      subst e
      exact br_f (nI_nlt (by omega) (by omega)) (br_f yr_10 (br_f yr_10 (Hov hI _ _ _ _)))
end
end
section
/-! the relation, and the making of a node -/
def rl_new (K W L R F S T P Q Y : Int32) (k : Nat) (nw : Nat → Int32) : Prop :=
  ∀ (TB E : Nat → bg_T), ∃ w b, nd_rel K W L R F S T k (fun l wl bl => nw l = nI wl ∧ wl ≤ 6 ∧ bl = E l) TB w b ∧ nd_rel K W L R P Q Y k (fun l wl bl => nw l = nI wl ∧ wl ≤ 6 ∧ bl = E l) TB w b
def rl_W (nc rr rw : Int32) (tr nk nw nl nr nf ns nt rc np nq ny re : Nat → Int32) : Prop :=
  (∃ N, N ≤ 12 ∧ nc = nI N ∧ ∀ k, k < N → rl_new (nk k) (nw k) (nl k) (nr k) (nf k) (ns k) (nt k) (np k) (nq k) (ny k) k nw) ∧
  (∀ t, t < 3 → ∃ h, h ≤ 6 ∧ tr t = nI h) ∧
  (∃ R W, R ≤ 20 ∧ W ≤ 6 ∧ rr = nI R ∧ rw = nI W ∧ ∀ i, i < R → ∀ c, c < W → re (i * 6 + c) = rc (i * 6 + c))
/-- near equality: tables, nodes and results alike; nothing is said of what a run leaves behind -/
def i_Rel (k : Nat) (u : SX) (v : SY) : Prop :=
  ∃ (nc ov rr rw : Int32) (tc tr nk nw nl nr nf ns nt nu ip bc br rc np nq ny ys gv nd ro re : Nat → Int32), u = (nc, rr, rw, tc, tr, nk, nw, nl, nr, nf, ns, nt, nu, ip, bc, br, rc) ∧ v = (nc, ov, rr, rw, tc, tr, nk, nl, nr, np, nq, ny, nw, nu, ys, gv, nd, ro, re) ∧ rl_W nc rr rw tr nk nw nl nr nf ns nt rc np nq ny re
theorem rl_mk {k : Nat} {nc ov rr rw : Int32} {tc tr nk nw nl nr nf ns nt nu ip bc br rc np nq ny ys gv nd ro re : Nat → Int32} (h : rl_W nc rr rw tr nk nw nl nr nf ns nt rc np nq ny re) : i_Rel k (nc, rr, rw, tc, tr, nk, nw, nl, nr, nf, ns, nt, nu, ip, bc, br, rc) (nc, ov, rr, rw, tc, tr, nk, nl, nr, np, nq, ny, nw, nu, ys, gv, nd, ro, re) :=
  ⟨nc, ov, rr, rw, tc, tr, nk, nw, nl, nr, nf, ns, nt, nu, ip, bc, br, rc, np, nq, ny, ys, gv, nd, ro, re, rfl, rfl, h⟩
theorem rl_wid {K W L R F S T P Q Y : Int32} {k : Nat} {nw : Nat → Int32} (h : rl_new K W L R F S T P Q Y k nw) : ∃ w, w ≤ 6 ∧ W = nI w := by
  obtain ⟨w, b, h1, _⟩ := h (fun _ => bg_0) (fun _ => bg_0)
  exact ⟨w, h1.1, h1.2.1⟩
theorem rl_u {f : Nat → Int32} {N : Nat} {x : Int32} : ∀ j, j < N → upd f N x j = f j := fun j hj => pk_un (by omega)
theorem rl_r {f : Nat → Int32} {N : Nat} : ∀ j, j < N → f j = f j := fun _ _ => rfl
theorem rl_add {N : Nat} {rr rw : Int32} {tr nk nw nl nr nf ns nt rc np nq ny re nk' nw' nl' nr' nf' ns' nt' np' nq' ny' : Nat → Int32} (hW : rl_W (nI N) rr rw tr nk nw nl nr nf ns nt rc np nq ny re) (hN : N < 12)
    (h1 : ∀ j, j < N → nk' j = nk j) (h2 : ∀ j, j < N → nw' j = nw j) (h3 : ∀ j, j < N → nl' j = nl j) (h4 : ∀ j, j < N → nr' j = nr j) (h5 : ∀ j, j < N → nf' j = nf j) (h6 : ∀ j, j < N → ns' j = ns j) (h7 : ∀ j, j < N → nt' j = nt j) (h8 : ∀ j, j < N → np' j = np j) (h9 : ∀ j, j < N → nq' j = nq j) (h10 : ∀ j, j < N → ny' j = ny j)
    (hn : rl_new (nk' N) (nw' N) (nl' N) (nr' N) (nf' N) (ns' N) (nt' N) (np' N) (nq' N) (ny' N) N nw) : rl_W (nI (N + 1)) rr rw tr nk' nw' nl' nr' nf' ns' nt' rc np' nq' ny' re := by
  obtain ⟨⟨M, hM, e, hNd⟩, hT, hR⟩ := hW
  have e' : N = M := (nI_eq (by omega) (by omega)).mp e
  subst e'
  refine ⟨⟨N + 1, hN, rfl, fun k hk => ?_⟩, hT, hR⟩
  have up : ∀ (K W L R F S T P Q Y : Int32), k ≤ N → rl_new K W L R F S T P Q Y k nw → rl_new K W L R F S T P Q Y k nw' := by
    intro K W L R F S T P Q Y hkN h TB E
    obtain ⟨w, b, a1, a2⟩ := h TB E
    exact ⟨w, b, nd_mono (fun l wl bl hl hd => ⟨(h2 l (by omega)).trans hd.1, hd.2⟩) a1, nd_mono (fun l wl bl hl hd => ⟨(h2 l (by omega)).trans hd.1, hd.2⟩) a2⟩
  by_cases ek : k = N
  · subst ek
    exact up _ _ _ _ _ _ _ _ _ _ (Nat.le_refl _) hn
  · have hk' : k < N := by omega
    rw [h1 k hk', h2 k hk', h3 k hk', h4 k hk', h5 k hk', h6 k hk', h7 k hk', h8 k hk', h9 k hk', h10 k hk']
    exact up _ _ _ _ _ _ _ _ _ _ (by omega) (hNd k hk')
theorem rl_bag {nk nw nl nr nf ns nt np nq ny : Nat → Int32} (TB : Nat → bg_T) : ∀ N, (∀ k, k < N → rl_new (nk k) (nw k) (nl k) (nr k) (nf k) (ns k) (nt k) (np k) (nq k) (ny k) k nw) →
    ∃ (B : Nat → bg_T) (Wd : Nat → Nat), ∀ k, k < N → nd_rel (nk k) (nw k) (nl k) (nr k) (nf k) (ns k) (nt k) k (fun l wl bl => nw l = nI wl ∧ wl ≤ 6 ∧ bl = B l) TB (Wd k) (B k) ∧ nd_rel (nk k) (nw k) (nl k) (nr k) (np k) (nq k) (ny k) k (fun l wl bl => nw l = nI wl ∧ wl ≤ 6 ∧ bl = B l) TB (Wd k) (B k) := by
  intro N
  induction N with
  | zero => exact fun _ => ⟨fun _ => bg_0, fun _ => 0, fun k hk => absurd hk (Nat.not_lt_zero k)⟩
  | succ N ih =>
    intro h
    obtain ⟨B, Wd, hB⟩ := ih (fun k hk => h k (by omega))
    obtain ⟨w, b, a1, a2⟩ := h N (by omega) TB B
    have up : ∀ k, k ≤ N → ∀ l wl bl, l < k → (nw l = nI wl ∧ wl ≤ 6 ∧ bl = B l) → (nw l = nI wl ∧ wl ≤ 6 ∧ bl = if l = N then b else B l) := fun k hk l wl bl hl hd => ⟨hd.1, hd.2.1, by rw [if_neg (by omega)]; exact hd.2.2⟩
    refine ⟨fun m => if m = N then b else B m, fun m => if m = N then w else Wd m, fun k hk => ?_⟩
    dsimp only
    by_cases ek : k = N
    · subst ek
      rw [if_pos rfl, if_pos rfl]
      exact ⟨nd_mono (up k (Nat.le_refl _)) a1, nd_mono (up k (Nat.le_refl _)) a2⟩
    · rw [if_neg ek, if_neg ek]
      obtain ⟨c1, c2⟩ := hB k (by omega)
      exact ⟨nd_mono (up k (by omega)) c1, nd_mono (up k (by omega)) c2⟩
def rl_us (nu : Nat → Int32) (N : Nat) (L R : Int32) : Nat → Int32 :=
  if R = -1 then (if L = -1 then upd nu N 0 else upd (upd nu N 0) L.toNatClampNeg 1) else upd (if L = -1 then upd nu N 0 else upd (upd nu N 0) L.toNatClampNeg 1) R.toNatClampNeg 1
section
variable {rr rw : Int32} {tc tr nk nw nl nr nf ns nt nu ip bc br rc : Nat → Int32}
theorem xa_add {post : Int32 → SX → Prop} {N : Nat} {K W L R F S T : Int32} (hN : N < 12) (hL : L = -1 ∨ ∃ l, l < 12 ∧ L = nI l) (hR : R = -1 ∨ ∃ l, l < 12 ∧ R = nI l)
    (h : post (nI N) (nI (N + 1), rr, rw, tc, tr, upd nk N K, upd nw N W, upd nl N L, upd nr N R, upd nf N F, upd ns N S, upd nt N T, rl_us nu N L R, ip, bc, br, rc)) : wpX_addNode post (nI N, rr, rw, tc, tr, nk, nw, nl, nr, nf, ns, nt, nu, ip, bc, br, rc) K W L R F S T := by
  have cN : (nI N).toNatClampNeg = N := nI_clamp (by omega)
  have vN : vp_in (nI N) 12 := vp_in_nI hN (by decide)
  have t98 : ∀ n1 : Nat → Int32, (if R = -1 then n1 else upd n1 R.toNatClampNeg 1) = rl_us nu N L R → wX_addNode_98 post R (nI N) (nI N) rr rw tc tr (upd nk N K) (upd nw N W) (upd nl N L) (upd nr N R) (upd nf N F) (upd ns N S) (upd nt N T) n1 ip bc br rc := by
    intro n1 e
    rw [← e] at h
    rcases hR with er | ⟨r, hr, er⟩
    · rw [if_pos er] at h
      exact br_t er (nm_r (nI_1 N) h)
    · have ne : ¬ R = -1 := by rw [er]; exact xb_nn1 (by omega)
      rw [if_neg ne] at h
      refine br_f ne ⟨by rw [er]; exact vp_in_nI hr (by decide), ?_⟩
      rw [xb_b1]
      exact nm_e (nm_r (nI_1 N) h)
  refine br_t (nI_lt (b := 12) hN (by decide)) ?_
  rw [cN, xb_b0, xb_b1]
  refine ⟨vN, nm_e ⟨vN, nm_e ⟨vN, nm_e ⟨vN, nm_e ⟨vN, nm_e ⟨vN, nm_e ⟨vN, nm_e ⟨vN, nm_e ?_⟩⟩⟩⟩⟩⟩⟩⟩
  rcases hL with el | ⟨l, hl, el⟩
  · refine br_t el (t98 _ ?_)
    unfold rl_us
    rw [if_pos el]
  · have ne : ¬ L = -1 := by rw [el]; exact xb_nn1 (by omega)
    refine br_f ne ⟨by rw [el]; exact vp_in_nI hl (by decide), nm_e (t98 _ ?_)⟩
    unfold rl_us
    rw [if_neg ne]
theorem xa_full {post : Int32 → SX → Prop} {K W L R F S T : Int32} (h : post (-2) (nI 12, rr, rw, tc, tr, nk, nw, nl, nr, nf, ns, nt, nu, ip, bc, br, rc)) : wpX_addNode post (nI 12, rr, rw, tc, tr, nk, nw, nl, nr, nf, ns, nt, nu, ip, bc, br, rc) K W L R F S T := br_f (by decide) h
theorem xa_node_bad {post : Int32 → Prop} {N : Nat} {x : Int32} (h : x < 0 ∨ nI N ≤ x) (hp : post 0) : wpX_isNode post (nI N, rr, rw, tc, tr, nk, nw, nl, nr, nf, ns, nt, nu, ip, bc, br, rc) x := br_c (fun _ => hp) (fun e => br_t (h.resolve_left e) hp)
theorem xa_node_ok {post : Int32 → Prop} {N j : Nat} (hN : N ≤ 12) (hj : j < N) (hp : post 1) : wpX_isNode post (nI N, rr, rw, tc, tr, nk, nw, nl, nr, nf, ns, nt, nu, ip, bc, br, rc) (nI j) := br_f (nI_pos (by omega)) (br_f (nI_ge hj (by omega)) hp)
theorem xa_in_bad {post : Int32 → Prop} {N : Nat} {x : Int32} (h : x < 0 ∨ nI N ≤ x) (hp : post (-3)) : wpX_inputRefusal post (nI N, rr, rw, tc, tr, nk, nw, nl, nr, nf, ns, nt, nu, ip, bc, br, rc) x := by
  unfold wpX_inputRefusal
  dsimp only
  exact xa_node_bad h (br_t rfl hp)
theorem xa_in_used {post : Int32 → Prop} {N j : Nat} (hN : N ≤ 12) (hj : j < N) (hu : ¬ nu j = 0) (hp : post (-4)) : wpX_inputRefusal post (nI N, rr, rw, tc, tr, nk, nw, nl, nr, nf, ns, nt, nu, ip, bc, br, rc) (nI j) := by
  unfold wpX_inputRefusal
  dsimp only
  refine xa_node_ok hN hj (br_f (by decide) ⟨vp_in_nI (by omega) (by decide), ?_⟩)
  rw [nI_clamp (by omega)]
  exact br_f hu hp
theorem xa_in_ok {post : Int32 → Prop} {N j : Nat} (hN : N ≤ 12) (hj : j < N) (hu : nu j = 0) (hp : post 0) : wpX_inputRefusal post (nI N, rr, rw, tc, tr, nk, nw, nl, nr, nf, ns, nt, nu, ip, bc, br, rc) (nI j) := by
  unfold wpX_inputRefusal
  dsimp only
  refine xa_node_ok hN hj (br_f (by decide) ⟨vp_in_nI (by omega) (by decide), ?_⟩)
  rw [nI_clamp (by omega)]
  exact br_t hu hp
theorem xa_col_bad {post : Int32 → Prop} {nc x : Int32} {j w : Nat} (hj : j < 12) (hw : nw j = nI w) (h : x < 0 ∨ nI w ≤ x) (hp : post 0) : wpX_isColumn post (nc, rr, rw, tc, tr, nk, nw, nl, nr, nf, ns, nt, nu, ip, bc, br, rc) (nI j) x := by
  refine br_c (fun _ => hp) (fun e => ⟨vp_in_nI hj (by decide), ?_⟩)
  rw [nI_clamp (by omega), hw]
  exact br_t (h.resolve_left e) hp
theorem xa_col_ok {post : Int32 → Prop} {nc : Int32} {j w c : Nat} (hj : j < 12) (hw : nw j = nI w) (hw6 : w ≤ 6) (hc : c < w) (hp : post 1) : wpX_isColumn post (nc, rr, rw, tc, tr, nk, nw, nl, nr, nf, ns, nt, nu, ip, bc, br, rc) (nI j) (nI c) := by
  refine br_f (nI_pos (by omega)) ⟨vp_in_nI hj (by decide), ?_⟩
  rw [nI_clamp (by omega), hw]
  exact br_f (nI_ge hc (by omega)) hp
theorem xa_cn_bad {post : Int32 → Prop} {nc x : Int32} {j w : Nat} (hj : j < 12) (hw : nw j = nI w) (hw6 : w ≤ 6) (h : x < -1 ∨ nI w ≤ x) (hp : post 0) : wpX_isColumnOrNone post (nc, rr, rw, tc, tr, nk, nw, nl, nr, nf, ns, nt, nu, ip, bc, br, rc) (nI j) x := by
  unfold wpX_isColumnOrNone
  dsimp only
  refine br_f ?_ (xa_col_bad hj hw ?_ (br_t rfl hp))
  · rintro rfl
    rcases h with h | h
    · exact absurd h (by decide)
    · have := Int32.le_trans (nI_pos' (n := w) (by omega)) h
      exact absurd this (by decide)
  · rcases h with h | h
    · exact Or.inl (Int32.lt_trans h (by decide))
    · exact Or.inr h
theorem xa_cn_ok {post : Int32 → Prop} {nc x : Int32} {j w : Nat} (hj : j < 12) (hw : nw j = nI w) (hw6 : w ≤ 6) (h : x = -1 ∨ ∃ c, c < w ∧ x = nI c) (hp : post 1) : wpX_isColumnOrNone post (nc, rr, rw, tc, tr, nk, nw, nl, nr, nf, ns, nt, nu, ip, bc, br, rc) (nI j) x := by
  unfold wpX_isColumnOrNone
  dsimp only
  rcases h with h | ⟨c, hc, rfl⟩
  · exact br_t h hp
  · exact br_f (xb_nn1 (by omega)) (xa_col_ok hj hw hw6 hc (br_f (by decide) hp))
theorem xa_ins_bad {post : Int32 → Prop} {N : Nat} {x y : Int32} (hN : N ≤ 12) (h : (x < 0 ∨ nI N ≤ x) ∨ ((∃ j, j < N ∧ x = nI j) ∧ (y < 0 ∨ nI N ≤ y))) (hp : post (-3)) : wpX_inputsRefusal post (nI N, rr, rw, tc, tr, nk, nw, nl, nr, nf, ns, nt, nu, ip, bc, br, rc) x y := by
  unfold wpX_inputsRefusal
  dsimp only
  rcases h with h | ⟨⟨j, hj, rfl⟩, h⟩
  · exact xa_node_bad h (br_t rfl hp)
  · exact xa_node_ok hN hj (br_f (by decide) (xa_node_bad h (br_t rfl hp)))
theorem xa_ins_used {post : Int32 → Prop} {N j m : Nat} (hN : N ≤ 12) (hj : j < N) (hm : m < N) (h : ¬ (nu j = 0 ∧ nu m = 0 ∧ j ≠ m)) (hp : post (-4)) : wpX_inputsRefusal post (nI N, rr, rw, tc, tr, nk, nw, nl, nr, nf, ns, nt, nu, ip, bc, br, rc) (nI j) (nI m) := by
  unfold wpX_inputsRefusal
  dsimp only
  refine xa_node_ok hN hj (br_f (by decide) (xa_node_ok hN hm (br_f (by decide) ⟨vp_in_nI (by omega) (by decide), ?_⟩)))
  rw [nI_clamp (show j < 2 ^ 31 by omega), nI_clamp (show m < 2 ^ 31 by omega)]
  refine br_c (fun e1 => ⟨vp_in_nI (by omega) (by decide), br_c (fun e2 => br_c (fun _ => hp) (fun e3 => absurd ⟨e1, e2, fun z => e3 (by rw [z])⟩ h)) (fun _ => hp)⟩) (fun _ => hp)
theorem xa_ins_ok {post : Int32 → Prop} {N j m : Nat} (hN : N ≤ 12) (hj : j < N) (hm : m < N) (h : nu j = 0 ∧ nu m = 0 ∧ j ≠ m) (hp : post 0) : wpX_inputsRefusal post (nI N, rr, rw, tc, tr, nk, nw, nl, nr, nf, ns, nt, nu, ip, bc, br, rc) (nI j) (nI m) := by
  unfold wpX_inputsRefusal
  dsimp only
  refine xa_node_ok hN hj (br_f (by decide) (xa_node_ok hN hm (br_f (by decide) ⟨vp_in_nI (by omega) (by decide), ?_⟩)))
  rw [nI_clamp (show j < 2 ^ 31 by omega), nI_clamp (show m < 2 ^ 31 by omega)]
  exact br_t h.1 ⟨vp_in_nI (by omega) (by decide), br_t h.2.1 (br_f (fun z => h.2.2 ((nI_eq (by omega) (by omega)).mp z)) hp)⟩
theorem xa_mr_bad {post : Int32 → Prop} {N : Nat} {x y a b : Int32} (hN : N ≤ 12) (h : (x < 0 ∨ nI N ≤ x) ∨ ((∃ j, j < N ∧ x = nI j) ∧ (y < 0 ∨ nI N ≤ y))) (hp : post (-3)) : wpX_matchRefusal post (nI N, rr, rw, tc, tr, nk, nw, nl, nr, nf, ns, nt, nu, ip, bc, br, rc) x y a b := by
  unfold wpX_matchRefusal
  dsimp only
  exact xa_ins_bad hN h (br_f (by decide) hp)
theorem xa_mr_used {post : Int32 → Prop} {N j m : Nat} {a b : Int32} (hN : N ≤ 12) (hj : j < N) (hm : m < N) (h : ¬ (nu j = 0 ∧ nu m = 0 ∧ j ≠ m)) (hp : post (-4)) : wpX_matchRefusal post (nI N, rr, rw, tc, tr, nk, nw, nl, nr, nf, ns, nt, nu, ip, bc, br, rc) (nI j) (nI m) a b := by
  unfold wpX_matchRefusal
  dsimp only
  exact xa_ins_used hN hj hm h (br_f (by decide) hp)
theorem xa_mr_col {post : Int32 → Prop} {N j m w v : Nat} {a b : Int32} (hN : N ≤ 12) (hj : j < N) (hm : m < N) (h : nu j = 0 ∧ nu m = 0 ∧ j ≠ m) (hw : nw j = nI w) (hw6 : w ≤ 6) (hv : nw m = nI v) (hab : (a < 0 ∨ nI w ≤ a) ∨ ((∃ c, c < w ∧ a = nI c) ∧ (b < 0 ∨ nI v ≤ b))) (hp : post (-5)) : wpX_matchRefusal post (nI N, rr, rw, tc, tr, nk, nw, nl, nr, nf, ns, nt, nu, ip, bc, br, rc) (nI j) (nI m) a b := by
  unfold wpX_matchRefusal
  dsimp only
  refine xa_ins_ok hN hj hm h (br_t rfl ?_)
  rcases hab with e | ⟨⟨c, hc, rfl⟩, e⟩
  · exact xa_col_bad (by omega) hw e (br_t rfl hp)
  · exact xa_col_ok (by omega) hw hw6 hc (br_f (by decide) (xa_col_bad (by omega) hv e (br_t rfl hp)))
theorem xa_mr_ok {post : Int32 → Prop} {N j m w v c d : Nat} (hN : N ≤ 12) (hj : j < N) (hm : m < N) (h : nu j = 0 ∧ nu m = 0 ∧ j ≠ m) (hw : nw j = nI w) (hw6 : w ≤ 6) (hv : nw m = nI v) (hv6 : v ≤ 6) (hc : c < w) (hd : d < v) (hp : post 0) : wpX_matchRefusal post (nI N, rr, rw, tc, tr, nk, nw, nl, nr, nf, ns, nt, nu, ip, bc, br, rc) (nI j) (nI m) (nI c) (nI d) := by
  unfold wpX_matchRefusal
  dsimp only
  exact xa_ins_ok hN hj hm h (br_t rfl (xa_col_ok (by omega) hw hw6 hc (br_f (by decide) (xa_col_ok (by omega) hv hv6 hd (br_f (by decide) hp)))))
end
section
variable {ov rr rw : Int32} {tc tr nk nl nr np nq ny nw nu ys gv nd ro re : Nat → Int32}
theorem ya_make {post : Int32 → SY → Prop} {N : Nat} {K W L R : Int32} (hN : N < 12) (hL : L = -1 ∨ ∃ l, l < 12 ∧ L = nI l) (hR : R = -1 ∨ ∃ l, l < 12 ∧ R = nI l)
    (h : post (nI N) (nI (N + 1), ov, rr, rw, tc, tr, upd nk N K, upd nl N L, upd nr N R, np, nq, ny, upd nw N W, rl_us nu N L R, ys, gv, nd, ro, re)) : wpY_make post (nI N, ov, rr, rw, tc, tr, nk, nl, nr, np, nq, ny, nw, nu, ys, gv, nd, ro, re) K L R W := by
  have cN : (nI N).toNatClampNeg = N := nI_clamp (by omega)
  have vN : vp_in (nI N) 12 := vp_in_nI hN (by decide)
  have m1 : (-1 : Int32) < 0 := by decide
  have t62 : ∀ n1 : Nat → Int32, (if R = -1 then n1 else upd n1 R.toNatClampNeg 1) = rl_us nu N L R → wY_make_62 post R (nI N) ov rr rw tc tr (upd nk N K) (upd nl N L) (upd nr N R) np nq ny (upd nw N W) n1 ys gv nd ro re := by
    intro n1 e
    rw [← e] at h
    have t73 : ∀ n2 : Nat → Int32, (if R = -1 then n1 else upd n1 R.toNatClampNeg 1) = n2 → wY_make_73 post (nI N) ov rr rw tc tr (upd nk N K) (upd nl N L) (upd nr N R) np nq ny (upd nw N W) n2 ys gv nd ro re := by
      intro n2 e2
      rw [e2] at h
      refine nm_r (nI_1 N) ?_
      rw [nI_pred]
      exact h
    rcases hR with er | ⟨r, hr, er⟩
    · exact br_t (by rw [er]; exact m1) (t73 _ (if_pos er))
    · have ne : ¬ R = -1 := by rw [er]; exact xb_nn1 (by omega)
      refine br_f (by rw [er]; exact nI_pos (by omega)) ⟨by rw [er]; exact vp_in_nI hr (by decide), ?_⟩
      rw [xb_b1]
      exact nm_e (t73 _ (if_neg ne))
  unfold wpY_make
  dsimp only
  rw [cN, xb_b0, xb_b1]
  refine ⟨vN, nm_e ⟨vN, nm_e ⟨vN, nm_e ⟨vN, nm_e ⟨vN, nm_e ?_⟩⟩⟩⟩⟩
  rcases hL with el | ⟨l, hl, el⟩
  · refine br_t (by rw [el]; exact m1) (t62 _ ?_)
    unfold rl_us
    rw [if_pos el]
  · have ne : ¬ L = -1 := by rw [el]; exact xb_nn1 (by omega)
    refine br_f (by rw [el]; exact nI_pos (by omega)) ⟨by rw [el]; exact vp_in_nI hl (by decide), nm_e (t62 _ ?_)⟩
    unfold rl_us
    rw [if_neg ne]
theorem ya_say {post : SY → Prop} {nc : Int32} {N : Nat} {F S T : Int32} (hN : N < 12) (h : post (nc, ov, rr, rw, tc, tr, nk, nl, nr, upd np N F, upd nq N S, upd ny N T, nw, nu, ys, gv, nd, ro, re)) : wpY_say post (nc, ov, rr, rw, tc, tr, nk, nl, nr, np, nq, ny, nw, nu, ys, gv, nd, ro, re) (nI N) F S T := by
  have cN : (nI N).toNatClampNeg = N := nI_clamp (by omega)
  have vN : vp_in (nI N) 12 := vp_in_nI hN (by decide)
  unfold wpY_say
  dsimp only
  rw [cN]
  exact ⟨vN, nm_e ⟨vN, nm_e ⟨vN, nm_e h⟩⟩⟩
theorem ya_node_bad {post : Int32 → Prop} {N : Nat} {x : Int32} (h : x < 0 ∨ nI N ≤ x) (hp : post 1) : wpY_badNode post (nI N, ov, rr, rw, tc, tr, nk, nl, nr, np, nq, ny, nw, nu, ys, gv, nd, ro, re) x := br_c (fun _ => hp) (fun e => br_f (Int32.not_lt.mpr (h.resolve_left e)) hp)
theorem ya_node_ok {post : Int32 → Prop} {N j : Nat} (hN : N ≤ 12) (hj : j < N) (hp : post 0) : wpY_badNode post (nI N, ov, rr, rw, tc, tr, nk, nl, nr, np, nq, ny, nw, nu, ys, gv, nd, ro, re) (nI j) := br_f (nI_pos (by omega)) (br_t (nI_lt hj (by omega)) hp)
end
/-! splits of an argument, and the branches that test it -/
theorem cb_ix (x : Int32) (n : Nat) (hn : n ≤ 20) : (x < 0 ∨ nI n ≤ x) ∨ ∃ j : Nat, j < n ∧ x = nI j := by
  rcases pk_ix x (n := n) (by omega) with h | h | h
  · exact Or.inl (Or.inl h)
  · exact Or.inl (Or.inr h)
  · exact Or.inr h
theorem cb_kx (x : Int32) (n : Nat) (hn : n ≤ 20) : (x < 0 ∨ nI n < x) ∨ ∃ j : Nat, j ≤ n ∧ x = nI j := by
  by_cases h : x < 0
  · exact Or.inl (Or.inl h)
  · obtain ⟨j, hj, rfl⟩ := nI_of h
    by_cases e : j ≤ n
    · exact Or.inr ⟨j, e, rfl⟩
    · exact Or.inl (Or.inr (nI_lt (by omega) hj))
theorem cb_cn (x : Int32) (n : Nat) (hn : n ≤ 20) : (x < -1 ∨ nI n ≤ x) ∨ (x = -1 ∨ ∃ j : Nat, j < n ∧ x = nI j) := by
  rcases pk_ix x (n := n) (by omega) with h | h | h
  · by_cases e : x < -1
    · exact Or.inl (Or.inl e)
    · refine Or.inr (Or.inl ?_)
      rw [Int32.lt_iff_toInt_lt] at h e
      apply Int32.toInt_inj.mp
      have a : (-1 : Int32).toInt = -1 := by decide
      have b : (0 : Int32).toInt = 0 := by decide
      rw [a] at e ⊢
      rw [b] at h
      omega
  · exact Or.inl (Or.inr h)
  · exact Or.inr (Or.inr h)
theorem cb_k1 {x m : Int32} {A B : Prop} (h : x < 0 ∨ m < x) (a : A) : (x < 0 → A) ∧ (¬ x < 0 → ((x ≤ m → B) ∧ (¬ x ≤ m → A))) := br_c (fun _ => a) (fun e => br_f (Int32.not_le.mpr (h.resolve_left e)) a)
theorem cb_k2 {n m : Nat} {M : Int32} {A B : Prop} (h : n ≤ m) (hm : m ≤ 20) (e : M = nI m) (b : B) : (nI n < 0 → A) ∧ (¬ nI n < 0 → ((nI n ≤ M → B) ∧ (¬ nI n ≤ M → A))) := by
  subst e
  exact br_f (nI_pos (by omega)) (br_t (nI_le h (by omega)) b)
theorem cb_c1 {x W : Int32} {V A B : Prop} (h : x < 0 ∨ W ≤ x) (v : V) (a : A) : (x < 0 → A) ∧ (¬ x < 0 → (V ∧ ((x < W → B) ∧ (¬ x < W → A)))) := br_c (fun _ => a) (fun e => ⟨v, br_f (Int32.not_lt.mpr (h.resolve_left e)) a⟩)
theorem cb_c2 {c w : Nat} {V A B : Prop} (h : c < w) (hw : w ≤ 6) (v : V) (b : B) : (nI c < 0 → A) ∧ (¬ nI c < 0 → (V ∧ ((nI c < nI w → B) ∧ (¬ nI c < nI w → A)))) := br_f (nI_pos (by omega)) ⟨v, br_t (nI_lt h (by omega)) b⟩
theorem cb_d1 {x W : Int32} {V A B : Prop} (h : x < 0 ∨ W ≤ x) (v : V) (a : A) : (x < 0 → A) ∧ (¬ x < 0 → (V ∧ ((W ≤ x → A) ∧ (¬ W ≤ x → B)))) := br_c (fun _ => a) (fun e => ⟨v, br_t (h.resolve_left e) a⟩)
theorem cb_d2 {c w : Nat} {V A B : Prop} (h : c < w) (hw : w ≤ 6) (v : V) (b : B) : (nI c < 0 → A) ∧ (¬ nI c < 0 → (V ∧ ((nI w ≤ nI c → A) ∧ (¬ nI w ≤ nI c → B)))) := br_f (nI_pos (by omega)) ⟨v, br_f (nI_ge h (by omega)) b⟩
theorem cb_12 {N : Nat} (h : N < 12) : ¬ nI N = 12 := fun z => by
  have := (nI_eq (b := 12) (by omega) (by decide)).mp z
  omega
theorem cb_N {N : Nat} (h : N ≤ 12) : N = 12 ∨ N < 12 := by omega
end
section
/-! pure rows of new nodes; tables, results -/
theorem rn_scan {nw : Nat → Int32} {N t : Nat} (ht : t < 3) : rl_new 0 3 (-1) (-1) (nI t) 0 0 (nI t) 0 0 N nw := fun TB E =>
  ⟨3, TB t, ⟨by decide, rfl, Or.inl ⟨rfl, rfl, rfl, rfl, t, ht, rfl, rfl⟩⟩, ⟨by decide, rfl, Or.inl ⟨rfl, rfl, rfl, rfl, t, ht, rfl, rfl⟩⟩⟩
theorem rn_filter {nw : Nat → Int32} {N j w c m : Nat} {v : Int32} (hj : j < N) (hw6 : w ≤ 6) (hww : nw j = nI w) (hc : c < w) (hm : m ≤ 5) : rl_new 1 (nI w) (nI j) (-1) (nI c) (nI m) v (nI c) (nI m) v N nw := fun TB E =>
  have h : nd_rel 1 (nI w) (nI j) (-1) (nI c) (nI m) v N (fun l wl bl => nw l = nI wl ∧ wl ≤ 6 ∧ bl = E l) TB w (bs_filter (E j) c (nI m) v (E j).1) := ⟨hw6, rfl, Or.inr (Or.inl ⟨rfl, rfl, j, E j, c, m, hj, rfl, ⟨hww, hw6, rfl⟩, hc, rfl, hm, rfl, rfl⟩)⟩
  ⟨w, _, h, h⟩
theorem rn_ext {nw : Nat → Int32} {N j w op x y : Nat} (hj : j < N) (hw6 : w < 6) (hww : nw j = nI w) (hop : op ≤ 4) (hx : x < w) (hy : y < w) : rl_new 2 (nI (w + 1)) (nI j) (-1) (nI op) (nI x) (nI y) (nI op) (nI x) (nI y) N nw := fun TB E =>
  have h : nd_rel 2 (nI (w + 1)) (nI j) (-1) (nI op) (nI x) (nI y) N (fun l wl bl => nw l = nI wl ∧ wl ≤ 6 ∧ bl = E l) TB (w + 1) (bs_ext (E j) w (nI op) x y (E j).1) := ⟨hw6, rfl, Or.inr (Or.inr (Or.inl ⟨rfl, rfl, j, w, E j, op, x, y, hj, rfl, ⟨hww, by omega, rfl⟩, rfl, hop, rfl, hx, rfl, hy, rfl, rfl⟩))⟩
  ⟨w + 1, _, h, h⟩
theorem rn_pick {nw : Nat → Int32} {N j w x : Nat} {W S T : Int32} (hj : j < N) (hw6 : w ≤ 6) (hww : nw j = nI w) (hx : x < w) (hS : S = -1 ∨ ∃ t, t < w ∧ S = nI t) (hT : T = -1 ∨ ∃ t, t < w ∧ T = nI t) (hW : W = nI (1 + (if S = -1 then 0 else 1) + (if T = -1 then 0 else 1))) : rl_new 3 W (nI j) (-1) (nI x) S T (nI x) S T N nw := fun TB E =>
  have h : nd_rel 3 W (nI j) (-1) (nI x) S T N (fun l wl bl => nw l = nI wl ∧ wl ≤ 6 ∧ bl = E l) TB (1 + (if S = -1 then 0 else 1) + (if T = -1 then 0 else 1)) (bs_pick (E j) x S T (E j).1) := ⟨by split <;> split <;> omega, hW, Or.inr (Or.inr (Or.inr (Or.inl ⟨rfl, rfl, j, w, E j, x, hj, rfl, ⟨hww, hw6, rfl⟩, hx, rfl, hS, hT, rfl, rfl⟩)))⟩
  ⟨_, _, h, h⟩
theorem rn_join {nw : Nat → Int32} {N j m w v c d : Nat} (hj : j < N) (hm : m < N) (hww : nw j = nI w) (hvv : nw m = nI v) (hwv : w + v ≤ 6) (hc : c < w) (hd : d < v) : rl_new 4 (nI (w + v)) (nI j) (nI m) (nI c) (nI d) 0 (nI c) (nI d) 0 N nw := fun TB E =>
  have h : nd_rel 4 (nI (w + v)) (nI j) (nI m) (nI c) (nI d) 0 N (fun l wl bl => nw l = nI wl ∧ wl ≤ 6 ∧ bl = E l) TB (w + v) (bs_join (E j) (E m) w c d (E j).1) := ⟨hwv, rfl, Or.inr (Or.inr (Or.inr (Or.inr (Or.inl ⟨rfl, j, m, w, v, E j, E m, c, d, hj, hm, rfl, rfl, ⟨hww, by omega, rfl⟩, ⟨hvv, by omega, rfl⟩, rfl, hc, rfl, hd, rfl, rfl⟩))))⟩
  ⟨_, _, h, h⟩
theorem rn_semi {nw : Nat → Int32} {N j m w v c d : Nat} (hj : j < N) (hm : m < N) (hww : nw j = nI w) (hw6 : w ≤ 6) (hvv : nw m = nI v) (hv6 : v ≤ 6) (hc : c < w) (hd : d < v) : rl_new 5 (nI w) (nI j) (nI m) (nI c) (nI d) 0 (nI c) (nI d) 0 N nw := fun TB E =>
  have h : nd_rel 5 (nI w) (nI j) (nI m) (nI c) (nI d) 0 N (fun l wl bl => nw l = nI wl ∧ wl ≤ 6 ∧ bl = E l) TB w (bs_semi (E j) (E m) c d True (E j).1) := ⟨hw6, rfl, Or.inr (Or.inr (Or.inr (Or.inr (Or.inr (Or.inl ⟨rfl, j, m, v, E j, E m, c, d, hj, hm, rfl, rfl, ⟨hww, hw6, rfl⟩, ⟨hvv, hv6, rfl⟩, hc, rfl, hd, rfl, rfl⟩)))))⟩
  ⟨_, _, h, h⟩
theorem rn_anti {nw : Nat → Int32} {N j m w v c d : Nat} (hj : j < N) (hm : m < N) (hww : nw j = nI w) (hw6 : w ≤ 6) (hvv : nw m = nI v) (hv6 : v ≤ 6) (hc : c < w) (hd : d < v) : rl_new 6 (nI w) (nI j) (nI m) (nI c) (nI d) 0 (nI c) (nI d) 0 N nw := fun TB E =>
  have h : nd_rel 6 (nI w) (nI j) (nI m) (nI c) (nI d) 0 N (fun l wl bl => nw l = nI wl ∧ wl ≤ 6 ∧ bl = E l) TB w (bs_semi (E j) (E m) c d False (E j).1) := ⟨hw6, rfl, Or.inr (Or.inr (Or.inr (Or.inr (Or.inr (Or.inr (Or.inl ⟨rfl, j, m, v, E j, E m, c, d, hj, hm, rfl, rfl, ⟨hww, hw6, rfl⟩, ⟨hvv, hv6, rfl⟩, hc, rfl, hd, rfl, rfl⟩))))))⟩
  ⟨_, _, h, h⟩
theorem rn_group {nw : Nat → Int32} {N j w x q y : Nat} (hj : j < N) (hw6 : w ≤ 6) (hww : nw j = nI w) (hx : x < w) (hq : q ≤ 3) (hy : y < w) : rl_new 7 2 (nI j) (-1) (nI x) (nI q) (nI y) (nI x) (nI q) (nI y) N nw := fun TB E =>
  have h : nd_rel 7 2 (nI j) (-1) (nI x) (nI q) (nI y) N (fun l wl bl => nw l = nI wl ∧ wl ≤ 6 ∧ bl = E l) TB 2 (bs_grp (nI q) (fun i => (E j).2 i x) (fun i => (E j).2 i y) (E j).1 (E j).1) := ⟨by decide, rfl, Or.inr (Or.inr (Or.inr (Or.inr (Or.inr (Or.inr (Or.inr (Or.inl ⟨rfl, rfl, j, w, E j, x, q, y, hj, rfl, ⟨hww, hw6, rfl⟩, rfl, hx, rfl, hq, rfl, hy, rfl, rfl⟩)))))))⟩
  ⟨_, _, h, h⟩
theorem rn_dist {nw : Nat → Int32} {N j w : Nat} {F S T P Q Y : Int32} (hj : j < N) (hw6 : w ≤ 6) (hww : nw j = nI w) : rl_new 8 (nI w) (nI j) (-1) F S T P Q Y N nw := fun TB E =>
  ⟨w, bs_dist (E j) w (E j).1, ⟨hw6, rfl, Or.inr (Or.inr (Or.inr (Or.inr (Or.inr (Or.inr (Or.inr (Or.inr (Or.inl ⟨rfl, rfl, j, E j, hj, rfl, ⟨hww, hw6, rfl⟩, rfl⟩))))))))⟩, ⟨hw6, rfl, Or.inr (Or.inr (Or.inr (Or.inr (Or.inr (Or.inr (Or.inr (Or.inr (Or.inl ⟨rfl, rfl, j, E j, hj, rfl, ⟨hww, hw6, rfl⟩, rfl⟩))))))))⟩⟩
theorem rn_union {nw : Nat → Int32} {N j m w : Nat} {F S T P Q Y : Int32} (hj : j < N) (hm : m < N) (hw6 : w ≤ 6) (hww : nw j = nI w) (hvv : nw m = nI w) : rl_new 9 (nI w) (nI j) (nI m) F S T P Q Y N nw := fun TB E =>
  ⟨w, bs_all (bs_all bg_0 (E j) (E j).1) (E m) (E m).1, ⟨hw6, rfl, Or.inr (Or.inr (Or.inr (Or.inr (Or.inr (Or.inr (Or.inr (Or.inr (Or.inr ⟨rfl, j, m, E j, E m, hj, hm, rfl, rfl, ⟨hww, hw6, rfl⟩, ⟨hvv, hw6, rfl⟩, rfl⟩))))))))⟩, ⟨hw6, rfl, Or.inr (Or.inr (Or.inr (Or.inr (Or.inr (Or.inr (Or.inr (Or.inr (Or.inr ⟨rfl, j, m, E j, E m, hj, hm, rfl, rfl, ⟨hww, hw6, rfl⟩, ⟨hvv, hw6, rfl⟩, rfl⟩))))))))⟩⟩
theorem cb_cno {x : Int32} {w : Nat} (hw : w ≤ 6) (h : x = -1 ∨ ∃ c, c < w ∧ x = nI c) : ¬ x < -1 ∧ ¬ nI w ≤ x ∧ x < nI w := by
  rcases h with rfl | ⟨c, hc, rfl⟩
  · have h0 : (-1 : Int32) < nI w := by
      rw [Int32.lt_iff_toInt_lt, nI_toInt (by omega), show (-1 : Int32).toInt = -1 from by decide]
      omega
    exact ⟨by decide, Int32.not_le.mpr h0, h0⟩
  · refine ⟨fun z => ?_, nI_ge hc (by omega), nI_lt hc (by omega)⟩
    exact nI_pos (n := c) (by omega) (Int32.lt_trans z (by decide))
theorem cb_neg {x : Int32} {w : Nat} (hw : w ≤ 6) (h : x = -1 ∨ ∃ c, c < w ∧ x = nI c) (e : ¬ x = -1) : ¬ x < 0 := by
  rcases h with z | ⟨c, hc, rfl⟩
  · exact absurd z e
  · exact nI_pos (by omega)
theorem i_up {k : Nat} {u : SX} {v : SY} (h : i_Rel k u v) : i_Rel (k + 5) u v := h
theorem i_vc0 : wpX_init (fun u => wpY_init (fun v => i_Rel 0 u v)) :=
  rl_mk (k := 0) ⟨⟨0, by decide, rfl, fun k hk => absurd hk (Nat.not_lt_zero k)⟩, fun t _ => ⟨0, by decide, rfl⟩, 0, 0, by decide, by decide, rfl, rfl, fun i hi => absurd hi (Nat.not_lt_zero i)⟩
section
variable {nc rr rw : Int32} {tc tr nk nw nl nr nf ns nt nu ip bc br rc : Nat → Int32}
theorem xa_tab_bad {post : Int32 → Prop} {x : Int32} (h : x < 0 ∨ nI 3 ≤ x) (hp : post 0) : wpX_isTable post (nc, rr, rw, tc, tr, nk, nw, nl, nr, nf, ns, nt, nu, ip, bc, br, rc) x := br_c (fun _ => hp) (fun e => br_t (h.resolve_left e) hp)
theorem xa_tab_ok {post : Int32 → Prop} {t : Nat} (h : t < 3) (hp : post 1) : wpX_isTable post (nc, rr, rw, tc, tr, nk, nw, nl, nr, nf, ns, nt, nu, ip, bc, br, rc) (nI t) := br_f (nI_pos (by omega)) (br_f (nI_ge (b := 3) h (by decide)) hp)
end
theorem ya_tab_bad {post : Int32 → Prop} {x : Int32} (h : x < 0 ∨ nI 3 ≤ x) (hp : post 1) : wpY_badTable post x := by
  refine br_c (fun _ => hp) (fun e => br_f (fun z => ?_) hp)
  have z2 : nI 3 ≤ nI 2 := Int32.le_trans (h.resolve_left e) z
  exact absurd z2 (by decide)
theorem ya_tab_ok {post : Int32 → Prop} {t : Nat} (h : t < 3) (hp : post 0) : wpY_badTable post (nI t) := br_f (nI_pos (by omega)) (br_t (nI_le (b := 2) (by omega) (by decide)) hp)
theorem i_vc_insert {k : Nat} {u : SX} {v : SY} (I : i_Rel k u v) (hk : k + 5 ≤ 2560) (v1 : Int32) (v2 : Int32) (v3 : Int32) (v4 : Int32) : wpX_insert (fun r u' => wpY_insert (fun r' v' => r' = r ∧ i_Rel (k + 5) u' v') v v1 v2 v3 v4) u v1 v2 v3 v4 := by
  obtain ⟨nc, ov, rr, rw, tc, tr, nk, nw, nl, nr, nf, ns, nt, nu, ip, bc, br, rc, np, nq, ny, ys, gv, nd, ro, re, rfl, rfl, hW⟩ := I
  have same : ∀ r : Int32, r = r ∧ i_Rel (k + 5) (nc, rr, rw, tc, tr, nk, nw, nl, nr, nf, ns, nt, nu, ip, bc, br, rc) (nc, ov, rr, rw, tc, tr, nk, nl, nr, np, nq, ny, nw, nu, ys, gv, nd, ro, re) := fun r => ⟨rfl, rl_mk hW⟩
  have hW0 := hW
  obtain ⟨⟨N, hN, rfl, hNd⟩, hT, hRs⟩ := hW0
  unfold wpX_insert
  dsimp only
  rcases cb_ix v1 3 (by omega) with h | ⟨t, ht, rfl⟩
  · refine xa_tab_bad h (br_t rfl ?_)
    try dsimp only
    unfold wpY_insert
    dsimp only
    exact ya_tab_bad h (br_f (by decide) (same _))
  · obtain ⟨x, hx, hxe⟩ := hT t ht
    have ct : (nI t).toNatClampNeg = t := nI_clamp (by omega)
    have vt : vp_in (nI t) 3 := vp_in_nI ht (by decide)
    refine xa_tab_ok ht (br_f (by decide) ⟨vt, ?_⟩)
    rw [ct, hxe]
    refine nm_e ?_
    by_cases h6 : x < 6
    · refine br_t (nI_lt (b := 6) h6 (by decide)) (nm_r (e' := nI ((t * 6 + x) * 3)) ?_ ?_)
      · rw [show (6 : Int32) = nI 6 from rfl, show (3 : Int32) = nI 3 from rfl, pk_mul, nI_add, pk_mul]
      rw [nI_1 ((t * 6 + x) * 3), show nI ((t * 6 + x) * 3) + 2 = nI ((t * 6 + x) * 3 + 2) from nI_add _ 2, nI_clamp (show (t * 6 + x) * 3 < 2 ^ 31 by omega), nI_clamp (show (t * 6 + x) * 3 + 1 < 2 ^ 31 by omega), nI_clamp (show (t * 6 + x) * 3 + 2 < 2 ^ 31 by omega), nI_1 x]
      refine ⟨vp_in_nI (by omega) (by decide), nm_e ⟨vp_in_nI (by omega) (by decide), nm_e ⟨vp_in_nI (by omega) (by decide), nm_e ⟨vt, nm_e ?_⟩⟩⟩⟩
      try dsimp only
      unfold wpY_insert
      dsimp only
      refine ya_tab_ok ht (br_t rfl ⟨vt, ?_⟩)
      rw [ct, hxe]
      refine br_f (fun z => ?_) ⟨vt, nm_r (e' := nI ((t * 6 + x) * 3)) ?_ ?_⟩
      · have := (nI_eq (b := 6) (by omega) (by decide)).mp z
        omega
      · rw [show (6 : Int32) = nI 6 from rfl, show (3 : Int32) = nI 3 from rfl, pk_mul, nI_add, pk_mul]
        exact congrArg nI (by omega)
      rw [nI_1 ((t * 6 + x) * 3), show nI ((t * 6 + x) * 3) + 2 = nI ((t * 6 + x) * 3 + 2) from nI_add _ 2, nI_clamp (show (t * 6 + x) * 3 < 2 ^ 31 by omega), nI_clamp (show (t * 6 + x) * 3 + 1 < 2 ^ 31 by omega), nI_clamp (show (t * 6 + x) * 3 + 2 < 2 ^ 31 by omega), nI_1 x]
      refine ⟨vp_in_nI (by omega) (by decide), nm_e ⟨vp_in_nI (by omega) (by decide), nm_e ⟨vp_in_nI (by omega) (by decide), nm_e ⟨vt, vt, nm_e ⟨vt, pk_us, rl_mk ⟨hW.1, fun s hs => ?_, hRs⟩⟩⟩⟩⟩⟩
      by_cases es : s = t
      · subst es
        exact ⟨x + 1, by omega, pk_us⟩
      · rw [pk_un es]
        exact hT s hs
    · obtain rfl : x = 6 := by omega
      refine br_f (by decide) ?_
      try dsimp only
      unfold wpY_insert
      dsimp only
      refine ya_tab_ok ht (br_t rfl ⟨vt, ?_⟩)
      rw [ct, hxe]
      exact br_t rfl (same _)
theorem i_vc_empty {k : Nat} {u : SX} {v : SY} (I : i_Rel k u v) (hk : k + 5 ≤ 2560) (v1 : Int32) : wpX_empty (fun r u' => wpY_empty (fun r' v' => r' = r ∧ i_Rel (k + 5) u' v') v v1) u v1 := by
  obtain ⟨nc, ov, rr, rw, tc, tr, nk, nw, nl, nr, nf, ns, nt, nu, ip, bc, br, rc, np, nq, ny, ys, gv, nd, ro, re, rfl, rfl, hW⟩ := I
  have same : ∀ r : Int32, r = r ∧ i_Rel (k + 5) (nc, rr, rw, tc, tr, nk, nw, nl, nr, nf, ns, nt, nu, ip, bc, br, rc) (nc, ov, rr, rw, tc, tr, nk, nl, nr, np, nq, ny, nw, nu, ys, gv, nd, ro, re) := fun r => ⟨rfl, rl_mk hW⟩
  have hW0 := hW
  obtain ⟨⟨N, hN, rfl, hNd⟩, hT, hRs⟩ := hW0
  unfold wpX_empty
  dsimp only
  rcases cb_ix v1 3 (by omega) with h | ⟨t, ht, rfl⟩
  · refine xa_tab_bad h (br_t rfl ?_)
    try dsimp only
    unfold wpY_empty
    dsimp only
    exact ya_tab_bad h (br_f (by decide) (same _))
  · have ct : (nI t).toNatClampNeg = t := nI_clamp (by omega)
    have vt : vp_in (nI t) 3 := vp_in_nI ht (by decide)
    refine xa_tab_ok ht (br_f (by decide) ⟨vt, ?_⟩)
    rw [ct]
    refine nm_e ⟨vt, nm_e ?_⟩
    try dsimp only
    unfold wpY_empty
    dsimp only
    refine ya_tab_ok ht (br_t rfl ⟨vt, ?_⟩)
    rw [ct]
    refine nm_e ⟨vt, nm_e ⟨rfl, rl_mk ⟨hW.1, fun s hs => ?_, hRs⟩⟩⟩
    by_cases es : s = t
    · subst es
      exact ⟨0, by omega, pk_us⟩
    · rw [pk_un es]
      exact hT s hs
theorem i_vc_clearPlan {k : Nat} {u : SX} {v : SY} (I : i_Rel k u v) (hk : k + 5 ≤ 2560) : wpX_clearPlan (fun u' => wpY_clearPlan (fun v' => i_Rel (k + 5) u' v') v) u := by
  obtain ⟨nc, ov, rr, rw, tc, tr, nk, nw, nl, nr, nf, ns, nt, nu, ip, bc, br, rc, np, nq, ny, ys, gv, nd, ro, re, rfl, rfl, hW⟩ := I
  have same : ∀ r : Int32, r = r ∧ i_Rel (k + 5) (nc, rr, rw, tc, tr, nk, nw, nl, nr, nf, ns, nt, nu, ip, bc, br, rc) (nc, ov, rr, rw, tc, tr, nk, nl, nr, np, nq, ny, nw, nu, ys, gv, nd, ro, re) := fun r => ⟨rfl, rl_mk hW⟩
  have hW0 := hW
  obtain ⟨⟨N, hN, rfl, hNd⟩, hT, hRs⟩ := hW0
  exact rl_mk (k := k + 5) ⟨⟨0, by decide, rfl, fun k hk => absurd hk (Nat.not_lt_zero k)⟩, hT, hRs⟩
theorem i_vc_width {k : Nat} {u : SX} {v : SY} (I : i_Rel k u v) (hk : k + 5 ≤ 2560) : wpX_width (fun r => wpY_width (fun r' => r' = r ∧ i_Rel (k + 5) u v) v) u := by
  obtain ⟨nc, ov, rr, rw, tc, tr, nk, nw, nl, nr, nf, ns, nt, nu, ip, bc, br, rc, np, nq, ny, ys, gv, nd, ro, re, rfl, rfl, hW⟩ := I
  have same : ∀ r : Int32, r = r ∧ i_Rel (k + 5) (nc, rr, rw, tc, tr, nk, nw, nl, nr, nf, ns, nt, nu, ip, bc, br, rc) (nc, ov, rr, rw, tc, tr, nk, nl, nr, np, nq, ny, nw, nu, ys, gv, nd, ro, re) := fun r => ⟨rfl, rl_mk hW⟩
  have hW0 := hW
  obtain ⟨⟨N, hN, rfl, hNd⟩, hT, hRs⟩ := hW0
  exact same _
theorem i_vc_cell {k : Nat} {u : SX} {v : SY} (I : i_Rel k u v) (hk : k + 5 ≤ 2560) (v1 : Int32) (v2 : Int32) : wpX_cell (fun r => wpY_cell (fun r' => r' = r ∧ i_Rel (k + 5) u v) v v1 v2) u v1 v2 := by
  obtain ⟨nc, ov, rr, rw, tc, tr, nk, nw, nl, nr, nf, ns, nt, nu, ip, bc, br, rc, np, nq, ny, ys, gv, nd, ro, re, rfl, rfl, hW⟩ := I
  have same : ∀ r : Int32, r = r ∧ i_Rel (k + 5) (nc, rr, rw, tc, tr, nk, nw, nl, nr, nf, ns, nt, nu, ip, bc, br, rc) (nc, ov, rr, rw, tc, tr, nk, nl, nr, np, nq, ny, nw, nu, ys, gv, nd, ro, re) := fun r => ⟨rfl, rl_mk hW⟩
  have hW0 := hW
  obtain ⟨⟨N, hN, rfl, hNd⟩, hT, hRs⟩ := hW0
  obtain ⟨R, W, hR, hWd, rfl, rfl, hres⟩ := hRs
  rcases cb_ix v1 R (by omega) with h | ⟨i, hi, rfl⟩
  · exact br_c (fun e => br_t e (same _)) (fun e => br_t (h.resolve_left e) (br_f e (br_t (h.resolve_left e) (same _))))
  · have n1 : ¬ nI i < 0 := nI_pos (by omega)
    have n2 : ¬ nI R ≤ nI i := nI_ge hi (by omega)
    rcases cb_ix v2 W (by omega) with h | ⟨c, hc, rfl⟩
    · exact br_f n1 (br_f n2 (br_c (fun e => br_f n1 (br_f n2 (br_t e (same _)))) (fun e => br_f (Int32.not_lt.mpr (h.resolve_left e)) (br_f n1 (br_f n2 (br_f e (br_f (Int32.not_lt.mpr (h.resolve_left e)) (same _))))))))
    · have n3 : ¬ nI c < 0 := nI_pos (by omega)
      have n4 : nI c < nI W := nI_lt hc (by omega)
      have ex : nI i * 6 + nI c = nI (i * 6 + c) := by rw [show (6 : Int32) = nI 6 from rfl, pk_mul, nI_add]
      refine br_f n1 (br_f n2 (br_f n3 (br_t n4 ?_)))
      rw [ex, nI_clamp (by omega)]
      refine ⟨vp_in_nI (by omega) (by decide), br_f n1 (br_f n2 (br_f n3 (br_t n4 ?_)))⟩
      rw [yr_p, nI_clamp (by omega)]
      exact ⟨vp_in_nI (by omega) (by decide), hres i hi c hc, rl_mk hW⟩
end
section
/-! calls that make a node of one input, or none -/
theorem i_vc_scan {k : Nat} {u : SX} {v : SY} (I : i_Rel k u v) (hk : k + 5 ≤ 2560) (v1 : Int32) : wpX_scan (fun r u' => wpY_scan (fun r' v' => r' = r ∧ i_Rel (k + 5) u' v') v v1) u v1 := by
  obtain ⟨nc, ov, rr, rw, tc, tr, nk, nw, nl, nr, nf, ns, nt, nu, ip, bc, br, rc, np, nq, ny, ys, gv, nd, ro, re, rfl, rfl, hW⟩ := I
  have same : ∀ r : Int32, r = r ∧ i_Rel (k + 5) (nc, rr, rw, tc, tr, nk, nw, nl, nr, nf, ns, nt, nu, ip, bc, br, rc) (nc, ov, rr, rw, tc, tr, nk, nl, nr, np, nq, ny, nw, nu, ys, gv, nd, ro, re) := fun r => ⟨rfl, rl_mk hW⟩
  have hW0 := hW
  obtain ⟨⟨N, hN, rfl, hNd⟩, hT, hRs⟩ := hW0
  unfold wpX_scan
  dsimp only
  rcases cb_ix v1 3 (by omega) with h | ⟨t, ht, rfl⟩
  · refine xa_tab_bad h (br_t rfl ?_)
    try dsimp only
    unfold wpY_scan
    dsimp only
    exact ya_tab_bad h (br_f (by decide) (same _))
  · refine xa_tab_ok ht (br_f (by decide) ?_)
    rcases cb_N hN with rfl | hN'
    · refine xa_full ?_
      try dsimp only
      unfold wpY_scan
      dsimp only
      exact ya_tab_ok ht (br_t rfl (br_t rfl (same _)))
    · refine xa_add hN' (Or.inl rfl) (Or.inl rfl) ?_
      try dsimp only
      unfold wpY_scan
      dsimp only
      exact ya_tab_ok ht (br_t rfl (br_f (cb_12 hN') (ya_make hN' (Or.inl rfl) (Or.inl rfl) (ya_say hN' ⟨rfl, rl_mk (rl_add hW hN' rl_u rl_u rl_u rl_u rl_u rl_u rl_u rl_u rl_u rl_u (by simp only [pk_us]; exact rn_scan ht))⟩))))
theorem i_vc_filter {k : Nat} {u : SX} {v : SY} (I : i_Rel k u v) (hk : k + 5 ≤ 2560) (v1 : Int32) (v2 : Int32) (v3 : Int32) (v4 : Int32) : wpX_filter (fun r u' => wpY_filter (fun r' v' => r' = r ∧ i_Rel (k + 5) u' v') v v1 v2 v3 v4) u v1 v2 v3 v4 := by
  obtain ⟨nc, ov, rr, rw, tc, tr, nk, nw, nl, nr, nf, ns, nt, nu, ip, bc, br, rc, np, nq, ny, ys, gv, nd, ro, re, rfl, rfl, hW⟩ := I
  have same : ∀ r : Int32, r = r ∧ i_Rel (k + 5) (nc, rr, rw, tc, tr, nk, nw, nl, nr, nf, ns, nt, nu, ip, bc, br, rc) (nc, ov, rr, rw, tc, tr, nk, nl, nr, np, nq, ny, nw, nu, ys, gv, nd, ro, re) := fun r => ⟨rfl, rl_mk hW⟩
  have hW0 := hW
  obtain ⟨⟨N, hN, rfl, hNd⟩, hT, hRs⟩ := hW0
  unfold wpX_filter
  dsimp only
  rcases cb_ix v1 N (by omega) with h | ⟨j, hj, rfl⟩
  · refine xa_in_bad h (br_f (by decide) ?_)
    try dsimp only
    unfold wpY_filter
    dsimp only
    exact ya_node_bad h (br_f (by decide) (same _))
  · obtain ⟨w, hw6, hww⟩ := rl_wid (hNd j hj)
    have cj : (nI j).toNatClampNeg = j := nI_clamp (by omega)
    have vj : vp_in (nI j) 12 := vp_in_nI (by omega) (by decide)
    by_cases hu : nu j = 0
    · refine xa_in_ok hN hj hu (br_t rfl ?_)
      rcases cb_ix v2 w (by omega) with h | ⟨c, hc, rfl⟩
      · refine xa_col_bad (by omega) hww h (br_t rfl ?_)
        try dsimp only
        unfold wpY_filter
        dsimp only
        refine ya_node_ok hN hj (br_t rfl ⟨vj, ?_⟩)
        rw [cj, hww]
        exact br_t hu (cb_c1 h vj (same _))
      · refine xa_col_ok (by omega) hww hw6 hc (br_f (by decide) ?_)
        rcases cb_kx v3 5 (by omega) with h | ⟨q, hq, rfl⟩
        · refine cb_k1 (m := 5) h ?_
          try dsimp only
          unfold wpY_filter
          dsimp only
          refine ya_node_ok hN hj (br_t rfl ⟨vj, ?_⟩)
          rw [cj, hww]
          exact br_t hu (cb_c2 hc hw6 vj (cb_k1 (m := 5) h (same _)))
        · refine cb_k2 hq (by omega) rfl ⟨vj, ?_⟩
          rw [cj, hww]
          rcases cb_N hN with rfl | hN'
          · refine xa_full ?_
            try dsimp only
            unfold wpY_filter
            dsimp only
            refine ya_node_ok hN hj (br_t rfl ⟨vj, ?_⟩)
            rw [cj, hww]
            exact br_t hu (cb_c2 hc hw6 vj (cb_k2 hq (by omega) rfl (br_t rfl (same _))))
          · refine xa_add hN' (Or.inr ⟨j, by omega, rfl⟩) (Or.inl rfl) ?_
            try dsimp only
            unfold wpY_filter
            dsimp only
            refine ya_node_ok hN hj (br_t rfl ⟨vj, ?_⟩)
            rw [cj, hww]
            exact br_t hu (cb_c2 hc hw6 vj (cb_k2 hq (by omega) rfl (br_f (cb_12 hN') ⟨vj, ya_make hN' (Or.inr ⟨j, by omega, rfl⟩) (Or.inl rfl) (ya_say hN' ⟨rfl, rl_mk (rl_add hW hN' rl_u rl_u rl_u rl_u rl_u rl_u rl_u rl_u rl_u rl_u (by simp only [pk_us]; exact rn_filter hj hw6 hww hc hq))⟩)⟩)))
    · refine xa_in_used hN hj hu (br_f (by decide) ?_)
      try dsimp only
      unfold wpY_filter
      dsimp only
      refine ya_node_ok hN hj (br_t rfl ⟨vj, ?_⟩)
      rw [cj]
      exact br_f hu (same _)
theorem i_vc_extend {k : Nat} {u : SX} {v : SY} (I : i_Rel k u v) (hk : k + 5 ≤ 2560) (v1 : Int32) (v2 : Int32) (v3 : Int32) (v4 : Int32) : wpX_extend (fun r u' => wpY_extend (fun r' v' => r' = r ∧ i_Rel (k + 5) u' v') v v1 v2 v3 v4) u v1 v2 v3 v4 := by
  obtain ⟨nc, ov, rr, rw, tc, tr, nk, nw, nl, nr, nf, ns, nt, nu, ip, bc, br, rc, np, nq, ny, ys, gv, nd, ro, re, rfl, rfl, hW⟩ := I
  have same : ∀ r : Int32, r = r ∧ i_Rel (k + 5) (nc, rr, rw, tc, tr, nk, nw, nl, nr, nf, ns, nt, nu, ip, bc, br, rc) (nc, ov, rr, rw, tc, tr, nk, nl, nr, np, nq, ny, nw, nu, ys, gv, nd, ro, re) := fun r => ⟨rfl, rl_mk hW⟩
  have hW0 := hW
  obtain ⟨⟨N, hN, rfl, hNd⟩, hT, hRs⟩ := hW0
  unfold wpX_extend
  dsimp only
  rcases cb_ix v1 N (by omega) with h | ⟨j, hj, rfl⟩
  · refine xa_in_bad h (br_f (by decide) ?_)
    try dsimp only
    unfold wpY_extend
    dsimp only
    exact ya_node_bad h (br_f (by decide) (same _))
  · obtain ⟨w, hw6, hww⟩ := rl_wid (hNd j hj)
    have cj : (nI j).toNatClampNeg = j := nI_clamp (by omega)
    have vj : vp_in (nI j) 12 := vp_in_nI (by omega) (by decide)
    by_cases hu : nu j = 0
    · refine xa_in_ok hN hj hu (br_t rfl ?_)
      rcases cb_kx v2 4 (by omega) with h | ⟨q, hq, rfl⟩
      · refine cb_k1 (m := 4) h ?_
        try dsimp only
        unfold wpY_extend
        dsimp only
        refine ya_node_ok hN hj (br_t rfl ⟨vj, ?_⟩)
        rw [cj, hww]
        exact br_t hu (cb_k1 (m := 4) h (same _))
      · refine cb_k2 hq (by omega) rfl ?_
        rcases cb_ix v3 w (by omega) with h | ⟨c, hc, rfl⟩
        · refine xa_col_bad (by omega) hww h (br_t rfl ?_)
          try dsimp only
          unfold wpY_extend
          dsimp only
          refine ya_node_ok hN hj (br_t rfl ⟨vj, ?_⟩)
          rw [cj, hww]
          exact br_t hu (cb_k2 hq (by omega) rfl (cb_d1 h vj (same _)))
        · refine xa_col_ok (by omega) hww hw6 hc (br_f (by decide) ?_)
          rcases cb_ix v4 w (by omega) with h | ⟨d, hd, rfl⟩
          · refine xa_col_bad (by omega) hww h (br_t rfl ?_)
            try dsimp only
            unfold wpY_extend
            dsimp only
            refine ya_node_ok hN hj (br_t rfl ⟨vj, ?_⟩)
            rw [cj, hww]
            exact br_t hu (cb_k2 hq (by omega) rfl (cb_d2 hc hw6 vj (cb_c1 h vj (same _))))
          · refine xa_col_ok (by omega) hww hw6 hd (br_f (by decide) ⟨vj, ?_⟩)
            rw [cj, hww]
            by_cases h6 : w = 6
            · subst h6
              refine br_f (by decide) ?_
              try dsimp only
              unfold wpY_extend
              dsimp only
              refine ya_node_ok hN hj (br_t rfl ⟨vj, ?_⟩)
              rw [cj, hww]
              exact br_t hu (cb_k2 hq (by omega) rfl (cb_d2 hc hw6 vj (cb_c2 hd hw6 vj ⟨vj, br_t rfl (same _)⟩)))
            · have n6 : ¬ nI w = 6 := fun z => by
                have := (nI_eq (b := 6) (by omega) (by decide)).mp z
                omega
              refine br_t (nI_lt (b := 6) (by omega) (by decide)) ⟨vj, ?_⟩
              rw [nI_1 w]
              rcases cb_N hN with rfl | hN'
              · refine xa_full ?_
                try dsimp only
                unfold wpY_extend
                dsimp only
                refine ya_node_ok hN hj (br_t rfl ⟨vj, ?_⟩)
                rw [cj, hww]
                exact br_t hu (cb_k2 hq (by omega) rfl (cb_d2 hc hw6 vj (cb_c2 hd hw6 vj ⟨vj, br_f n6 (br_t rfl (same _))⟩)))
              · refine xa_add hN' (Or.inr ⟨j, by omega, rfl⟩) (Or.inl rfl) ?_
                try dsimp only
                unfold wpY_extend
                dsimp only
                refine ya_node_ok hN hj (br_t rfl ⟨vj, ?_⟩)
                rw [cj, hww, nI_1 w]
                exact br_t hu (cb_k2 hq (by omega) rfl (cb_d2 hc hw6 vj (cb_c2 hd hw6 vj ⟨vj, br_f n6 (br_f (cb_12 hN') ⟨vj, ya_make hN' (Or.inr ⟨j, by omega, rfl⟩) (Or.inl rfl) (ya_say hN' ⟨rfl, rl_mk (rl_add hW hN' rl_u rl_u rl_u rl_u rl_u rl_u rl_u rl_u rl_u rl_u (by simp only [pk_us]; exact rn_ext hj (by omega) hww hq hc hd))⟩)⟩)⟩)))
    · refine xa_in_used hN hj hu (br_f (by decide) ?_)
      try dsimp only
      unfold wpY_extend
      dsimp only
      refine ya_node_ok hN hj (br_t rfl ⟨vj, ?_⟩)
      rw [cj]
      exact br_f hu (same _)
theorem i_vc_group {k : Nat} {u : SX} {v : SY} (I : i_Rel k u v) (hk : k + 5 ≤ 2560) (v1 : Int32) (v2 : Int32) (v3 : Int32) (v4 : Int32) : wpX_group (fun r u' => wpY_group (fun r' v' => r' = r ∧ i_Rel (k + 5) u' v') v v1 v2 v3 v4) u v1 v2 v3 v4 := by
  obtain ⟨nc, ov, rr, rw, tc, tr, nk, nw, nl, nr, nf, ns, nt, nu, ip, bc, br, rc, np, nq, ny, ys, gv, nd, ro, re, rfl, rfl, hW⟩ := I
  have same : ∀ r : Int32, r = r ∧ i_Rel (k + 5) (nc, rr, rw, tc, tr, nk, nw, nl, nr, nf, ns, nt, nu, ip, bc, br, rc) (nc, ov, rr, rw, tc, tr, nk, nl, nr, np, nq, ny, nw, nu, ys, gv, nd, ro, re) := fun r => ⟨rfl, rl_mk hW⟩
  have hW0 := hW
  obtain ⟨⟨N, hN, rfl, hNd⟩, hT, hRs⟩ := hW0
  unfold wpX_group
  dsimp only
  rcases cb_ix v1 N (by omega) with h | ⟨j, hj, rfl⟩
  · refine xa_in_bad h (br_f (by decide) ?_)
    try dsimp only
    unfold wpY_group
    dsimp only
    exact ya_node_bad h (br_f (by decide) (same _))
  · obtain ⟨w, hw6, hww⟩ := rl_wid (hNd j hj)
    have cj : (nI j).toNatClampNeg = j := nI_clamp (by omega)
    have vj : vp_in (nI j) 12 := vp_in_nI (by omega) (by decide)
    by_cases hu : nu j = 0
    · refine xa_in_ok hN hj hu (br_t rfl ?_)
      rcases cb_ix v2 w (by omega) with h | ⟨c, hc, rfl⟩
      · refine xa_col_bad (by omega) hww h (br_t rfl ?_)
        try dsimp only
        unfold wpY_group
        dsimp only
        refine ya_node_ok hN hj (br_t rfl ⟨vj, ?_⟩)
        rw [cj, hww]
        exact br_t hu (cb_d1 h vj (same _))
      · refine xa_col_ok (by omega) hww hw6 hc (br_f (by decide) ?_)
        rcases cb_ix v4 w (by omega) with h | ⟨d, hd, rfl⟩
        · refine xa_col_bad (by omega) hww h (br_t rfl ?_)
          try dsimp only
          unfold wpY_group
          dsimp only
          refine ya_node_ok hN hj (br_t rfl ⟨vj, ?_⟩)
          rw [cj, hww]
          exact br_t hu (cb_d2 hc hw6 vj (cb_c1 h vj (same _)))
        · refine xa_col_ok (by omega) hww hw6 hd (br_f (by decide) ?_)
          rcases cb_kx v3 3 (by omega) with h | ⟨q, hq, rfl⟩
          · refine cb_k1 (m := 3) h ?_
            try dsimp only
            unfold wpY_group
            dsimp only
            refine ya_node_ok hN hj (br_t rfl ⟨vj, ?_⟩)
            rw [cj, hww]
            exact br_t hu (cb_d2 hc hw6 vj (cb_c2 hd hw6 vj (cb_k1 (m := 3) h (same _))))
          · refine cb_k2 hq (by omega) rfl ?_
            rcases cb_N hN with rfl | hN'
            · refine xa_full ?_
              try dsimp only
              unfold wpY_group
              dsimp only
              refine ya_node_ok hN hj (br_t rfl ⟨vj, ?_⟩)
              rw [cj, hww]
              exact br_t hu (cb_d2 hc hw6 vj (cb_c2 hd hw6 vj (cb_k2 hq (by omega) rfl (br_t rfl (same _)))))
            · refine xa_add hN' (Or.inr ⟨j, by omega, rfl⟩) (Or.inl rfl) ?_
              try dsimp only
              unfold wpY_group
              dsimp only
              refine ya_node_ok hN hj (br_t rfl ⟨vj, ?_⟩)
              rw [cj, hww]
              exact br_t hu (cb_d2 hc hw6 vj (cb_c2 hd hw6 vj (cb_k2 hq (by omega) rfl (br_f (cb_12 hN') (ya_make hN' (Or.inr ⟨j, by omega, rfl⟩) (Or.inl rfl) (ya_say hN' ⟨rfl, rl_mk (rl_add hW hN' rl_u rl_u rl_u rl_u rl_u rl_u rl_u rl_u rl_u rl_u (by simp only [pk_us]; exact rn_group hj hw6 hww hc hq hd))⟩))))))
    · refine xa_in_used hN hj hu (br_f (by decide) ?_)
      try dsimp only
      unfold wpY_group
      dsimp only
      refine ya_node_ok hN hj (br_t rfl ⟨vj, ?_⟩)
      rw [cj]
      exact br_f hu (same _)
theorem i_vc_distinct {k : Nat} {u : SX} {v : SY} (I : i_Rel k u v) (hk : k + 5 ≤ 2560) (v1 : Int32) : wpX_distinct (fun r u' => wpY_distinct (fun r' v' => r' = r ∧ i_Rel (k + 5) u' v') v v1) u v1 := by
  obtain ⟨nc, ov, rr, rw, tc, tr, nk, nw, nl, nr, nf, ns, nt, nu, ip, bc, br, rc, np, nq, ny, ys, gv, nd, ro, re, rfl, rfl, hW⟩ := I
  have same : ∀ r : Int32, r = r ∧ i_Rel (k + 5) (nc, rr, rw, tc, tr, nk, nw, nl, nr, nf, ns, nt, nu, ip, bc, br, rc) (nc, ov, rr, rw, tc, tr, nk, nl, nr, np, nq, ny, nw, nu, ys, gv, nd, ro, re) := fun r => ⟨rfl, rl_mk hW⟩
  have hW0 := hW
  obtain ⟨⟨N, hN, rfl, hNd⟩, hT, hRs⟩ := hW0
  unfold wpX_distinct
  dsimp only
  rcases cb_ix v1 N (by omega) with h | ⟨j, hj, rfl⟩
  · refine xa_in_bad h (br_f (by decide) ?_)
    try dsimp only
    unfold wpY_distinct
    dsimp only
    exact ya_node_bad h (br_f (by decide) (same _))
  · obtain ⟨w, hw6, hww⟩ := rl_wid (hNd j hj)
    have cj : (nI j).toNatClampNeg = j := nI_clamp (by omega)
    have vj : vp_in (nI j) 12 := vp_in_nI (by omega) (by decide)
    by_cases hu : nu j = 0
    · refine xa_in_ok hN hj hu (br_t rfl ?_)
      refine ⟨vj, ?_⟩
      rw [cj, hww]
      rcases cb_N hN with rfl | hN'
      · refine xa_full ?_
        try dsimp only
        unfold wpY_distinct
        dsimp only
        refine ya_node_ok hN hj (br_t rfl ⟨vj, ?_⟩)
        rw [cj, hww]
        exact br_t hu (br_t rfl (same _))
      · refine xa_add hN' (Or.inr ⟨j, by omega, rfl⟩) (Or.inl rfl) ?_
        try dsimp only
        unfold wpY_distinct
        dsimp only
        refine ya_node_ok hN hj (br_t rfl ⟨vj, ?_⟩)
        rw [cj, hww]
        exact br_t hu (br_f (cb_12 hN') ⟨vj, ya_make hN' (Or.inr ⟨j, by omega, rfl⟩) (Or.inl rfl) ⟨rfl, rl_mk (rl_add hW hN' rl_u rl_u rl_u rl_u rl_u rl_u rl_u rl_r rl_r rl_r (by simp only [pk_us]; exact rn_dist hj hw6 hww))⟩⟩)
    · refine xa_in_used hN hj hu (br_f (by decide) ?_)
      try dsimp only
      unfold wpY_distinct
      dsimp only
      refine ya_node_ok hN hj (br_t rfl ⟨vj, ?_⟩)
      rw [cj]
      exact br_f hu (same _)
end
section
/-! pick -/
theorem i_vc_pick {k : Nat} {u : SX} {v : SY} (I : i_Rel k u v) (hk : k + 5 ≤ 2560) (v1 : Int32) (v2 : Int32) (v3 : Int32) (v4 : Int32) : wpX_pick (fun r u' => wpY_pick (fun r' v' => r' = r ∧ i_Rel (k + 5) u' v') v v1 v2 v3 v4) u v1 v2 v3 v4 := by
  obtain ⟨nc, ov, rr, rw, tc, tr, nk, nw, nl, nr, nf, ns, nt, nu, ip, bc, br, rc, np, nq, ny, ys, gv, nd, ro, re, rfl, rfl, hW⟩ := I
  have same : ∀ r : Int32, r = r ∧ i_Rel (k + 5) (nc, rr, rw, tc, tr, nk, nw, nl, nr, nf, ns, nt, nu, ip, bc, br, rc) (nc, ov, rr, rw, tc, tr, nk, nl, nr, np, nq, ny, nw, nu, ys, gv, nd, ro, re) := fun r => ⟨rfl, rl_mk hW⟩
  have hW0 := hW
  obtain ⟨⟨N, hN, rfl, hNd⟩, hT, hRs⟩ := hW0
  unfold wpX_pick
  dsimp only
  rcases cb_ix v1 N (by omega) with h | ⟨j, hj, rfl⟩
  · refine xa_in_bad h (br_f (by decide) ?_)
    try dsimp only
    unfold wpY_pick
    dsimp only
    exact ya_node_bad h (br_f (by decide) (same _))
  · obtain ⟨w, hw6, hww⟩ := rl_wid (hNd j hj)
    have cj : (nI j).toNatClampNeg = j := nI_clamp (by omega)
    have vj : vp_in (nI j) 12 := vp_in_nI (by omega) (by decide)
    by_cases hu : nu j = 0
    · refine xa_in_ok hN hj hu (br_t rfl ?_)
      rcases cb_ix v2 w (by omega) with h | ⟨c, hc, rfl⟩
      · refine xa_col_bad (by omega) hww h (br_t rfl ?_)
        try dsimp only
        unfold wpY_pick
        dsimp only
        refine ya_node_ok hN hj (br_t rfl ⟨vj, ?_⟩)
        rw [cj, hww]
        exact br_t hu ⟨vj, nm_e (br_c (fun _ => same _) (fun e => br_t (h.resolve_left e) (same _)))⟩
      · refine xa_col_ok (by omega) hww hw6 hc (br_f (by decide) ?_)
        rcases cb_cn v3 w (by omega) with h | h2
        · refine xa_cn_bad (by omega) hww hw6 h (br_t rfl ?_)
          try dsimp only
          unfold wpY_pick
          dsimp only
          refine ya_node_ok hN hj (br_t rfl ⟨vj, ?_⟩)
          rw [cj, hww]
          exact br_t hu ⟨vj, nm_e (br_f (nI_pos (by omega)) (br_f (nI_ge hc (by omega)) (br_c (fun _ => same _) (fun e => br_t (h.resolve_left e) (same _)))))⟩
        · have q2 := cb_cno hw6 h2
          refine xa_cn_ok (by omega) hww hw6 h2 (br_f (by decide) ?_)
          rcases cb_cn v4 w (by omega) with h | h3
          · refine xa_cn_bad (by omega) hww hw6 h (br_t rfl ?_)
            try dsimp only
            unfold wpY_pick
            dsimp only
            refine ya_node_ok hN hj (br_t rfl ⟨vj, ?_⟩)
            rw [cj, hww]
            exact br_t hu ⟨vj, nm_e (br_f (nI_pos (by omega)) (br_f (nI_ge hc (by omega)) (br_f q2.1 (br_f q2.2.1 (br_c (fun _ => same _) (fun e => br_f (Int32.not_lt.mpr (h.resolve_left e)) (same _)))))))⟩
          · have q3 := cb_cno hw6 h3
            refine xa_cn_ok (by omega) hww hw6 h3 (br_f (by decide) ?_)
            by_cases e2 : v3 = -1
            · by_cases e3 : v4 = -1
              · skip
                refine br_t e2 (br_t e3 ?_)
                rcases cb_N hN with rfl | hN'
                · refine xa_full (K := 3) (W := 1) (L := nI j) (R := -1) (F := nI c) (S := v3) (T := v4) ?_
                  try dsimp only
                  unfold wpY_pick
                  dsimp only
                  refine ya_node_ok hN hj (br_t rfl ⟨vj, ?_⟩)
                  rw [cj, hww]
                  exact br_t hu ⟨vj, nm_e (br_f (nI_pos (by omega)) (br_f (nI_ge hc (by omega)) (br_f q2.1 (br_f q2.2.1 (br_f q3.1 (br_t q3.2.2 (br_t rfl (same _))))))))⟩
                · refine xa_add (K := 3) (W := 1) (L := nI j) (R := -1) (F := nI c) (S := v3) (T := v4) hN' (Or.inr ⟨j, by omega, rfl⟩) (Or.inl rfl) ?_
                  try dsimp only
                  unfold wpY_pick
                  dsimp only
                  refine ya_node_ok hN hj (br_t rfl ⟨vj, ?_⟩)
                  rw [cj, hww]
                  have ym : wY_pick_105 (fun r' v' => r' = nI N ∧ i_Rel (k + 5) (nI (N + 1), rr, rw, tc, tr, upd nk N 3, upd nw N 1, upd nl N (nI j), upd nr N (-1), upd nf N (nI c), upd ns N v3, upd nt N v4, rl_us nu N (nI j) (-1), ip, bc, br, rc) v') (nI c) v3 v4 0 (1 + 0) (-1) (nI j) 3 (nI N) ov rr rw tc tr nk nl nr np nq ny nw nu ys gv nd ro re := by
                    unfold wY_pick_105
                    rw [show ((1 + 0 + 0 : Int32)) = 1 from by decide]
                    exact ya_make hN' (Or.inr ⟨j, by omega, rfl⟩) (Or.inl rfl) (ya_say hN' ⟨rfl, rl_mk (rl_add hW hN' rl_u rl_u rl_u rl_u rl_u rl_u rl_u rl_u rl_u rl_u (by simp only [pk_us]; exact rn_pick hj hw6 hww hc h2 h3 (by rw [if_pos e2, if_pos e3]; decide)))⟩)
                  exact br_t hu ⟨vj, nm_e (br_f (nI_pos (by omega)) (br_f (nI_ge hc (by omega)) (br_f q2.1 (br_f q2.2.1 (br_f q3.1 (br_t q3.2.2 (br_f (cb_12 hN') (br_t (by rw [e2]; decide) (br_t (by rw [e3]; decide) ym)))))))))⟩
              · skip
                refine br_t e2 (br_f e3 (nm_r (e' := 2) (by decide) ?_))
                rcases cb_N hN with rfl | hN'
                · refine xa_full (K := 3) (W := 2) (L := nI j) (R := -1) (F := nI c) (S := v3) (T := v4) ?_
                  try dsimp only
                  unfold wpY_pick
                  dsimp only
                  refine ya_node_ok hN hj (br_t rfl ⟨vj, ?_⟩)
                  rw [cj, hww]
                  exact br_t hu ⟨vj, nm_e (br_f (nI_pos (by omega)) (br_f (nI_ge hc (by omega)) (br_f q2.1 (br_f q2.2.1 (br_f q3.1 (br_t q3.2.2 (br_t rfl (same _))))))))⟩
                · refine xa_add (K := 3) (W := 2) (L := nI j) (R := -1) (F := nI c) (S := v3) (T := v4) hN' (Or.inr ⟨j, by omega, rfl⟩) (Or.inl rfl) ?_
                  try dsimp only
                  unfold wpY_pick
                  dsimp only
                  refine ya_node_ok hN hj (br_t rfl ⟨vj, ?_⟩)
                  rw [cj, hww]
                  have ym : wY_pick_105 (fun r' v' => r' = nI N ∧ i_Rel (k + 5) (nI (N + 1), rr, rw, tc, tr, upd nk N 3, upd nw N 2, upd nl N (nI j), upd nr N (-1), upd nf N (nI c), upd ns N v3, upd nt N v4, rl_us nu N (nI j) (-1), ip, bc, br, rc) v') (nI c) v3 v4 1 (1 + 0) (-1) (nI j) 3 (nI N) ov rr rw tc tr nk nl nr np nq ny nw nu ys gv nd ro re := by
                    unfold wY_pick_105
                    rw [show ((1 + 0 + 1 : Int32)) = 2 from by decide]
                    exact ya_make hN' (Or.inr ⟨j, by omega, rfl⟩) (Or.inl rfl) (ya_say hN' ⟨rfl, rl_mk (rl_add hW hN' rl_u rl_u rl_u rl_u rl_u rl_u rl_u rl_u rl_u rl_u (by simp only [pk_us]; exact rn_pick hj hw6 hww hc h2 h3 (by rw [if_pos e2, if_neg e3]; decide)))⟩)
                  exact br_t hu ⟨vj, nm_e (br_f (nI_pos (by omega)) (br_f (nI_ge hc (by omega)) (br_f q2.1 (br_f q2.2.1 (br_f q3.1 (br_t q3.2.2 (br_f (cb_12 hN') (br_t (by rw [e2]; decide) (br_f (cb_neg hw6 h3 e3) ym)))))))))⟩
            · by_cases e3 : v4 = -1
              · skip
                refine br_f e2 (nm_r (e' := 2) (by decide) (br_t e3 ?_))
                rcases cb_N hN with rfl | hN'
                · refine xa_full (K := 3) (W := 2) (L := nI j) (R := -1) (F := nI c) (S := v3) (T := v4) ?_
                  try dsimp only
                  unfold wpY_pick
                  dsimp only
                  refine ya_node_ok hN hj (br_t rfl ⟨vj, ?_⟩)
                  rw [cj, hww]
                  exact br_t hu ⟨vj, nm_e (br_f (nI_pos (by omega)) (br_f (nI_ge hc (by omega)) (br_f q2.1 (br_f q2.2.1 (br_f q3.1 (br_t q3.2.2 (br_t rfl (same _))))))))⟩
                · refine xa_add (K := 3) (W := 2) (L := nI j) (R := -1) (F := nI c) (S := v3) (T := v4) hN' (Or.inr ⟨j, by omega, rfl⟩) (Or.inl rfl) ?_
                  try dsimp only
                  unfold wpY_pick
                  dsimp only
                  refine ya_node_ok hN hj (br_t rfl ⟨vj, ?_⟩)
                  rw [cj, hww]
                  have ym : wY_pick_105 (fun r' v' => r' = nI N ∧ i_Rel (k + 5) (nI (N + 1), rr, rw, tc, tr, upd nk N 3, upd nw N 2, upd nl N (nI j), upd nr N (-1), upd nf N (nI c), upd ns N v3, upd nt N v4, rl_us nu N (nI j) (-1), ip, bc, br, rc) v') (nI c) v3 v4 0 (1 + 1) (-1) (nI j) 3 (nI N) ov rr rw tc tr nk nl nr np nq ny nw nu ys gv nd ro re := by
                    unfold wY_pick_105
                    rw [show ((1 + 1 + 0 : Int32)) = 2 from by decide]
                    exact ya_make hN' (Or.inr ⟨j, by omega, rfl⟩) (Or.inl rfl) (ya_say hN' ⟨rfl, rl_mk (rl_add hW hN' rl_u rl_u rl_u rl_u rl_u rl_u rl_u rl_u rl_u rl_u (by simp only [pk_us]; exact rn_pick hj hw6 hww hc h2 h3 (by rw [if_neg e2, if_pos e3]; decide)))⟩)
                  exact br_t hu ⟨vj, nm_e (br_f (nI_pos (by omega)) (br_f (nI_ge hc (by omega)) (br_f q2.1 (br_f q2.2.1 (br_f q3.1 (br_t q3.2.2 (br_f (cb_12 hN') (br_f (cb_neg hw6 h2 e2) (br_t (by rw [e3]; decide) ym)))))))))⟩
              · skip
                refine br_f e2 (nm_r (e' := 2) (by decide) (br_f e3 (nm_r (e' := 3) (by decide) ?_)))
                rcases cb_N hN with rfl | hN'
                · refine xa_full (K := 3) (W := 3) (L := nI j) (R := -1) (F := nI c) (S := v3) (T := v4) ?_
                  try dsimp only
                  unfold wpY_pick
                  dsimp only
                  refine ya_node_ok hN hj (br_t rfl ⟨vj, ?_⟩)
                  rw [cj, hww]
                  exact br_t hu ⟨vj, nm_e (br_f (nI_pos (by omega)) (br_f (nI_ge hc (by omega)) (br_f q2.1 (br_f q2.2.1 (br_f q3.1 (br_t q3.2.2 (br_t rfl (same _))))))))⟩
                · refine xa_add (K := 3) (W := 3) (L := nI j) (R := -1) (F := nI c) (S := v3) (T := v4) hN' (Or.inr ⟨j, by omega, rfl⟩) (Or.inl rfl) ?_
                  try dsimp only
                  unfold wpY_pick
                  dsimp only
                  refine ya_node_ok hN hj (br_t rfl ⟨vj, ?_⟩)
                  rw [cj, hww]
                  have ym : wY_pick_105 (fun r' v' => r' = nI N ∧ i_Rel (k + 5) (nI (N + 1), rr, rw, tc, tr, upd nk N 3, upd nw N 3, upd nl N (nI j), upd nr N (-1), upd nf N (nI c), upd ns N v3, upd nt N v4, rl_us nu N (nI j) (-1), ip, bc, br, rc) v') (nI c) v3 v4 1 (1 + 1) (-1) (nI j) 3 (nI N) ov rr rw tc tr nk nl nr np nq ny nw nu ys gv nd ro re := by
                    unfold wY_pick_105
                    rw [show ((1 + 1 + 1 : Int32)) = 3 from by decide]
                    exact ya_make hN' (Or.inr ⟨j, by omega, rfl⟩) (Or.inl rfl) (ya_say hN' ⟨rfl, rl_mk (rl_add hW hN' rl_u rl_u rl_u rl_u rl_u rl_u rl_u rl_u rl_u rl_u (by simp only [pk_us]; exact rn_pick hj hw6 hww hc h2 h3 (by rw [if_neg e2, if_neg e3]; decide)))⟩)
                  exact br_t hu ⟨vj, nm_e (br_f (nI_pos (by omega)) (br_f (nI_ge hc (by omega)) (br_f q2.1 (br_f q2.2.1 (br_f q3.1 (br_t q3.2.2 (br_f (cb_12 hN') (br_f (cb_neg hw6 h2 e2) (br_f (cb_neg hw6 h3 e3) ym)))))))))⟩
    · refine xa_in_used hN hj hu (br_f (by decide) ?_)
      try dsimp only
      unfold wpY_pick
      dsimp only
      refine ya_node_ok hN hj (br_t rfl ⟨vj, ?_⟩)
      rw [cj]
      exact br_f hu (same _)
end
section
/-! calls that make a node of two inputs; run -/
section
variable {ov rr rw : Int32} {tc tr nk nl nr np nq ny nw nu ys gv nd ro re : Nat → Int32}
theorem yt_bad {post : Int32 → SY → Prop} {N : Nat} {K x y a b : Int32} (hN : N ≤ 12) (h : (x < 0 ∨ nI N ≤ x) ∨ ((∃ j, j < N ∧ x = nI j) ∧ (y < 0 ∨ nI N ≤ y))) (hp : post (-3) (nI N, ov, rr, rw, tc, tr, nk, nl, nr, np, nq, ny, nw, nu, ys, gv, nd, ro, re)) : wpY_two post (nI N, ov, rr, rw, tc, tr, nk, nl, nr, np, nq, ny, nw, nu, ys, gv, nd, ro, re) K x y a b := by
  unfold wpY_two
  dsimp only
  rcases h with h | ⟨⟨j, hj, rfl⟩, h⟩
  · exact ya_node_bad h (br_f (by decide) hp)
  · exact ya_node_ok hN hj (br_t rfl (ya_node_bad h (br_f (by decide) hp)))
theorem yt_used {post : Int32 → SY → Prop} {N j m : Nat} {K a b : Int32} (hN : N ≤ 12) (hj : j < N) (hm : m < N) (h : ¬ (nu j = 0 ∧ nu m = 0 ∧ j ≠ m)) (hp : post (-4) (nI N, ov, rr, rw, tc, tr, nk, nl, nr, np, nq, ny, nw, nu, ys, gv, nd, ro, re)) : wpY_two post (nI N, ov, rr, rw, tc, tr, nk, nl, nr, np, nq, ny, nw, nu, ys, gv, nd, ro, re) K (nI j) (nI m) a b := by
  unfold wpY_two
  dsimp only
  refine ya_node_ok hN hj (br_t rfl (ya_node_ok hN hm (br_t rfl ⟨vp_in_nI (by omega) (by decide), ?_⟩)))
  rw [nI_clamp (show j < 2 ^ 31 by omega), nI_clamp (show m < 2 ^ 31 by omega)]
  exact br_c (fun e1 => ⟨vp_in_nI (by omega) (by decide), br_c (fun e2 => br_c (fun _ => hp) (fun e3 => absurd ⟨e1, e2, fun z => e3 (by rw [z])⟩ h)) (fun _ => hp)⟩) (fun _ => hp)
theorem yt_col {post : Int32 → SY → Prop} {N j m w v : Nat} {K a b : Int32} (hN : N ≤ 12) (hj : j < N) (hm : m < N) (h : nu j = 0 ∧ nu m = 0 ∧ j ≠ m) (hw : nw j = nI w) (hw6 : w ≤ 6) (hv : nw m = nI v) (hab : (a < 0 ∨ nI w ≤ a) ∨ ((∃ c, c < w ∧ a = nI c) ∧ (b < 0 ∨ nI v ≤ b))) (hp : post (-5) (nI N, ov, rr, rw, tc, tr, nk, nl, nr, np, nq, ny, nw, nu, ys, gv, nd, ro, re)) : wpY_two post (nI N, ov, rr, rw, tc, tr, nk, nl, nr, np, nq, ny, nw, nu, ys, gv, nd, ro, re) K (nI j) (nI m) a b := by
  have vj : vp_in (nI j) 12 := vp_in_nI (by omega) (by decide)
  have vm : vp_in (nI m) 12 := vp_in_nI (by omega) (by decide)
  unfold wpY_two
  dsimp only
  refine ya_node_ok hN hj (br_t rfl (ya_node_ok hN hm (br_t rfl ⟨vj, ?_⟩)))
  rw [nI_clamp (show j < 2 ^ 31 by omega), nI_clamp (show m < 2 ^ 31 by omega), hw, hv]
  refine br_t h.1 ⟨vm, br_t h.2.1 (br_f (fun z => h.2.2 ((nI_eq (by omega) (by omega)).mp z)) ?_)⟩
  rcases hab with e | ⟨⟨c, hc, rfl⟩, e⟩
  · exact cb_d1 e vj hp
  · exact cb_d2 hc hw6 vj (cb_c1 e vm hp)
theorem yt_go {post : Int32 → SY → Prop} {N j m w v c d : Nat} {K : Int32} (hN : N ≤ 12) (hj : j < N) (hm : m < N) (h : nu j = 0 ∧ nu m = 0 ∧ j ≠ m) (hw : nw j = nI w) (hw6 : w ≤ 6) (hv : nw m = nI v) (hv6 : v ≤ 6) (hc : c < w) (hd : d < v)
    (h4 : K = 4 → 6 < w + v → post (-7) (nI N, ov, rr, rw, tc, tr, nk, nl, nr, np, nq, ny, nw, nu, ys, gv, nd, ro, re)) (hp : (K = 4 → w + v ≤ 6) → wY_two_106 post K (nI j) (nI m) (nI c) (nI d) (nI N) ov rr rw tc tr nk nl nr np nq ny nw nu ys gv nd ro re) : wpY_two post (nI N, ov, rr, rw, tc, tr, nk, nl, nr, np, nq, ny, nw, nu, ys, gv, nd, ro, re) K (nI j) (nI m) (nI c) (nI d) := by
  have vj : vp_in (nI j) 12 := vp_in_nI (by omega) (by decide)
  have vm : vp_in (nI m) 12 := vp_in_nI (by omega) (by decide)
  unfold wpY_two
  dsimp only
  refine ya_node_ok hN hj (br_t rfl (ya_node_ok hN hm (br_t rfl ⟨vj, ?_⟩)))
  rw [nI_clamp (show j < 2 ^ 31 by omega), nI_clamp (show m < 2 ^ 31 by omega), hw, hv, nI_add]
  refine br_t h.1 ⟨vm, br_t h.2.1 (br_f (fun z => h.2.2 ((nI_eq (by omega) (by omega)).mp z)) (cb_d2 hc hw6 vj (cb_c2 hd hv6 vm (br_c (fun e => ⟨vj, vm, pk_le (w + v) 6 (fun l => hp fun _ => l) (fun l => h4 e l)⟩) (fun e => hp fun z => absurd z e)))))⟩
theorem yt_full {post : Int32 → SY → Prop} {K x y a b : Int32} (hp : post (-2) (nI 12, ov, rr, rw, tc, tr, nk, nl, nr, np, nq, ny, nw, nu, ys, gv, nd, ro, re)) : wY_two_106 post K x y a b (nI 12) ov rr rw tc tr nk nl nr np nq ny nw nu ys gv nd ro re := br_t rfl hp
theorem yt_mk {post : Int32 → SY → Prop} {N j m w v : Nat} {K W a b : Int32} (hN : N < 12) (hj : j < N) (hm : m < N) (hw : nw j = nI w) (hv : nw m = nI v) (hW : (K = 4 ∧ W = nI (w + v)) ∨ (¬ K = 4 ∧ W = nI w))
    (hp : post (nI N) (nI (N + 1), ov, rr, rw, tc, tr, upd nk N K, upd nl N (nI j), upd nr N (nI m), upd np N a, upd nq N b, upd ny N 0, upd nw N W, rl_us nu N (nI j) (nI m), ys, gv, nd, ro, re)) : wY_two_106 post K (nI j) (nI m) a b (nI N) ov rr rw tc tr nk nl nr np nq ny nw nu ys gv nd ro re := by
  have vj : vp_in (nI j) 12 := vp_in_nI (by omega) (by decide)
  have vm : vp_in (nI m) 12 := vp_in_nI (by omega) (by decide)
  refine br_f (cb_12 hN) ?_
  rw [nI_clamp (show j < 2 ^ 31 by omega), nI_clamp (show m < 2 ^ 31 by omega), hw, hv, nI_add]
  rcases hW with ⟨e, rfl⟩ | ⟨e, rfl⟩
  · exact br_t e ⟨vj, vm, ya_make hN (Or.inr ⟨j, by omega, rfl⟩) (Or.inr ⟨m, by omega, rfl⟩) (ya_say hN hp)⟩
  · exact br_f e ⟨vj, ya_make hN (Or.inr ⟨j, by omega, rfl⟩) (Or.inr ⟨m, by omega, rfl⟩) (ya_say hN hp)⟩
end
theorem cb_2 (x y : Int32) (n m : Nat) (hn : n ≤ 20) (hm : m ≤ 20) : ((x < 0 ∨ nI n ≤ x) ∨ ((∃ j, j < n ∧ x = nI j) ∧ (y < 0 ∨ nI m ≤ y))) ∨ ∃ j i : Nat, j < n ∧ i < m ∧ x = nI j ∧ y = nI i := by
  rcases cb_ix x n hn with h | ⟨j, hj, e⟩
  · exact Or.inl (Or.inl h)
  · rcases cb_ix y m hm with h | ⟨i, hi, e2⟩
    · exact Or.inl (Or.inr ⟨⟨j, hj, e⟩, h⟩)
    · exact Or.inr ⟨j, i, hj, hi, e, e2⟩
theorem i_vc_join {k : Nat} {u : SX} {v : SY} (I : i_Rel k u v) (hk : k + 5 ≤ 2560) (v1 : Int32) (v2 : Int32) (v3 : Int32) (v4 : Int32) : wpX_join (fun r u' => wpY_join (fun r' v' => r' = r ∧ i_Rel (k + 5) u' v') v v1 v2 v3 v4) u v1 v2 v3 v4 := by
  obtain ⟨nc, ov, rr, rw, tc, tr, nk, nw, nl, nr, nf, ns, nt, nu, ip, bc, br, rc, np, nq, ny, ys, gv, nd, ro, re, rfl, rfl, hW⟩ := I
  have same : ∀ r : Int32, r = r ∧ i_Rel (k + 5) (nc, rr, rw, tc, tr, nk, nw, nl, nr, nf, ns, nt, nu, ip, bc, br, rc) (nc, ov, rr, rw, tc, tr, nk, nl, nr, np, nq, ny, nw, nu, ys, gv, nd, ro, re) := fun r => ⟨rfl, rl_mk hW⟩
  have hW0 := hW
  obtain ⟨⟨N, hN, rfl, hNd⟩, hT, hRs⟩ := hW0
  unfold wpX_join
  dsimp only
  rcases cb_2 v1 v2 N N (by omega) (by omega) with h | ⟨j, q, hj, hq, rfl, rfl⟩
  · refine xa_mr_bad hN h (br_f (by decide) ?_)
    try dsimp only
    unfold wpY_join
    dsimp only
    exact yt_bad hN h (same _)
  · obtain ⟨w, hw6, hww⟩ := rl_wid (hNd j hj)
    obtain ⟨v, hv6, hvv⟩ := rl_wid (hNd q hq)
    have vj : vp_in (nI j) 12 := vp_in_nI (by omega) (by decide)
    have vq : vp_in (nI q) 12 := vp_in_nI (by omega) (by decide)
    by_cases hu : nu j = 0 ∧ nu q = 0 ∧ j ≠ q
    · rcases cb_2 v3 v4 w v (by omega) (by omega) with h | ⟨c, d, hc, hd, rfl, rfl⟩
      · refine xa_mr_col hN hj hq hu hww hw6 hvv h (br_f (by decide) ?_)
        try dsimp only
        unfold wpY_join
        dsimp only
        exact yt_col hN hj hq hu hww hw6 hvv h (same _)
      · refine xa_mr_ok hN hj hq hu hww hw6 hvv hv6 hc hd (br_t rfl ?_)
        refine ⟨vj, vq, nm_r (e' := nI (w + v)) (by rw [nI_clamp (show j < 2 ^ 31 by omega), nI_clamp (show q < 2 ^ 31 by omega), hww, hvv, nI_add]) ?_⟩
        refine pk_le (w + v) 6 (fun l => ?_) (fun l => ?_)
        · rcases cb_N hN with rfl | hN'
          · refine xa_full ?_
            try dsimp only
            unfold wpY_join
            dsimp only
            exact yt_go hN hj hq hu hww hw6 hvv hv6 hc hd (fun _ z => absurd z (by omega)) (fun _ => yt_full (same _))
          · refine xa_add hN' (Or.inr ⟨j, by omega, rfl⟩) (Or.inr ⟨q, by omega, rfl⟩) ?_
            try dsimp only
            unfold wpY_join
            dsimp only
            exact yt_go hN hj hq hu hww hw6 hvv hv6 hc hd (fun _ z => absurd z (by omega)) (fun _ => yt_mk hN' hj hq hww hvv (Or.inl ⟨rfl, rfl⟩) ⟨rfl, rl_mk (rl_add hW hN' rl_u rl_u rl_u rl_u rl_u rl_u rl_u rl_u rl_u rl_u (by simp only [pk_us]; exact rn_join hj hq hww hvv l hc hd))⟩)
        · skip
          try dsimp only
          unfold wpY_join
          dsimp only
          exact yt_go hN hj hq hu hww hw6 hvv hv6 hc hd (fun _ _ => same _) (fun z => absurd (z rfl) (by omega))
    · refine xa_mr_used hN hj hq hu (br_f (by decide) ?_)
      try dsimp only
      unfold wpY_join
      dsimp only
      exact yt_used hN hj hq hu (same _)
theorem i_vc_semi {k : Nat} {u : SX} {v : SY} (I : i_Rel k u v) (hk : k + 5 ≤ 2560) (v1 : Int32) (v2 : Int32) (v3 : Int32) (v4 : Int32) : wpX_semi (fun r u' => wpY_semi (fun r' v' => r' = r ∧ i_Rel (k + 5) u' v') v v1 v2 v3 v4) u v1 v2 v3 v4 := by
  obtain ⟨nc, ov, rr, rw, tc, tr, nk, nw, nl, nr, nf, ns, nt, nu, ip, bc, br, rc, np, nq, ny, ys, gv, nd, ro, re, rfl, rfl, hW⟩ := I
  have same : ∀ r : Int32, r = r ∧ i_Rel (k + 5) (nc, rr, rw, tc, tr, nk, nw, nl, nr, nf, ns, nt, nu, ip, bc, br, rc) (nc, ov, rr, rw, tc, tr, nk, nl, nr, np, nq, ny, nw, nu, ys, gv, nd, ro, re) := fun r => ⟨rfl, rl_mk hW⟩
  have hW0 := hW
  obtain ⟨⟨N, hN, rfl, hNd⟩, hT, hRs⟩ := hW0
  unfold wpX_semi
  dsimp only
  unfold wpX_addLeftRowsNode
  dsimp only
  rcases cb_2 v1 v2 N N (by omega) (by omega) with h | ⟨j, q, hj, hq, rfl, rfl⟩
  · refine xa_mr_bad hN h (br_f (by decide) ?_)
    try dsimp only
    unfold wpY_semi
    dsimp only
    exact yt_bad hN h (same _)
  · obtain ⟨w, hw6, hww⟩ := rl_wid (hNd j hj)
    obtain ⟨v, hv6, hvv⟩ := rl_wid (hNd q hq)
    have vj : vp_in (nI j) 12 := vp_in_nI (by omega) (by decide)
    have vq : vp_in (nI q) 12 := vp_in_nI (by omega) (by decide)
    by_cases hu : nu j = 0 ∧ nu q = 0 ∧ j ≠ q
    · rcases cb_2 v3 v4 w v (by omega) (by omega) with h | ⟨c, d, hc, hd, rfl, rfl⟩
      · refine xa_mr_col hN hj hq hu hww hw6 hvv h (br_f (by decide) ?_)
        try dsimp only
        unfold wpY_semi
        dsimp only
        exact yt_col hN hj hq hu hww hw6 hvv h (same _)
      · refine xa_mr_ok hN hj hq hu hww hw6 hvv hv6 hc hd (br_t rfl ?_)
        refine ⟨vj, ?_⟩
        rw [nI_clamp (show j < 2 ^ 31 by omega), hww]
        have nk4 : ¬ (5 : Int32) = 4 := by decide
        rcases cb_N hN with rfl | hN'
        · refine xa_full ?_
          try dsimp only
          unfold wpY_semi
          dsimp only
          exact yt_go hN hj hq hu hww hw6 hvv hv6 hc hd (fun z _ => absurd z nk4) (fun _ => yt_full (same _))
        · refine xa_add hN' (Or.inr ⟨j, by omega, rfl⟩) (Or.inr ⟨q, by omega, rfl⟩) ?_
          try dsimp only
          unfold wpY_semi
          dsimp only
          exact yt_go hN hj hq hu hww hw6 hvv hv6 hc hd (fun z _ => absurd z nk4) (fun _ => yt_mk hN' hj hq hww hvv (Or.inr ⟨nk4, rfl⟩) ⟨rfl, rl_mk (rl_add hW hN' rl_u rl_u rl_u rl_u rl_u rl_u rl_u rl_u rl_u rl_u (by simp only [pk_us]; exact rn_semi hj hq hww hw6 hvv hv6 hc hd))⟩)
    · refine xa_mr_used hN hj hq hu (br_f (by decide) ?_)
      try dsimp only
      unfold wpY_semi
      dsimp only
      exact yt_used hN hj hq hu (same _)
theorem i_vc_anti {k : Nat} {u : SX} {v : SY} (I : i_Rel k u v) (hk : k + 5 ≤ 2560) (v1 : Int32) (v2 : Int32) (v3 : Int32) (v4 : Int32) : wpX_anti (fun r u' => wpY_anti (fun r' v' => r' = r ∧ i_Rel (k + 5) u' v') v v1 v2 v3 v4) u v1 v2 v3 v4 := by
  obtain ⟨nc, ov, rr, rw, tc, tr, nk, nw, nl, nr, nf, ns, nt, nu, ip, bc, br, rc, np, nq, ny, ys, gv, nd, ro, re, rfl, rfl, hW⟩ := I
  have same : ∀ r : Int32, r = r ∧ i_Rel (k + 5) (nc, rr, rw, tc, tr, nk, nw, nl, nr, nf, ns, nt, nu, ip, bc, br, rc) (nc, ov, rr, rw, tc, tr, nk, nl, nr, np, nq, ny, nw, nu, ys, gv, nd, ro, re) := fun r => ⟨rfl, rl_mk hW⟩
  have hW0 := hW
  obtain ⟨⟨N, hN, rfl, hNd⟩, hT, hRs⟩ := hW0
  unfold wpX_anti
  dsimp only
  unfold wpX_addLeftRowsNode
  dsimp only
  rcases cb_2 v1 v2 N N (by omega) (by omega) with h | ⟨j, q, hj, hq, rfl, rfl⟩
  · refine xa_mr_bad hN h (br_f (by decide) ?_)
    try dsimp only
    unfold wpY_anti
    dsimp only
    exact yt_bad hN h (same _)
  · obtain ⟨w, hw6, hww⟩ := rl_wid (hNd j hj)
    obtain ⟨v, hv6, hvv⟩ := rl_wid (hNd q hq)
    have vj : vp_in (nI j) 12 := vp_in_nI (by omega) (by decide)
    have vq : vp_in (nI q) 12 := vp_in_nI (by omega) (by decide)
    by_cases hu : nu j = 0 ∧ nu q = 0 ∧ j ≠ q
    · rcases cb_2 v3 v4 w v (by omega) (by omega) with h | ⟨c, d, hc, hd, rfl, rfl⟩
      · refine xa_mr_col hN hj hq hu hww hw6 hvv h (br_f (by decide) ?_)
        try dsimp only
        unfold wpY_anti
        dsimp only
        exact yt_col hN hj hq hu hww hw6 hvv h (same _)
      · refine xa_mr_ok hN hj hq hu hww hw6 hvv hv6 hc hd (br_t rfl ?_)
        refine ⟨vj, ?_⟩
        rw [nI_clamp (show j < 2 ^ 31 by omega), hww]
        have nk4 : ¬ (6 : Int32) = 4 := by decide
        rcases cb_N hN with rfl | hN'
        · refine xa_full ?_
          try dsimp only
          unfold wpY_anti
          dsimp only
          exact yt_go hN hj hq hu hww hw6 hvv hv6 hc hd (fun z _ => absurd z nk4) (fun _ => yt_full (same _))
        · refine xa_add hN' (Or.inr ⟨j, by omega, rfl⟩) (Or.inr ⟨q, by omega, rfl⟩) ?_
          try dsimp only
          unfold wpY_anti
          dsimp only
          exact yt_go hN hj hq hu hww hw6 hvv hv6 hc hd (fun z _ => absurd z nk4) (fun _ => yt_mk hN' hj hq hww hvv (Or.inr ⟨nk4, rfl⟩) ⟨rfl, rl_mk (rl_add hW hN' rl_u rl_u rl_u rl_u rl_u rl_u rl_u rl_u rl_u rl_u (by simp only [pk_us]; exact rn_anti hj hq hww hw6 hvv hv6 hc hd))⟩)
    · refine xa_mr_used hN hj hq hu (br_f (by decide) ?_)
      try dsimp only
      unfold wpY_anti
      dsimp only
      exact yt_used hN hj hq hu (same _)
theorem i_vc_union {k : Nat} {u : SX} {v : SY} (I : i_Rel k u v) (hk : k + 5 ≤ 2560) (v1 : Int32) (v2 : Int32) : wpX_union (fun r u' => wpY_union (fun r' v' => r' = r ∧ i_Rel (k + 5) u' v') v v1 v2) u v1 v2 := by
  obtain ⟨nc, ov, rr, rw, tc, tr, nk, nw, nl, nr, nf, ns, nt, nu, ip, bc, br, rc, np, nq, ny, ys, gv, nd, ro, re, rfl, rfl, hW⟩ := I
  have same : ∀ r : Int32, r = r ∧ i_Rel (k + 5) (nc, rr, rw, tc, tr, nk, nw, nl, nr, nf, ns, nt, nu, ip, bc, br, rc) (nc, ov, rr, rw, tc, tr, nk, nl, nr, np, nq, ny, nw, nu, ys, gv, nd, ro, re) := fun r => ⟨rfl, rl_mk hW⟩
  have hW0 := hW
  obtain ⟨⟨N, hN, rfl, hNd⟩, hT, hRs⟩ := hW0
  unfold wpX_union
  dsimp only
  rcases cb_2 v1 v2 N N (by omega) (by omega) with h | ⟨j, q, hj, hq, rfl, rfl⟩
  · refine xa_ins_bad hN h (br_f (by decide) ?_)
    try dsimp only
    unfold wpY_union
    dsimp only
    rcases h with h | ⟨⟨j, hj, rfl⟩, h⟩
    · exact ya_node_bad h (br_f (by decide) (same _))
    · exact ya_node_ok hN hj (br_t rfl (ya_node_bad h (br_f (by decide) (same _))))
  · obtain ⟨w, hw6, hww⟩ := rl_wid (hNd j hj)
    obtain ⟨v, hv6, hvv⟩ := rl_wid (hNd q hq)
    have vj : vp_in (nI j) 12 := vp_in_nI (by omega) (by decide)
    have vq : vp_in (nI q) 12 := vp_in_nI (by omega) (by decide)
    have cj : (nI j).toNatClampNeg = j := nI_clamp (by omega)
    have cq : (nI q).toNatClampNeg = q := nI_clamp (by omega)
    by_cases hu : nu j = 0 ∧ nu q = 0 ∧ j ≠ q
    · have njq : ¬ nI j = nI q := fun z => hu.2.2 ((nI_eq (by omega) (by omega)).mp z)
      refine xa_ins_ok hN hj hq hu (br_t rfl ⟨vj, vq, ?_⟩)
      rw [cj, cq, hww, hvv]
      refine pk_eq w v (fun e => ⟨vj, ?_⟩) (fun e => ?_)
      · subst e
        rcases cb_N hN with rfl | hN'
        · refine xa_full ?_
          try dsimp only
          unfold wpY_union
          dsimp only
          refine ya_node_ok hN hj (br_t rfl (ya_node_ok hN hq (br_t rfl ⟨vj, ?_⟩)))
          rw [cj, cq, hww, hvv]
          exact br_t hu.1 ⟨vq, br_t hu.2.1 (br_f njq ⟨vj, vq, br_t rfl (br_t rfl (same _))⟩)⟩
        · refine xa_add hN' (Or.inr ⟨j, by omega, rfl⟩) (Or.inr ⟨q, by omega, rfl⟩) ?_
          try dsimp only
          unfold wpY_union
          dsimp only
          refine ya_node_ok hN hj (br_t rfl (ya_node_ok hN hq (br_t rfl ⟨vj, ?_⟩)))
          rw [cj, cq, hww, hvv]
          exact br_t hu.1 ⟨vq, br_t hu.2.1 (br_f njq ⟨vj, vq, br_t rfl (br_f (cb_12 hN') ⟨vj, ya_make hN' (Or.inr ⟨j, by omega, rfl⟩) (Or.inr ⟨q, by omega, rfl⟩) ⟨rfl, rl_mk (rl_add hW hN' rl_u rl_u rl_u rl_u rl_u rl_u rl_u rl_r rl_r rl_r (by simp only [pk_us]; exact rn_union hj hq hw6 hww hvv))⟩⟩)⟩)⟩
      · skip
        try dsimp only
        unfold wpY_union
        dsimp only
        refine ya_node_ok hN hj (br_t rfl (ya_node_ok hN hq (br_t rfl ⟨vj, ?_⟩)))
        rw [cj, cq, hww, hvv]
        exact br_t hu.1 ⟨vq, br_t hu.2.1 (br_f njq ⟨vj, vq, br_f (fun z => e ((nI_eq (by omega) (by omega)).mp z)) (same _)⟩)⟩
    · refine xa_ins_used hN hj hq hu (br_f (by decide) ?_)
      try dsimp only
      unfold wpY_union
      dsimp only
      refine ya_node_ok hN hj (br_t rfl (ya_node_ok hN hq (br_t rfl ⟨vj, ?_⟩)))
      rw [cj, cq]
      exact br_c (fun e1 => ⟨vq, br_c (fun e2 => br_c (fun _ => same _) (fun e3 => absurd ⟨e1, e2, fun z => e3 (by rw [z])⟩ hu)) (fun _ => same _)⟩) (fun _ => same _)
end
section
/-! run -/
theorem i_vc_run {k : Nat} {u : SX} {v : SY} (I : i_Rel k u v) (hk : k + 5 ≤ 2560) (v1 : Int32) : wpX_run (fun r u' => wpY_run (fun r' v' => r' = r ∧ i_Rel (k + 5) u' v') v v1) u v1 := by
  obtain ⟨nc, ov, rr, rw, tc, tr, nk, nw, nl, nr, nf, ns, nt, nu, ip, bc, br, rc, np, nq, ny, ys, gv, nd, ro, re, rfl, rfl, hW⟩ := I
  have same : ∀ r : Int32, r = r ∧ i_Rel (k + 5) (nc, rr, rw, tc, tr, nk, nw, nl, nr, nf, ns, nt, nu, ip, bc, br, rc) (nc, ov, rr, rw, tc, tr, nk, nl, nr, np, nq, ny, nw, nu, ys, gv, nd, ro, re) := fun r => ⟨rfl, rl_mk hW⟩
  have hW0 := hW
  obtain ⟨⟨N, hN, rfl, hNd⟩, hT, hRs⟩ := hW0
  unfold wpX_run
  dsimp only
  rcases cb_ix v1 N (by omega) with h | ⟨R, hR, rfl⟩
  · refine xa_node_bad h (br_t rfl ?_)
    try dsimp only
    unfold wpY_run
    dsimp only
    exact ya_node_bad h (br_f (by decide) (same _))
  · have hT2 : ∀ t, t < 3 → ∃ h, h ≤ 6 ∧ tr t = nI h ∧ (fun t => bs_scan tc t (tr t).toNatClampNeg) t = bs_scan tc t h := fun t ht => by
      obtain ⟨h, hh, e⟩ := hT t ht
      exact ⟨h, hh, e, by dsimp only; rw [e, nI_clamp (by omega)]⟩
    obtain ⟨B, Wd, hB⟩ := rl_bag (fun t => bs_scan tc t (tr t).toNatClampNeg) N hNd
    have hok : ∀ x, x ≤ R → mk_ok nl nr x := fun x hx => nd_lr (hB x (by omega)).1
    have hok2 : ∀ x, x < R + 1 → mk_ok nl nr x := fun x hx => hok x (by omega)
    refine xa_node_ok hN hR (br_f (by decide) (xb_mark (by omega) hok fun ip' a0 h1 h2 e => ?_))
    dsimp only
    have hM : ∀ k, k ≤ R → ¬ ip' k = 0 → ∀ l, (nl k = nI l ∨ nr k = nI l) → l < k → ¬ ip' l = 0 := fun k hk hz l hl hlk => by
      rw [e] at hz ⊢
      exact mk_F_cl (R + 1) a0 (by omega) hok2 k (by omega) hz l hl hlk
    have hMR : ¬ ip' R = 0 := by
      rw [e]
      exact mk_F_mono _ _ (by rw [h2]; decide)
    have agree : ∀ (nd' b0 : Nat → Int32), (∀ j, j < R → b0 j = 0) → b0 R = 1 → nd' = mk_F nl nr (R + 1) b0 → ∀ j, j ≤ R → nd' j = ip' j := fun nd' b0 g1 g2 e2 j hj => by
      rw [e, e2]
      refine mk_F_c (R + 1) b0 a0 (Nat.le_refl _) (fun i hi => ?_) j hj
      by_cases ei : i = R
      · rw [ei, g2, h2]
      · rw [g1 i (by omega), h1 i (by omega)]
    refine xb_loop (TB := fun t => bs_scan tc t (tr t).toNatClampNeg) (by omega) (fun k hk => (hB k (by omega)).1) hT2 hM hMR (fun hov bc' br' => ?_) (fun hno bc' br' rc' S hS hrc => ?_)
    · skip
      try dsimp only
      unfold wpY_run
      dsimp only
      refine ya_node_ok hN hR (br_t rfl (yb_mark (by omega) hok fun nd' b0 g1 g2 e2 => ?_))
      have ag := agree nd' b0 g1 g2 e2
      refine yb_loop (TB := fun t => bs_scan tc t (tr t).toNatClampNeg) (B := B) (Wd := Wd) (by omega) (fun k hk => (hB k (by omega)).2) hT2 (fun k hk hz l hl hlk => ?_) (by rw [ag R (Nat.le_refl _)]; exact hMR) (fun _ ov' ys' gv' ro' => ⟨rfl, rl_mk hW⟩) (fun hno => ?_)
      · rw [ag k hk] at hz
        rw [ag l (by omega)]
        exact hM k hk hz l hl hlk
      · obtain ⟨k, hk, hz, hb⟩ := hov
        have := hno k hk (by rw [ag k hk]; exact hz)
        omega
    · skip
      try dsimp only
      unfold wpY_run
      dsimp only
      refine ya_node_ok hN hR (br_t rfl (yb_mark (by omega) hok fun nd' b0 g1 g2 e2 => ?_))
      have ag := agree nd' b0 g1 g2 e2
      refine yb_loop (TB := fun t => bs_scan tc t (tr t).toNatClampNeg) (B := B) (Wd := Wd) (by omega) (fun k hk => (hB k (by omega)).2) hT2 (fun k hk hz l hl hlk => ?_) (by rw [ag R (Nat.le_refl _)]; exact hMR) (fun hov => ?_) (fun _ => ⟨S, hS, fun ov' ys' gv' ro' re' hre => ⟨rfl, rl_mk ⟨hW.1, hT, (B R).1, Wd R, hno R (Nat.le_refl _) hMR, (hB R hR).1.1, rfl, rfl, fun i hi c hc => (hre i hi c hc).trans (hrc i hi c hc).symm⟩⟩⟩)
      · rw [ag k hk] at hz
        rw [ag l (by omega)]
        exact hM k hk hz l hl hlk
      · obtain ⟨k, hk, hz, hb⟩ := hov
        have := hno k hk (by rw [← ag k hk]; exact hz)
        omega
end
