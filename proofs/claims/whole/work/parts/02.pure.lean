/-! bags: a number of rows, and the rows -/
abbrev bg_T : Type := Nat × (Nat → Nat → Int32)
def bg_0 : bg_T := (0, fun _ _ => 0)
def bg_push (b : bg_T) (r : Nat → Int32) : bg_T := (b.1 + 1, fun i => if i = b.1 then r else b.2 i)
noncomputable def bg_ci {α : Type} (P : Prop) (a b : α) : α := @ite α P (Classical.propDecidable P) a b
theorem bg_ct {α : Type} {P : Prop} {a b : α} (h : P) : bg_ci P a b = a := by
  unfold bg_ci; exact if_pos h
theorem bg_cf {α : Type} {P : Prop} {a b : α} (h : ¬ P) : bg_ci P a b = b := by
  unfold bg_ci; exact if_neg h
noncomputable def bg_sel (b : bg_T) (P : Nat → Prop) (row : Nat → Nat → Int32) : Nat → bg_T
  | 0 => b
  | i + 1 => bg_ci (P i) (bg_push (bg_sel b P row i) (row i)) (bg_sel b P row i)
theorem bg_sel_t {b : bg_T} {P : Nat → Prop} {row : Nat → Nat → Int32} {i : Nat} (h : P i) : bg_sel b P row (i + 1) = bg_push (bg_sel b P row i) (row i) := bg_ct h
theorem bg_sel_f {b : bg_T} {P : Nat → Prop} {row : Nat → Nat → Int32} {i : Nat} (h : ¬ P i) : bg_sel b P row (i + 1) = bg_sel b P row i := bg_cf h
theorem bg_sel_le (b : bg_T) (P : Nat → Prop) (row : Nat → Nat → Int32) (i : Nat) : (bg_sel b P row i).1 ≤ b.1 + i := by
  induction i with
  | zero => exact Nat.le_refl _
  | succ i ih =>
    by_cases h : P i
    · rw [bg_sel_t h]
      show (bg_sel b P row i).1 + 1 ≤ _
      omega
    · rw [bg_sel_f h]
      omega
theorem bg_ix (P : Nat → Prop) (i : Nat) : ∃ (m : Nat) (ix : Nat → Nat),
    (∀ row : Nat → Nat → Int32, (bg_sel bg_0 P row i).1 = m ∧ ∀ r, r < m → (bg_sel bg_0 P row i).2 r = row (ix r)) ∧
    (∀ r, r < m → ix r < i ∧ P (ix r)) ∧ (∀ j, j < i → P j → ∃ r, r < m ∧ ix r = j) ∧ (∀ r s, r < s → s < m → ix r < ix s) := by
  induction i with
  | zero => exact ⟨0, fun _ => 0, fun row => ⟨rfl, fun r h => absurd h (Nat.not_lt_zero r)⟩, fun r h => absurd h (Nat.not_lt_zero r), fun j h => absurd h (Nat.not_lt_zero j), fun r s _ h => absurd h (Nat.not_lt_zero s)⟩
  | succ i ih =>
    obtain ⟨m, ix, h1, h2, h3, h4⟩ := ih
    by_cases hp : P i
    · refine ⟨m + 1, fun r => if r = m then i else ix r, fun row => ?_, fun r hr => ?_, fun j hj hpj => ?_, fun r s hrs hs => ?_⟩
      · rw [bg_sel_t hp]
        obtain ⟨e1, e2⟩ := h1 row
        refine ⟨by show _ + 1 = _; rw [e1], fun r hr => ?_⟩
        show (if r = (bg_sel bg_0 P row i).1 then row i else (bg_sel bg_0 P row i).2 r) = row (if r = m then i else ix r)
        rw [e1]
        by_cases hm : r = m
        · rw [if_pos hm, if_pos hm]
        · rw [if_neg hm, if_neg hm]
          exact e2 r (by omega)
      · dsimp only
        by_cases hm : r = m
        · rw [if_pos hm]
          exact ⟨by omega, hp⟩
        · rw [if_neg hm]
          have := h2 r (by omega)
          exact ⟨by omega, this.2⟩
      · by_cases hji : j = i
        · exact ⟨m, by omega, by dsimp only; rw [if_pos rfl, hji]⟩
        · obtain ⟨r, hr, e⟩ := h3 j (by omega) hpj
          exact ⟨r, by omega, by dsimp only; rw [if_neg (show ¬ r = m by omega)]; exact e⟩
      · dsimp only
        by_cases hm : s = m
        · rw [if_neg (show ¬ r = m by omega), if_pos hm]
          exact (h2 r (by omega)).1
        · rw [if_neg (show ¬ r = m by omega), if_neg hm]
          exact h4 r s hrs (by omega)
    · refine ⟨m, ix, fun row => ?_, fun r hr => ?_, fun j hj hpj => ?_, h4⟩
      · rw [bg_sel_f hp]
        exact h1 row
      · have := h2 r hr
        exact ⟨by omega, this.2⟩
      · by_cases hji : j = i
        · exact absurd (hji ▸ hpj) hp
        · exact h3 j (by omega) hpj
/-! distinct -/
def bg_eqw (w : Nat) (a b : Nat → Int32) : Prop := ∀ c, c < w → a c = b c
theorem bg_eqw_s {w : Nat} {a b : Nat → Int32} (h : bg_eqw w a b) : bg_eqw w b a := fun c hc => (h c hc).symm
theorem bg_eqw_t {w : Nat} {a b d : Nat → Int32} (h : bg_eqw w a b) (k : bg_eqw w b d) : bg_eqw w a d := fun c hc => (h c hc).trans (k c hc)
noncomputable def bs_dist (b : bg_T) (w i : Nat) : bg_T := bg_sel bg_0 (fun i => ∀ j, j < i → ¬ bg_eqw w (b.2 i) (b.2 j)) b.2 i
theorem bs_dist_has (b : bg_T) (w i : Nat) (x : Nat → Int32) : (∃ r, r < (bs_dist b w i).1 ∧ bg_eqw w ((bs_dist b w i).2 r) x) ↔ ∃ j, j < i ∧ bg_eqw w (b.2 j) x := by
  obtain ⟨m, ix, h1, h2, h3, h4⟩ := bg_ix (fun i => ∀ j, j < i → ¬ bg_eqw w (b.2 i) (b.2 j)) i
  obtain ⟨e1, e2⟩ := h1 b.2
  unfold bs_dist
  rw [e1]
  constructor
  · rintro ⟨r, hr, h⟩
    rw [e2 r hr] at h
    exact ⟨ix r, (h2 r hr).1, h⟩
  · intro h
    obtain ⟨j, ⟨hj, hx⟩, hl⟩ := pk_least _ h
    obtain ⟨r, hr, e⟩ := h3 j hj (fun a ha z => hl a ha ⟨by omega, bg_eqw_t (bg_eqw_s z) hx⟩)
    exact ⟨r, hr, by rw [e2 r hr, e]; exact hx⟩
/-! group -/
def bg_in (q v : Int32) : Int32 := if q = 0 then 0 else if q = 1 then 0 else v
def bg_st (q a v : Int32) : Int32 := if q = 0 then a + v else if q = 1 then a + 1 else if q = 2 then (if v < a then v else a) else (if v ≤ a then a else v)
def bg_tot (q : Int32) (ky vl : Nat → Int32) (k0 v0 : Int32) : Nat → Int32
  | 0 => bg_in q v0
  | j + 1 => if ky j = k0 then bg_st q (bg_tot q ky vl k0 v0 j) (vl j) else bg_tot q ky vl k0 v0 j
theorem bg_tot_t {q : Int32} {ky vl : Nat → Int32} {k0 v0 : Int32} {j : Nat} (h : ky j = k0) : bg_tot q ky vl k0 v0 (j + 1) = bg_st q (bg_tot q ky vl k0 v0 j) (vl j) := if_pos h
theorem bg_tot_f {q : Int32} {ky vl : Nat → Int32} {k0 v0 : Int32} {j : Nat} (h : ¬ ky j = k0) : bg_tot q ky vl k0 v0 (j + 1) = bg_tot q ky vl k0 v0 j := if_neg h
def bg_grow (q : Int32) (ky vl : Nat → Int32) (N i : Nat) : Nat → Int32 := fun c => if c = 0 then ky i else bg_tot q ky vl (ky i) (vl i) N
def bg_fst (ky : Nat → Int32) (i : Nat) : Prop := ∀ j, j < i → ¬ ky j = ky i
noncomputable def bs_grp (q : Int32) (ky vl : Nat → Int32) (N i : Nat) : bg_T := bg_sel bg_0 (bg_fst ky) (bg_grow q ky vl N) i
theorem bg_tot_lo {q : Int32} {ky vl : Nat → Int32} {i : Nat} {v0 : Int32} (h : bg_fst ky i) : ∀ N, N ≤ i → bg_tot q ky vl (ky i) v0 N = bg_in q v0 := by
  intro N
  induction N with
  | zero => exact fun _ => rfl
  | succ N ih => exact fun hN => (bg_tot_f (h N hN)).trans (ih (by omega))
theorem bg_st_in (q v : Int32) : bg_st q (bg_in q v) v = if q = 1 then 1 else v := by
  unfold bg_st bg_in
  by_cases h0 : q = 0
  · subst h0
    simp
  · by_cases h1 : q = 1
    · subst h1
      simp
    · by_cases h2 : q = 2
      · subst h2
        simp
      · simp [h0, h1, h2]
theorem bg_tot_first {q : Int32} {ky vl : Nat → Int32} {i : Nat} (h : bg_fst ky i) : bg_tot q ky vl (ky i) (vl i) (i + 1) = if q = 1 then 1 else vl i := by
  rw [bg_tot_t rfl, bg_tot_lo h i (Nat.le_refl i), bg_st_in]
theorem bg_grp_fst {q : Int32} {ky vl : Nat → Int32} {N i : Nat} : (∃ r, r < (bs_grp q ky vl N i).1 ∧ (bs_grp q ky vl N i).2 r 0 = ky i) ↔ ¬ bg_fst ky i := by
  obtain ⟨m, ix, h1, h2, h3, h4⟩ := bg_ix (bg_fst ky) i
  obtain ⟨e1, e2⟩ := h1 (bg_grow q ky vl N)
  unfold bs_grp
  rw [e1]
  constructor
  · rintro ⟨r, hr, h⟩ hf
    rw [e2 r hr] at h
    exact hf (ix r) (h2 r hr).1 h
  · intro h
    have h' : ∃ j, j < i ∧ ky j = ky i := by
      refine Classical.byContradiction fun z => h fun j hj e => z ⟨j, hj, e⟩
    obtain ⟨j, ⟨hj, hx⟩, hl⟩ := pk_least _ h'
    obtain ⟨r, hr, e⟩ := h3 j hj (fun a ha z => hl a ha ⟨by omega, z.trans hx⟩)
    exact ⟨r, hr, by rw [e2 r hr, e]; exact hx⟩
theorem bg_grp_new {q : Int32} {ky vl : Nat → Int32} {i : Nat} (hf : bg_fst ky i) : (bs_grp q ky vl (i + 1) (i + 1)).1 = (bs_grp q ky vl i i).1 + 1 ∧
    ∀ r, r < (bs_grp q ky vl i i).1 + 1 → (bs_grp q ky vl (i + 1) (i + 1)).2 r = if r = (bs_grp q ky vl i i).1 then (fun c => if c = 0 then ky i else if q = 1 then 1 else vl i) else (bs_grp q ky vl i i).2 r := by
  obtain ⟨m, ix, h1, h2, h3, h4⟩ := bg_ix (bg_fst ky) i
  obtain ⟨e1, e2⟩ := h1 (bg_grow q ky vl i)
  obtain ⟨d1, d2⟩ := h1 (bg_grow q ky vl (i + 1))
  unfold bs_grp
  rw [bg_sel_t hf, e1]
  refine ⟨by show _ + 1 = _; rw [d1], fun r hr => ?_⟩
  show (if r = (bg_sel bg_0 (bg_fst ky) (bg_grow q ky vl (i + 1)) i).1 then bg_grow q ky vl (i + 1) i else (bg_sel bg_0 (bg_fst ky) (bg_grow q ky vl (i + 1)) i).2 r) = _
  rw [d1]
  by_cases hm : r = m
  · rw [if_pos hm, if_pos hm]
    funext c
    show (if c = 0 then ky i else bg_tot q ky vl (ky i) (vl i) (i + 1)) = _
    rw [bg_tot_first hf]
  · rw [if_neg hm, if_neg hm, d2 r (by omega), e2 r (by omega)]
    funext c
    show (if c = 0 then _ else bg_tot q ky vl _ _ (i + 1)) = (if c = 0 then _ else bg_tot q ky vl _ _ i)
    rw [bg_tot_f (fun z => hf (ix r) (h2 r (by omega)).1 z.symm)]
theorem bg_grp_old {q : Int32} {ky vl : Nat → Int32} {i r : Nat} (hr : r < (bs_grp q ky vl i i).1) (hk : (bs_grp q ky vl i i).2 r 0 = ky i) : (bs_grp q ky vl (i + 1) (i + 1)).1 = (bs_grp q ky vl i i).1 ∧
    ∀ s, s < (bs_grp q ky vl i i).1 → ∀ c, c < 2 → (bs_grp q ky vl (i + 1) (i + 1)).2 s c = if s = r ∧ c = 1 then bg_st q ((bs_grp q ky vl i i).2 r 1) (vl i) else (bs_grp q ky vl i i).2 s c := by
  have hf : ¬ bg_fst ky i := bg_grp_fst.mp ⟨r, hr, hk⟩
  obtain ⟨m, ix, h1, h2, h3, h4⟩ := bg_ix (bg_fst ky) i
  obtain ⟨e1, e2⟩ := h1 (bg_grow q ky vl i)
  obtain ⟨d1, d2⟩ := h1 (bg_grow q ky vl (i + 1))
  unfold bs_grp at hr hk ⊢
  rw [bg_sel_f hf, e1]
  rw [e1] at hr
  rw [e2 r hr] at hk ⊢
  have hk' : ky (ix r) = ky i := hk
  refine ⟨d1, fun s hs c hc => ?_⟩
  rw [d2 s hs, e2 s hs]
  show (if c = 0 then ky (ix s) else bg_tot q ky vl (ky (ix s)) (vl (ix s)) (i + 1)) = if s = r ∧ c = 1 then bg_st q (bg_tot q ky vl (ky (ix r)) (vl (ix r)) i) (vl i) else (if c = 0 then ky (ix s) else bg_tot q ky vl (ky (ix s)) (vl (ix s)) i)
  by_cases hc0 : c = 0
  · rw [if_pos hc0, if_neg (by omega), if_pos hc0]
  · rw [if_neg hc0, if_neg hc0]
    by_cases hsr : s = r
    · rw [if_pos ⟨hsr, by omega⟩, hsr, bg_tot_t hk'.symm]
    · rw [if_neg (fun z => hsr z.1)]
      apply bg_tot_f
      intro z
      have z' : ky (ix r) = ky (ix s) := hk'.trans z
      rcases Nat.lt_or_gt_of_ne hsr with h | h
      · exact (h2 r hr).2 (ix s) (h4 s r h hr) z'.symm
      · exact (h2 s hs).2 (ix r) (h4 r s h hs) z'
