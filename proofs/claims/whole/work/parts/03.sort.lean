/-! counting, the order of rows, sorted arrangements -/
noncomputable def bg_n (P : Prop) : Nat := bg_ci P 1 0
theorem bg_n1 {P : Prop} (h : P) : bg_n P = 1 := bg_ct h
theorem bg_n0 {P : Prop} (h : ¬ P) : bg_n P = 0 := bg_cf h
theorem bg_n_c {P Q : Prop} (h : P ↔ Q) : bg_n P = bg_n Q := by rw [propext h]
noncomputable def bg_cnt (P : Nat → Prop) : Nat → Nat
  | 0 => 0
  | n + 1 => bg_cnt P n + bg_n (P n)
theorem bg_cnt_s (P : Nat → Prop) (n : Nat) : bg_cnt P (n + 1) = bg_cnt P n + bg_n (P n) := rfl
theorem bg_cnt_t {P : Nat → Prop} {n : Nat} (h : P n) : bg_cnt P (n + 1) = bg_cnt P n + 1 := by rw [bg_cnt_s, bg_n1 h]
theorem bg_cnt_f {P : Nat → Prop} {n : Nat} (h : ¬ P n) : bg_cnt P (n + 1) = bg_cnt P n := by rw [bg_cnt_s, bg_n0 h]; rfl
theorem bg_cnt_c {P Q : Nat → Prop} : ∀ n, (∀ i, i < n → (P i ↔ Q i)) → bg_cnt P n = bg_cnt Q n := by
  intro n
  induction n with
  | zero => exact fun _ => rfl
  | succ n ih =>
    intro h
    rw [bg_cnt_s, bg_cnt_s, ih (fun i hi => h i (by omega)), bg_n_c (h n (by omega))]
theorem bg_cnt_m {P Q : Nat → Prop} : ∀ n, (∀ i, i < n → P i → Q i) → bg_cnt P n ≤ bg_cnt Q n := by
  intro n
  induction n with
  | zero => exact fun _ => Nat.le_refl _
  | succ n ih =>
    intro h
    have := ih (fun i hi => h i (by omega))
    by_cases hp : P n
    · rw [bg_cnt_t hp, bg_cnt_t (h n (by omega) hp)]
      omega
    · rw [bg_cnt_f hp, bg_cnt_s]
      omega
theorem bg_cnt_lt {P Q : Nat → Prop} {k : Nat} (hq : Q k) (hp : ¬ P k) : ∀ n, k < n → (∀ i, i < n → P i → Q i) → bg_cnt P n < bg_cnt Q n := by
  intro n
  induction n with
  | zero => exact fun h => absurd h (Nat.not_lt_zero k)
  | succ n ih =>
    intro hk h
    by_cases e : k = n
    · subst e
      have := bg_cnt_m (P := P) (Q := Q) k (fun i hi => h i (by omega))
      rw [bg_cnt_f hp, bg_cnt_t hq]
      omega
    · have := ih (by omega) (fun i hi => h i (by omega))
      by_cases hp : P n
      · rw [bg_cnt_t hp, bg_cnt_t (h n (by omega) hp)]
        omega
      · rw [bg_cnt_f hp, bg_cnt_s]
        omega
theorem bg_cnt_le (P : Nat → Prop) : ∀ n, bg_cnt P n ≤ n := by
  intro n
  induction n with
  | zero => exact Nat.le_refl _
  | succ n ih =>
    by_cases hp : P n
    · rw [bg_cnt_t hp]; omega
    · rw [bg_cnt_f hp]; omega
theorem bg_cnt_all {P : Nat → Prop} : ∀ n, (∀ i, i < n → P i) → bg_cnt P n = n := by
  intro n
  induction n with
  | zero => exact fun _ => rfl
  | succ n ih =>
    intro h
    rw [bg_cnt_t (h n (by omega)), ih (fun i hi => h i (by omega))]
theorem bg_cnt_u {P : Nat → Prop} {p : Nat} (Q : Prop) : ∀ n, p < n → bg_cnt (fun i => (i = p ∧ Q) ∨ (i ≠ p ∧ P i)) n + bg_n (P p) = bg_cnt P n + bg_n Q := by
  intro n
  induction n with
  | zero => exact fun h => absurd h (Nat.not_lt_zero p)
  | succ n ih =>
    intro h
    rw [bg_cnt_s, bg_cnt_s]
    by_cases e : p = n
    · subst e
      rw [bg_cnt_c (Q := P) p (fun i hi => ⟨fun z => z.elim (fun y => absurd y.1 (by omega)) (fun y => y.2), fun z => Or.inr ⟨by omega, z⟩⟩)]
      rw [bg_n_c (show ((p = p ∧ Q) ∨ (p ≠ p ∧ P p)) ↔ Q from ⟨fun z => z.elim (fun y => y.2) (fun y => absurd rfl y.1), fun z => Or.inl ⟨rfl, z⟩⟩)]
      omega
    · have := ih (by omega)
      rw [bg_n_c (show ((n = p ∧ Q) ∨ (n ≠ p ∧ P n)) ↔ P n from ⟨fun z => z.elim (fun y => absurd y.1.symm e) (fun y => y.2), fun z => Or.inr ⟨fun y => e y.symm, z⟩⟩)]
      omega
theorem bg_cnt_sw {P Q : Nat → Prop} {p q n : Nat} (hpq : p ≠ q) (hp : p < n) (hq : q < n) (h1 : Q p ↔ P q) (h2 : Q q ↔ P p) (h3 : ∀ i, i < n → i ≠ p → i ≠ q → (Q i ↔ P i)) : bg_cnt Q n = bg_cnt P n := by
  have a := bg_cnt_u (P := P) (p := p) (P q) n hp
  have b := bg_cnt_u (P := fun i => (i = p ∧ P q) ∨ (i ≠ p ∧ P i)) (p := q) (P p) n hq
  have c : bg_cnt Q n = bg_cnt (fun i => (i = q ∧ P p) ∨ (i ≠ q ∧ ((i = p ∧ P q) ∨ (i ≠ p ∧ P i)))) n := by
    refine bg_cnt_c n fun i hi => ?_
    by_cases e1 : i = q
    · subst e1
      exact h2.trans ⟨fun z => Or.inl ⟨rfl, z⟩, fun z => z.elim (fun y => y.2) (fun y => absurd rfl y.1)⟩
    · by_cases e2 : i = p
      · subst e2
        exact h1.trans ⟨fun z => Or.inr ⟨e1, Or.inl ⟨rfl, z⟩⟩, fun z => z.elim (fun y => absurd y.1 e1) (fun y => y.2.elim (fun x => x.2) (fun x => absurd rfl x.1))⟩
      · exact (h3 i hi e2 e1).trans ⟨fun z => Or.inr ⟨e1, Or.inr ⟨e2, z⟩⟩, fun z => z.elim (fun y => absurd y.1 e1) (fun y => y.2.elim (fun x => absurd x.1 e2) (fun x => x.2))⟩
  have d : bg_n ((q = p ∧ P q) ∨ (q ≠ p ∧ P q)) = bg_n (P q) := bg_n_c ⟨fun z => z.elim (fun y => y.2) (fun y => y.2), fun z => Or.inr ⟨fun y => hpq y.symm, z⟩⟩
  rw [d] at b
  omega
theorem bg_cnt_or {P Q : Nat → Prop} : ∀ n, (∀ i, i < n → P i → ¬ Q i) → bg_cnt (fun i => P i ∨ Q i) n = bg_cnt P n + bg_cnt Q n := by
  intro n
  induction n with
  | zero => exact fun _ => rfl
  | succ n ih =>
    intro h
    have := ih (fun i hi => h i (by omega))
    by_cases hp : P n
    · rw [bg_cnt_t (P := fun i => P i ∨ Q i) (Or.inl hp), bg_cnt_t hp, bg_cnt_f (h n (by omega) hp)]
      omega
    · by_cases hq : Q n
      · rw [bg_cnt_t (P := fun i => P i ∨ Q i) (Or.inr hq), bg_cnt_f hp, bg_cnt_t hq]
        omega
      · rw [bg_cnt_f (P := fun i => P i ∨ Q i) (fun z => z.elim hp hq), bg_cnt_f hp, bg_cnt_f hq]
        omega
theorem bg_cnt_lo {E : Nat → Prop} {i : Nat} : ∀ n, i ≤ n → bg_cnt (fun j => E j ∧ j < i) n = bg_cnt E i := by
  intro n
  induction n with
  | zero =>
    intro h
    obtain rfl : i = 0 := by omega
    rfl
  | succ n ih =>
    intro h
    by_cases e : i = n + 1
    · subst e
      exact bg_cnt_c _ fun j hj => ⟨fun z => z.1, fun z => ⟨z, hj⟩⟩
    · rw [bg_cnt_f (P := fun j => E j ∧ j < i) (fun z => by have := z.2; omega)]
      exact ih (by omega)
theorem bg_cnt_iv {E : Nat → Prop} {t : Nat} : ∀ n, t < bg_cnt E n → ∃ i, i < n ∧ E i ∧ bg_cnt E i = t := by
  intro n
  induction n with
  | zero => exact fun h => absurd h (Nat.not_lt_zero t)
  | succ n ih =>
    intro h
    by_cases e : t < bg_cnt E n
    · obtain ⟨i, hi, a, b⟩ := ih e
      exact ⟨i, by omega, a, b⟩
    · by_cases hp : E n
      · rw [bg_cnt_t hp] at h
        exact ⟨n, by omega, hp, by omega⟩
      · rw [bg_cnt_f hp] at h
        omega
theorem bg_cnt_dc {D : Nat → Prop} : ∀ n, (∀ a b, a < b → b < n → D b → D a) → ∀ p, p < n → (D p ↔ p < bg_cnt D n) := by
  intro n
  induction n with
  | zero => exact fun _ p h => absurd h (Nat.not_lt_zero p)
  | succ n ih =>
    intro h p hp
    by_cases hd : D n
    · have ha : ∀ i, i < n + 1 → D i := fun i hi => by
        by_cases e : i = n
        · exact e ▸ hd
        · exact h i n (by omega) (by omega) hd
      rw [bg_cnt_all (n + 1) ha]
      exact ⟨fun _ => hp, fun _ => ha p hp⟩
    · rw [bg_cnt_f hd]
      by_cases e : p = n
      · subst e
        have := bg_cnt_le D p
        exact ⟨fun z => absurd z hd, fun z => by omega⟩
      · exact ih (fun a b hab hb => h a b hab (by omega)) p (by omega)
/-! the order of rows -/
def bg_lt (w : Nat) (a b : Nat → Int32) : Prop := ∃ c, c < w ∧ (∀ d, d < c → a d = b d) ∧ a c < b c
theorem bg_lt_tr {w : Nat} {a b e : Nat → Int32} (h : bg_lt w a b) (k : bg_lt w b e) : bg_lt w a e := by
  obtain ⟨c, hc, h1, h2⟩ := h
  obtain ⟨d, hd, k1, k2⟩ := k
  rcases Nat.lt_trichotomy c d with l | l | l
  · exact ⟨c, hc, fun x hx => (h1 x hx).trans (k1 x (by omega)), by rw [← k1 c l]; exact h2⟩
  · subst l
    exact ⟨c, hc, fun x hx => (h1 x hx).trans (k1 x hx), Int32.lt_trans h2 k2⟩
  · exact ⟨d, hd, fun x hx => (h1 x (by omega)).trans (k1 x hx), by rw [h1 d l]; exact k2⟩
theorem bg_lt_ir {w : Nat} {a : Nat → Int32} : ¬ bg_lt w a a := fun ⟨_, _, _, h⟩ => Int32.lt_irrefl h
theorem bg_lt_as {w : Nat} {a b : Nat → Int32} (h : bg_lt w a b) : ¬ bg_lt w b a := fun k => bg_lt_ir (bg_lt_tr h k)
theorem bg_lt_ne {w : Nat} {a b : Nat → Int32} (h : bg_eqw w a b) : ¬ bg_lt w a b := fun ⟨c, hc, _, k⟩ => by
  rw [h c hc] at k
  exact Int32.lt_irrefl k
theorem bg_lt_3 (w : Nat) (a b : Nat → Int32) : bg_lt w a b ∨ bg_eqw w a b ∨ bg_lt w b a := by
  by_cases h : bg_eqw w a b
  · exact Or.inr (Or.inl h)
  · have h' : ∃ c, c < w ∧ ¬ a c = b c := Classical.byContradiction fun z => h fun c hc => Classical.byContradiction fun y => z ⟨c, hc, y⟩
    obtain ⟨c, ⟨hc, hne⟩, hl⟩ := pk_least _ h'
    have e : ∀ d, d < c → a d = b d := fun d hd => Classical.byContradiction fun y => hl d hd ⟨by omega, y⟩
    by_cases l : a c < b c
    · exact Or.inl ⟨c, hc, e, l⟩
    · refine Or.inr (Or.inr ⟨c, hc, fun d hd => (e d hd).symm, ?_⟩)
      rcases Int32.le_total (a c) (b c) with y | y
      · exact absurd (Int32.lt_of_le_of_ne y hne) l
      · exact Int32.lt_of_le_of_ne y (fun z => hne z.symm)
theorem bg_lt_c {w : Nat} {a a' b b' : Nat → Int32} (h : bg_eqw w a a') (k : bg_eqw w b b') (l : bg_lt w a b) : bg_lt w a' b' := by
  obtain ⟨c, hc, h1, h2⟩ := l
  exact ⟨c, hc, fun d hd => by rw [← h d (by omega), ← k d (by omega)]; exact h1 d hd, by rw [← h c hc, ← k c hc]; exact h2⟩
theorem bg_le_lt {w : Nat} {x y v : Nat → Int32} (h : ¬ bg_lt w y x) (k : bg_lt w y v) : bg_lt w x v := by
  rcases bg_lt_3 w x y with l | l | l
  · exact bg_lt_tr l k
  · exact bg_lt_c (bg_eqw_s l) (fun _ _ => rfl) k
  · exact absurd l h
theorem bg_lt_le {w : Nat} {v x y : Nat → Int32} (k : bg_lt w v x) (h : ¬ bg_lt w y x) : bg_lt w v y := by
  rcases bg_lt_3 w x y with l | l | l
  · exact bg_lt_tr k l
  · exact bg_lt_c (fun _ _ => rfl) l k
  · exact absurd l h
def bg_perm (n w : Nat) (g S : Nat → Nat → Int32) : Prop := ∀ P : (Nat → Int32) → Prop, (∀ x y, bg_eqw w x y → P x → P y) → bg_cnt (fun i => P (S i)) n = bg_cnt (fun i => P (g i)) n
def bg_srt (n w : Nat) (g S : Nat → Nat → Int32) : Prop := (∀ a b, a < b → b < n → ¬ bg_lt w (S b) (S a)) ∧ bg_perm n w g S
def bg_bef (w : Nat) (g : Nat → Nat → Int32) (j i : Nat) : Prop := bg_lt w (g j) (g i) ∨ (bg_eqw w (g j) (g i) ∧ j < i)
noncomputable def bg_pl (n w : Nat) (g : Nat → Nat → Int32) (i : Nat) : Nat := bg_cnt (fun j => bg_bef w g j i) n
theorem bg_seg {n w : Nat} {g S : Nat → Nat → Int32} (h : bg_srt n w g S) (v : Nat → Int32) {p : Nat} (hp : p < n) :
    (bg_lt w (S p) v ↔ p < bg_cnt (fun j => bg_lt w (g j) v) n) ∧ (¬ bg_lt w v (S p) ↔ p < bg_cnt (fun j => ¬ bg_lt w v (g j)) n) := by
  obtain ⟨h1, h2⟩ := h
  constructor
  · rw [← h2 (fun x => bg_lt w x v) (fun x y e l => bg_lt_c e (fun _ _ => rfl) l)]
    exact bg_cnt_dc (D := fun i => bg_lt w (S i) v) n (fun a b hab hb l => bg_le_lt (h1 a b hab hb) l) p hp
  · rw [← h2 (fun x => ¬ bg_lt w v x) (fun x y e l z => l (bg_lt_c (fun _ _ => rfl) (bg_eqw_s e) z))]
    exact bg_cnt_dc (D := fun i => ¬ bg_lt w v (S i)) n (fun a b hab hb l z => l (bg_lt_le z (h1 a b hab hb))) p hp
theorem bg_pl_lt {n w : Nat} {g : Nat → Nat → Int32} {i : Nat} (hi : i < n) : bg_pl n w g i < bg_cnt (fun j => ¬ bg_lt w (g i) (g j)) n := by
  refine bg_cnt_lt (k := i) bg_lt_ir (fun z => z.elim bg_lt_ir (fun y => Nat.lt_irrefl i y.2)) n hi (fun j _ z => ?_)
  rcases z with z | z
  · exact bg_lt_as z
  · exact bg_lt_ne (bg_eqw_s z.1)
theorem bg_pl_n {n w : Nat} {g : Nat → Nat → Int32} {i : Nat} (hi : i < n) : bg_pl n w g i < n := Nat.lt_of_lt_of_le (bg_pl_lt hi) (bg_cnt_le _ n)
theorem bg_pl_at {n w : Nat} {g S : Nat → Nat → Int32} (h : bg_srt n w g S) {i : Nat} (hi : i < n) : bg_eqw w (S (bg_pl n w g i)) (g i) := by
  obtain ⟨a, b⟩ := bg_seg h (g i) (bg_pl_n (w := w) (g := g) hi)
  have h1 : bg_cnt (fun j => bg_lt w (g j) (g i)) n ≤ bg_pl n w g i := bg_cnt_m n (fun j _ z => Or.inl z)
  have h2 := b.mpr (bg_pl_lt hi)
  rcases bg_lt_3 w (S (bg_pl n w g i)) (g i) with l | l | l
  · have := a.mp l
    omega
  · exact l
  · exact absurd l h2
theorem bg_pl_on {n w : Nat} {g S : Nat → Nat → Int32} (h : bg_srt n w g S) {p : Nat} (hp : p < n) : ∃ i, i < n ∧ bg_pl n w g i = p := by
  obtain ⟨a, b⟩ := bg_seg h (S p) hp
  have h1 : ¬ p < bg_cnt (fun j => bg_lt w (g j) (S p)) n := fun z => bg_lt_ir (a.mpr z)
  have h2 := b.mp bg_lt_ir
  have h3 : bg_cnt (fun j => ¬ bg_lt w (S p) (g j)) n = bg_cnt (fun j => bg_lt w (g j) (S p)) n + bg_cnt (fun j => bg_eqw w (g j) (S p)) n := by
    rw [← bg_cnt_or n (fun i _ z y => bg_lt_ne y z)]
    refine bg_cnt_c n fun j _ => ⟨fun z => ?_, fun z => ?_⟩
    · rcases bg_lt_3 w (g j) (S p) with l | l | l
      · exact Or.inl l
      · exact Or.inr l
      · exact absurd l z
    · rcases z with z | z
      · exact bg_lt_as z
      · exact bg_lt_ne (bg_eqw_s z)
  obtain ⟨i, hi, he, hc⟩ := bg_cnt_iv (E := fun j => bg_eqw w (g j) (S p)) (t := p - bg_cnt (fun j => bg_lt w (g j) (S p)) n) n (by omega)
  refine ⟨i, hi, ?_⟩
  have h4 : bg_pl n w g i = bg_cnt (fun j => bg_lt w (g j) (S p)) n + bg_cnt (fun j => bg_eqw w (g j) (S p) ∧ j < i) n := by
    rw [← bg_cnt_or n (fun i _ z y => bg_lt_ne y.1 z)]
    refine bg_cnt_c n fun j _ => ⟨fun z => ?_, fun z => ?_⟩
    · rcases z with z | z
      · exact Or.inl (bg_lt_c (fun _ _ => rfl) he z)
      · exact Or.inr ⟨bg_eqw_t z.1 he, z.2⟩
    · rcases z with z | z
      · exact Or.inl (bg_lt_c (fun _ _ => rfl) (bg_eqw_s he) z)
      · exact Or.inr ⟨bg_eqw_t z.1 (bg_eqw_s he), z.2⟩
  rw [h4, bg_cnt_lo n (by omega), hc]
  omega
