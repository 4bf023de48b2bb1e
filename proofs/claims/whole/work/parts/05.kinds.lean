/-! what each kind of node gives -/
theorem bg_sel0_le (P : Nat → Prop) (row : Nat → Nat → Int32) (i : Nat) : (bg_sel bg_0 P row i).1 ≤ i := by
  have h := bg_sel_le bg_0 P row i
  have e : bg_0.1 = 0 := rfl
  omega
def bs_hold (x m y : Int32) : Prop := if m = 0 then x = y else if m = 1 then ¬ x = y else if m = 2 then x < y else if m = 3 then x ≤ y else if m = 4 then y < x else y ≤ x
theorem bs_h0 {x y : Int32} : bs_hold x (nI 0) y ↔ x = y := by
  unfold bs_hold; rw [if_pos (by decide)]
theorem bs_h1 {x y : Int32} : bs_hold x (nI 1) y ↔ ¬ x = y := by
  unfold bs_hold; rw [if_neg (by decide), if_pos (by decide)]
theorem bs_h2 {x y : Int32} : bs_hold x (nI 2) y ↔ x < y := by
  unfold bs_hold; rw [if_neg (by decide), if_neg (by decide), if_pos (by decide)]
theorem bs_h3 {x y : Int32} : bs_hold x (nI 3) y ↔ x ≤ y := by
  unfold bs_hold; rw [if_neg (by decide), if_neg (by decide), if_neg (by decide), if_pos (by decide)]
theorem bs_h4 {x y : Int32} : bs_hold x (nI 4) y ↔ y < x := by
  unfold bs_hold; rw [if_neg (by decide), if_neg (by decide), if_neg (by decide), if_neg (by decide), if_pos (by decide)]
theorem bs_h5 {x y : Int32} : bs_hold x (nI 5) y ↔ y ≤ x := by
  unfold bs_hold; rw [if_neg (by decide), if_neg (by decide), if_neg (by decide), if_neg (by decide), if_neg (by decide)]
def bs_op (m x y : Int32) : Int32 := if m = 0 then x + y else if m = 1 then x - y else if m = 2 then x * y else if m = 3 then (if y ≤ x then y else x) else (if x ≤ y then y else x)
theorem bs_o0 {x y : Int32} : bs_op (nI 0) x y = x + y := by
  unfold bs_op; rw [if_pos (by decide)]
theorem bs_o1 {x y : Int32} : bs_op (nI 1) x y = x - y := by
  unfold bs_op; rw [if_neg (by decide), if_pos (by decide)]
theorem bs_o2 {x y : Int32} : bs_op (nI 2) x y = x * y := by
  unfold bs_op; rw [if_neg (by decide), if_neg (by decide), if_pos (by decide)]
theorem bs_o3 {x y : Int32} : bs_op (nI 3) x y = if y ≤ x then y else x := by
  unfold bs_op; rw [if_neg (by decide), if_neg (by decide), if_neg (by decide), if_pos (by decide)]
theorem bs_o4 {x y : Int32} : bs_op (nI 4) x y = if x ≤ y then y else x := by
  unfold bs_op; rw [if_neg (by decide), if_neg (by decide), if_neg (by decide), if_neg (by decide)]
theorem bg_s0 {a v : Int32} : bg_st (nI 0) a v = a + v := by
  unfold bg_st; rw [if_pos (by decide)]
theorem bg_s1 {a v : Int32} : bg_st (nI 1) a v = a + 1 := by
  unfold bg_st; rw [if_neg (by decide), if_pos (by decide)]
theorem bg_s2 {a v : Int32} : bg_st (nI 2) a v = if v < a then v else a := by
  unfold bg_st; rw [if_neg (by decide), if_neg (by decide), if_pos (by decide)]
theorem bg_s3 {a v : Int32} : bg_st (nI 3) a v = if v ≤ a then a else v := by
  unfold bg_st; rw [if_neg (by decide), if_neg (by decide), if_neg (by decide)]
noncomputable def bs_scan (tc : Nat → Int32) (t i : Nat) : bg_T := bg_sel bg_0 (fun _ => True) (fun i c => tc ((t * 6 + i) * 3 + c)) i
noncomputable def bs_filter (b : bg_T) (c : Nat) (m y : Int32) (i : Nat) : bg_T := bg_sel bg_0 (fun i => bs_hold (b.2 i c) m y) b.2 i
noncomputable def bs_ext (b : bg_T) (w : Nat) (op : Int32) (x y : Nat) (i : Nat) : bg_T := bg_sel bg_0 (fun _ => True) (fun i c => if c < w then b.2 i c else bs_op op (b.2 i x) (b.2 i y)) i
noncomputable def bs_pick (b : bg_T) (x : Nat) (s t : Int32) (i : Nat) : bg_T := bg_sel bg_0 (fun _ => True) (fun i c => if c = 0 then b.2 i x else if c = 1 ∧ ¬ s = -1 then b.2 i s.toNatClampNeg else b.2 i t.toNatClampNeg) i
noncomputable def bs_semi (bl b : bg_T) (x y : Nat) (pos : Prop) (i : Nat) : bg_T := bg_sel bg_0 (fun i => (∃ j, j < b.1 ∧ b.2 j y = bl.2 i x) ↔ pos) bl.2 i
def bs_jrow (bl b : bg_T) (w i : Nat) : Nat → Nat → Int32 := fun j c => if c < w then bl.2 i c else b.2 j (c - w)
noncomputable def bs_join (bl b : bg_T) (w x y : Nat) : Nat → bg_T
  | 0 => bg_0
  | i + 1 => bg_sel (bs_join bl b w x y i) (fun j => bl.2 i x = b.2 j y) (bs_jrow bl b w i) b.1
theorem bs_join_le (bl b : bg_T) (w x y i : Nat) : (bs_join bl b w x y i).1 ≤ i * b.1 := by
  induction i with
  | zero => exact Nat.zero_le _
  | succ i ih =>
    have h := bg_sel_le (bs_join bl b w x y i) (fun j => bl.2 i x = b.2 j y) (bs_jrow bl b w i) b.1
    have e : (i + 1) * b.1 = i * b.1 + b.1 := Nat.succ_mul i b.1
    show (bg_sel _ _ _ _).1 ≤ _
    omega
noncomputable def bs_all (b bl : bg_T) (i : Nat) : bg_T := bg_sel b (fun _ => True) bl.2 i
section
variable {nc rr rw : Int32} {tc tr nk nw nl nr nf ns nt nu ip rc : Nat → Int32}
theorem xb_holds {post : Int32 → Prop} {bc br : Nat → Int32} {x y : Int32} {m : Nat} (hm : m ≤ 5) (h1 : bs_hold x (nI m) y → post 1) (h0 : ¬ bs_hold x (nI m) y → post 0) : wpX_holds post (nc, rr, rw, tc, tr, nk, nw, nl, nr, nf, ns, nt, nu, ip, bc, br, rc) x (nI m) y := by
  have : m = 0 ∨ m = 1 ∨ m = 2 ∨ m = 3 ∨ m = 4 ∨ m = 5 := by omega
  rcases this with rfl | rfl | rfl | rfl | rfl | rfl
  · rw [bs_h0] at h0 h1
    exact br_f (by decide) (br_f (by decide) (br_t (by decide) (br_c h1 h0)))
  · rw [bs_h1] at h0 h1
    exact br_f (by decide) (br_f (by decide) (br_f (by decide) (br_t (by decide) (br_c (fun e => h0 (fun z => z e)) h1))))
  · rw [bs_h2] at h0 h1
    exact br_f (by decide) (br_f (by decide) (br_f (by decide) (br_f (by decide) (br_t (by decide) (br_c (fun e => h0 (Int32.not_lt.mpr e)) (fun e => h1 (Int32.not_le.mp e)))))))
  · rw [bs_h3] at h0 h1
    exact br_f (by decide) (br_f (by decide) (br_f (by decide) (br_f (by decide) (br_f (by decide) (br_t (by decide) (br_c (fun e => h0 (Int32.not_le.mpr e)) (fun e => h1 (Int32.not_lt.mp e))))))))
  · rw [bs_h4] at h0 h1
    exact br_f (by decide) (br_f (by decide) (br_f (by decide) (br_f (by decide) (br_f (by decide) (br_f (by decide) (br_t (by decide) (br_c (fun e => h0 (Int32.not_lt.mpr e)) (fun e => h1 (Int32.not_le.mp e)))))))))
  · rw [bs_h5] at h0 h1
    exact br_f (by decide) (br_t (by decide) (br_c (fun e => h0 (Int32.not_le.mpr e)) (fun e => h1 (Int32.not_lt.mp e))))
theorem xb_lesser {post : Int32 → Prop} {bc br : Nat → Int32} {x y : Int32} (h : post (if y ≤ x then y else x)) : wpX_lesser post (nc, rr, rw, tc, tr, nk, nw, nl, nr, nf, ns, nt, nu, ip, bc, br, rc) x y := by
  refine br_c (fun e => ?_) (fun e => ?_)
  · rw [if_pos e] at h
    exact h
  · rw [if_neg e] at h
    exact h
theorem xb_greater {post : Int32 → Prop} {bc br : Nat → Int32} {x y : Int32} (h : post (if x ≤ y then y else x)) : wpX_greater post (nc, rr, rw, tc, tr, nk, nw, nl, nr, nf, ns, nt, nu, ip, bc, br, rc) x y := by
  refine br_c (fun e => ?_) (fun e => ?_)
  · rw [if_pos e] at h
    exact h
  · rw [if_neg e] at h
    exact h
theorem xb_compute {post : Int32 → Prop} {bc br : Nat → Int32} {x y : Int32} {m : Nat} (hm : m ≤ 4) (h : post (bs_op (nI m) x y)) : wpX_compute post (nc, rr, rw, tc, tr, nk, nw, nl, nr, nf, ns, nt, nu, ip, bc, br, rc) (nI m) x y := by
  have : m = 0 ∨ m = 1 ∨ m = 2 ∨ m = 3 ∨ m = 4 := by omega
  rcases this with rfl | rfl | rfl | rfl | rfl
  · rw [bs_o0] at h
    exact br_f (by decide) (br_f (by decide) (br_t (by decide) h))
  · rw [bs_o1] at h
    exact br_f (by decide) (br_f (by decide) (br_f (by decide) (br_t (by decide) h)))
  · rw [bs_o2] at h
    exact br_f (by decide) (br_f (by decide) (br_f (by decide) (br_f (by decide) (br_t (by decide) h))))
  · rw [bs_o3] at h
    exact br_f (by decide) (br_f (by decide) (br_f (by decide) (br_f (by decide) (br_f (by decide) (br_t (by decide) (xb_lesser h))))))
  · rw [bs_o4] at h
    exact br_f (by decide) (br_t (by decide) (xb_greater h))
theorem xb_fold {post : Int32 → Prop} {bc br : Nat → Int32} {x y : Int32} {m : Nat} (hm : m ≤ 3) (h : post (bg_st (nI m) x y)) : wpX_fold post (nc, rr, rw, tc, tr, nk, nw, nl, nr, nf, ns, nt, nu, ip, bc, br, rc) (nI m) x y := by
  have : m = 0 ∨ m = 1 ∨ m = 2 ∨ m = 3 := by omega
  rcases this with rfl | rfl | rfl | rfl
  · rw [bg_s0] at h
    exact br_f (by decide) (br_f (by decide) (br_t (by decide) h))
  · rw [bg_s1] at h
    exact br_f (by decide) (br_f (by decide) (br_f (by decide) (br_t (by decide) h)))
  · rw [bg_s2] at h
    refine br_f (by decide) (br_f (by decide) (br_f (by decide) (br_f (by decide) (br_t (by decide) (xb_lesser ?_)))))
    have e : (if y < x then y else x) = if y ≤ x then y else x := by
      by_cases l : y < x
      · rw [if_pos l, if_pos (Int32.le_of_lt l)]
      · rw [if_neg l]
        by_cases l2 : y ≤ x
        · rw [if_pos l2]
          exact Int32.le_antisymm (Int32.not_lt.mp l) l2
        · rw [if_neg l2]
    rw [← e]
    exact h
  · rw [bg_s3] at h
    refine br_f (by decide) (br_t (by decide) (xb_greater ?_))
    have e : (if y ≤ x then x else y) = if x ≤ y then y else x := by
      by_cases l : y ≤ x
      · rw [if_pos l]
        by_cases l2 : x ≤ y
        · rw [if_pos l2]
          exact Int32.le_antisymm l2 l
        · rw [if_neg l2]
      · rw [if_neg l, if_pos (Int32.le_of_lt (Int32.not_le.mp l))]
    rw [← e]
    exact h
end
