/-! pure rows of new nodes; tables, results -/
theorem rn_scan {nw : Nat → Int32} {N t : Nat} (ht : t < 3) : rl_new 0 3 (-1) (-1) (nI t) 0 0 (nI t) 0 0 N nw := fun TB E =>
  ⟨3, TB t, ⟨by decide, rfl, Or.inl ⟨rfl, rfl, rfl, rfl, t, ht, rfl, rfl⟩⟩, ⟨by decide, rfl, Or.inl ⟨rfl, rfl, rfl, rfl, t, ht, rfl, rfl⟩⟩⟩
theorem rn_filter {nw : Nat → Int32} {N j w c m : Nat} {v : Int32} (hj : j < N) (hw6 : w ≤ 6) (hww : nw j = nI w) (hc : c < w) (hm : m ≤ 5) : rl_new 1 (nI w) (nI j) (-1) (nI c) (nI m) v (nI c) (nI m) v N nw := fun TB E =>
  have h : nd_rel 1 (nI w) (nI j) (-1) (nI c) (nI m) v N (fun l wl bl => nw l = nI wl ∧ wl ≤ 6 ∧ bl = E l) TB w (bs_filter (E j) c (nI m) v (E j).1) := ⟨hw6, rfl, Or.inr (Or.inl ⟨rfl, rfl, j, E j, c, m, hj, rfl, ⟨hww, hw6, rfl⟩, hc, rfl, hm, rfl, rfl⟩)⟩
  ⟨w, _, h, h⟩
theorem rn_ext {nw : Nat → Int32} {N j w op x y : Nat} (hj : j < N) (hw6 : w < 6) (hww : nw j = nI w) (hop : op ≤ 4) (hx : x < w) (hy : y < w) : rl_new 2 (nI (w + 1)) (nI j) (-1) (nI op) (nI x) (nI y) (nI op) (nI x) (nI y) N nw := fun TB E =>
  have h : nd_rel 2 (nI (w + 1)) (nI j) (-1) (nI op) (nI x) (nI y) N (fun l wl bl => nw l = nI wl ∧ wl ≤ 6 ∧ bl = E l) TB (w + 1) (bs_ext (E j) w (nI op) x y (E j).1) := ⟨hw6, rfl, Or.inr (Or.inr (Or.inl ⟨rfl, rfl, j, w, E j, op, x, y, hj, rfl, ⟨hww, by omega, rfl⟩, rfl, hop, rfl, hx, rfl, hy, rfl, rfl⟩))⟩
  ⟨w + 1, _, h, h⟩
theorem rn_pick {nw : Nat → Int32} {N j w x : Nat} {W S T : Int32} (hj : j < N) (hw6 : w ≤ 6) (hww : nw j = nI w) (hx : x < w) (hS : S = -1 ∨ ∃ t, t < w ∧ S = nI t) (hT : T = -1 ∨ ∃ t, t < w ∧ T = nI t) (hW : W = nI (1 + (if S = -1 then 0 else 1) + (if T = -1 then 0 else 1))) : rl_new 3 W (nI j) (-1) (nI x) S T (nI x) S T N nw := fun TB E =>
  have h : nd_rel 3 W (nI j) (-1) (nI x) S T N (fun l wl bl => nw l = nI wl ∧ wl ≤ 6 ∧ bl = E l) TB (1 + (if S = -1 then 0 else 1) + (if T = -1 then 0 else 1)) (bs_pick (E j) x S T (E j).1) := ⟨by split <;> split <;> omega, hW, Or.inr (Or.inr (Or.inr (Or.inl ⟨rfl, rfl, j, w, E j, x, hj, rfl, ⟨hww, hw6, rfl⟩, hx, rfl, hS, hT, rfl, rfl⟩)))⟩
  ⟨_, _, h, h⟩
theorem rn_join {nw : Nat → Int32} {N j m w v c d : Nat} (hj : j < N) (hm : m < N) (hww : nw j = nI w) (hvv : nw m = nI v) (hwv : w + v ≤ 6) (hc : c < w) (hd : d < v) : rl_new 4 (nI (w + v)) (nI j) (nI m) (nI c) (nI d) 0 (nI c) (nI d) 0 N nw := fun TB E =>
  have h : nd_rel 4 (nI (w + v)) (nI j) (nI m) (nI c) (nI d) 0 N (fun l wl bl => nw l = nI wl ∧ wl ≤ 6 ∧ bl = E l) TB (w + v) (bs_join (E j) (E m) w c d (E j).1) := ⟨hwv, rfl, Or.inr (Or.inr (Or.inr (Or.inr (Or.inl ⟨rfl, j, m, w, v, E j, E m, c, d, hj, hm, rfl, rfl, ⟨hww, by omega, rfl⟩, ⟨hvv, by omega, rfl⟩, rfl, hc, rfl, hd, rfl, rfl⟩))))⟩
  ⟨_, _, h, h⟩
theorem rn_semi {nw : Nat → Int32} {N j m w v c d : Nat} (hj : j < N) (hm : m < N) (hww : nw j = nI w) (hw6 : w ≤ 6) (hvv : nw m = nI v) (hv6 : v ≤ 6) (hc : c < w) (hd : d < v) : rl_new 5 (nI w) (nI j) (nI m) (nI c) (nI d) 0 (nI c) (nI d) 0 N nw := fun TB E =>
  have h : nd_rel 5 (nI w) (nI j) (nI m) (nI c) (nI d) 0 N (fun l wl bl => nw l = nI wl ∧ wl ≤ 6 ∧ bl = E l) TB w (bs_semi (E j) (E m) c d True (E j).1) := ⟨hw6, rfl, Or.inr (Or.inr (Or.inr (Or.inr (Or.inr (Or.inl ⟨rfl, j, m, v, E j, E m, c, d, hj, hm, rfl, rfl, ⟨hww, hw6, rfl⟩, ⟨hvv, hv6, rfl⟩, hc, rfl, hd, rfl, rfl⟩)))))⟩
  ⟨_, _, h, h⟩
theorem rn_anti {nw : Nat → Int32} {N j m w v c d : Nat} (hj : j < N) (hm : m < N) (hww : nw j = nI w) (hw6 : w ≤ 6) (hvv : nw m = nI v) (hv6 : v ≤ 6) (hc : c < w) (hd : d < v) : rl_new 6 (nI w) (nI j) (nI m) (nI c) (nI d) 0 (nI c) (nI d) 0 N nw := fun TB E =>
  have h : nd_rel 6 (nI w) (nI j) (nI m) (nI c) (nI d) 0 N (fun l wl bl => nw l = nI wl ∧ wl ≤ 6 ∧ bl = E l) TB w (bs_semi (E j) (E m) c d False (E j).1) := ⟨hw6, rfl, Or.inr (Or.inr (Or.inr (Or.inr (Or.inr (Or.inr (Or.inl ⟨rfl, j, m, v, E j, E m, c, d, hj, hm, rfl, rfl, ⟨hww, hw6, rfl⟩, ⟨hvv, hv6, rfl⟩, hc, rfl, hd, rfl, rfl⟩))))))⟩
  ⟨_, _, h, h⟩
theorem rn_group {nw : Nat → Int32} {N j w x q y : Nat} (hj : j < N) (hw6 : w ≤ 6) (hww : nw j = nI w) (hx : x < w) (hq : q ≤ 3) (hy : y < w) : rl_new 7 2 (nI j) (-1) (nI x) (nI q) (nI y) (nI x) (nI q) (nI y) N nw := fun TB E =>
  have h : nd_rel 7 2 (nI j) (-1) (nI x) (nI q) (nI y) N (fun l wl bl => nw l = nI wl ∧ wl ≤ 6 ∧ bl = E l) TB 2 (bs_grp (nI q) (fun i => (E j).2 i x) (fun i => (E j).2 i y) (E j).1 (E j).1) := ⟨by decide, rfl, Or.inr (Or.inr (Or.inr (Or.inr (Or.inr (Or.inr (Or.inr (Or.inl ⟨rfl, rfl, j, w, E j, x, q, y, hj, rfl, ⟨hww, hw6, rfl⟩, rfl, hx, rfl, hq, rfl, hy, rfl, rfl⟩)))))))⟩
  ⟨_, _, h, h⟩
theorem rn_dist {nw : Nat → Int32} {N j w : Nat} {F S T P Q Y : Int32} (hj : j < N) (hw6 : w ≤ 6) (hww : nw j = nI w) : rl_new 8 (nI w) (nI j) (-1) F S T P Q Y N nw := fun TB E =>
  ⟨w, bs_dist (E j) w (E j).1, ⟨hw6, rfl, Or.inr (Or.inr (Or.inr (Or.inr (Or.inr (Or.inr (Or.inr (Or.inr (Or.inl ⟨rfl, rfl, j, E j, hj, rfl, ⟨hww, hw6, rfl⟩, rfl⟩))))))))⟩, ⟨hw6, rfl, Or.inr (Or.inr (Or.inr (Or.inr (Or.inr (Or.inr (Or.inr (Or.inr (Or.inl ⟨rfl, rfl, j, E j, hj, rfl, ⟨hww, hw6, rfl⟩, rfl⟩))))))))⟩⟩
theorem rn_union {nw : Nat → Int32} {N j m w : Nat} {F S T P Q Y : Int32} (hj : j < N) (hm : m < N) (hw6 : w ≤ 6) (hww : nw j = nI w) (hvv : nw m = nI w) : rl_new 9 (nI w) (nI j) (nI m) F S T P Q Y N nw := fun TB E =>
  ⟨w, bs_all (bs_all bg_0 (E j) (E j).1) (E m) (E m).1, ⟨hw6, rfl, Or.inr (Or.inr (Or.inr (Or.inr (Or.inr (Or.inr (Or.inr (Or.inr (Or.inr ⟨rfl, j, m, E j, E m, hj, hm, rfl, rfl, ⟨hww, hw6, rfl⟩, ⟨hvv, hw6, rfl⟩, rfl⟩))))))))⟩, ⟨hw6, rfl, Or.inr (Or.inr (Or.inr (Or.inr (Or.inr (Or.inr (Or.inr (Or.inr (Or.inr ⟨rfl, j, m, E j, E m, hj, hm, rfl, rfl, ⟨hww, hw6, rfl⟩, ⟨hvv, hw6, rfl⟩, rfl⟩))))))))⟩⟩
theorem cb_cno {x : Int32} {w : Nat} (hw : w ≤ 6) (h : x = -1 ∨ ∃ c, c < w ∧ x = nI c) : ¬ x < -1 ∧ ¬ nI w ≤ x ∧ x < nI w := by
  rcases h with rfl | ⟨c, hc, rfl⟩
  · have h0 : (-1 : Int32) < nI w := by
      rw [Int32.lt_iff_toInt_lt, nI_toInt (by omega), show (-1 : Int32).toInt = -1 from by decide]
      omega
    exact ⟨by decide, Int32.not_le.mpr h0, h0⟩
  · refine ⟨fun z => ?_, nI_ge hc (by omega), nI_lt hc (by omega)⟩
    exact nI_pos (n := c) (by omega) (Int32.lt_trans z (by decide))
theorem cb_neg {x : Int32} {w : Nat} (hw : w ≤ 6) (h : x = -1 ∨ ∃ c, c < w ∧ x = nI c) (e : ¬ x = -1) : ¬ x < 0 := by
  rcases h with z | ⟨c, hc, rfl⟩
  · exact absurd z e
  · exact nI_pos (by omega)
theorem i_up {k : Nat} {u : SX} {v : SY} (h : i_Rel k u v) : i_Rel (k + 5) u v := h
theorem i_vc0 : wpX_init (fun u => wpY_init (fun v => i_Rel 0 u v)) :=
  rl_mk (k := 0) ⟨⟨0, by decide, rfl, fun k hk => absurd hk (Nat.not_lt_zero k)⟩, fun t _ => ⟨0, by decide, rfl⟩, 0, 0, by decide, by decide, rfl, rfl, fun i hi => absurd hi (Nat.not_lt_zero i)⟩
section
variable {nc rr rw : Int32} {tc tr nk nw nl nr nf ns nt nu ip bc br rc : Nat → Int32}
theorem xa_tab_bad {post : Int32 → Prop} {x : Int32} (h : x < 0 ∨ nI 3 ≤ x) (hp : post 0) : wpX_isTable post (nc, rr, rw, tc, tr, nk, nw, nl, nr, nf, ns, nt, nu, ip, bc, br, rc) x := br_c (fun _ => hp) (fun e => br_t (h.resolve_left e) hp)
theorem xa_tab_ok {post : Int32 → Prop} {t : Nat} (h : t < 3) (hp : post 1) : wpX_isTable post (nc, rr, rw, tc, tr, nk, nw, nl, nr, nf, ns, nt, nu, ip, bc, br, rc) (nI t) := br_f (nI_pos (by omega)) (br_f (nI_ge (b := 3) h (by decide)) hp)
end
theorem ya_tab_bad {post : Int32 → Prop} {x : Int32} (h : x < 0 ∨ nI 3 ≤ x) (hp : post 1) : wpY_badTable post x := by
  refine br_c (fun _ => hp) (fun e => br_f (fun z => ?_) hp)
  have z2 : nI 3 ≤ nI 2 := Int32.le_trans (h.resolve_left e) z
  exact absurd z2 (by decide)
theorem ya_tab_ok {post : Int32 → Prop} {t : Nat} (h : t < 3) (hp : post 0) : wpY_badTable post (nI t) := br_f (nI_pos (by omega)) (br_t (nI_le (b := 2) (by omega) (by decide)) hp)
theorem i_vc_insert {k : Nat} {u : SX} {v : SY} (I : i_Rel k u v) (hk : k + 5 ≤ 2560) (v1 : Int32) (v2 : Int32) (v3 : Int32) (v4 : Int32) : wpX_insert (fun r u' => wpY_insert (fun r' v' => r' = r ∧ i_Rel (k + 5) u' v') v v1 v2 v3 v4) u v1 v2 v3 v4 := by
  obtain ⟨nc, ov, rr, rw, tc, tr, nk, nw, nl, nr, nf, ns, nt, nu, ip, bc, br, rc, np, nq, ny, ys, gv, nd, ro, re, rfl, rfl, hW⟩ := I
  have same : ∀ r : Int32, r = r ∧ i_Rel (k + 5) (nc, rr, rw, tc, tr, nk, nw, nl, nr, nf, ns, nt, nu, ip, bc, br, rc) (nc, ov, rr, rw, tc, tr, nk, nl, nr, np, nq, ny, nw, nu, ys, gv, nd, ro, re) := fun r => ⟨rfl, rl_mk hW⟩
  have hW0 := hW
  obtain ⟨⟨N, hN, rfl, hNd⟩, hT, hRs⟩ := hW0
  unfold wpX_insert
  dsimp only
  rcases cb_ix v1 3 (by omega) with h | ⟨t, ht, rfl⟩
  · refine xa_tab_bad h (br_t rfl ?_)
    try dsimp only
    unfold wpY_insert
    dsimp only
    exact ya_tab_bad h (br_f (by decide) (same _))
  · obtain ⟨x, hx, hxe⟩ := hT t ht
    have ct : (nI t).toNatClampNeg = t := nI_clamp (by omega)
    have vt : vp_in (nI t) 3 := vp_in_nI ht (by decide)
    refine xa_tab_ok ht (br_f (by decide) ⟨vt, ?_⟩)
    rw [ct, hxe]
    refine nm_e ?_
    by_cases h6 : x < 6
    · refine br_t (nI_lt (b := 6) h6 (by decide)) (nm_r (e' := nI ((t * 6 + x) * 3)) ?_ ?_)
      · rw [show (6 : Int32) = nI 6 from rfl, show (3 : Int32) = nI 3 from rfl, pk_mul, nI_add, pk_mul]
      rw [nI_1 ((t * 6 + x) * 3), show nI ((t * 6 + x) * 3) + 2 = nI ((t * 6 + x) * 3 + 2) from nI_add _ 2, nI_clamp (show (t * 6 + x) * 3 < 2 ^ 31 by omega), nI_clamp (show (t * 6 + x) * 3 + 1 < 2 ^ 31 by omega), nI_clamp (show (t * 6 + x) * 3 + 2 < 2 ^ 31 by omega), nI_1 x]
      refine ⟨vp_in_nI (by omega) (by decide), nm_e ⟨vp_in_nI (by omega) (by decide), nm_e ⟨vp_in_nI (by omega) (by decide), nm_e ⟨vt, nm_e ?_⟩⟩⟩⟩
      try dsimp only
      unfold wpY_insert
      dsimp only
      refine ya_tab_ok ht (br_t rfl ⟨vt, ?_⟩)
      rw [ct, hxe]
      refine br_f (fun z => ?_) ⟨vt, nm_r (e' := nI ((t * 6 + x) * 3)) ?_ ?_⟩
      · have := (nI_eq (b := 6) (by omega) (by decide)).mp z
        omega
      · rw [show (6 : Int32) = nI 6 from rfl, show (3 : Int32) = nI 3 from rfl, pk_mul, nI_add, pk_mul]
        exact congrArg nI (by omega)
      rw [nI_1 ((t * 6 + x) * 3), show nI ((t * 6 + x) * 3) + 2 = nI ((t * 6 + x) * 3 + 2) from nI_add _ 2, nI_clamp (show (t * 6 + x) * 3 < 2 ^ 31 by omega), nI_clamp (show (t * 6 + x) * 3 + 1 < 2 ^ 31 by omega), nI_clamp (show (t * 6 + x) * 3 + 2 < 2 ^ 31 by omega), nI_1 x]
      refine ⟨vp_in_nI (by omega) (by decide), nm_e ⟨vp_in_nI (by omega) (by decide), nm_e ⟨vp_in_nI (by omega) (by decide), nm_e ⟨vt, vt, nm_e ⟨vt, pk_us, rl_mk ⟨hW.1, fun s hs => ?_, hRs⟩⟩⟩⟩⟩⟩
      by_cases es : s = t
      · subst es
        exact ⟨x + 1, by omega, pk_us⟩
      · rw [pk_un es]
        exact hT s hs
    · obtain rfl : x = 6 := by omega
      refine br_f (by decide) ?_
      try dsimp only
      unfold wpY_insert
      dsimp only
      refine ya_tab_ok ht (br_t rfl ⟨vt, ?_⟩)
      rw [ct, hxe]
      exact br_t rfl (same _)
theorem i_vc_empty {k : Nat} {u : SX} {v : SY} (I : i_Rel k u v) (hk : k + 5 ≤ 2560) (v1 : Int32) : wpX_empty (fun r u' => wpY_empty (fun r' v' => r' = r ∧ i_Rel (k + 5) u' v') v v1) u v1 := by
  obtain ⟨nc, ov, rr, rw, tc, tr, nk, nw, nl, nr, nf, ns, nt, nu, ip, bc, br, rc, np, nq, ny, ys, gv, nd, ro, re, rfl, rfl, hW⟩ := I
  have same : ∀ r : Int32, r = r ∧ i_Rel (k + 5) (nc, rr, rw, tc, tr, nk, nw, nl, nr, nf, ns, nt, nu, ip, bc, br, rc) (nc, ov, rr, rw, tc, tr, nk, nl, nr, np, nq, ny, nw, nu, ys, gv, nd, ro, re) := fun r => ⟨rfl, rl_mk hW⟩
  have hW0 := hW
  obtain ⟨⟨N, hN, rfl, hNd⟩, hT, hRs⟩ := hW0
  unfold wpX_empty
  dsimp only
  rcases cb_ix v1 3 (by omega) with h | ⟨t, ht, rfl⟩
  · refine xa_tab_bad h (br_t rfl ?_)
    try dsimp only
    unfold wpY_empty
    dsimp only
    exact ya_tab_bad h (br_f (by decide) (same _))
  · have ct : (nI t).toNatClampNeg = t := nI_clamp (by omega)
    have vt : vp_in (nI t) 3 := vp_in_nI ht (by decide)
    refine xa_tab_ok ht (br_f (by decide) ⟨vt, ?_⟩)
    rw [ct]
    refine nm_e ⟨vt, nm_e ?_⟩
    try dsimp only
    unfold wpY_empty
    dsimp only
    refine ya_tab_ok ht (br_t rfl ⟨vt, ?_⟩)
    rw [ct]
    refine nm_e ⟨vt, nm_e ⟨rfl, rl_mk ⟨hW.1, fun s hs => ?_, hRs⟩⟩⟩
    by_cases es : s = t
    · subst es
      exact ⟨0, by omega, pk_us⟩
    · rw [pk_un es]
      exact hT s hs
theorem i_vc_clearPlan {k : Nat} {u : SX} {v : SY} (I : i_Rel k u v) (hk : k + 5 ≤ 2560) : wpX_clearPlan (fun u' => wpY_clearPlan (fun v' => i_Rel (k + 5) u' v') v) u := by
  obtain ⟨nc, ov, rr, rw, tc, tr, nk, nw, nl, nr, nf, ns, nt, nu, ip, bc, br, rc, np, nq, ny, ys, gv, nd, ro, re, rfl, rfl, hW⟩ := I
  have same : ∀ r : Int32, r = r ∧ i_Rel (k + 5) (nc, rr, rw, tc, tr, nk, nw, nl, nr, nf, ns, nt, nu, ip, bc, br, rc) (nc, ov, rr, rw, tc, tr, nk, nl, nr, np, nq, ny, nw, nu, ys, gv, nd, ro, re) := fun r => ⟨rfl, rl_mk hW⟩
  have hW0 := hW
  obtain ⟨⟨N, hN, rfl, hNd⟩, hT, hRs⟩ := hW0
  exact rl_mk (k := k + 5) ⟨⟨0, by decide, rfl, fun k hk => absurd hk (Nat.not_lt_zero k)⟩, hT, hRs⟩
theorem i_vc_width {k : Nat} {u : SX} {v : SY} (I : i_Rel k u v) (hk : k + 5 ≤ 2560) : wpX_width (fun r => wpY_width (fun r' => r' = r ∧ i_Rel (k + 5) u v) v) u := by
  obtain ⟨nc, ov, rr, rw, tc, tr, nk, nw, nl, nr, nf, ns, nt, nu, ip, bc, br, rc, np, nq, ny, ys, gv, nd, ro, re, rfl, rfl, hW⟩ := I
  have same : ∀ r : Int32, r = r ∧ i_Rel (k + 5) (nc, rr, rw, tc, tr, nk, nw, nl, nr, nf, ns, nt, nu, ip, bc, br, rc) (nc, ov, rr, rw, tc, tr, nk, nl, nr, np, nq, ny, nw, nu, ys, gv, nd, ro, re) := fun r => ⟨rfl, rl_mk hW⟩
  have hW0 := hW
  obtain ⟨⟨N, hN, rfl, hNd⟩, hT, hRs⟩ := hW0
  exact same _
theorem i_vc_cell {k : Nat} {u : SX} {v : SY} (I : i_Rel k u v) (hk : k + 5 ≤ 2560) (v1 : Int32) (v2 : Int32) : wpX_cell (fun r => wpY_cell (fun r' => r' = r ∧ i_Rel (k + 5) u v) v v1 v2) u v1 v2 := by
  obtain ⟨nc, ov, rr, rw, tc, tr, nk, nw, nl, nr, nf, ns, nt, nu, ip, bc, br, rc, np, nq, ny, ys, gv, nd, ro, re, rfl, rfl, hW⟩ := I
  have same : ∀ r : Int32, r = r ∧ i_Rel (k + 5) (nc, rr, rw, tc, tr, nk, nw, nl, nr, nf, ns, nt, nu, ip, bc, br, rc) (nc, ov, rr, rw, tc, tr, nk, nl, nr, np, nq, ny, nw, nu, ys, gv, nd, ro, re) := fun r => ⟨rfl, rl_mk hW⟩
  have hW0 := hW
  obtain ⟨⟨N, hN, rfl, hNd⟩, hT, hRs⟩ := hW0
  obtain ⟨R, W, hR, hWd, rfl, rfl, hres⟩ := hRs
  rcases cb_ix v1 R (by omega) with h | ⟨i, hi, rfl⟩
  · exact br_c (fun e => br_t e (same _)) (fun e => br_t (h.resolve_left e) (br_f e (br_t (h.resolve_left e) (same _))))
  · have n1 : ¬ nI i < 0 := nI_pos (by omega)
    have n2 : ¬ nI R ≤ nI i := nI_ge hi (by omega)
    rcases cb_ix v2 W (by omega) with h | ⟨c, hc, rfl⟩
    · exact br_f n1 (br_f n2 (br_c (fun e => br_f n1 (br_f n2 (br_t e (same _)))) (fun e => br_f (Int32.not_lt.mpr (h.resolve_left e)) (br_f n1 (br_f n2 (br_f e (br_f (Int32.not_lt.mpr (h.resolve_left e)) (same _))))))))
    · have n3 : ¬ nI c < 0 := nI_pos (by omega)
      have n4 : nI c < nI W := nI_lt hc (by omega)
      have ex : nI i * 6 + nI c = nI (i * 6 + c) := by rw [show (6 : Int32) = nI 6 from rfl, pk_mul, nI_add]
      refine br_f n1 (br_f n2 (br_f n3 (br_t n4 ?_)))
      rw [ex, nI_clamp (by omega)]
      refine ⟨vp_in_nI (by omega) (by decide), br_f n1 (br_f n2 (br_f n3 (br_t n4 ?_)))⟩
      rw [yr_p, nI_clamp (by omega)]
      exact ⟨vp_in_nI (by omega) (by decide), hres i hi c hc, rl_mk hW⟩
