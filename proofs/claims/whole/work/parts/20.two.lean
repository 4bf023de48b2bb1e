/-! calls that make a node of two inputs; run -/
section
variable {ov rr rw : Int32} {tc tr nk nl nr np nq ny nw nu ys gv nd ro re : Nat → Int32}
theorem yt_bad {post : Int32 → SY → Prop} {N : Nat} {K x y a b : Int32} (hN : N ≤ 12) (h : (x < 0 ∨ nI N ≤ x) ∨ ((∃ j, j < N ∧ x = nI j) ∧ (y < 0 ∨ nI N ≤ y))) (hp : post (-3) (nI N, ov, rr, rw, tc, tr, nk, nl, nr, np, nq, ny, nw, nu, ys, gv, nd, ro, re)) : wpY_two post (nI N, ov, rr, rw, tc, tr, nk, nl, nr, np, nq, ny, nw, nu, ys, gv, nd, ro, re) K x y a b := by
  unfold wpY_two
  dsimp only
  rcases h with h | ⟨⟨j, hj, rfl⟩, h⟩
  · exact ya_node_bad h (br_f (by decide) hp)
  · exact ya_node_ok hN hj (br_t rfl (ya_node_bad h (br_f (by decide) hp)))
theorem yt_used {post : Int32 → SY → Prop} {N j m : Nat} {K a b : Int32} (hN : N ≤ 12) (hj : j < N) (hm : m < N) (h : ¬ (nu j = 0 ∧ nu m = 0 ∧ j ≠ m)) (hp : post (-4) (nI N, ov, rr, rw, tc, tr, nk, nl, nr, np, nq, ny, nw, nu, ys, gv, nd, ro, re)) : wpY_two post (nI N, ov, rr, rw, tc, tr, nk, nl, nr, np, nq, ny, nw, nu, ys, gv, nd, ro, re) K (nI j) (nI m) a b := by
  unfold wpY_two
  dsimp only
  refine ya_node_ok hN hj (br_t rfl (ya_node_ok hN hm (br_t rfl ⟨vp_in_nI (by omega) (by decide), ?_⟩)))
  rw [nI_clamp (show j < 2 ^ 31 by omega), nI_clamp (show m < 2 ^ 31 by omega)]
  exact br_c (fun e1 => ⟨vp_in_nI (by omega) (by decide), br_c (fun e2 => br_c (fun _ => hp) (fun e3 => absurd ⟨e1, e2, fun z => e3 (by rw [z])⟩ h)) (fun _ => hp)⟩) (fun _ => hp)
theorem yt_col {post : Int32 → SY → Prop} {N j m w v : Nat} {K a b : Int32} (hN : N ≤ 12) (hj : j < N) (hm : m < N) (h : nu j = 0 ∧ nu m = 0 ∧ j ≠ m) (hw : nw j = nI w) (hw6 : w ≤ 6) (hv : nw m = nI v) (hab : (a < 0 ∨ nI w ≤ a) ∨ ((∃ c, c < w ∧ a = nI c) ∧ (b < 0 ∨ nI v ≤ b))) (hp : post (-5) (nI N, ov, rr, rw, tc, tr, nk, nl, nr, np, nq, ny, nw, nu, ys, gv, nd, ro, re)) : wpY_two post (nI N, ov, rr, rw, tc, tr, nk, nl, nr, np, nq, ny, nw, nu, ys, gv, nd, ro, re) K (nI j) (nI m) a b := by
  have vj : vp_in (nI j) 12 := vp_in_nI (by omega) (by decide)
  have vm : vp_in (nI m) 12 := vp_in_nI (by omega) (by decide)
  unfold wpY_two
  dsimp only
  refine ya_node_ok hN hj (br_t rfl (ya_node_ok hN hm (br_t rfl ⟨vj, ?_⟩)))
  rw [nI_clamp (show j < 2 ^ 31 by omega), nI_clamp (show m < 2 ^ 31 by omega), hw, hv]
  refine br_t h.1 ⟨vm, br_t h.2.1 (br_f (fun z => h.2.2 ((nI_eq (by omega) (by omega)).mp z)) ?_)⟩
  rcases hab with e | ⟨⟨c, hc, rfl⟩, e⟩
  · exact cb_d1 e vj hp
  · exact cb_d2 hc hw6 vj (cb_c1 e vm hp)
theorem yt_go {post : Int32 → SY → Prop} {N j m w v c d : Nat} {K : Int32} (hN : N ≤ 12) (hj : j < N) (hm : m < N) (h : nu j = 0 ∧ nu m = 0 ∧ j ≠ m) (hw : nw j = nI w) (hw6 : w ≤ 6) (hv : nw m = nI v) (hv6 : v ≤ 6) (hc : c < w) (hd : d < v)
    (h4 : K = 4 → 6 < w + v → post (-7) (nI N, ov, rr, rw, tc, tr, nk, nl, nr, np, nq, ny, nw, nu, ys, gv, nd, ro, re)) (hp : (K = 4 → w + v ≤ 6) → wY_two_106 post K (nI j) (nI m) (nI c) (nI d) (nI N) ov rr rw tc tr nk nl nr np nq ny nw nu ys gv nd ro re) : wpY_two post (nI N, ov, rr, rw, tc, tr, nk, nl, nr, np, nq, ny, nw, nu, ys, gv, nd, ro, re) K (nI j) (nI m) (nI c) (nI d) := by
  have vj : vp_in (nI j) 12 := vp_in_nI (by omega) (by decide)
  have vm : vp_in (nI m) 12 := vp_in_nI (by omega) (by decide)
  unfold wpY_two
  dsimp only
  refine ya_node_ok hN hj (br_t rfl (ya_node_ok hN hm (br_t rfl ⟨vj, ?_⟩)))
  rw [nI_clamp (show j < 2 ^ 31 by omega), nI_clamp (show m < 2 ^ 31 by omega), hw, hv, nI_add]
  refine br_t h.1 ⟨vm, br_t h.2.1 (br_f (fun z => h.2.2 ((nI_eq (by omega) (by omega)).mp z)) (cb_d2 hc hw6 vj (cb_c2 hd hv6 vm (br_c (fun e => ⟨vj, vm, pk_le (w + v) 6 (fun l => hp fun _ => l) (fun l => h4 e l)⟩) (fun e => hp fun z => absurd z e)))))⟩
theorem yt_full {post : Int32 → SY → Prop} {K x y a b : Int32} (hp : post (-2) (nI 12, ov, rr, rw, tc, tr, nk, nl, nr, np, nq, ny, nw, nu, ys, gv, nd, ro, re)) : wY_two_106 post K x y a b (nI 12) ov rr rw tc tr nk nl nr np nq ny nw nu ys gv nd ro re := br_t rfl hp
theorem yt_mk {post : Int32 → SY → Prop} {N j m w v : Nat} {K W a b : Int32} (hN : N < 12) (hj : j < N) (hm : m < N) (hw : nw j = nI w) (hv : nw m = nI v) (hW : (K = 4 ∧ W = nI (w + v)) ∨ (¬ K = 4 ∧ W = nI w))
    (hp : post (nI N) (nI (N + 1), ov, rr, rw, tc, tr, upd nk N K, upd nl N (nI j), upd nr N (nI m), upd np N a, upd nq N b, upd ny N 0, upd nw N W, rl_us nu N (nI j) (nI m), ys, gv, nd, ro, re)) : wY_two_106 post K (nI j) (nI m) a b (nI N) ov rr rw tc tr nk nl nr np nq ny nw nu ys gv nd ro re := by
  have vj : vp_in (nI j) 12 := vp_in_nI (by omega) (by decide)
  have vm : vp_in (nI m) 12 := vp_in_nI (by omega) (by decide)
  refine br_f (cb_12 hN) ?_
  rw [nI_clamp (show j < 2 ^ 31 by omega), nI_clamp (show m < 2 ^ 31 by omega), hw, hv, nI_add]
  rcases hW with ⟨e, rfl⟩ | ⟨e, rfl⟩
  · exact br_t e ⟨vj, vm, ya_make hN (Or.inr ⟨j, by omega, rfl⟩) (Or.inr ⟨m, by omega, rfl⟩) (ya_say hN hp)⟩
  · exact br_f e ⟨vj, ya_make hN (Or.inr ⟨j, by omega, rfl⟩) (Or.inr ⟨m, by omega, rfl⟩) (ya_say hN hp)⟩
end
theorem cb_2 (x y : Int32) (n m : Nat) (hn : n ≤ 20) (hm : m ≤ 20) : ((x < 0 ∨ nI n ≤ x) ∨ ((∃ j, j < n ∧ x = nI j) ∧ (y < 0 ∨ nI m ≤ y))) ∨ ∃ j i : Nat, j < n ∧ i < m ∧ x = nI j ∧ y = nI i := by
  rcases cb_ix x n hn with h | ⟨j, hj, e⟩
  · exact Or.inl (Or.inl h)
  · rcases cb_ix y m hm with h | ⟨i, hi, e2⟩
    · exact Or.inl (Or.inr ⟨⟨j, hj, e⟩, h⟩)
    · exact Or.inr ⟨j, i, hj, hi, e, e2⟩
theorem i_vc_join {k : Nat} {u : SX} {v : SY} (I : i_Rel k u v) (hk : k + 5 ≤ 2560) (v1 : Int32) (v2 : Int32) (v3 : Int32) (v4 : Int32) : wpX_join (fun r u' => wpY_join (fun r' v' => r' = r ∧ i_Rel (k + 5) u' v') v v1 v2 v3 v4) u v1 v2 v3 v4 := by
  obtain ⟨nc, ov, rr, rw, tc, tr, nk, nw, nl, nr, nf, ns, nt, nu, ip, bc, br, rc, np, nq, ny, ys, gv, nd, ro, re, rfl, rfl, hW⟩ := I
  have same : ∀ r : Int32, r = r ∧ i_Rel (k + 5) (nc, rr, rw, tc, tr, nk, nw, nl, nr, nf, ns, nt, nu, ip, bc, br, rc) (nc, ov, rr, rw, tc, tr, nk, nl, nr, np, nq, ny, nw, nu, ys, gv, nd, ro, re) := fun r => ⟨rfl, rl_mk hW⟩
  have hW0 := hW
  obtain ⟨⟨N, hN, rfl, hNd⟩, hT, hRs⟩ := hW0
  unfold wpX_join
  dsimp only
  rcases cb_2 v1 v2 N N (by omega) (by omega) with h | ⟨j, q, hj, hq, rfl, rfl⟩
  · refine xa_mr_bad hN h (br_f (by decide) ?_)
    try dsimp only
    unfold wpY_join
    dsimp only
    exact yt_bad hN h (same _)
  · obtain ⟨w, hw6, hww⟩ := rl_wid (hNd j hj)
    obtain ⟨v, hv6, hvv⟩ := rl_wid (hNd q hq)
    have vj : vp_in (nI j) 12 := vp_in_nI (by omega) (by decide)
    have vq : vp_in (nI q) 12 := vp_in_nI (by omega) (by decide)
    by_cases hu : nu j = 0 ∧ nu q = 0 ∧ j ≠ q
    · rcases cb_2 v3 v4 w v (by omega) (by omega) with h | ⟨c, d, hc, hd, rfl, rfl⟩
      · refine xa_mr_col hN hj hq hu hww hw6 hvv h (br_f (by decide) ?_)
        try dsimp only
        unfold wpY_join
        dsimp only
        exact yt_col hN hj hq hu hww hw6 hvv h (same _)
      · refine xa_mr_ok hN hj hq hu hww hw6 hvv hv6 hc hd (br_t rfl ?_)
        refine ⟨vj, vq, nm_r (e' := nI (w + v)) (by rw [nI_clamp (show j < 2 ^ 31 by omega), nI_clamp (show q < 2 ^ 31 by omega), hww, hvv, nI_add]) ?_⟩
        refine pk_le (w + v) 6 (fun l => ?_) (fun l => ?_)
        · rcases cb_N hN with rfl | hN'
          · refine xa_full ?_
            try dsimp only
            unfold wpY_join
            dsimp only
            exact yt_go hN hj hq hu hww hw6 hvv hv6 hc hd (fun _ z => absurd z (by omega)) (fun _ => yt_full (same _))
          · refine xa_add hN' (Or.inr ⟨j, by omega, rfl⟩) (Or.inr ⟨q, by omega, rfl⟩) ?_
            try dsimp only
            unfold wpY_join
            dsimp only
            exact yt_go hN hj hq hu hww hw6 hvv hv6 hc hd (fun _ z => absurd z (by omega)) (fun _ => yt_mk hN' hj hq hww hvv (Or.inl ⟨rfl, rfl⟩) ⟨rfl, rl_mk (rl_add hW hN' rl_u rl_u rl_u rl_u rl_u rl_u rl_u rl_u rl_u rl_u (by simp only [pk_us]; exact rn_join hj hq hww hvv l hc hd))⟩)
        · skip
          try dsimp only
          unfold wpY_join
          dsimp only
          exact yt_go hN hj hq hu hww hw6 hvv hv6 hc hd (fun _ _ => same _) (fun z => absurd (z rfl) (by omega))
    · refine xa_mr_used hN hj hq hu (br_f (by decide) ?_)
      try dsimp only
      unfold wpY_join
      dsimp only
      exact yt_used hN hj hq hu (same _)
theorem i_vc_semi {k : Nat} {u : SX} {v : SY} (I : i_Rel k u v) (hk : k + 5 ≤ 2560) (v1 : Int32) (v2 : Int32) (v3 : Int32) (v4 : Int32) : wpX_semi (fun r u' => wpY_semi (fun r' v' => r' = r ∧ i_Rel (k + 5) u' v') v v1 v2 v3 v4) u v1 v2 v3 v4 := by
  obtain ⟨nc, ov, rr, rw, tc, tr, nk, nw, nl, nr, nf, ns, nt, nu, ip, bc, br, rc, np, nq, ny, ys, gv, nd, ro, re, rfl, rfl, hW⟩ := I
  have same : ∀ r : Int32, r = r ∧ i_Rel (k + 5) (nc, rr, rw, tc, tr, nk, nw, nl, nr, nf, ns, nt, nu, ip, bc, br, rc) (nc, ov, rr, rw, tc, tr, nk, nl, nr, np, nq, ny, nw, nu, ys, gv, nd, ro, re) := fun r => ⟨rfl, rl_mk hW⟩
  have hW0 := hW
  obtain ⟨⟨N, hN, rfl, hNd⟩, hT, hRs⟩ := hW0
  unfold wpX_semi
  dsimp only
  unfold wpX_addLeftRowsNode
  dsimp only
  rcases cb_2 v1 v2 N N (by omega) (by omega) with h | ⟨j, q, hj, hq, rfl, rfl⟩
  · refine xa_mr_bad hN h (br_f (by decide) ?_)
    try dsimp only
    unfold wpY_semi
    dsimp only
    exact yt_bad hN h (same _)
  · obtain ⟨w, hw6, hww⟩ := rl_wid (hNd j hj)
    obtain ⟨v, hv6, hvv⟩ := rl_wid (hNd q hq)
    have vj : vp_in (nI j) 12 := vp_in_nI (by omega) (by decide)
    have vq : vp_in (nI q) 12 := vp_in_nI (by omega) (by decide)
    by_cases hu : nu j = 0 ∧ nu q = 0 ∧ j ≠ q
    · rcases cb_2 v3 v4 w v (by omega) (by omega) with h | ⟨c, d, hc, hd, rfl, rfl⟩
      · refine xa_mr_col hN hj hq hu hww hw6 hvv h (br_f (by decide) ?_)
        try dsimp only
        unfold wpY_semi
        dsimp only
        exact yt_col hN hj hq hu hww hw6 hvv h (same _)
      · refine xa_mr_ok hN hj hq hu hww hw6 hvv hv6 hc hd (br_t rfl ?_)
        refine ⟨vj, ?_⟩
        rw [nI_clamp (show j < 2 ^ 31 by omega), hww]
        have nk4 : ¬ (5 : Int32) = 4 := by decide
        rcases cb_N hN with rfl | hN'
        · refine xa_full ?_
          try dsimp only
          unfold wpY_semi
          dsimp only
          exact yt_go hN hj hq hu hww hw6 hvv hv6 hc hd (fun z _ => absurd z nk4) (fun _ => yt_full (same _))
        · refine xa_add hN' (Or.inr ⟨j, by omega, rfl⟩) (Or.inr ⟨q, by omega, rfl⟩) ?_
          try dsimp only
          unfold wpY_semi
          dsimp only
          exact yt_go hN hj hq hu hww hw6 hvv hv6 hc hd (fun z _ => absurd z nk4) (fun _ => yt_mk hN' hj hq hww hvv (Or.inr ⟨nk4, rfl⟩) ⟨rfl, rl_mk (rl_add hW hN' rl_u rl_u rl_u rl_u rl_u rl_u rl_u rl_u rl_u rl_u (by simp only [pk_us]; exact rn_semi hj hq hww hw6 hvv hv6 hc hd))⟩)
    · refine xa_mr_used hN hj hq hu (br_f (by decide) ?_)
      try dsimp only
      unfold wpY_semi
      dsimp only
      exact yt_used hN hj hq hu (same _)
theorem i_vc_anti {k : Nat} {u : SX} {v : SY} (I : i_Rel k u v) (hk : k + 5 ≤ 2560) (v1 : Int32) (v2 : Int32) (v3 : Int32) (v4 : Int32) : wpX_anti (fun r u' => wpY_anti (fun r' v' => r' = r ∧ i_Rel (k + 5) u' v') v v1 v2 v3 v4) u v1 v2 v3 v4 := by
  obtain ⟨nc, ov, rr, rw, tc, tr, nk, nw, nl, nr, nf, ns, nt, nu, ip, bc, br, rc, np, nq, ny, ys, gv, nd, ro, re, rfl, rfl, hW⟩ := I
  have same : ∀ r : Int32, r = r ∧ i_Rel (k + 5) (nc, rr, rw, tc, tr, nk, nw, nl, nr, nf, ns, nt, nu, ip, bc, br, rc) (nc, ov, rr, rw, tc, tr, nk, nl, nr, np, nq, ny, nw, nu, ys, gv, nd, ro, re) := fun r => ⟨rfl, rl_mk hW⟩
  have hW0 := hW
  obtain ⟨⟨N, hN, rfl, hNd⟩, hT, hRs⟩ := hW0
  unfold wpX_anti
  dsimp only
  unfold wpX_addLeftRowsNode
  dsimp only
  rcases cb_2 v1 v2 N N (by omega) (by omega) with h | ⟨j, q, hj, hq, rfl, rfl⟩
  · refine xa_mr_bad hN h (br_f (by decide) ?_)
    try dsimp only
    unfold wpY_anti
    dsimp only
    exact yt_bad hN h (same _)
  · obtain ⟨w, hw6, hww⟩ := rl_wid (hNd j hj)
    obtain ⟨v, hv6, hvv⟩ := rl_wid (hNd q hq)
    have vj : vp_in (nI j) 12 := vp_in_nI (by omega) (by decide)
    have vq : vp_in (nI q) 12 := vp_in_nI (by omega) (by decide)
    by_cases hu : nu j = 0 ∧ nu q = 0 ∧ j ≠ q
    · rcases cb_2 v3 v4 w v (by omega) (by omega) with h | ⟨c, d, hc, hd, rfl, rfl⟩
      · refine xa_mr_col hN hj hq hu hww hw6 hvv h (br_f (by decide) ?_)
        try dsimp only
        unfold wpY_anti
        dsimp only
        exact yt_col hN hj hq hu hww hw6 hvv h (same _)
      · refine xa_mr_ok hN hj hq hu hww hw6 hvv hv6 hc hd (br_t rfl ?_)
        refine ⟨vj, ?_⟩
        rw [nI_clamp (show j < 2 ^ 31 by omega), hww]
        have nk4 : ¬ (6 : Int32) = 4 := by decide
        rcases cb_N hN with rfl | hN'
        · refine xa_full ?_
          try dsimp only
          unfold wpY_anti
          dsimp only
          exact yt_go hN hj hq hu hww hw6 hvv hv6 hc hd (fun z _ => absurd z nk4) (fun _ => yt_full (same _))
        · refine xa_add hN' (Or.inr ⟨j, by omega, rfl⟩) (Or.inr ⟨q, by omega, rfl⟩) ?_
          try dsimp only
          unfold wpY_anti
          dsimp only
          exact yt_go hN hj hq hu hww hw6 hvv hv6 hc hd (fun z _ => absurd z nk4) (fun _ => yt_mk hN' hj hq hww hvv (Or.inr ⟨nk4, rfl⟩) ⟨rfl, rl_mk (rl_add hW hN' rl_u rl_u rl_u rl_u rl_u rl_u rl_u rl_u rl_u rl_u (by simp only [pk_us]; exact rn_anti hj hq hww hw6 hvv hv6 hc hd))⟩)
    · refine xa_mr_used hN hj hq hu (br_f (by decide) ?_)
      try dsimp only
      unfold wpY_anti
      dsimp only
      exact yt_used hN hj hq hu (same _)
theorem i_vc_union {k : Nat} {u : SX} {v : SY} (I : i_Rel k u v) (hk : k + 5 ≤ 2560) (v1 : Int32) (v2 : Int32) : wpX_union (fun r u' => wpY_union (fun r' v' => r' = r ∧ i_Rel (k + 5) u' v') v v1 v2) u v1 v2 := by
  obtain ⟨nc, ov, rr, rw, tc, tr, nk, nw, nl, nr, nf, ns, nt, nu, ip, bc, br, rc, np, nq, ny, ys, gv, nd, ro, re, rfl, rfl, hW⟩ := I
  have same : ∀ r : Int32, r = r ∧ i_Rel (k + 5) (nc, rr, rw, tc, tr, nk, nw, nl, nr, nf, ns, nt, nu, ip, bc, br, rc) (nc, ov, rr, rw, tc, tr, nk, nl, nr, np, nq, ny, nw, nu, ys, gv, nd, ro, re) := fun r => ⟨rfl, rl_mk hW⟩
  have hW0 := hW
  obtain ⟨⟨N, hN, rfl, hNd⟩, hT, hRs⟩ := hW0
  unfold wpX_union
  dsimp only
  rcases cb_2 v1 v2 N N (by omega) (by omega) with h | ⟨j, q, hj, hq, rfl, rfl⟩
  · refine xa_ins_bad hN h (br_f (by decide) ?_)
    try dsimp only
    unfold wpY_union
    dsimp only
    rcases h with h | ⟨⟨j, hj, rfl⟩, h⟩
    · exact ya_node_bad h (br_f (by decide) (same _))
    · exact ya_node_ok hN hj (br_t rfl (ya_node_bad h (br_f (by decide) (same _))))
  · obtain ⟨w, hw6, hww⟩ := rl_wid (hNd j hj)
    obtain ⟨v, hv6, hvv⟩ := rl_wid (hNd q hq)
    have vj : vp_in (nI j) 12 := vp_in_nI (by omega) (by decide)
    have vq : vp_in (nI q) 12 := vp_in_nI (by omega) (by decide)
    have cj : (nI j).toNatClampNeg = j := nI_clamp (by omega)
    have cq : (nI q).toNatClampNeg = q := nI_clamp (by omega)
    by_cases hu : nu j = 0 ∧ nu q = 0 ∧ j ≠ q
    · have njq : ¬ nI j = nI q := fun z => hu.2.2 ((nI_eq (by omega) (by omega)).mp z)
      refine xa_ins_ok hN hj hq hu (br_t rfl ⟨vj, vq, ?_⟩)
      rw [cj, cq, hww, hvv]
      refine pk_eq w v (fun e => ⟨vj, ?_⟩) (fun e => ?_)
      · subst e
        rcases cb_N hN with rfl | hN'
        · refine xa_full ?_
          try dsimp only
          unfold wpY_union
          dsimp only
          refine ya_node_ok hN hj (br_t rfl (ya_node_ok hN hq (br_t rfl ⟨vj, ?_⟩)))
          rw [cj, cq, hww, hvv]
          exact br_t hu.1 ⟨vq, br_t hu.2.1 (br_f njq ⟨vj, vq, br_t rfl (br_t rfl (same _))⟩)⟩
        · refine xa_add hN' (Or.inr ⟨j, by omega, rfl⟩) (Or.inr ⟨q, by omega, rfl⟩) ?_
          try dsimp only
          unfold wpY_union
          dsimp only
          refine ya_node_ok hN hj (br_t rfl (ya_node_ok hN hq (br_t rfl ⟨vj, ?_⟩)))
          rw [cj, cq, hww, hvv]
          exact br_t hu.1 ⟨vq, br_t hu.2.1 (br_f njq ⟨vj, vq, br_t rfl (br_f (cb_12 hN') ⟨vj, ya_make hN' (Or.inr ⟨j, by omega, rfl⟩) (Or.inr ⟨q, by omega, rfl⟩) ⟨rfl, rl_mk (rl_add hW hN' rl_u rl_u rl_u rl_u rl_u rl_u rl_u rl_r rl_r rl_r (by simp only [pk_us]; exact rn_union hj hq hw6 hww hvv))⟩⟩)⟩)⟩
      · skip
        try dsimp only
        unfold wpY_union
        dsimp only
        refine ya_node_ok hN hj (br_t rfl (ya_node_ok hN hq (br_t rfl ⟨vj, ?_⟩)))
        rw [cj, cq, hww, hvv]
        exact br_t hu.1 ⟨vq, br_t hu.2.1 (br_f njq ⟨vj, vq, br_f (fun z => e ((nI_eq (by omega) (by omega)).mp z)) (same _)⟩)⟩
    · refine xa_ins_used hN hj hq hu (br_f (by decide) ?_)
      try dsimp only
      unfold wpY_union
      dsimp only
      refine ya_node_ok hN hj (br_t rfl (ya_node_ok hN hq (br_t rfl ⟨vj, ?_⟩)))
      rw [cj, cq]
      exact br_c (fun e1 => ⟨vq, br_c (fun e2 => br_c (fun _ => same _) (fun e3 => absurd ⟨e1, e2, fun z => e3 (by rw [z])⟩ hu)) (fun _ => same _)⟩) (fun _ => same _)
