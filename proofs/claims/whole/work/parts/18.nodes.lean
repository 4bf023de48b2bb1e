/-! calls that make a node of one input, or none -/
theorem i_vc_scan {k : Nat} {u : SX} {v : SY} (I : i_Rel k u v) (hk : k + 5 ≤ 2560) (v1 : Int32) : wpX_scan (fun r u' => wpY_scan (fun r' v' => r' = r ∧ i_Rel (k + 5) u' v') v v1) u v1 := by
  obtain ⟨nc, ov, rr, rw, tc, tr, nk, nw, nl, nr, nf, ns, nt, nu, ip, bc, br, rc, np, nq, ny, ys, gv, nd, ro, re, rfl, rfl, hW⟩ := I
  have same : ∀ r : Int32, r = r ∧ i_Rel (k + 5) (nc, rr, rw, tc, tr, nk, nw, nl, nr, nf, ns, nt, nu, ip, bc, br, rc) (nc, ov, rr, rw, tc, tr, nk, nl, nr, np, nq, ny, nw, nu, ys, gv, nd, ro, re) := fun r => ⟨rfl, rl_mk hW⟩
  have hW0 := hW
  obtain ⟨⟨N, hN, rfl, hNd⟩, hT, hRs⟩ := hW0
  unfold wpX_scan
  dsimp only
  rcases cb_ix v1 3 (by omega) with h | ⟨t, ht, rfl⟩
  · refine xa_tab_bad h (br_t rfl ?_)
    try dsimp only
    unfold wpY_scan
    dsimp only
    exact ya_tab_bad h (br_f (by decide) (same _))
  · refine xa_tab_ok ht (br_f (by decide) ?_)
    rcases cb_N hN with rfl | hN'
    · refine xa_full ?_
      try dsimp only
      unfold wpY_scan
      dsimp only
      exact ya_tab_ok ht (br_t rfl (br_t rfl (same _)))
    · refine xa_add hN' (Or.inl rfl) (Or.inl rfl) ?_
      try dsimp only
      unfold wpY_scan
      dsimp only
      exact ya_tab_ok ht (br_t rfl (br_f (cb_12 hN') (ya_make hN' (Or.inl rfl) (Or.inl rfl) (ya_say hN' ⟨rfl, rl_mk (rl_add hW hN' rl_u rl_u rl_u rl_u rl_u rl_u rl_u rl_u rl_u rl_u (by simp only [pk_us]; exact rn_scan ht))⟩))))
theorem i_vc_filter {k : Nat} {u : SX} {v : SY} (I : i_Rel k u v) (hk : k + 5 ≤ 2560) (v1 : Int32) (v2 : Int32) (v3 : Int32) (v4 : Int32) : wpX_filter (fun r u' => wpY_filter (fun r' v' => r' = r ∧ i_Rel (k + 5) u' v') v v1 v2 v3 v4) u v1 v2 v3 v4 := by
  obtain ⟨nc, ov, rr, rw, tc, tr, nk, nw, nl, nr, nf, ns, nt, nu, ip, bc, br, rc, np, nq, ny, ys, gv, nd, ro, re, rfl, rfl, hW⟩ := I
  have same : ∀ r : Int32, r = r ∧ i_Rel (k + 5) (nc, rr, rw, tc, tr, nk, nw, nl, nr, nf, ns, nt, nu, ip, bc, br, rc) (nc, ov, rr, rw, tc, tr, nk, nl, nr, np, nq, ny, nw, nu, ys, gv, nd, ro, re) := fun r => ⟨rfl, rl_mk hW⟩
  have hW0 := hW
  obtain ⟨⟨N, hN, rfl, hNd⟩, hT, hRs⟩ := hW0
  unfold wpX_filter
  dsimp only
  rcases cb_ix v1 N (by omega) with h | ⟨j, hj, rfl⟩
  · refine xa_in_bad h (br_f (by decide) ?_)
    try dsimp only
    unfold wpY_filter
    dsimp only
    exact ya_node_bad h (br_f (by decide) (same _))
  · obtain ⟨w, hw6, hww⟩ := rl_wid (hNd j hj)
    have cj : (nI j).toNatClampNeg = j := nI_clamp (by omega)
    have vj : vp_in (nI j) 12 := vp_in_nI (by omega) (by decide)
    by_cases hu : nu j = 0
    · refine xa_in_ok hN hj hu (br_t rfl ?_)
      rcases cb_ix v2 w (by omega) with h | ⟨c, hc, rfl⟩
      · refine xa_col_bad (by omega) hww h (br_t rfl ?_)
        try dsimp only
        unfold wpY_filter
        dsimp only
        refine ya_node_ok hN hj (br_t rfl ⟨vj, ?_⟩)
        rw [cj, hww]
        exact br_t hu (cb_c1 h vj (same _))
      · refine xa_col_ok (by omega) hww hw6 hc (br_f (by decide) ?_)
        rcases cb_kx v3 5 (by omega) with h | ⟨q, hq, rfl⟩
        · refine cb_k1 (m := 5) h ?_
          try dsimp only
          unfold wpY_filter
          dsimp only
          refine ya_node_ok hN hj (br_t rfl ⟨vj, ?_⟩)
          rw [cj, hww]
          exact br_t hu (cb_c2 hc hw6 vj (cb_k1 (m := 5) h (same _)))
        · refine cb_k2 hq (by omega) rfl ⟨vj, ?_⟩
          rw [cj, hww]
          rcases cb_N hN with rfl | hN'
          · refine xa_full ?_
            try dsimp only
            unfold wpY_filter
            dsimp only
            refine ya_node_ok hN hj (br_t rfl ⟨vj, ?_⟩)
            rw [cj, hww]
            exact br_t hu (cb_c2 hc hw6 vj (cb_k2 hq (by omega) rfl (br_t rfl (same _))))
          · refine xa_add hN' (Or.inr ⟨j, by omega, rfl⟩) (Or.inl rfl) ?_
            try dsimp only
            unfold wpY_filter
            dsimp only
            refine ya_node_ok hN hj (br_t rfl ⟨vj, ?_⟩)
            rw [cj, hww]
            exact br_t hu (cb_c2 hc hw6 vj (cb_k2 hq (by omega) rfl (br_f (cb_12 hN') ⟨vj, ya_make hN' (Or.inr ⟨j, by omega, rfl⟩) (Or.inl rfl) (ya_say hN' ⟨rfl, rl_mk (rl_add hW hN' rl_u rl_u rl_u rl_u rl_u rl_u rl_u rl_u rl_u rl_u (by simp only [pk_us]; exact rn_filter hj hw6 hww hc hq))⟩)⟩)))
    · refine xa_in_used hN hj hu (br_f (by decide) ?_)
      try dsimp only
      unfold wpY_filter
      dsimp only
      refine ya_node_ok hN hj (br_t rfl ⟨vj, ?_⟩)
      rw [cj]
      exact br_f hu (same _)
theorem i_vc_extend {k : Nat} {u : SX} {v : SY} (I : i_Rel k u v) (hk : k + 5 ≤ 2560) (v1 : Int32) (v2 : Int32) (v3 : Int32) (v4 : Int32) : wpX_extend (fun r u' => wpY_extend (fun r' v' => r' = r ∧ i_Rel (k + 5) u' v') v v1 v2 v3 v4) u v1 v2 v3 v4 := by
  obtain ⟨nc, ov, rr, rw, tc, tr, nk, nw, nl, nr, nf, ns, nt, nu, ip, bc, br, rc, np, nq, ny, ys, gv, nd, ro, re, rfl, rfl, hW⟩ := I
  have same : ∀ r : Int32, r = r ∧ i_Rel (k + 5) (nc, rr, rw, tc, tr, nk, nw, nl, nr, nf, ns, nt, nu, ip, bc, br, rc) (nc, ov, rr, rw, tc, tr, nk, nl, nr, np, nq, ny, nw, nu, ys, gv, nd, ro, re) := fun r => ⟨rfl, rl_mk hW⟩
  have hW0 := hW
  obtain ⟨⟨N, hN, rfl, hNd⟩, hT, hRs⟩ := hW0
  unfold wpX_extend
  dsimp only
  rcases cb_ix v1 N (by omega) with h | ⟨j, hj, rfl⟩
  · refine xa_in_bad h (br_f (by decide) ?_)
    try dsimp only
    unfold wpY_extend
    dsimp only
    exact ya_node_bad h (br_f (by decide) (same _))
  · obtain ⟨w, hw6, hww⟩ := rl_wid (hNd j hj)
    have cj : (nI j).toNatClampNeg = j := nI_clamp (by omega)
    have vj : vp_in (nI j) 12 := vp_in_nI (by omega) (by decide)
    by_cases hu : nu j = 0
    · refine xa_in_ok hN hj hu (br_t rfl ?_)
      rcases cb_kx v2 4 (by omega) with h | ⟨q, hq, rfl⟩
      · refine cb_k1 (m := 4) h ?_
        try dsimp only
        unfold wpY_extend
        dsimp only
        refine ya_node_ok hN hj (br_t rfl ⟨vj, ?_⟩)
        rw [cj, hww]
        exact br_t hu (cb_k1 (m := 4) h (same _))
      · refine cb_k2 hq (by omega) rfl ?_
        rcases cb_ix v3 w (by omega) with h | ⟨c, hc, rfl⟩
        · refine xa_col_bad (by omega) hww h (br_t rfl ?_)
          try dsimp only
          unfold wpY_extend
          dsimp only
          refine ya_node_ok hN hj (br_t rfl ⟨vj, ?_⟩)
          rw [cj, hww]
          exact br_t hu (cb_k2 hq (by omega) rfl (cb_d1 h vj (same _)))
        · refine xa_col_ok (by omega) hww hw6 hc (br_f (by decide) ?_)
          rcases cb_ix v4 w (by omega) with h | ⟨d, hd, rfl⟩
          · refine xa_col_bad (by omega) hww h (br_t rfl ?_)
            try dsimp only
            unfold wpY_extend
            dsimp only
            refine ya_node_ok hN hj (br_t rfl ⟨vj, ?_⟩)
            rw [cj, hww]
            exact br_t hu (cb_k2 hq (by omega) rfl (cb_d2 hc hw6 vj (cb_c1 h vj (same _))))
          · refine xa_col_ok (by omega) hww hw6 hd (br_f (by decide) ⟨vj, ?_⟩)
            rw [cj, hww]
            by_cases h6 : w = 6
            · subst h6
              refine br_f (by decide) ?_
              try dsimp only
              unfold wpY_extend
              dsimp only
              refine ya_node_ok hN hj (br_t rfl ⟨vj, ?_⟩)
              rw [cj, hww]
              exact br_t hu (cb_k2 hq (by omega) rfl (cb_d2 hc hw6 vj (cb_c2 hd hw6 vj ⟨vj, br_t rfl (same _)⟩)))
            · have n6 : ¬ nI w = 6 := fun z => by
                have := (nI_eq (b := 6) (by omega) (by decide)).mp z
                omega
              refine br_t (nI_lt (b := 6) (by omega) (by decide)) ⟨vj, ?_⟩
              rw [nI_1 w]
              rcases cb_N hN with rfl | hN'
              · refine xa_full ?_
                try dsimp only
                unfold wpY_extend
                dsimp only
                refine ya_node_ok hN hj (br_t rfl ⟨vj, ?_⟩)
                rw [cj, hww]
                exact br_t hu (cb_k2 hq (by omega) rfl (cb_d2 hc hw6 vj (cb_c2 hd hw6 vj ⟨vj, br_f n6 (br_t rfl (same _))⟩)))
              · refine xa_add hN' (Or.inr ⟨j, by omega, rfl⟩) (Or.inl rfl) ?_
                try dsimp only
                unfold wpY_extend
                dsimp only
                refine ya_node_ok hN hj (br_t rfl ⟨vj, ?_⟩)
                rw [cj, hww, nI_1 w]
                exact br_t hu (cb_k2 hq (by omega) rfl (cb_d2 hc hw6 vj (cb_c2 hd hw6 vj ⟨vj, br_f n6 (br_f (cb_12 hN') ⟨vj, ya_make hN' (Or.inr ⟨j, by omega, rfl⟩) (Or.inl rfl) (ya_say hN' ⟨rfl, rl_mk (rl_add hW hN' rl_u rl_u rl_u rl_u rl_u rl_u rl_u rl_u rl_u rl_u (by simp only [pk_us]; exact rn_ext hj (by omega) hww hq hc hd))⟩)⟩)⟩)))
    · refine xa_in_used hN hj hu (br_f (by decide) ?_)
      try dsimp only
      unfold wpY_extend
      dsimp only
      refine ya_node_ok hN hj (br_t rfl ⟨vj, ?_⟩)
      rw [cj]
      exact br_f hu (same _)
theorem i_vc_group {k : Nat} {u : SX} {v : SY} (I : i_Rel k u v) (hk : k + 5 ≤ 2560) (v1 : Int32) (v2 : Int32) (v3 : Int32) (v4 : Int32) : wpX_group (fun r u' => wpY_group (fun r' v' => r' = r ∧ i_Rel (k + 5) u' v') v v1 v2 v3 v4) u v1 v2 v3 v4 := by
  obtain ⟨nc, ov, rr, rw, tc, tr, nk, nw, nl, nr, nf, ns, nt, nu, ip, bc, br, rc, np, nq, ny, ys, gv, nd, ro, re, rfl, rfl, hW⟩ := I
  have same : ∀ r : Int32, r = r ∧ i_Rel (k + 5) (nc, rr, rw, tc, tr, nk, nw, nl, nr, nf, ns, nt, nu, ip, bc, br, rc) (nc, ov, rr, rw, tc, tr, nk, nl, nr, np, nq, ny, nw, nu, ys, gv, nd, ro, re) := fun r => ⟨rfl, rl_mk hW⟩
  have hW0 := hW
  obtain ⟨⟨N, hN, rfl, hNd⟩, hT, hRs⟩ := hW0
  unfold wpX_group
  dsimp only
  rcases cb_ix v1 N (by omega) with h | ⟨j, hj, rfl⟩
  · refine xa_in_bad h (br_f (by decide) ?_)
    try dsimp only
    unfold wpY_group
    dsimp only
    exact ya_node_bad h (br_f (by decide) (same _))
  · obtain ⟨w, hw6, hww⟩ := rl_wid (hNd j hj)
    have cj : (nI j).toNatClampNeg = j := nI_clamp (by omega)
    have vj : vp_in (nI j) 12 := vp_in_nI (by omega) (by decide)
    by_cases hu : nu j = 0
    · refine xa_in_ok hN hj hu (br_t rfl ?_)
      rcases cb_ix v2 w (by omega) with h | ⟨c, hc, rfl⟩
      · refine xa_col_bad (by omega) hww h (br_t rfl ?_)
        try dsimp only
        unfold wpY_group
        dsimp only
        refine ya_node_ok hN hj (br_t rfl ⟨vj, ?_⟩)
        rw [cj, hww]
        exact br_t hu (cb_d1 h vj (same _))
      · refine xa_col_ok (by omega) hww hw6 hc (br_f (by decide) ?_)
        rcases cb_ix v4 w (by omega) with h | ⟨d, hd, rfl⟩
        · refine xa_col_bad (by omega) hww h (br_t rfl ?_)
          try dsimp only
          unfold wpY_group
          dsimp only
          refine ya_node_ok hN hj (br_t rfl ⟨vj, ?_⟩)
          rw [cj, hww]
          exact br_t hu (cb_d2 hc hw6 vj (cb_c1 h vj (same _)))
        · refine xa_col_ok (by omega) hww hw6 hd (br_f (by decide) ?_)
          rcases cb_kx v3 3 (by omega) with h | ⟨q, hq, rfl⟩
          · refine cb_k1 (m := 3) h ?_
            try dsimp only
            unfold wpY_group
            dsimp only
            refine ya_node_ok hN hj (br_t rfl ⟨vj, ?_⟩)
            rw [cj, hww]
            exact br_t hu (cb_d2 hc hw6 vj (cb_c2 hd hw6 vj (cb_k1 (m := 3) h (same _))))
          · refine cb_k2 hq (by omega) rfl ?_
            rcases cb_N hN with rfl | hN'
            · refine xa_full ?_
              try dsimp only
              unfold wpY_group
              dsimp only
              refine ya_node_ok hN hj (br_t rfl ⟨vj, ?_⟩)
              rw [cj, hww]
              exact br_t hu (cb_d2 hc hw6 vj (cb_c2 hd hw6 vj (cb_k2 hq (by omega) rfl (br_t rfl (same _)))))
            · refine xa_add hN' (Or.inr ⟨j, by omega, rfl⟩) (Or.inl rfl) ?_
              try dsimp only
              unfold wpY_group
              dsimp only
              refine ya_node_ok hN hj (br_t rfl ⟨vj, ?_⟩)
              rw [cj, hww]
              exact br_t hu (cb_d2 hc hw6 vj (cb_c2 hd hw6 vj (cb_k2 hq (by omega) rfl (br_f (cb_12 hN') (ya_make hN' (Or.inr ⟨j, by omega, rfl⟩) (Or.inl rfl) (ya_say hN' ⟨rfl, rl_mk (rl_add hW hN' rl_u rl_u rl_u rl_u rl_u rl_u rl_u rl_u rl_u rl_u (by simp only [pk_us]; exact rn_group hj hw6 hww hc hq hd))⟩))))))
    · refine xa_in_used hN hj hu (br_f (by decide) ?_)
      try dsimp only
      unfold wpY_group
      dsimp only
      refine ya_node_ok hN hj (br_t rfl ⟨vj, ?_⟩)
      rw [cj]
      exact br_f hu (same _)
theorem i_vc_distinct {k : Nat} {u : SX} {v : SY} (I : i_Rel k u v) (hk : k + 5 ≤ 2560) (v1 : Int32) : wpX_distinct (fun r u' => wpY_distinct (fun r' v' => r' = r ∧ i_Rel (k + 5) u' v') v v1) u v1 := by
  obtain ⟨nc, ov, rr, rw, tc, tr, nk, nw, nl, nr, nf, ns, nt, nu, ip, bc, br, rc, np, nq, ny, ys, gv, nd, ro, re, rfl, rfl, hW⟩ := I
  have same : ∀ r : Int32, r = r ∧ i_Rel (k + 5) (nc, rr, rw, tc, tr, nk, nw, nl, nr, nf, ns, nt, nu, ip, bc, br, rc) (nc, ov, rr, rw, tc, tr, nk, nl, nr, np, nq, ny, nw, nu, ys, gv, nd, ro, re) := fun r => ⟨rfl, rl_mk hW⟩
  have hW0 := hW
  obtain ⟨⟨N, hN, rfl, hNd⟩, hT, hRs⟩ := hW0
  unfold wpX_distinct
  dsimp only
  rcases cb_ix v1 N (by omega) with h | ⟨j, hj, rfl⟩
  · refine xa_in_bad h (br_f (by decide) ?_)
    try dsimp only
    unfold wpY_distinct
    dsimp only
    exact ya_node_bad h (br_f (by decide) (same _))
  · obtain ⟨w, hw6, hww⟩ := rl_wid (hNd j hj)
    have cj : (nI j).toNatClampNeg = j := nI_clamp (by omega)
    have vj : vp_in (nI j) 12 := vp_in_nI (by omega) (by decide)
    by_cases hu : nu j = 0
    · refine xa_in_ok hN hj hu (br_t rfl ?_)
      refine ⟨vj, ?_⟩
      rw [cj, hww]
      rcases cb_N hN with rfl | hN'
      · refine xa_full ?_
        try dsimp only
        unfold wpY_distinct
        dsimp only
        refine ya_node_ok hN hj (br_t rfl ⟨vj, ?_⟩)
        rw [cj, hww]
        exact br_t hu (br_t rfl (same _))
      · refine xa_add hN' (Or.inr ⟨j, by omega, rfl⟩) (Or.inl rfl) ?_
        try dsimp only
        unfold wpY_distinct
        dsimp only
        refine ya_node_ok hN hj (br_t rfl ⟨vj, ?_⟩)
        rw [cj, hww]
        exact br_t hu (br_f (cb_12 hN') ⟨vj, ya_make hN' (Or.inr ⟨j, by omega, rfl⟩) (Or.inl rfl) ⟨rfl, rl_mk (rl_add hW hN' rl_u rl_u rl_u rl_u rl_u rl_u rl_u rl_r rl_r rl_r (by simp only [pk_us]; exact rn_dist hj hw6 hww))⟩⟩)
    · refine xa_in_used hN hj hu (br_f (by decide) ?_)
      try dsimp only
      unfold wpY_distinct
      dsimp only
      refine ya_node_ok hN hj (br_t rfl ⟨vj, ?_⟩)
      rw [cj]
      exact br_f hu (same _)
