/-! pick -/
theorem i_vc_pick {k : Nat} {u : SX} {v : SY} (I : i_Rel k u v) (hk : k + 5 ≤ 2560) (v1 : Int32) (v2 : Int32) (v3 : Int32) (v4 : Int32) : wpX_pick (fun r u' => wpY_pick (fun r' v' => r' = r ∧ i_Rel (k + 5) u' v') v v1 v2 v3 v4) u v1 v2 v3 v4 := by
  obtain ⟨nc, ov, rr, rw, tc, tr, nk, nw, nl, nr, nf, ns, nt, nu, ip, bc, br, rc, np, nq, ny, ys, gv, nd, ro, re, rfl, rfl, hW⟩ := I
  have same : ∀ r : Int32, r = r ∧ i_Rel (k + 5) (nc, rr, rw, tc, tr, nk, nw, nl, nr, nf, ns, nt, nu, ip, bc, br, rc) (nc, ov, rr, rw, tc, tr, nk, nl, nr, np, nq, ny, nw, nu, ys, gv, nd, ro, re) := fun r => ⟨rfl, rl_mk hW⟩
  have hW0 := hW
  obtain ⟨⟨N, hN, rfl, hNd⟩, hT, hRs⟩ := hW0
  unfold wpX_pick
  dsimp only
  rcases cb_ix v1 N (by omega) with h | ⟨j, hj, rfl⟩
  · refine xa_in_bad h (br_f (by decide) ?_)
    try dsimp only
    unfold wpY_pick
    dsimp only
    exact ya_node_bad h (br_f (by decide) (same _))
  · obtain ⟨w, hw6, hww⟩ := rl_wid (hNd j hj)
    have cj : (nI j).toNatClampNeg = j := nI_clamp (by omega)
    have vj : vp_in (nI j) 12 := vp_in_nI (by omega) (by decide)
    by_cases hu : nu j = 0
    · refine xa_in_ok hN hj hu (br_t rfl ?_)
      rcases cb_ix v2 w (by omega) with h | ⟨c, hc, rfl⟩
      · refine xa_col_bad (by omega) hww h (br_t rfl ?_)
        try dsimp only
        unfold wpY_pick
        dsimp only
        refine ya_node_ok hN hj (br_t rfl ⟨vj, ?_⟩)
        rw [cj, hww]
        exact br_t hu ⟨vj, nm_e (br_c (fun _ => same _) (fun e => br_t (h.resolve_left e) (same _)))⟩
      · refine xa_col_ok (by omega) hww hw6 hc (br_f (by decide) ?_)
        rcases cb_cn v3 w (by omega) with h | h2
        · refine xa_cn_bad (by omega) hww hw6 h (br_t rfl ?_)
          try dsimp only
          unfold wpY_pick
          dsimp only
          refine ya_node_ok hN hj (br_t rfl ⟨vj, ?_⟩)
          rw [cj, hww]
          exact br_t hu ⟨vj, nm_e (br_f (nI_pos (by omega)) (br_f (nI_ge hc (by omega)) (br_c (fun _ => same _) (fun e => br_t (h.resolve_left e) (same _)))))⟩
        · have q2 := cb_cno hw6 h2
          refine xa_cn_ok (by omega) hww hw6 h2 (br_f (by decide) ?_)
          rcases cb_cn v4 w (by omega) with h | h3
          · refine xa_cn_bad (by omega) hww hw6 h (br_t rfl ?_)
            try dsimp only
            unfold wpY_pick
            dsimp only
            refine ya_node_ok hN hj (br_t rfl ⟨vj, ?_⟩)
            rw [cj, hww]
            exact br_t hu ⟨vj, nm_e (br_f (nI_pos (by omega)) (br_f (nI_ge hc (by omega)) (br_f q2.1 (br_f q2.2.1 (br_c (fun _ => same _) (fun e => br_f (Int32.not_lt.mpr (h.resolve_left e)) (same _)))))))⟩
          · have q3 := cb_cno hw6 h3
            refine xa_cn_ok (by omega) hww hw6 h3 (br_f (by decide) ?_)
            by_cases e2 : v3 = -1
            · by_cases e3 : v4 = -1
              · skip
                refine br_t e2 (br_t e3 ?_)
                rcases cb_N hN with rfl | hN'
                · refine xa_full (K := 3) (W := 1) (L := nI j) (R := -1) (F := nI c) (S := v3) (T := v4) ?_
                  try dsimp only
                  unfold wpY_pick
                  dsimp only
                  refine ya_node_ok hN hj (br_t rfl ⟨vj, ?_⟩)
                  rw [cj, hww]
                  exact br_t hu ⟨vj, nm_e (br_f (nI_pos (by omega)) (br_f (nI_ge hc (by omega)) (br_f q2.1 (br_f q2.2.1 (br_f q3.1 (br_t q3.2.2 (br_t rfl (same _))))))))⟩
                · refine xa_add (K := 3) (W := 1) (L := nI j) (R := -1) (F := nI c) (S := v3) (T := v4) hN' (Or.inr ⟨j, by omega, rfl⟩) (Or.inl rfl) ?_
                  try dsimp only
                  unfold wpY_pick
                  dsimp only
                  refine ya_node_ok hN hj (br_t rfl ⟨vj, ?_⟩)
                  rw [cj, hww]
                  have ym : wY_pick_105 (fun r' v' => r' = nI N ∧ i_Rel (k + 5) (nI (N + 1), rr, rw, tc, tr, upd nk N 3, upd nw N 1, upd nl N (nI j), upd nr N (-1), upd nf N (nI c), upd ns N v3, upd nt N v4, rl_us nu N (nI j) (-1), ip, bc, br, rc) v') (nI c) v3 v4 0 (1 + 0) (-1) (nI j) 3 (nI N) ov rr rw tc tr nk nl nr np nq ny nw nu ys gv nd ro re := by
                    unfold wY_pick_105
                    rw [show ((1 + 0 + 0 : Int32)) = 1 from by decide]
                    exact ya_make hN' (Or.inr ⟨j, by omega, rfl⟩) (Or.inl rfl) (ya_say hN' ⟨rfl, rl_mk (rl_add hW hN' rl_u rl_u rl_u rl_u rl_u rl_u rl_u rl_u rl_u rl_u (by simp only [pk_us]; exact rn_pick hj hw6 hww hc h2 h3 (by rw [if_pos e2, if_pos e3]; decide)))⟩)
                  exact br_t hu ⟨vj, nm_e (br_f (nI_pos (by omega)) (br_f (nI_ge hc (by omega)) (br_f q2.1 (br_f q2.2.1 (br_f q3.1 (br_t q3.2.2 (br_f (cb_12 hN') (br_t (by rw [e2]; decide) (br_t (by rw [e3]; decide) ym)))))))))⟩
              · skip
                refine br_t e2 (br_f e3 (nm_r (e' := 2) (by decide) ?_))
                rcases cb_N hN with rfl | hN'
                · refine xa_full (K := 3) (W := 2) (L := nI j) (R := -1) (F := nI c) (S := v3) (T := v4) ?_
                  try dsimp only
                  unfold wpY_pick
                  dsimp only
                  refine ya_node_ok hN hj (br_t rfl ⟨vj, ?_⟩)
                  rw [cj, hww]
                  exact br_t hu ⟨vj, nm_e (br_f (nI_pos (by omega)) (br_f (nI_ge hc (by omega)) (br_f q2.1 (br_f q2.2.1 (br_f q3.1 (br_t q3.2.2 (br_t rfl (same _))))))))⟩
                · refine xa_add (K := 3) (W := 2) (L := nI j) (R := -1) (F := nI c) (S := v3) (T := v4) hN' (Or.inr ⟨j, by omega, rfl⟩) (Or.inl rfl) ?_
                  try dsimp only
                  unfold wpY_pick
                  dsimp only
                  refine ya_node_ok hN hj (br_t rfl ⟨vj, ?_⟩)
                  rw [cj, hww]
                  have ym : wY_pick_105 (fun r' v' => r' = nI N ∧ i_Rel (k + 5) (nI (N + 1), rr, rw, tc, tr, upd nk N 3, upd nw N 2, upd nl N (nI j), upd nr N (-1), upd nf N (nI c), upd ns N v3, upd nt N v4, rl_us nu N (nI j) (-1), ip, bc, br, rc) v') (nI c) v3 v4 1 (1 + 0) (-1) (nI j) 3 (nI N) ov rr rw tc tr nk nl nr np nq ny nw nu ys gv nd ro re := by
                    unfold wY_pick_105
                    rw [show ((1 + 0 + 1 : Int32)) = 2 from by decide]
                    exact ya_make hN' (Or.inr ⟨j, by omega, rfl⟩) (Or.inl rfl) (ya_say hN' ⟨rfl, rl_mk (rl_add hW hN' rl_u rl_u rl_u rl_u rl_u rl_u rl_u rl_u rl_u rl_u (by simp only [pk_us]; exact rn_pick hj hw6 hww hc h2 h3 (by rw [if_pos e2, if_neg e3]; decide)))⟩)
                  exact br_t hu ⟨vj, nm_e (br_f (nI_pos (by omega)) (br_f (nI_ge hc (by omega)) (br_f q2.1 (br_f q2.2.1 (br_f q3.1 (br_t q3.2.2 (br_f (cb_12 hN') (br_t (by rw [e2]; decide) (br_f (cb_neg hw6 h3 e3) ym)))))))))⟩
            · by_cases e3 : v4 = -1
              · skip
                refine br_f e2 (nm_r (e' := 2) (by decide) (br_t e3 ?_))
                rcases cb_N hN with rfl | hN'
                · refine xa_full (K := 3) (W := 2) (L := nI j) (R := -1) (F := nI c) (S := v3) (T := v4) ?_
                  try dsimp only
                  unfold wpY_pick
                  dsimp only
                  refine ya_node_ok hN hj (br_t rfl ⟨vj, ?_⟩)
                  rw [cj, hww]
                  exact br_t hu ⟨vj, nm_e (br_f (nI_pos (by omega)) (br_f (nI_ge hc (by omega)) (br_f q2.1 (br_f q2.2.1 (br_f q3.1 (br_t q3.2.2 (br_t rfl (same _))))))))⟩
                · refine xa_add (K := 3) (W := 2) (L := nI j) (R := -1) (F := nI c) (S := v3) (T := v4) hN' (Or.inr ⟨j, by omega, rfl⟩) (Or.inl rfl) ?_
                  try dsimp only
                  unfold wpY_pick
                  dsimp only
                  refine ya_node_ok hN hj (br_t rfl ⟨vj, ?_⟩)
                  rw [cj, hww]
                  have ym : wY_pick_105 (fun r' v' => r' = nI N ∧ i_Rel (k + 5) (nI (N + 1), rr, rw, tc, tr, upd nk N 3, upd nw N 2, upd nl N (nI j), upd nr N (-1), upd nf N (nI c), upd ns N v3, upd nt N v4, rl_us nu N (nI j) (-1), ip, bc, br, rc) v') (nI c) v3 v4 0 (1 + 1) (-1) (nI j) 3 (nI N) ov rr rw tc tr nk nl nr np nq ny nw nu ys gv nd ro re := by
                    unfold wY_pick_105
                    rw [show ((1 + 1 + 0 : Int32)) = 2 from by decide]
                    exact ya_make hN' (Or.inr ⟨j, by omega, rfl⟩) (Or.inl rfl) (ya_say hN' ⟨rfl, rl_mk (rl_add hW hN' rl_u rl_u rl_u rl_u rl_u rl_u rl_u rl_u rl_u rl_u (by simp only [pk_us]; exact rn_pick hj hw6 hww hc h2 h3 (by rw [if_neg e2, if_pos e3]; decide)))⟩)
                  exact br_t hu ⟨vj, nm_e (br_f (nI_pos (by omega)) (br_f (nI_ge hc (by omega)) (br_f q2.1 (br_f q2.2.1 (br_f q3.1 (br_t q3.2.2 (br_f (cb_12 hN') (br_f (cb_neg hw6 h2 e2) (br_t (by rw [e3]; decide) ym)))))))))⟩
              · skip
                refine br_f e2 (nm_r (e' := 2) (by decide) (br_f e3 (nm_r (e' := 3) (by decide) ?_)))
                rcases cb_N hN with rfl | hN'
                · refine xa_full (K := 3) (W := 3) (L := nI j) (R := -1) (F := nI c) (S := v3) (T := v4) ?_
                  try dsimp only
                  unfold wpY_pick
                  dsimp only
                  refine ya_node_ok hN hj (br_t rfl ⟨vj, ?_⟩)
                  rw [cj, hww]
                  exact br_t hu ⟨vj, nm_e (br_f (nI_pos (by omega)) (br_f (nI_ge hc (by omega)) (br_f q2.1 (br_f q2.2.1 (br_f q3.1 (br_t q3.2.2 (br_t rfl (same _))))))))⟩
                · refine xa_add (K := 3) (W := 3) (L := nI j) (R := -1) (F := nI c) (S := v3) (T := v4) hN' (Or.inr ⟨j, by omega, rfl⟩) (Or.inl rfl) ?_
                  try dsimp only
                  unfold wpY_pick
                  dsimp only
                  refine ya_node_ok hN hj (br_t rfl ⟨vj, ?_⟩)
                  rw [cj, hww]
                  have ym : wY_pick_105 (fun r' v' => r' = nI N ∧ i_Rel (k + 5) (nI (N + 1), rr, rw, tc, tr, upd nk N 3, upd nw N 3, upd nl N (nI j), upd nr N (-1), upd nf N (nI c), upd ns N v3, upd nt N v4, rl_us nu N (nI j) (-1), ip, bc, br, rc) v') (nI c) v3 v4 1 (1 + 1) (-1) (nI j) 3 (nI N) ov rr rw tc tr nk nl nr np nq ny nw nu ys gv nd ro re := by
                    unfold wY_pick_105
                    rw [show ((1 + 1 + 1 : Int32)) = 3 from by decide]
                    exact ya_make hN' (Or.inr ⟨j, by omega, rfl⟩) (Or.inl rfl) (ya_say hN' ⟨rfl, rl_mk (rl_add hW hN' rl_u rl_u rl_u rl_u rl_u rl_u rl_u rl_u rl_u rl_u (by simp only [pk_us]; exact rn_pick hj hw6 hww hc h2 h3 (by rw [if_neg e2, if_neg e3]; decide)))⟩)
                  exact br_t hu ⟨vj, nm_e (br_f (nI_pos (by omega)) (br_f (nI_ge hc (by omega)) (br_f q2.1 (br_f q2.2.1 (br_f q3.1 (br_t q3.2.2 (br_f (cb_12 hN') (br_f (cb_neg hw6 h2 e2) (br_f (cb_neg hw6 h3 e3) ym)))))))))⟩
    · refine xa_in_used hN hj hu (br_f (by decide) ?_)
      try dsimp only
      unfold wpY_pick
      dsimp only
      refine ya_node_ok hN hj (br_t rfl ⟨vj, ?_⟩)
      rw [cj]
      exact br_f hu (same _)
