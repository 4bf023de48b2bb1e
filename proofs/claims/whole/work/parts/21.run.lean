/-! run -/
theorem i_vc_run {k : Nat} {u : SX} {v : SY} (I : i_Rel k u v) (hk : k + 5 ≤ 2560) (v1 : Int32) : wpX_run (fun r u' => wpY_run (fun r' v' => r' = r ∧ i_Rel (k + 5) u' v') v v1) u v1 := by
  obtain ⟨nc, ov, rr, rw, tc, tr, nk, nw, nl, nr, nf, ns, nt, nu, ip, bc, br, rc, np, nq, ny, ys, gv, nd, ro, re, rfl, rfl, hW⟩ := I
  have same : ∀ r : Int32, r = r ∧ i_Rel (k + 5) (nc, rr, rw, tc, tr, nk, nw, nl, nr, nf, ns, nt, nu, ip, bc, br, rc) (nc, ov, rr, rw, tc, tr, nk, nl, nr, np, nq, ny, nw, nu, ys, gv, nd, ro, re) := fun r => ⟨rfl, rl_mk hW⟩
  have hW0 := hW
  obtain ⟨⟨N, hN, rfl, hNd⟩, hT, hRs⟩ := hW0
  unfold wpX_run
  dsimp only
  rcases cb_ix v1 N (by omega) with h | ⟨R, hR, rfl⟩
  · refine xa_node_bad h (br_t rfl ?_)
    try dsimp only
    unfold wpY_run
    dsimp only
    exact ya_node_bad h (br_f (by decide) (same _))
  · have hT2 : ∀ t, t < 3 → ∃ h, h ≤ 6 ∧ tr t = nI h ∧ (fun t => bs_scan tc t (tr t).toNatClampNeg) t = bs_scan tc t h := fun t ht => by
      obtain ⟨h, hh, e⟩ := hT t ht
      exact ⟨h, hh, e, by dsimp only; rw [e, nI_clamp (by omega)]⟩
    obtain ⟨B, Wd, hB⟩ := rl_bag (fun t => bs_scan tc t (tr t).toNatClampNeg) N hNd
    have hok : ∀ x, x ≤ R → mk_ok nl nr x := fun x hx => nd_lr (hB x (by omega)).1
    have hok2 : ∀ x, x < R + 1 → mk_ok nl nr x := fun x hx => hok x (by omega)
    refine xa_node_ok hN hR (br_f (by decide) (xb_mark (by omega) hok fun ip' a0 h1 h2 e => ?_))
    dsimp only
    have hM : ∀ k, k ≤ R → ¬ ip' k = 0 → ∀ l, (nl k = nI l ∨ nr k = nI l) → l < k → ¬ ip' l = 0 := fun k hk hz l hl hlk => by
      rw [e] at hz ⊢
      exact mk_F_cl (R + 1) a0 (by omega) hok2 k (by omega) hz l hl hlk
    have hMR : ¬ ip' R = 0 := by
      rw [e]
      exact mk_F_mono _ _ (by rw [h2]; decide)
    have agree : ∀ (nd' b0 : Nat → Int32), (∀ j, j < R → b0 j = 0) → b0 R = 1 → nd' = mk_F nl nr (R + 1) b0 → ∀ j, j ≤ R → nd' j = ip' j := fun nd' b0 g1 g2 e2 j hj => by
      rw [e, e2]
      refine mk_F_c (R + 1) b0 a0 (Nat.le_refl _) (fun i hi => ?_) j hj
      by_cases ei : i = R
      · rw [ei, g2, h2]
      · rw [g1 i (by omega), h1 i (by omega)]
    refine xb_loop (TB := fun t => bs_scan tc t (tr t).toNatClampNeg) (by omega) (fun k hk => (hB k (by omega)).1) hT2 hM hMR (fun hov bc' br' => ?_) (fun hno bc' br' rc' S hS hrc => ?_)
    · skip
      try dsimp only
      unfold wpY_run
      dsimp only
      refine ya_node_ok hN hR (br_t rfl (yb_mark (by omega) hok fun nd' b0 g1 g2 e2 => ?_))
      have ag := agree nd' b0 g1 g2 e2
      refine yb_loop (TB := fun t => bs_scan tc t (tr t).toNatClampNeg) (B := B) (Wd := Wd) (by omega) (fun k hk => (hB k (by omega)).2) hT2 (fun k hk hz l hl hlk => ?_) (by rw [ag R (Nat.le_refl _)]; exact hMR) (fun _ ov' ys' gv' ro' => ⟨rfl, rl_mk hW⟩) (fun hno => ?_)
      · rw [ag k hk] at hz
        rw [ag l (by omega)]
        exact hM k hk hz l hl hlk
      · obtain ⟨k, hk, hz, hb⟩ := hov
        have := hno k hk (by rw [ag k hk]; exact hz)
        omega
    · skip
      try dsimp only
      unfold wpY_run
      dsimp only
      refine ya_node_ok hN hR (br_t rfl (yb_mark (by omega) hok fun nd' b0 g1 g2 e2 => ?_))
      have ag := agree nd' b0 g1 g2 e2
      refine yb_loop (TB := fun t => bs_scan tc t (tr t).toNatClampNeg) (B := B) (Wd := Wd) (by omega) (fun k hk => (hB k (by omega)).2) hT2 (fun k hk hz l hl hlk => ?_) (by rw [ag R (Nat.le_refl _)]; exact hMR) (fun hov => ?_) (fun _ => ⟨S, hS, fun ov' ys' gv' ro' re' hre => ⟨rfl, rl_mk ⟨hW.1, hT, (B R).1, Wd R, hno R (Nat.le_refl _) hMR, (hB R hR).1.1, rfl, rfl, fun i hi c hc => (hre i hi c hc).trans (hrc i hi c hc).symm⟩⟩⟩)
      · rw [ag k hk] at hz
        rw [ag l (by omega)]
        exact hM k hk hz l hl hlk
      · obtain ⟨k, hk, hz, hb⟩ := hov
        have := hno k hk (by rw [← ag k hk]; exact hz)
        omega
