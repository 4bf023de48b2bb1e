/-! the component: a node, sorting, keeping, marks, run -/
theorem xb_b1 : vp_nar .boolean 1 = 1 := rfl
theorem xb_b0 : vp_nar .boolean 0 = 0 := rfl
section
variable {nc rr rw : Int32} {tc tr nk nw nl nr nf ns nt nu ip rc : Nat → Int32}
theorem xb_runNode {post : SX → Prop} {bc br : Nat → Int32} {k w : Nat} {b : bg_T} {D : Nat → Nat → bg_T → Prop} {TB : Nat → bg_T} (hk : k < 12) (hN : nd_rel (nk k) (nw k) (nl k) (nr k) (nf k) (ns k) (nt k) k D TB w b)
    (hT : ∀ t, t < 3 → ∃ h, h ≤ 6 ∧ tr t = nI h ∧ TB t = bs_scan tc t h)
    (hD : ∀ l wl bl, l < k → (nl k = nI l ∨ nr k = nI l) → D l wl bl → nw l = nI wl ∧ wl ≤ 6 ∧ xb_B l wl bl bc br ∧ bl.1 ≤ 20)
    (H : ∀ bc' br', xb_I bc br k w b bc' br' → post (nc, rr, rw, tc, tr, nk, nw, nl, nr, nf, ns, nt, nu, ip, bc', br', rc)) : wpX_runNode post (nc, rr, rw, tc, tr, nk, nw, nl, nr, nf, ns, nt, nu, ip, bc, br, rc) (nI k) := by
  have ck : (nI k).toNatClampNeg = k := nI_clamp (by omega)
  have hU : ∀ l wl bl, l < k → xb_B l wl bl bc br → xb_B l wl bl bc (upd br k (nI 0)) := fun l wl bl hl h => ⟨by rw [pk_un (by omega)]; exact h.1, h.2⟩
  have h0 : upd br k (nI 0) k = nI 0 := pk_us
  have HH : ∀ bc' br', xb_I bc (upd br k (nI 0)) k w b bc' br' → post (nc, rr, rw, tc, tr, nk, nw, nl, nr, nf, ns, nt, nu, ip, bc', br', rc) := fun bc' br' h => H bc' br' ⟨h.1, h.2.1, fun m hm => (h.2.2 m hm).trans (pk_un hm)⟩
  obtain ⟨hw6, hW, hC⟩ := hN
  refine ⟨vp_in_nI hk (by decide), nm_r (e' := upd br k (nI 0)) (by rw [ck]; rfl) ⟨vp_in_nI hk (by decide), ?_⟩⟩
  rcases hC with ⟨hK, hL, hR, e3, t, ht, hF, hb⟩ | ⟨hK, hR, l, bl, c, m, hl, hL, hd, hc, hF, hm, hS, hb⟩ | ⟨hK, hR, l, wl, bl, op, x, y, hl, hL, hd, hw, hop, hF, hx, hS, hy, hT', hb⟩ | ⟨hK, hR, l, wl, bl, x, hl, hL, hd, hx, hF, hS, hT', hw, hb⟩ | ⟨hK, l, r, wl, wr, bl, b2, x, y, hl, hr, hL, hR, hd, hd2, hw, hx, hF, hy, hS, hb⟩ | ⟨hK, l, r, wr, bl, b2, x, y, hl, hr, hL, hR, hd, hd2, hx, hF, hy, hS, hb⟩ | ⟨hK, l, r, wr, bl, b2, x, y, hl, hr, hL, hR, hd, hd2, hx, hF, hy, hS, hb⟩ | ⟨hK, hR, l, wl, bl, x, q, y, hl, hL, hd, hw, hx, hF, hq, hS, hy, hT', hb⟩ | ⟨hK, hR, l, bl, hl, hL, hd, hb⟩ | ⟨hK, l, r, bl, b2, hl, hr, hL, hR, hd, hd2, hb⟩
  · obtain ⟨h, hh, e1, e2⟩ := hT t ht
    refine nm_r (e' := nI 0) (by rw [ck]; exact hK) (br_f (by decide) (br_f (by decide) (br_t (by decide) (xb_scan hk hF ht e1 hh h0 (fun bc' br' hI => HH bc' br' ?_)))))
    rw [hb, e2, e3]
    exact hI
  · obtain ⟨d1, d2, d3, d4⟩ := hD l _ bl hl (Or.inl hL) hd
    refine nm_r (e' := nI 1) (by rw [ck]; exact hK) (br_f (by decide) (br_f (by decide) (br_f (by decide) (br_t (by decide) (xb_filter hk hl hL hW hw6 hF hc hS hm h0 (hU _ _ _ hl d3) d4 (fun bc' br' hI => HH bc' br' ?_))))))
    rw [hb]
    exact hI
  · obtain ⟨d1, d2, d3, d4⟩ := hD l _ bl hl (Or.inl hL) hd
    subst hw
    refine nm_r (e' := nI 2) (by rw [ck]; exact hK) (br_f (by decide) (br_f (by decide) (br_f (by decide) (br_f (by decide) (br_t (by decide) (xb_ext hk hl hL d1 hw6 hF hop hS hx hT' hy h0 (hU _ _ _ hl d3) d4 (fun bc' br' hI => HH bc' br' ?_)))))))
    rw [hb]
    exact hI
  · obtain ⟨d1, d2, d3, d4⟩ := hD l _ bl hl (Or.inl hL) hd
    refine nm_r (e' := nI 3) (by rw [ck]; exact hK) (br_f (by decide) (br_f (by decide) (br_f (by decide) (br_f (by decide) (br_f (by decide) (br_t (by decide) (xb_pick hk hl hL d2 hF hx hS hT' hw h0 (hU _ _ _ hl d3) d4 (fun bc' br' hI => HH bc' br' ?_))))))))
    rw [hb]
    exact hI
  · obtain ⟨d1, d2, d3, d4⟩ := hD l _ bl hl (Or.inl hL) hd
    obtain ⟨f1, f2, f3, f4⟩ := hD r _ b2 hr (Or.inr hR) hd2
    subst hw
    refine nm_r (e' := nI 4) (by rw [ck]; exact hK) (br_f (by decide) (br_f (by decide) (br_f (by decide) (br_f (by decide) (br_f (by decide) (br_f (by decide) (br_t (by decide) (xb_join hk hl hr hL hR d1 f1 hw6 hF hx hS hy h0 (hU _ _ _ hl d3) d4 (hU _ _ _ hr f3) f4 (fun bc' br' hI => HH bc' br' ?_)))))))))
    rw [hb]
    exact hI
  · obtain ⟨d1, d2, d3, d4⟩ := hD l _ bl hl (Or.inl hL) hd
    obtain ⟨f1, f2, f3, f4⟩ := hD r _ b2 hr (Or.inr hR) hd2
    refine nm_r (e' := nI 5) (by rw [ck]; exact hK) (br_f (by decide) (br_f (by decide) (br_f (by decide) (br_f (by decide) (br_f (by decide) (br_f (by decide) (br_f (by decide) (br_t (by decide) (xb_semi hk hl hr hL hR hW hw6 f2 hF hx hS hy h0 (Or.inl ⟨trivial, rfl⟩) (hU _ _ _ hl d3) d4 (hU _ _ _ hr f3) f4 (fun bc' br' hI => HH bc' br' ?_))))))))))
    rw [hb]
    exact hI
  · obtain ⟨d1, d2, d3, d4⟩ := hD l _ bl hl (Or.inl hL) hd
    obtain ⟨f1, f2, f3, f4⟩ := hD r _ b2 hr (Or.inr hR) hd2
    refine nm_r (e' := nI 6) (by rw [ck]; exact hK) (br_f (by decide) (br_f (by decide) (br_f (by decide) (br_f (by decide) (br_f (by decide) (br_f (by decide) (br_f (by decide) (br_f (by decide) (br_t (by decide) (xb_semi hk hl hr hL hR hW hw6 f2 hF hx hS hy h0 (Or.inr ⟨id, rfl⟩) (hU _ _ _ hl d3) d4 (hU _ _ _ hr f3) f4 (fun bc' br' hI => HH bc' br' ?_)))))))))))
    rw [hb]
    exact hI
  · obtain ⟨d1, d2, d3, d4⟩ := hD l _ bl hl (Or.inl hL) hd
    subst hw
    refine nm_r (e' := nI 7) (by rw [ck]; exact hK) (br_f (by decide) (br_f (by decide) (br_f (by decide) (br_f (by decide) (br_f (by decide) (br_f (by decide) (br_f (by decide) (br_f (by decide) (br_f (by decide) (br_t (by decide) (xb_group hk hl hL d2 hF hx hS hq hT' hy h0 (hU _ _ _ hl d3) d4 (fun bc' br' hI => HH bc' br' ?_))))))))))))
    rw [hb]
    exact hI
  · obtain ⟨d1, d2, d3, d4⟩ := hD l _ bl hl (Or.inl hL) hd
    refine nm_r (e' := nI 8) (by rw [ck]; exact hK) (br_f (by decide) (br_f (by decide) (br_f (by decide) (br_f (by decide) (br_f (by decide) (br_f (by decide) (br_f (by decide) (br_f (by decide) (br_f (by decide) (br_f (by decide) (br_t (by decide) (xb_dist hk hl hL hW hw6 h0 (hU _ _ _ hl d3) d4 (fun bc' br' hI => HH bc' br' ?_)))))))))))))
    rw [hb]
    exact hI
  · obtain ⟨d1, d2, d3, d4⟩ := hD l _ bl hl (Or.inl hL) hd
    obtain ⟨f1, f2, f3, f4⟩ := hD r _ b2 hr (Or.inr hR) hd2
    refine nm_r (e' := nI 9) (by rw [ck]; exact hK) (br_f (by decide) (br_t (by decide) ⟨vp_in_nI hk (by decide), ?_⟩))
    rw [ck, hL]
    refine xb_addAll hk hl hW hw6 (xb_I0 h0) (Nat.zero_le _) (hU _ _ _ hl d3) d4 (fun bc1 br1 hI1 => ?_)
    dsimp only
    refine ⟨vp_in_nI hk (by decide), ?_⟩
    try rw [ck]
    rw [hR]
    refine xb_addAll hk hr hW hw6 hI1 (Nat.le_trans (bg_sel0_le _ _ _) d4) (hU _ _ _ hr f3) f4 (fun bc' br' hI => HH bc' br' ?_)
    rw [hb]
    exact hI
theorem xb_sort {post : SX → Prop} {bc br : Nat → Int32} {k n w : Nat} (hk : k < 12) (hn : br k = nI n) (hn20 : n ≤ 20) (hw : nw k = nI w) (hw6 : w ≤ 6)
    (H : ∀ bc', bg_srt n w (fun i c => bc ((k * 21 + i) * 6 + c)) (fun i c => bc' ((k * 21 + i) * 6 + c)) → post (nc, rr, rw, tc, tr, nk, nw, nl, nr, nf, ns, nt, nu, ip, bc', br, rc)) : wpX_sortBag post (nc, rr, rw, tc, tr, nk, nw, nl, nr, nf, ns, nt, nu, ip, bc, br, rc) (nI k) := by
  have ck : (nI k).toNatClampNeg = k := nI_clamp (by omega)
  refine loop_0 (fun f p s => wX_sortBag_2 post (nI k) f (nI p) nc rr rw tc tr nk nw nl nr nf ns nt nu ip s br rc) (fun p s => bg_si n w (fun i c => bc ((k * 21 + i) * 6 + c)) p (p + 1) (fun i c => s ((k * 21 + i) * 6 + c))) n bc ⟨fun a b h => absurd h (Nat.not_lt_zero a), fun P _ => rfl, fun b h1 h2 => by omega⟩ ?_ ?_
  · rintro f s ⟨h1, h2, h3⟩
    refine ⟨vp_in_nI hk (by decide), ?_⟩
    rw [ck, hn]
    exact br_t (nI_le (Nat.le_refl _) (by omega)) (H s ⟨fun a b hab hb => h1 a b (by omega) hab hb, h2⟩)
  · rintro f p s hp hI ih
    refine ⟨vp_in_nI hk (by decide), ?_⟩
    rw [ck, hn]
    refine br_f (nI_ge hp (by omega)) (xb_rs (nm_r (nI_1 p) ?_))
    refine pk_loop (fun f2 q s => wX_sortBag_24 post (wX_sortBag_2 post (nI k) f) (nI k) (nI p) (nI ((k * 21 + p) * 6)) f2 (nI q) nc rr rw tc tr nk nw nl nr nf ns nt nu ip s br rc) (fun q s => p < q ∧ bg_si n w (fun i c => bc ((k * 21 + i) * 6 + c)) p q (fun i c => s ((k * 21 + i) * 6 + c))) n (p + 1) s hp ⟨Nat.lt_succ_self p, hI⟩ ?_ ?_
    · rintro f2 s ⟨_, h1, h2, h3⟩
      refine ⟨vp_in_nI hk (by decide), ?_⟩
      rw [ck, hn]
      refine br_t (nI_le (Nat.le_refl _) (by omega)) (nm_r (nI_1 p) (ih s ⟨fun a b ha hab hb => ?_, h2, fun b h4 h5 => by omega⟩))
      by_cases e : a = p
      · subst e
        exact h3 b hab hb
      · exact h1 a b (by omega) hab hb
    · rintro f2 q s hq ⟨hpq, hI2⟩ ih2
      refine ⟨vp_in_nI hk (by decide), ?_⟩
      rw [ck, hn]
      refine br_f (nI_ge hq (by omega)) (xb_rs ⟨vp_in_nI hk (by decide), ?_⟩)
      rw [hw]
      refine xb_before (by omega) (by omega) (fun e => br_f (by decide) ⟨vp_in_nI hk (by decide), xb_swap (by omega) (by omega) (by omega) fun bc' h1 h2 h3 => nm_r (nI_1 q) (ih2 bc' ⟨by omega, ?_⟩)⟩) (fun e => br_t rfl (nm_r (nI_1 q) (ih2 s ⟨by omega, hI2.1, hI2.2.1, fun b h1 h2 => ?_⟩)))
      · exact bg_xch (s := fun i c => s ((k * 21 + i) * 6 + c)) (s' := fun i c => bc' ((k * 21 + i) * 6 + c)) hpq hq h3 h2 (fun i i1 i2 hi c hc => h1 _ (by omega) (by omega)) e hI2
      · by_cases eb : b = q
        · subst eb
          exact e
        · exact hI2.2.2 b h1 (by omega)
end
