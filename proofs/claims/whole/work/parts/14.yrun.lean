/-! the reference: evaluate -/
section
variable {nc rr rw : Int32} {tc tr nk nl nr np nq ny nw nu nd re : Nat → Int32}
theorem yb_ev73 {post : SY → Prop} {ov : Int32} {ys gv ro : Nat → Int32} {k K : Nat} (hk : k < 12) (hnk : nk k = nI K) (hK : ¬ nI K = 9) (h : post (nc, ov, rr, rw, tc, tr, nk, nl, nr, np, nq, ny, nw, nu, ys, gv, nd, ro, re)) : ∃ n, wY_evaluate_73 post (nI k) n 0 nc ov rr rw tc tr nk nl nr np nq ny nw nu ys gv nd ro re := by
  have ck : (nI k).toNatClampNeg = k := nI_clamp (by omega)
  refine ⟨1, vp_in_nI hk (by decide), ?_⟩
  rw [ck, hnk]
  exact br_f hK h
theorem yb_ev44 {post : SY → Prop} {ys0 gv0 ys gv ro : Nat → Int32} {k l n w : Nat} {F : Nat → bg_T} (hk : k < 12) (hl : l < k) (hnl : nl k = nI l) (hn : gv0 l = nI n) (hn20 : n ≤ 20) (h0 : yb_I ys0 gv0 k w (F 0) 0 ys gv)
    (Hs : ∀ i, i < n → ∀ (P : SY → Prop) ov1 ys1 gv1 ro1, yb_I ys0 gv0 k w (F i) ov1 ys1 gv1 → (∀ ov2 ys2 gv2 ro2, yb_I ys0 gv0 k w (F (i + 1)) ov2 ys2 gv2 → P (nc, ov2, rr, rw, tc, tr, nk, nl, nr, np, nq, ny, nw, nu, ys2, gv2, nd, ro2, re)) → wpY_giveFor P (nc, ov1, rr, rw, tc, tr, nk, nl, nr, np, nq, ny, nw, nu, ys1, gv1, nd, ro1, re) (nI k) (nI i))
    (Hx : ∀ ov2 ys2 gv2 ro2, yb_I ys0 gv0 k w (F n) ov2 ys2 gv2 → ∃ f, wY_evaluate_73 post (nI k) f 0 nc ov2 rr rw tc tr nk nl nr np nq ny nw nu ys2 gv2 nd ro2 re) : ∃ f, wY_evaluate_44 post (nI k) f 0 nc 0 rr rw tc tr nk nl nr np nq ny nw nu ys gv nd ro re := by
  have ck : (nI k).toNatClampNeg = k := nI_clamp (by omega)
  have cl : (nI l).toNatClampNeg = l := nI_clamp (by omega)
  refine loop_0 (fun f i (s : yb_S) => wY_evaluate_44 post (nI k) f (nI i) nc s.1 rr rw tc tr nk nl nr np nq ny nw nu s.2.1 s.2.2.1 nd s.2.2.2 re) (fun i s => yb_I ys0 gv0 k w (F i) s.1 s.2.1 s.2.2.1) n (0, ys, gv, ro) h0 ?_ ?_
  · rintro f ⟨ov', ys', gv', ro'⟩ hI
    have hg : gv' l = nI n := (hI.2.2.2 l (by omega)).trans hn
    refine ⟨vp_in_nI hk (by decide), ?_⟩
    dsimp only
    rw [ck, hnl, cl, hg]
    exact ⟨vp_in_nI (by omega) (by decide), br_t (nI_le (Nat.le_refl _) (by omega)) (Hx _ _ _ _ hI)⟩
  · rintro f i ⟨ov', ys', gv', ro'⟩ hi hI ih
    have hg : gv' l = nI n := (hI.2.2.2 l (by omega)).trans hn
    refine ⟨vp_in_nI hk (by decide), ?_⟩
    dsimp only
    rw [ck, hnl, cl, hg]
    refine ⟨vp_in_nI (by omega) (by decide), br_f (nI_ge hi (by omega)) (Hs i hi _ _ _ _ _ hI fun ov2 ys2 gv2 ro2 hI2 => ?_)⟩
    exact nm_r (nI_1 i) (ih (ov2, ys2, gv2, ro2) hI2)
theorem yb_all {post : SY → Prop} {ov : Int32} {ys0 gv0 ys gv ro : Nat → Int32} {k r w : Nat} {b bl : bg_T} (hk : k < 12) (hr : r < k) (hnk : nk k = nI 9) (hnr : nr k = nI r) (hwr : nw r = nI w) (hw : w ≤ 6) (hI0 : yb_I ys0 gv0 k w b ov ys gv) (hB : yb_B r w bl ys0 gv0) (h20 : bl.1 ≤ 20)
    (H : ∀ ov' ys' gv' ro', yb_I ys0 gv0 k w (bs_all b bl bl.1) ov' ys' gv' → post (nc, ov', rr, rw, tc, tr, nk, nl, nr, np, nq, ny, nw, nu, ys', gv', nd, ro', re)) : ∃ f, wY_evaluate_73 post (nI k) f 0 nc ov rr rw tc tr nk nl nr np nq ny nw nu ys gv nd ro re := by
  have ck : (nI k).toNatClampNeg = k := nI_clamp (by omega)
  have cr : (nI r).toNatClampNeg = r := nI_clamp (by omega)
  have hn := yb_n hB h20
  refine loop_0 (fun f i (s : yb_S) => wY_evaluate_73 post (nI k) f (nI i) nc s.1 rr rw tc tr nk nl nr np nq ny nw nu s.2.1 s.2.2.1 nd s.2.2.2 re) (fun i s => yb_I ys0 gv0 k w (bs_all b bl i) s.1 s.2.1 s.2.2.1) bl.1 (ov, ys, gv, ro) hI0 ?_ ?_
  · rintro f ⟨ov', ys', gv', ro'⟩ hI
    have hg : gv' r = nI bl.1 := (hI.2.2.2 r (by omega)).trans hn
    refine ⟨vp_in_nI hk (by decide), ?_⟩
    dsimp only
    rw [ck, hnk, hnr, cr, hg]
    exact br_t (by decide) ⟨vp_in_nI hk (by decide), vp_in_nI (by omega) (by decide), br_t (nI_le (Nat.le_refl _) (by omega)) (H _ _ _ _ hI)⟩
  · rintro f i ⟨ov', ys', gv', ro'⟩ hi hI ih
    have hg : gv' r = nI bl.1 := (hI.2.2.2 r (by omega)).trans hn
    dsimp only at hI
    refine ⟨vp_in_nI hk (by decide), ?_⟩
    dsimp only
    rw [ck, hnk, hnr, cr, hg]
    refine br_t (by decide) ⟨vp_in_nI hk (by decide), vp_in_nI (by omega) (by decide), br_f (nI_ge hi (by omega)) ⟨vp_in_nI hk (by decide), yb_lay (t := 0) (by omega) (by omega) hwr (by omega) fun ro2 h1 _ => ?_⟩⟩
    refine yb_give (row := bl.2 i) hI hk hw (fun d hd => ?_) fun ov2 ys2 gv2 hI2 => nm_r (nI_1 i) (ih (ov2, ys2, gv2, ro2) ?_)
    · have z := h1 d hd
      rw [Nat.zero_add] at z
      exact z.trans (yb_in hI hB hr hi (by omega) hd hw)
    · have e2 : bs_all b bl (i + 1) = bg_push (bs_all b bl i) (bl.2 i) := bg_sel_t trivial
      dsimp only
      rw [e2]
      exact hI2
theorem yb_evaluate {post : SY → Prop} {ys gv ro : Nat → Int32} {k w : Nat} {b : bg_T} {D : Nat → Nat → bg_T → Prop} {TB : Nat → bg_T} (hk : k < 12) (hN : nd_rel (nk k) (nw k) (nl k) (nr k) (np k) (nq k) (ny k) k D TB w b)
    (hT : ∀ t, t < 3 → ∃ h, h ≤ 6 ∧ tr t = nI h ∧ TB t = bs_scan tc t h)
    (hD : ∀ l wl bl, l < k → (nl k = nI l ∨ nr k = nI l) → D l wl bl → nw l = nI wl ∧ wl ≤ 6 ∧ yb_B l wl bl ys gv ∧ bl.1 ≤ 20)
    (H : ∀ ov' ys' gv' ro', yb_I ys gv k w b ov' ys' gv' → post (nc, ov', rr, rw, tc, tr, nk, nl, nr, np, nq, ny, nw, nu, ys', gv', nd, ro', re)) : wpY_evaluate post (nc, 0, rr, rw, tc, tr, nk, nl, nr, np, nq, ny, nw, nu, ys, gv, nd, ro, re) (nI k) := by
  have ck : (nI k).toNatClampNeg = k := nI_clamp (by omega)
  have vk : vp_in (nI k) 12 := vp_in_nI hk (by decide)
  have hU : ∀ l wl bl, l < k → yb_B l wl bl ys gv → yb_B l wl bl ys (upd gv k (nI 0)) := fun l wl bl hl h => ⟨by rw [pk_un (by omega)]; exact h.1, h.2⟩
  have h0 : upd gv k (nI 0) k = nI 0 := pk_us
  have HH : ∀ ov' ys' gv' ro', yb_I ys (upd gv k (nI 0)) k w b ov' ys' gv' → post (nc, ov', rr, rw, tc, tr, nk, nl, nr, np, nq, ny, nw, nu, ys', gv', nd, ro', re) := fun ov' ys' gv' ro' h => H ov' ys' gv' ro' ⟨h.1, h.2.1, h.2.2.1, fun m hm => (h.2.2.2 m hm).trans (pk_un hm)⟩
  obtain ⟨hw6, hW, hC⟩ := hN
  refine ⟨vk, nm_r (e' := upd gv k (nI 0)) (by rw [ck]; rfl) ⟨vk, ?_⟩⟩
  rw [ck]
  rcases hC with ⟨hK, hL, hR, e3, t, ht, hF, hb⟩ | ⟨hK, hR, l, bl, c, m, hl, hL, hd, hc, hF, hm, hS, hb⟩ | ⟨hK, hR, l, wl, bl, op, x, y, hl, hL, hd, hw, hop, hF, hx, hS, hy, hT', hb⟩ | ⟨hK, hR, l, wl, bl, x, hl, hL, hd, hx, hF, hS, hT', hw, hb⟩ | ⟨hK, l, r, wl, wr, bl, b2, x, y, hl, hr, hL, hR, hd, hd2, hw, hx, hF, hy, hS, hb⟩ | ⟨hK, l, r, wr, bl, b2, x, y, hl, hr, hL, hR, hd, hd2, hx, hF, hy, hS, hb⟩ | ⟨hK, l, r, wr, bl, b2, x, y, hl, hr, hL, hR, hd, hd2, hx, hF, hy, hS, hb⟩ | ⟨hK, hR, l, wl, bl, x, q, y, hl, hL, hd, hw, hx, hF, hq, hS, hy, hT', hb⟩ | ⟨hK, hR, l, bl, hl, hL, hd, hb⟩ | ⟨hK, l, r, bl, b2, hl, hr, hL, hR, hd, hd2, hb⟩
  · obtain ⟨h, hh, e1, e2⟩ := hT t ht
    rw [hK]
    refine br_t (by decide) (yb_scan hk hF ht e1 hh h0 (fun ov' ys' gv' ro' hI => HH ov' ys' gv' ro' ?_))
    rw [hb, e2, e3]
    exact hI
  · obtain ⟨d1, d2, d3, d4⟩ := hD l _ bl hl (Or.inl hL) hd
    have d5 := hU _ _ _ hl d3
    rw [hK]
    refine br_f (by decide) ⟨vk, br_f (by decide) (yb_ev44 (F := bs_filter bl c (nI m) (ny k)) hk hl hL (yb_n d5 d4) d4 (yb_I0 h0) (fun i hi P ov1 ys1 gv1 ro1 hI HP => yb_for1 hI hk hl hi d4 hK hL d1 hw6 hF hc hS hm d5 HP) (fun ov' ys' gv' ro' hI => yb_ev73 hk hK (by decide) (HH ov' ys' gv' ro' ?_)))⟩
    rw [hb]
    exact hI
  · obtain ⟨d1, d2, d3, d4⟩ := hD l _ bl hl (Or.inl hL) hd
    have d5 := hU _ _ _ hl d3
    subst hw
    rw [hK]
    refine br_f (by decide) ⟨vk, br_f (by decide) (yb_ev44 (F := bs_ext bl wl (nI op) x y) hk hl hL (yb_n d5 d4) d4 (yb_I0 h0) (fun i hi P ov1 ys1 gv1 ro1 hI HP => yb_for2 hI hk hl hi d4 hK hL d1 hW hw6 hF hop hS hx hT' hy d5 HP) (fun ov' ys' gv' ro' hI => yb_ev73 hk hK (by decide) (HH ov' ys' gv' ro' ?_)))⟩
    rw [hb]
    exact hI
  · obtain ⟨d1, d2, d3, d4⟩ := hD l _ bl hl (Or.inl hL) hd
    have d5 := hU _ _ _ hl d3
    rw [hK]
    refine br_f (by decide) ⟨vk, br_f (by decide) (yb_ev44 (F := bs_pick bl x (nq k) (ny k)) hk hl hL (yb_n d5 d4) d4 (yb_I0 h0) (fun i hi P ov1 ys1 gv1 ro1 hI HP => yb_for3 hI hk hl hi d4 hK hL d1 d2 hF hx hS hT' hw d5 HP) (fun ov' ys' gv' ro' hI => yb_ev73 hk hK (by decide) (HH ov' ys' gv' ro' ?_)))⟩
    rw [hb]
    exact hI
  · obtain ⟨d1, d2, d3, d4⟩ := hD l _ bl hl (Or.inl hL) hd
    obtain ⟨f1, f2, f3, f4⟩ := hD r _ b2 hr (Or.inr hR) hd2
    subst hw
    rw [hK]
    refine br_f (by decide) ⟨vk, br_t (by decide) (yb_join hk hl hr hL hR d1 f1 hw6 hF hx hS hy h0 (hU _ _ _ hl d3) d4 (hU _ _ _ hr f3) f4 (fun ov' ys' gv' ro' hI => HH ov' ys' gv' ro' ?_))⟩
    rw [hb]
    exact hI
  · obtain ⟨d1, d2, d3, d4⟩ := hD l _ bl hl (Or.inl hL) hd
    obtain ⟨f1, f2, f3, f4⟩ := hD r _ b2 hr (Or.inr hR) hd2
    have d5 := hU _ _ _ hl d3
    rw [hK]
    refine br_f (by decide) ⟨vk, br_f (by decide) (yb_ev44 (F := bs_semi bl b2 x y True) hk hl hL (yb_n d5 d4) d4 (yb_I0 h0) (fun i hi P ov1 ys1 gv1 ro1 hI HP => yb_for56 hI hk hl hr hi d4 f4 (Or.inl ⟨trivial, rfl⟩) hK hL hR d1 hw6 f2 hF hx hS hy d5 (hU _ _ _ hr f3) HP) (fun ov' ys' gv' ro' hI => yb_ev73 hk hK (by decide) (HH ov' ys' gv' ro' ?_)))⟩
    rw [hb]
    exact hI
  · obtain ⟨d1, d2, d3, d4⟩ := hD l _ bl hl (Or.inl hL) hd
    obtain ⟨f1, f2, f3, f4⟩ := hD r _ b2 hr (Or.inr hR) hd2
    have d5 := hU _ _ _ hl d3
    rw [hK]
    refine br_f (by decide) ⟨vk, br_f (by decide) (yb_ev44 (F := bs_semi bl b2 x y False) hk hl hL (yb_n d5 d4) d4 (yb_I0 h0) (fun i hi P ov1 ys1 gv1 ro1 hI HP => yb_for56 hI hk hl hr hi d4 f4 (Or.inr ⟨id, rfl⟩) hK hL hR d1 hw6 f2 hF hx hS hy d5 (hU _ _ _ hr f3) HP) (fun ov' ys' gv' ro' hI => yb_ev73 hk hK (by decide) (HH ov' ys' gv' ro' ?_)))⟩
    rw [hb]
    exact hI
  · obtain ⟨d1, d2, d3, d4⟩ := hD l _ bl hl (Or.inl hL) hd
    have d5 := hU _ _ _ hl d3
    subst hw
    rw [hK]
    refine br_f (by decide) ⟨vk, br_f (by decide) (yb_ev44 (F := bs_grp (nI q) (fun i => bl.2 i x) (fun i => bl.2 i y) bl.1) hk hl hL (yb_n d5 d4) d4 (yb_I0 h0) (fun i hi P ov1 ys1 gv1 ro1 hI HP => yb_for7 hI hk hl hi d4 hK hL d1 d2 hF hx hS hq hT' hy d5 HP) (fun ov' ys' gv' ro' hI => yb_ev73 hk hK (by decide) (HH ov' ys' gv' ro' ?_)))⟩
    rw [hb]
    exact hI
  · obtain ⟨d1, d2, d3, d4⟩ := hD l _ bl hl (Or.inl hL) hd
    have d5 := hU _ _ _ hl d3
    rw [hK]
    refine br_f (by decide) ⟨vk, br_f (by decide) (yb_ev44 (F := bs_dist bl w) hk hl hL (yb_n d5 d4) d4 (yb_I0 h0) (fun i hi P ov1 ys1 gv1 ro1 hI HP => yb_for8 hI hk hl hi d4 hK hL d1 hw6 d5 HP) (fun ov' ys' gv' ro' hI => yb_ev73 hk hK (by decide) (HH ov' ys' gv' ro' ?_)))⟩
    rw [hb]
    exact hI
  · obtain ⟨d1, d2, d3, d4⟩ := hD l _ bl hl (Or.inl hL) hd
    obtain ⟨f1, f2, f3, f4⟩ := hD r _ b2 hr (Or.inr hR) hd2
    have d5 := hU _ _ _ hl d3
    rw [hK]
    refine br_f (by decide) ⟨vk, br_f (by decide) (yb_ev44 (F := bs_all bg_0 bl) hk hl hL (yb_n d5 d4) d4 (yb_I0 h0) (fun i hi P ov1 ys1 gv1 ro1 hI HP => yb_for9 hI hk hl hi d4 hK hL d1 hw6 d5 HP) (fun ov' ys' gv' ro' hI => yb_all hk hr hK hR f1 hw6 hI (hU _ _ _ hr f3) f4 fun ov2 ys2 gv2 ro2 hI2 => HH ov2 ys2 gv2 ro2 ?_))⟩
    rw [hb]
    exact hI2
end
