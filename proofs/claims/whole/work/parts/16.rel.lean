/-! the relation, and the making of a node -/
def rl_new (K W L R F S T P Q Y : Int32) (k : Nat) (nw : Nat → Int32) : Prop :=
  ∀ (TB E : Nat → bg_T), ∃ w b, nd_rel K W L R F S T k (fun l wl bl => nw l = nI wl ∧ wl ≤ 6 ∧ bl = E l) TB w b ∧ nd_rel K W L R P Q Y k (fun l wl bl => nw l = nI wl ∧ wl ≤ 6 ∧ bl = E l) TB w b
def rl_W (nc rr rw : Int32) (tr nk nw nl nr nf ns nt rc np nq ny re : Nat → Int32) : Prop :=
  (∃ N, N ≤ 12 ∧ nc = nI N ∧ ∀ k, k < N → rl_new (nk k) (nw k) (nl k) (nr k) (nf k) (ns k) (nt k) (np k) (nq k) (ny k) k nw) ∧
  (∀ t, t < 3 → ∃ h, h ≤ 6 ∧ tr t = nI h) ∧
  (∃ R W, R ≤ 20 ∧ W ≤ 6 ∧ rr = nI R ∧ rw = nI W ∧ ∀ i, i < R → ∀ c, c < W → re (i * 6 + c) = rc (i * 6 + c))
/-- near equality: tables, nodes and results alike; nothing is said of what a run leaves behind -/
def i_Rel (k : Nat) (u : SX) (v : SY) : Prop :=
  ∃ (nc ov rr rw : Int32) (tc tr nk nw nl nr nf ns nt nu ip bc br rc np nq ny ys gv nd ro re : Nat → Int32), u = (nc, rr, rw, tc, tr, nk, nw, nl, nr, nf, ns, nt, nu, ip, bc, br, rc) ∧ v = (nc, ov, rr, rw, tc, tr, nk, nl, nr, np, nq, ny, nw, nu, ys, gv, nd, ro, re) ∧ rl_W nc rr rw tr nk nw nl nr nf ns nt rc np nq ny re
theorem rl_mk {k : Nat} {nc ov rr rw : Int32} {tc tr nk nw nl nr nf ns nt nu ip bc br rc np nq ny ys gv nd ro re : Nat → Int32} (h : rl_W nc rr rw tr nk nw nl nr nf ns nt rc np nq ny re) : i_Rel k (nc, rr, rw, tc, tr, nk, nw, nl, nr, nf, ns, nt, nu, ip, bc, br, rc) (nc, ov, rr, rw, tc, tr, nk, nl, nr, np, nq, ny, nw, nu, ys, gv, nd, ro, re) :=
  ⟨nc, ov, rr, rw, tc, tr, nk, nw, nl, nr, nf, ns, nt, nu, ip, bc, br, rc, np, nq, ny, ys, gv, nd, ro, re, rfl, rfl, h⟩
theorem rl_wid {K W L R F S T P Q Y : Int32} {k : Nat} {nw : Nat → Int32} (h : rl_new K W L R F S T P Q Y k nw) : ∃ w, w ≤ 6 ∧ W = nI w := by
  obtain ⟨w, b, h1, _⟩ := h (fun _ => bg_0) (fun _ => bg_0)
  exact ⟨w, h1.1, h1.2.1⟩
theorem rl_u {f : Nat → Int32} {N : Nat} {x : Int32} : ∀ j, j < N → upd f N x j = f j := fun j hj => pk_un (by omega)
theorem rl_r {f : Nat → Int32} {N : Nat} : ∀ j, j < N → f j = f j := fun _ _ => rfl
theorem rl_add {N : Nat} {rr rw : Int32} {tr nk nw nl nr nf ns nt rc np nq ny re nk' nw' nl' nr' nf' ns' nt' np' nq' ny' : Nat → Int32} (hW : rl_W (nI N) rr rw tr nk nw nl nr nf ns nt rc np nq ny re) (hN : N < 12)
    (h1 : ∀ j, j < N → nk' j = nk j) (h2 : ∀ j, j < N → nw' j = nw j) (h3 : ∀ j, j < N → nl' j = nl j) (h4 : ∀ j, j < N → nr' j = nr j) (h5 : ∀ j, j < N → nf' j = nf j) (h6 : ∀ j, j < N → ns' j = ns j) (h7 : ∀ j, j < N → nt' j = nt j) (h8 : ∀ j, j < N → np' j = np j) (h9 : ∀ j, j < N → nq' j = nq j) (h10 : ∀ j, j < N → ny' j = ny j)
    (hn : rl_new (nk' N) (nw' N) (nl' N) (nr' N) (nf' N) (ns' N) (nt' N) (np' N) (nq' N) (ny' N) N nw) : rl_W (nI (N + 1)) rr rw tr nk' nw' nl' nr' nf' ns' nt' rc np' nq' ny' re := by
  obtain ⟨⟨M, hM, e, hNd⟩, hT, hR⟩ := hW
  have e' : N = M := (nI_eq (by omega) (by omega)).mp e
  subst e'
  refine ⟨⟨N + 1, hN, rfl, fun k hk => ?_⟩, hT, hR⟩
  have up : ∀ (K W L R F S T P Q Y : Int32), k ≤ N → rl_new K W L R F S T P Q Y k nw → rl_new K W L R F S T P Q Y k nw' := by
    intro K W L R F S T P Q Y hkN h TB E
    obtain ⟨w, b, a1, a2⟩ := h TB E
    exact ⟨w, b, nd_mono (fun l wl bl hl hd => ⟨(h2 l (by omega)).trans hd.1, hd.2⟩) a1, nd_mono (fun l wl bl hl hd => ⟨(h2 l (by omega)).trans hd.1, hd.2⟩) a2⟩
  by_cases ek : k = N
  · subst ek
    exact up _ _ _ _ _ _ _ _ _ _ (Nat.le_refl _) hn
  · have hk' : k < N := by omega
    rw [h1 k hk', h2 k hk', h3 k hk', h4 k hk', h5 k hk', h6 k hk', h7 k hk', h8 k hk', h9 k hk', h10 k hk']
    exact up _ _ _ _ _ _ _ _ _ _ (by omega) (hNd k hk')
theorem rl_bag {nk nw nl nr nf ns nt np nq ny : Nat → Int32} (TB : Nat → bg_T) : ∀ N, (∀ k, k < N → rl_new (nk k) (nw k) (nl k) (nr k) (nf k) (ns k) (nt k) (np k) (nq k) (ny k) k nw) →
    ∃ (B : Nat → bg_T) (Wd : Nat → Nat), ∀ k, k < N → nd_rel (nk k) (nw k) (nl k) (nr k) (nf k) (ns k) (nt k) k (fun l wl bl => nw l = nI wl ∧ wl ≤ 6 ∧ bl = B l) TB (Wd k) (B k) ∧ nd_rel (nk k) (nw k) (nl k) (nr k) (np k) (nq k) (ny k) k (fun l wl bl => nw l = nI wl ∧ wl ≤ 6 ∧ bl = B l) TB (Wd k) (B k) := by
  intro N
  induction N with
  | zero => exact fun _ => ⟨fun _ => bg_0, fun _ => 0, fun k hk => absurd hk (Nat.not_lt_zero k)⟩
  | succ N ih =>
    intro h
    obtain ⟨B, Wd, hB⟩ := ih (fun k hk => h k (by omega))
    obtain ⟨w, b, a1, a2⟩ := h N (by omega) TB B
    have up : ∀ k, k ≤ N → ∀ l wl bl, l < k → (nw l = nI wl ∧ wl ≤ 6 ∧ bl = B l) → (nw l = nI wl ∧ wl ≤ 6 ∧ bl = if l = N then b else B l) := fun k hk l wl bl hl hd => ⟨hd.1, hd.2.1, by rw [if_neg (by omega)]; exact hd.2.2⟩
    refine ⟨fun m => if m = N then b else B m, fun m => if m = N then w else Wd m, fun k hk => ?_⟩
    dsimp only
    by_cases ek : k = N
    · subst ek
      rw [if_pos rfl, if_pos rfl]
      exact ⟨nd_mono (up k (Nat.le_refl _)) a1, nd_mono (up k (Nat.le_refl _)) a2⟩
    · rw [if_neg ek, if_neg ek]
      obtain ⟨c1, c2⟩ := hB k (by omega)
      exact ⟨nd_mono (up k (by omega)) c1, nd_mono (up k (by omega)) c2⟩
def rl_us (nu : Nat → Int32) (N : Nat) (L R : Int32) : Nat → Int32 :=
  if R = -1 then (if L = -1 then upd nu N 0 else upd (upd nu N 0) L.toNatClampNeg 1) else upd (if L = -1 then upd nu N 0 else upd (upd nu N 0) L.toNatClampNeg 1) R.toNatClampNeg 1
section
variable {rr rw : Int32} {tc tr nk nw nl nr nf ns nt nu ip bc br rc : Nat → Int32}
theorem xa_add {post : Int32 → SX → Prop} {N : Nat} {K W L R F S T : Int32} (hN : N < 12) (hL : L = -1 ∨ ∃ l, l < 12 ∧ L = nI l) (hR : R = -1 ∨ ∃ l, l < 12 ∧ R = nI l)
    (h : post (nI N) (nI (N + 1), rr, rw, tc, tr, upd nk N K, upd nw N W, upd nl N L, upd nr N R, upd nf N F, upd ns N S, upd nt N T, rl_us nu N L R, ip, bc, br, rc)) : wpX_addNode post (nI N, rr, rw, tc, tr, nk, nw, nl, nr, nf, ns, nt, nu, ip, bc, br, rc) K W L R F S T := by
  have cN : (nI N).toNatClampNeg = N := nI_clamp (by omega)
  have vN : vp_in (nI N) 12 := vp_in_nI hN (by decide)
  have t98 : ∀ n1 : Nat → Int32, (if R = -1 then n1 else upd n1 R.toNatClampNeg 1) = rl_us nu N L R → wX_addNode_98 post R (nI N) (nI N) rr rw tc tr (upd nk N K) (upd nw N W) (upd nl N L) (upd nr N R) (upd nf N F) (upd ns N S) (upd nt N T) n1 ip bc br rc := by
    intro n1 e
    rw [← e] at h
    rcases hR with er | ⟨r, hr, er⟩
    · rw [if_pos er] at h
      exact br_t er (nm_r (nI_1 N) h)
    · have ne : ¬ R = -1 := by rw [er]; exact xb_nn1 (by omega)
      rw [if_neg ne] at h
      refine br_f ne ⟨by rw [er]; exact vp_in_nI hr (by decide), ?_⟩
      rw [xb_b1]
      exact nm_e (nm_r (nI_1 N) h)
  refine br_t (nI_lt (b := 12) hN (by decide)) ?_
  rw [cN, xb_b0, xb_b1]
  refine ⟨vN, nm_e ⟨vN, nm_e ⟨vN, nm_e ⟨vN, nm_e ⟨vN, nm_e ⟨vN, nm_e ⟨vN, nm_e ⟨vN, nm_e ?_⟩⟩⟩⟩⟩⟩⟩⟩
  rcases hL with el | ⟨l, hl, el⟩
  · refine br_t el (t98 _ ?_)
    unfold rl_us
    rw [if_pos el]
  · have ne : ¬ L = -1 := by rw [el]; exact xb_nn1 (by omega)
    refine br_f ne ⟨by rw [el]; exact vp_in_nI hl (by decide), nm_e (t98 _ ?_)⟩
    unfold rl_us
    rw [if_neg ne]
theorem xa_full {post : Int32 → SX → Prop} {K W L R F S T : Int32} (h : post (-2) (nI 12, rr, rw, tc, tr, nk, nw, nl, nr, nf, ns, nt, nu, ip, bc, br, rc)) : wpX_addNode post (nI 12, rr, rw, tc, tr, nk, nw, nl, nr, nf, ns, nt, nu, ip, bc, br, rc) K W L R F S T := br_f (by decide) h
theorem xa_node_bad {post : Int32 → Prop} {N : Nat} {x : Int32} (h : x < 0 ∨ nI N ≤ x) (hp : post 0) : wpX_isNode post (nI N, rr, rw, tc, tr, nk, nw, nl, nr, nf, ns, nt, nu, ip, bc, br, rc) x := br_c (fun _ => hp) (fun e => br_t (h.resolve_left e) hp)
theorem xa_node_ok {post : Int32 → Prop} {N j : Nat} (hN : N ≤ 12) (hj : j < N) (hp : post 1) : wpX_isNode post (nI N, rr, rw, tc, tr, nk, nw, nl, nr, nf, ns, nt, nu, ip, bc, br, rc) (nI j) := br_f (nI_pos (by omega)) (br_f (nI_ge hj (by omega)) hp)
theorem xa_in_bad {post : Int32 → Prop} {N : Nat} {x : Int32} (h : x < 0 ∨ nI N ≤ x) (hp : post (-3)) : wpX_inputRefusal post (nI N, rr, rw, tc, tr, nk, nw, nl, nr, nf, ns, nt, nu, ip, bc, br, rc) x := by
  unfold wpX_inputRefusal
  dsimp only
  exact xa_node_bad h (br_t rfl hp)
theorem xa_in_used {post : Int32 → Prop} {N j : Nat} (hN : N ≤ 12) (hj : j < N) (hu : ¬ nu j = 0) (hp : post (-4)) : wpX_inputRefusal post (nI N, rr, rw, tc, tr, nk, nw, nl, nr, nf, ns, nt, nu, ip, bc, br, rc) (nI j) := by
  unfold wpX_inputRefusal
  dsimp only
  refine xa_node_ok hN hj (br_f (by decide) ⟨vp_in_nI (by omega) (by decide), ?_⟩)
  rw [nI_clamp (by omega)]
  exact br_f hu hp
theorem xa_in_ok {post : Int32 → Prop} {N j : Nat} (hN : N ≤ 12) (hj : j < N) (hu : nu j = 0) (hp : post 0) : wpX_inputRefusal post (nI N, rr, rw, tc, tr, nk, nw, nl, nr, nf, ns, nt, nu, ip, bc, br, rc) (nI j) := by
  unfold wpX_inputRefusal
  dsimp only
  refine xa_node_ok hN hj (br_f (by decide) ⟨vp_in_nI (by omega) (by decide), ?_⟩)
  rw [nI_clamp (by omega)]
  exact br_t hu hp
theorem xa_col_bad {post : Int32 → Prop} {nc x : Int32} {j w : Nat} (hj : j < 12) (hw : nw j = nI w) (h : x < 0 ∨ nI w ≤ x) (hp : post 0) : wpX_isColumn post (nc, rr, rw, tc, tr, nk, nw, nl, nr, nf, ns, nt, nu, ip, bc, br, rc) (nI j) x := by
  refine br_c (fun _ => hp) (fun e => ⟨vp_in_nI hj (by decide), ?_⟩)
  rw [nI_clamp (by omega), hw]
  exact br_t (h.resolve_left e) hp
theorem xa_col_ok {post : Int32 → Prop} {nc : Int32} {j w c : Nat} (hj : j < 12) (hw : nw j = nI w) (hw6 : w ≤ 6) (hc : c < w) (hp : post 1) : wpX_isColumn post (nc, rr, rw, tc, tr, nk, nw, nl, nr, nf, ns, nt, nu, ip, bc, br, rc) (nI j) (nI c) := by
  refine br_f (nI_pos (by omega)) ⟨vp_in_nI hj (by decide), ?_⟩
  rw [nI_clamp (by omega), hw]
  exact br_f (nI_ge hc (by omega)) hp
theorem xa_cn_bad {post : Int32 → Prop} {nc x : Int32} {j w : Nat} (hj : j < 12) (hw : nw j = nI w) (hw6 : w ≤ 6) (h : x < -1 ∨ nI w ≤ x) (hp : post 0) : wpX_isColumnOrNone post (nc, rr, rw, tc, tr, nk, nw, nl, nr, nf, ns, nt, nu, ip, bc, br, rc) (nI j) x := by
  unfold wpX_isColumnOrNone
  dsimp only
  refine br_f ?_ (xa_col_bad hj hw ?_ (br_t rfl hp))
  · rintro rfl
    rcases h with h | h
    · exact absurd h (by decide)
    · have := Int32.le_trans (nI_pos' (n := w) (by omega)) h
      exact absurd this (by decide)
  · rcases h with h | h
    · exact Or.inl (Int32.lt_trans h (by decide))
    · exact Or.inr h
theorem xa_cn_ok {post : Int32 → Prop} {nc x : Int32} {j w : Nat} (hj : j < 12) (hw : nw j = nI w) (hw6 : w ≤ 6) (h : x = -1 ∨ ∃ c, c < w ∧ x = nI c) (hp : post 1) : wpX_isColumnOrNone post (nc, rr, rw, tc, tr, nk, nw, nl, nr, nf, ns, nt, nu, ip, bc, br, rc) (nI j) x := by
  unfold wpX_isColumnOrNone
  dsimp only
  rcases h with h | ⟨c, hc, rfl⟩
  · exact br_t h hp
  · exact br_f (xb_nn1 (by omega)) (xa_col_ok hj hw hw6 hc (br_f (by decide) hp))
theorem xa_ins_bad {post : Int32 → Prop} {N : Nat} {x y : Int32} (hN : N ≤ 12) (h : (x < 0 ∨ nI N ≤ x) ∨ ((∃ j, j < N ∧ x = nI j) ∧ (y < 0 ∨ nI N ≤ y))) (hp : post (-3)) : wpX_inputsRefusal post (nI N, rr, rw, tc, tr, nk, nw, nl, nr, nf, ns, nt, nu, ip, bc, br, rc) x y := by
  unfold wpX_inputsRefusal
  dsimp only
  rcases h with h | ⟨⟨j, hj, rfl⟩, h⟩
  · exact xa_node_bad h (br_t rfl hp)
  · exact xa_node_ok hN hj (br_f (by decide) (xa_node_bad h (br_t rfl hp)))
theorem xa_ins_used {post : Int32 → Prop} {N j m : Nat} (hN : N ≤ 12) (hj : j < N) (hm : m < N) (h : ¬ (nu j = 0 ∧ nu m = 0 ∧ j ≠ m)) (hp : post (-4)) : wpX_inputsRefusal post (nI N, rr, rw, tc, tr, nk, nw, nl, nr, nf, ns, nt, nu, ip, bc, br, rc) (nI j) (nI m) := by
  unfold wpX_inputsRefusal
  dsimp only
  refine xa_node_ok hN hj (br_f (by decide) (xa_node_ok hN hm (br_f (by decide) ⟨vp_in_nI (by omega) (by decide), ?_⟩)))
  rw [nI_clamp (show j < 2 ^ 31 by omega), nI_clamp (show m < 2 ^ 31 by omega)]
  refine br_c (fun e1 => ⟨vp_in_nI (by omega) (by decide), br_c (fun e2 => br_c (fun _ => hp) (fun e3 => absurd ⟨e1, e2, fun z => e3 (by rw [z])⟩ h)) (fun _ => hp)⟩) (fun _ => hp)
theorem xa_ins_ok {post : Int32 → Prop} {N j m : Nat} (hN : N ≤ 12) (hj : j < N) (hm : m < N) (h : nu j = 0 ∧ nu m = 0 ∧ j ≠ m) (hp : post 0) : wpX_inputsRefusal post (nI N, rr, rw, tc, tr, nk, nw, nl, nr, nf, ns, nt, nu, ip, bc, br, rc) (nI j) (nI m) := by
  unfold wpX_inputsRefusal
  dsimp only
  refine xa_node_ok hN hj (br_f (by decide) (xa_node_ok hN hm (br_f (by decide) ⟨vp_in_nI (by omega) (by decide), ?_⟩)))
  rw [nI_clamp (show j < 2 ^ 31 by omega), nI_clamp (show m < 2 ^ 31 by omega)]
  exact br_t h.1 ⟨vp_in_nI (by omega) (by decide), br_t h.2.1 (br_f (fun z => h.2.2 ((nI_eq (by omega) (by omega)).mp z)) hp)⟩
theorem xa_mr_bad {post : Int32 → Prop} {N : Nat} {x y a b : Int32} (hN : N ≤ 12) (h : (x < 0 ∨ nI N ≤ x) ∨ ((∃ j, j < N ∧ x = nI j) ∧ (y < 0 ∨ nI N ≤ y))) (hp : post (-3)) : wpX_matchRefusal post (nI N, rr, rw, tc, tr, nk, nw, nl, nr, nf, ns, nt, nu, ip, bc, br, rc) x y a b := by
  unfold wpX_matchRefusal
  dsimp only
  exact xa_ins_bad hN h (br_f (by decide) hp)
theorem xa_mr_used {post : Int32 → Prop} {N j m : Nat} {a b : Int32} (hN : N ≤ 12) (hj : j < N) (hm : m < N) (h : ¬ (nu j = 0 ∧ nu m = 0 ∧ j ≠ m)) (hp : post (-4)) : wpX_matchRefusal post (nI N, rr, rw, tc, tr, nk, nw, nl, nr, nf, ns, nt, nu, ip, bc, br, rc) (nI j) (nI m) a b := by
  unfold wpX_matchRefusal
  dsimp only
  exact xa_ins_used hN hj hm h (br_f (by decide) hp)
theorem xa_mr_col {post : Int32 → Prop} {N j m w v : Nat} {a b : Int32} (hN : N ≤ 12) (hj : j < N) (hm : m < N) (h : nu j = 0 ∧ nu m = 0 ∧ j ≠ m) (hw : nw j = nI w) (hw6 : w ≤ 6) (hv : nw m = nI v) (hab : (a < 0 ∨ nI w ≤ a) ∨ ((∃ c, c < w ∧ a = nI c) ∧ (b < 0 ∨ nI v ≤ b))) (hp : post (-5)) : wpX_matchRefusal post (nI N, rr, rw, tc, tr, nk, nw, nl, nr, nf, ns, nt, nu, ip, bc, br, rc) (nI j) (nI m) a b := by
  unfold wpX_matchRefusal
  dsimp only
  refine xa_ins_ok hN hj hm h (br_t rfl ?_)
  rcases hab with e | ⟨⟨c, hc, rfl⟩, e⟩
  · exact xa_col_bad (by omega) hw e (br_t rfl hp)
  · exact xa_col_ok (by omega) hw hw6 hc (br_f (by decide) (xa_col_bad (by omega) hv e (br_t rfl hp)))
theorem xa_mr_ok {post : Int32 → Prop} {N j m w v c d : Nat} (hN : N ≤ 12) (hj : j < N) (hm : m < N) (h : nu j = 0 ∧ nu m = 0 ∧ j ≠ m) (hw : nw j = nI w) (hw6 : w ≤ 6) (hv : nw m = nI v) (hv6 : v ≤ 6) (hc : c < w) (hd : d < v) (hp : post 0) : wpX_matchRefusal post (nI N, rr, rw, tc, tr, nk, nw, nl, nr, nf, ns, nt, nu, ip, bc, br, rc) (nI j) (nI m) (nI c) (nI d) := by
  unfold wpX_matchRefusal
  dsimp only
  exact xa_ins_ok hN hj hm h (br_t rfl (xa_col_ok (by omega) hw hw6 hc (br_f (by decide) (xa_col_ok (by omega) hv hv6 hd (br_f (by decide) hp)))))
end
section
variable {ov rr rw : Int32} {tc tr nk nl nr np nq ny nw nu ys gv nd ro re : Nat → Int32}
theorem ya_make {post : Int32 → SY → Prop} {N : Nat} {K W L R : Int32} (hN : N < 12) (hL : L = -1 ∨ ∃ l, l < 12 ∧ L = nI l) (hR : R = -1 ∨ ∃ l, l < 12 ∧ R = nI l)
    (h : post (nI N) (nI (N + 1), ov, rr, rw, tc, tr, upd nk N K, upd nl N L, upd nr N R, np, nq, ny, upd nw N W, rl_us nu N L R, ys, gv, nd, ro, re)) : wpY_make post (nI N, ov, rr, rw, tc, tr, nk, nl, nr, np, nq, ny, nw, nu, ys, gv, nd, ro, re) K L R W := by
  have cN : (nI N).toNatClampNeg = N := nI_clamp (by omega)
  have vN : vp_in (nI N) 12 := vp_in_nI hN (by decide)
  have m1 : (-1 : Int32) < 0 := by decide
  have t62 : ∀ n1 : Nat → Int32, (if R = -1 then n1 else upd n1 R.toNatClampNeg 1) = rl_us nu N L R → wY_make_62 post R (nI N) ov rr rw tc tr (upd nk N K) (upd nl N L) (upd nr N R) np nq ny (upd nw N W) n1 ys gv nd ro re := by
    intro n1 e
    rw [← e] at h
    have t73 : ∀ n2 : Nat → Int32, (if R = -1 then n1 else upd n1 R.toNatClampNeg 1) = n2 → wY_make_73 post (nI N) ov rr rw tc tr (upd nk N K) (upd nl N L) (upd nr N R) np nq ny (upd nw N W) n2 ys gv nd ro re := by
      intro n2 e2
      rw [e2] at h
      refine nm_r (nI_1 N) ?_
      rw [nI_pred]
      exact h
    rcases hR with er | ⟨r, hr, er⟩
    · exact br_t (by rw [er]; exact m1) (t73 _ (if_pos er))
    · have ne : ¬ R = -1 := by rw [er]; exact xb_nn1 (by omega)
      refine br_f (by rw [er]; exact nI_pos (by omega)) ⟨by rw [er]; exact vp_in_nI hr (by decide), ?_⟩
      rw [xb_b1]
      exact nm_e (t73 _ (if_neg ne))
  unfold wpY_make
  dsimp only
  rw [cN, xb_b0, xb_b1]
  refine ⟨vN, nm_e ⟨vN, nm_e ⟨vN, nm_e ⟨vN, nm_e ⟨vN, nm_e ?_⟩⟩⟩⟩⟩
  rcases hL with el | ⟨l, hl, el⟩
  · refine br_t (by rw [el]; exact m1) (t62 _ ?_)
    unfold rl_us
    rw [if_pos el]
  · have ne : ¬ L = -1 := by rw [el]; exact xb_nn1 (by omega)
    refine br_f (by rw [el]; exact nI_pos (by omega)) ⟨by rw [el]; exact vp_in_nI hl (by decide), nm_e (t62 _ ?_)⟩
    unfold rl_us
    rw [if_neg ne]
theorem ya_say {post : SY → Prop} {nc : Int32} {N : Nat} {F S T : Int32} (hN : N < 12) (h : post (nc, ov, rr, rw, tc, tr, nk, nl, nr, upd np N F, upd nq N S, upd ny N T, nw, nu, ys, gv, nd, ro, re)) : wpY_say post (nc, ov, rr, rw, tc, tr, nk, nl, nr, np, nq, ny, nw, nu, ys, gv, nd, ro, re) (nI N) F S T := by
  have cN : (nI N).toNatClampNeg = N := nI_clamp (by omega)
  have vN : vp_in (nI N) 12 := vp_in_nI hN (by decide)
  unfold wpY_say
  dsimp only
  rw [cN]
  exact ⟨vN, nm_e ⟨vN, nm_e ⟨vN, nm_e h⟩⟩⟩
theorem ya_node_bad {post : Int32 → Prop} {N : Nat} {x : Int32} (h : x < 0 ∨ nI N ≤ x) (hp : post 1) : wpY_badNode post (nI N, ov, rr, rw, tc, tr, nk, nl, nr, np, nq, ny, nw, nu, ys, gv, nd, ro, re) x := br_c (fun _ => hp) (fun e => br_f (Int32.not_lt.mpr (h.resolve_left e)) hp)
theorem ya_node_ok {post : Int32 → Prop} {N j : Nat} (hN : N ≤ 12) (hj : j < N) (hp : post 0) : wpY_badNode post (nI N, ov, rr, rw, tc, tr, nk, nl, nr, np, nq, ny, nw, nu, ys, gv, nd, ro, re) (nI j) := br_f (nI_pos (by omega)) (br_t (nI_lt hj (by omega)) hp)
end
/-! splits of an argument, and the branches that test it -/
theorem cb_ix (x : Int32) (n : Nat) (hn : n ≤ 20) : (x < 0 ∨ nI n ≤ x) ∨ ∃ j : Nat, j < n ∧ x = nI j := by
  rcases pk_ix x (n := n) (by omega) with h | h | h
  · exact Or.inl (Or.inl h)
  · exact Or.inl (Or.inr h)
  · exact Or.inr h
theorem cb_kx (x : Int32) (n : Nat) (hn : n ≤ 20) : (x < 0 ∨ nI n < x) ∨ ∃ j : Nat, j ≤ n ∧ x = nI j := by
  by_cases h : x < 0
  · exact Or.inl (Or.inl h)
  · obtain ⟨j, hj, rfl⟩ := nI_of h
    by_cases e : j ≤ n
    · exact Or.inr ⟨j, e, rfl⟩
    · exact Or.inl (Or.inr (nI_lt (by omega) hj))
theorem cb_cn (x : Int32) (n : Nat) (hn : n ≤ 20) : (x < -1 ∨ nI n ≤ x) ∨ (x = -1 ∨ ∃ j : Nat, j < n ∧ x = nI j) := by
  rcases pk_ix x (n := n) (by omega) with h | h | h
  · by_cases e : x < -1
    · exact Or.inl (Or.inl e)
    · refine Or.inr (Or.inl ?_)
      rw [Int32.lt_iff_toInt_lt] at h e
      apply Int32.toInt_inj.mp
      have a : (-1 : Int32).toInt = -1 := by decide
      have b : (0 : Int32).toInt = 0 := by decide
      rw [a] at e ⊢
      rw [b] at h
      omega
  · exact Or.inl (Or.inr h)
  · exact Or.inr (Or.inr h)
theorem cb_k1 {x m : Int32} {A B : Prop} (h : x < 0 ∨ m < x) (a : A) : (x < 0 → A) ∧ (¬ x < 0 → ((x ≤ m → B) ∧ (¬ x ≤ m → A))) := br_c (fun _ => a) (fun e => br_f (Int32.not_le.mpr (h.resolve_left e)) a)
theorem cb_k2 {n m : Nat} {M : Int32} {A B : Prop} (h : n ≤ m) (hm : m ≤ 20) (e : M = nI m) (b : B) : (nI n < 0 → A) ∧ (¬ nI n < 0 → ((nI n ≤ M → B) ∧ (¬ nI n ≤ M → A))) := by
  subst e
  exact br_f (nI_pos (by omega)) (br_t (nI_le h (by omega)) b)
theorem cb_c1 {x W : Int32} {V A B : Prop} (h : x < 0 ∨ W ≤ x) (v : V) (a : A) : (x < 0 → A) ∧ (¬ x < 0 → (V ∧ ((x < W → B) ∧ (¬ x < W → A)))) := br_c (fun _ => a) (fun e => ⟨v, br_f (Int32.not_lt.mpr (h.resolve_left e)) a⟩)
theorem cb_c2 {c w : Nat} {V A B : Prop} (h : c < w) (hw : w ≤ 6) (v : V) (b : B) : (nI c < 0 → A) ∧ (¬ nI c < 0 → (V ∧ ((nI c < nI w → B) ∧ (¬ nI c < nI w → A)))) := br_f (nI_pos (by omega)) ⟨v, br_t (nI_lt h (by omega)) b⟩
theorem cb_d1 {x W : Int32} {V A B : Prop} (h : x < 0 ∨ W ≤ x) (v : V) (a : A) : (x < 0 → A) ∧ (¬ x < 0 → (V ∧ ((W ≤ x → A) ∧ (¬ W ≤ x → B)))) := br_c (fun _ => a) (fun e => ⟨v, br_t (h.resolve_left e) a⟩)
theorem cb_d2 {c w : Nat} {V A B : Prop} (h : c < w) (hw : w ≤ 6) (v : V) (b : B) : (nI c < 0 → A) ∧ (¬ nI c < 0 → (V ∧ ((nI w ≤ nI c → A) ∧ (¬ nI w ≤ nI c → B)))) := br_f (nI_pos (by omega)) ⟨v, br_f (nI_ge h (by omega)) b⟩
theorem cb_12 {N : Nat} (h : N < 12) : ¬ nI N = 12 := fun z => by
  have := (nI_eq (b := 12) (by omega) (by decide)).mp z
  omega
theorem cb_N {N : Nat} (h : N ≤ 12) : N = 12 ∨ N < 12 := by omega
