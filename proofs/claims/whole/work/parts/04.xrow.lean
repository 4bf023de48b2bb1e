/-! the component: rows of a bag -/
theorem xr_ad (k m : Nat) : (nI k * 21 + nI m) * 6 = nI ((k * 21 + m) * 6) := by
  rw [show (21 : Int32) = nI 21 from rfl, show (6 : Int32) = nI 6 from rfl, pk_mul, nI_add, pk_mul]
def xb_B (k w : Nat) (b : bg_T) (bc br : Nat → Int32) : Prop := br k = nI b.1 ∧ ∀ r, r < b.1 → r < 20 → ∀ c, c < w → bc ((k * 21 + r) * 6 + c) = b.2 r c
def xb_I (bc0 br0 : Nat → Int32) (k w : Nat) (b : bg_T) (bc br : Nat → Int32) : Prop := xb_B k w b bc br ∧ (∀ j, j < k * 126 → bc j = bc0 j) ∧ (∀ m, m ≠ k → br m = br0 m)
theorem xb_I0 {bc br : Nat → Int32} {k w : Nat} (h : br k = nI 0) : xb_I bc br k w bg_0 bc br := ⟨⟨h, fun r hr => absurd hr (Nat.not_lt_zero r)⟩, fun _ _ => rfl, fun _ _ => rfl⟩
theorem xb_in {bc0 br0 bc br : Nat → Int32} {k w l wl i c : Nat} {b bl : bg_T} (hI : xb_I bc0 br0 k w b bc br) (hB : xb_B l wl bl bc0 br0) (hl : l < k) (hi : i < bl.1) (h20 : i < 20) (hc : c < wl) (hwl : wl ≤ 6) : bc ((l * 21 + i) * 6 + c) = bl.2 i c := by
  rw [hI.2.1 _ (by omega)]
  exact hB.2 i hi h20 c hc
theorem xb_keep {bc0 br0 bc br : Nat → Int32} {k w l wl : Nat} {b bl : bg_T} (hI : xb_I bc0 br0 k w b bc br) (hB : xb_B l wl bl bc0 br0) (hl : l < k) (hwl : wl ≤ 6) : xb_B l wl bl bc br :=
  ⟨(hI.2.2 l (by omega)).trans hB.1, fun r hr h20 c hc => xb_in hI hB hl hr h20 hc hwl⟩
theorem xb_cg {bc0 br0 bc br : Nat → Int32} {k w : Nat} {b b' : bg_T} (hI : xb_I bc0 br0 k w b bc br) (h1 : b'.1 = b.1) (h2 : ∀ r, r < b.1 → ∀ c, c < w → b'.2 r c = b.2 r c) : xb_I bc0 br0 k w b' bc br :=
  ⟨⟨by rw [h1]; exact hI.1.1, fun r hr h20 c hc => by rw [h1] at hr; rw [h2 r hr c hc]; exact hI.1.2 r hr h20 c hc⟩, hI.2⟩
theorem xb_push {bc0 br0 bc br bc' : Nat → Int32} {k w m : Nat} {b : bg_T} {row : Nat → Int32} (hI : xb_I bc0 br0 k w b bc br) (hw : w ≤ 6) (hm : (b.1 < 20 ∧ m = b.1) ∨ (20 ≤ b.1 ∧ m = 20))
    (hf : ∀ j, j < (k * 21 + m) * 6 ∨ (k * 21 + m) * 6 + 6 ≤ j → bc' j = bc j) (hr : ∀ c, c < w → bc' ((k * 21 + m) * 6 + c) = row c) : xb_I bc0 br0 k w (bg_push b row) bc' (upd br k (nI (b.1 + 1))) := by
  refine ⟨⟨pk_us, fun r h h20 c hc => ?_⟩, fun j hj => ?_, fun x hx => ?_⟩
  · have h' : r < b.1 + 1 := h
    show bc' _ = (if r = b.1 then row else b.2 r) c
    by_cases e : r = b.1
    · rw [if_pos e, ← hr c hc]
      have : m = r := by omega
      rw [this]
    · rw [if_neg e, hf _ (by omega)]
      exact hI.1.2 r (by omega) h20 c hc
  · rw [hf j (by omega)]
    exact hI.2.1 j hj
  · rw [pk_un hx]
    exact hI.2.2 x hx
section
variable {nc rr rw : Int32} {tc tr nk nw nl nr nf ns nt nu ip rc : Nat → Int32}
theorem xb_rs {post : Int32 → Prop} {u : SX} {k i : Nat} (h : post (nI ((k * 21 + i) * 6))) : wpX_rowStart post u (nI k) (nI i) := by
  show post ((nI k * 21 + nI i) * 6)
  rw [xr_ad]
  exact h
theorem xb_addRow {post : Int32 → SX → Prop} {bc br : Nat → Int32} {k n : Nat} (hk : k < 12) (hn : br k = nI n) (hn' : n < 1000000)
    (h : ∀ m, ((n < 20 ∧ m = n) ∨ (20 ≤ n ∧ m = 20)) → post (nI ((k * 21 + m) * 6)) (nc, rr, rw, tc, tr, nk, nw, nl, nr, nf, ns, nt, nu, ip, bc, upd br k (nI (n + 1)), rc)) : wpX_addRow post (nc, rr, rw, tc, tr, nk, nw, nl, nr, nf, ns, nt, nu, ip, bc, br, rc) (nI k) := by
  have ck : (nI k).toNatClampNeg = k := nI_clamp (by omega)
  refine ⟨vp_in_nI hk (by decide), nm_r (e' := nI n) (by rw [ck]; exact hn) ⟨vp_in_nI hk (by decide), nm_r (e' := upd br k (nI (n + 1))) (by rw [ck, nI_1]) ?_⟩⟩
  refine pk_le 20 n (fun hc => ?_) (fun hc => ?_)
  · exact xb_rs (h 20 (Or.inr ⟨hc, rfl⟩))
  · exact xb_rs (h n (Or.inl ⟨hc, rfl⟩))
theorem xb_copy {post : SX → Prop} {bc br : Nat → Int32} {a t w : Nat} (hat : a + w ≤ t) (ht : t + w ≤ 1512)
    (h : ∀ bc', (∀ j, j < t ∨ t + w ≤ j → bc' j = bc j) → (∀ c, c < w → bc' (t + c) = bc (a + c)) → post (nc, rr, rw, tc, tr, nk, nw, nl, nr, nf, ns, nt, nu, ip, bc', br, rc)) : wpX_copyCells post (nc, rr, rw, tc, tr, nk, nw, nl, nr, nf, ns, nt, nu, ip, bc, br, rc) (nI a) (nI t) (nI w) := by
  refine loop_0 (fun n i s => wX_copyCells_3 post (nI a) (nI t) (nI w) nc rr rw n (nI i) tc tr nk nw nl nr nf ns nt nu ip s br rc) (fun i s => (∀ j, j < t ∨ t + i ≤ j → s j = bc j) ∧ (∀ c, c < i → s (t + c) = bc (a + c))) w bc ⟨fun _ _ => rfl, fun c hc => absurd hc (Nat.not_lt_zero c)⟩ ?_ ?_
  · rintro n s ⟨h1, h2⟩
    exact br_t (nI_le (Nat.le_refl w) (by omega)) (h s h1 h2)
  · rintro n i s hi ⟨h1, h2⟩ ih
    refine br_f (nI_ge hi (by omega)) ⟨?_, ?_, ?_⟩
    · rw [nI_add]
      exact vp_in_nI (by omega) (by decide)
    · rw [nI_add]
      exact vp_in_nI (by omega) (by decide)
    · refine nm_r (e' := upd s (t + i) (s (a + i))) (by rw [nI_add, nI_add, nI_clamp (by omega), nI_clamp (by omega)]) ?_
      refine nm_r (nI_1 i) (ih (upd s (t + i) (s (a + i))) ⟨fun j hj => ?_, fun c hc => ?_⟩)
      · rw [pk_un (by omega)]
        exact h1 j (by omega)
      · by_cases e : c = i
        · subst e
          rw [pk_us]
          exact h1 _ (Or.inl (by omega))
        · rw [pk_un (by omega)]
          exact h2 c (by omega)
theorem xb_addCopy {post : SX → Prop} {bc0 br0 bc br row : Nat → Int32} {k w a : Nat} {b : bg_T} (hI : xb_I bc0 br0 k w b bc br) (hk : k < 12) (hb : b.1 < 1000000) (hw : nw k = nI w) (hw6 : w ≤ 6) (ha : a + w ≤ k * 126)
    (hrow : ∀ c, c < w → bc (a + c) = row c) (h : ∀ bc' br', xb_I bc0 br0 k w (bg_push b row) bc' br' → post (nc, rr, rw, tc, tr, nk, nw, nl, nr, nf, ns, nt, nu, ip, bc', br', rc)) : wpX_addCopy post (nc, rr, rw, tc, tr, nk, nw, nl, nr, nf, ns, nt, nu, ip, bc, br, rc) (nI k) (nI a) := by
  unfold wpX_addCopy
  dsimp only
  refine xb_addRow hk hI.1.1 hb fun m hm => ?_
  dsimp only
  refine ⟨vp_in_nI hk (by decide), ?_⟩
  rw [nI_clamp (show k < 2 ^ 31 by omega), hw]
  refine xb_copy (by omega) (by omega) fun bc' h1 h2 => ?_
  exact h _ _ (xb_push hI hw6 hm (fun j hj => h1 j (by omega)) (fun c hc => (h2 c hc).trans (hrow c hc)))
theorem xb_find {post : Int32 → Prop} {bc br : Nat → Int32} {k c n : Nat} {x : Int32} (hk : k < 12) (hn : br k = nI n) (hn' : n ≤ 20) (hc : c < 6)
    (h0 : (∀ r, r < n → ¬ bc ((k * 21 + r) * 6 + c) = x) → post (-1)) (h1 : ∀ r, r < n → bc ((k * 21 + r) * 6 + c) = x → post (nI ((k * 21 + r) * 6))) : wpX_findValue post (nc, rr, rw, tc, tr, nk, nw, nl, nr, nf, ns, nt, nu, ip, bc, br, rc) (nI k) (nI c) x := by
  have ck : (nI k).toNatClampNeg = k := nI_clamp (by omega)
  refine loop_0 (fun n i (_ : Unit) => wX_findValue_3 post (nI k) (nI c) x nc rr rw tc tr nk nw nl nr nf ns nt nu ip bc br rc n (nI i)) (fun i _ => ∀ r, r < i → ¬ bc ((k * 21 + r) * 6 + c) = x) n () (fun r hr => absurd hr (Nat.not_lt_zero r)) ?_ ?_
  · intro f s hI
    refine ⟨vp_in_nI hk (by decide), ?_⟩
    rw [ck, hn]
    exact br_t (nI_le (Nat.le_refl n) (by omega)) (h0 hI)
  · intro f i s hi hI ih
    refine ⟨vp_in_nI hk (by decide), ?_⟩
    rw [ck, hn]
    refine br_f (nI_ge hi (by omega)) (xb_rs ?_)
    rw [nI_add, nI_clamp (by omega)]
    refine ⟨vp_in_nI (by omega) (by decide), br_c (fun e => h1 i hi e) (fun e => nm_r (nI_1 i) (ih () fun r hr => ?_))⟩
    by_cases er : r = i
    · subst er
      exact e
    · exact hI r (by omega)
theorem xb_fd {post : Int32 → Prop} {bc br : Nat → Int32} {a b w : Nat} (ha : a + w ≤ 1512) (hb : b + w ≤ 1512)
    (h : ∀ c, c ≤ w → (∀ d, d < c → bc (a + d) = bc (b + d)) → (c < w → ¬ bc (a + c) = bc (b + c)) → post (nI c)) : wpX_firstDifference post (nc, rr, rw, tc, tr, nk, nw, nl, nr, nf, ns, nt, nu, ip, bc, br, rc) (nI a) (nI b) (nI w) := by
  refine loop_0 (fun n i (_ : Unit) => wX_firstDifference_3 post (nI a) (nI b) (nI w) nc rr rw tc tr nk nw nl nr nf ns nt nu ip bc br rc n (nI i)) (fun i _ => ∀ d, d < i → bc (a + d) = bc (b + d)) w () (fun r hr => absurd hr (Nat.not_lt_zero r)) ?_ ?_
  · intro f s hI
    exact br_t (nI_le (Nat.le_refl w) (by omega)) (h w (Nat.le_refl w) hI (fun z => absurd z (Nat.lt_irrefl w)))
  · intro f i s hi hI ih
    refine br_f (nI_ge hi (by omega)) ?_
    rw [nI_add, nI_add, nI_clamp (by omega), nI_clamp (by omega)]
    refine ⟨vp_in_nI (by omega) (by decide), vp_in_nI (by omega) (by decide), br_c (fun e => nm_r (nI_1 i) (ih () fun r hr => ?_)) (fun e => h i (by omega) hI (fun _ => e))⟩
    by_cases er : r = i
    · subst er
      exact e
    · exact hI r (by omega)
theorem xb_hasRow {post : Int32 → Prop} {bc br : Nat → Int32} {k a n w : Nat} (hk : k < 12) (hn : br k = nI n) (hn' : n ≤ 20) (hw : nw k = nI w) (hw6 : w ≤ 6) (ha : a + w ≤ 1512)
    (h0 : (∀ r, r < n → ¬ bg_eqw w (fun c => bc ((k * 21 + r) * 6 + c)) (fun c => bc (a + c))) → post 0) (h1 : ∀ r, r < n → bg_eqw w (fun c => bc ((k * 21 + r) * 6 + c)) (fun c => bc (a + c)) → post 1) : wpX_hasRow post (nc, rr, rw, tc, tr, nk, nw, nl, nr, nf, ns, nt, nu, ip, bc, br, rc) (nI k) (nI a) := by
  have ck : (nI k).toNatClampNeg = k := nI_clamp (by omega)
  refine loop_0 (fun n i (_ : Unit) => wX_hasRow_2 post (nI k) (nI a) nc rr rw tc tr nk nw nl nr nf ns nt nu ip bc br rc n (nI i)) (fun i _ => ∀ r, r < i → ¬ bg_eqw w (fun c => bc ((k * 21 + r) * 6 + c)) (fun c => bc (a + c))) n () (fun r hr => absurd hr (Nat.not_lt_zero r)) ?_ ?_
  · intro f s hI
    refine ⟨vp_in_nI hk (by decide), ?_⟩
    rw [ck, hn]
    exact br_t (nI_le (Nat.le_refl n) (by omega)) (h0 hI)
  · intro f i s hi hI ih
    refine ⟨vp_in_nI hk (by decide), ?_⟩
    rw [ck, hn]
    refine br_f (nI_ge hi (by omega)) (xb_rs ⟨vp_in_nI hk (by decide), ?_⟩)
    rw [hw]
    refine xb_fd (by omega) ha fun c hc e1 e2 => ⟨vp_in_nI hk (by decide), ?_⟩
    refine pk_eq c w (fun e => h1 i hi (by subst e; exact e1)) (fun e => nm_r (nI_1 i) (ih () fun r hr => ?_))
    by_cases er : r = i
    · subst er
      exact fun z => e2 (by omega) (z c (by omega))
    · exact hI r (by omega)
theorem xb_before {post : Int32 → Prop} {bc br : Nat → Int32} {a b w : Nat} (ha : a + w ≤ 1512) (hb : b + w ≤ 1512)
    (h1 : bg_lt w (fun c => bc (a + c)) (fun c => bc (b + c)) → post 1) (h0 : ¬ bg_lt w (fun c => bc (a + c)) (fun c => bc (b + c)) → post 0) : wpX_comesBefore post (nc, rr, rw, tc, tr, nk, nw, nl, nr, nf, ns, nt, nu, ip, bc, br, rc) (nI a) (nI b) (nI w) := by
  unfold wpX_comesBefore
  dsimp only
  refine xb_fd ha hb fun c hc e1 e2 => ?_
  refine pk_le w c (fun e => h0 (bg_lt_ne fun d hd => e1 d (by omega))) (fun e => ?_)
  rw [nI_add, nI_add, nI_clamp (by omega), nI_clamp (by omega)]
  refine ⟨vp_in_nI (by omega) (by decide), vp_in_nI (by omega) (by decide), br_c (fun l => h0 ?_) (fun l => h1 ⟨c, e, e1, Int32.not_le.mp l⟩)⟩
  rintro ⟨d, hd, f1, f2⟩
  rcases Nat.lt_trichotomy c d with x | x | x
  · exact e2 e (f1 c x)
  · subst x
    exact Int32.not_lt.mpr l f2
  · have := e1 d x
    dsimp only at f2
    rw [this] at f2
    exact Int32.lt_irrefl f2
theorem xb_swap {post : SX → Prop} {bc br : Nat → Int32} {a b w : Nat} (hab : a + w ≤ b ∨ b + w ≤ a) (ha : a + w ≤ 1512) (hb : b + w ≤ 1512)
    (h : ∀ bc', (∀ j, (j < a ∨ a + w ≤ j) → (j < b ∨ b + w ≤ j) → bc' j = bc j) → (∀ c, c < w → bc' (a + c) = bc (b + c)) → (∀ c, c < w → bc' (b + c) = bc (a + c)) → post (nc, rr, rw, tc, tr, nk, nw, nl, nr, nf, ns, nt, nu, ip, bc', br, rc)) : wpX_swapRows post (nc, rr, rw, tc, tr, nk, nw, nl, nr, nf, ns, nt, nu, ip, bc, br, rc) (nI a) (nI b) (nI w) := by
  refine loop_0 (fun n i s => wX_swapRows_3 post (nI a) (nI b) (nI w) nc rr rw n (nI i) tc tr nk nw nl nr nf ns nt nu ip s br rc) (fun i s => (∀ j, (j < a ∨ a + i ≤ j) → (j < b ∨ b + i ≤ j) → s j = bc j) ∧ (∀ c, c < i → s (a + c) = bc (b + c)) ∧ (∀ c, c < i → s (b + c) = bc (a + c))) w bc ⟨fun _ _ _ => rfl, fun c hc => absurd hc (Nat.not_lt_zero c), fun c hc => absurd hc (Nat.not_lt_zero c)⟩ ?_ ?_
  · rintro n s ⟨h1, h2, h3⟩
    exact br_t (nI_le (Nat.le_refl w) (by omega)) (h s h1 h2 h3)
  · rintro n i s hi ⟨h1, h2, h3⟩ ih
    refine br_f (nI_ge hi (by omega)) ?_
    rw [nI_add, nI_add, nI_clamp (by omega), nI_clamp (by omega)]
    refine ⟨vp_in_nI (by omega) (by decide), nm_e ⟨vp_in_nI (by omega) (by decide), vp_in_nI (by omega) (by decide), nm_e ⟨vp_in_nI (by omega) (by decide), nm_e (nm_r (nI_1 i) ?_)⟩⟩⟩
    refine ih (upd (upd s (a + i) (s (b + i))) (b + i) (s (a + i))) ⟨fun j hj1 hj2 => ?_, fun c hc => ?_, fun c hc => ?_⟩
    · rw [pk_un (by omega), pk_un (by omega)]
      exact h1 j (by omega) (by omega)
    · rw [pk_un (by omega)]
      by_cases e : c = i
      · subst e
        rw [pk_us]
        exact h1 _ (by omega) (by omega)
      · rw [pk_un (by omega)]
        exact h2 c (by omega)
    · by_cases e : c = i
      · subst e
        rw [pk_us]
        exact h1 _ (by omega) (by omega)
      · rw [pk_un (by omega), pk_un (by omega)]
        exact h3 c (by omega)
end
