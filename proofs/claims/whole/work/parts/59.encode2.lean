/-! ===== encode ===== -/
theorem enc_scan {N n T : Nat} (hn : n ≤ 6000) {vx : Nat → Int64} {vy : Nat → Int32} (hs : Same vx vy n) {len : Nat → Nat} (hT : ∀ s, s < 256 → len s ≤ T) (hT1 : T ≤ 11) {xl yl ys : Nat → Int32} (hxl : ∀ s, s < 256 → xl s = nI (len s)) (hyl : ∀ s, s < 256 → yl s = nI (len s)) {lp g gg l1 l2 ol bm : Int32} {vo vm : Nat → Int32} : ∀ (d i z b : Nat), n = i + d → d < z →
    (f_Streams_bitsOf_b6 N xl (nI n) 751 vx lp (nI n) z (nI b) (nI i) = some (-1) ∧ f_MM_encode_b24 N (nI n) g gg vy yl ys l1 z l2 (nI i) ol bm vo vm = some (-2, ol, bm, vo, vm)) ∨
    (allc len vx i d ∧ f_MM_encode_b24 N (nI n) g gg vy yl ys l1 z l2 (nI i) ol bm vo vm = f_MM_encode_b55 N (nI n) g gg vy yl ys l1 l2 ol bm vo vm) := by
  intro d
  induction d with
  | zero =>
    intro i z b h1 h2
    obtain ⟨z, rfl⟩ := z_succ h2
    refine Or.inr ⟨fun j hj => absurd hj (by omega), ?_⟩
    rw [f_MM_encode_b24, if_pos (nI_le (by omega) (by omega))]
  | succ d ih =>
    intro i z b h1 h2
    obtain ⟨z, rfl⟩ := z_succ h2
    have hw : wby vx i < 256 := wby_lt _ _
    have hl := hT _ hw
    rw [f_Streams_bitsOf_b6, f_MM_encode_b24, if_neg (nI_ge (by omega) (by omega)), if_neg (nI_ge (by omega) (by omega)), Row_get_in (by omega) (by omega) (by decide)]
    simp only [bd1, nm]
    rw [ck_n hw (by decide), nI_clamp (by omega), hxl _ hw, ck_n (by omega) (by decide), nI_clamp (by omega), hs i (by omega), ck_n hw (by decide), nI_clamp (by omega), hyl _ hw]
    by_cases e : len (wby vx i) = 0
    · rw [e, if_pos (show nI 0 = 0 from rfl), if_pos (show nI 0 = 0 from rfl)]
      exact Or.inl ⟨rfl, rfl⟩
    · rw [if_neg (nI_ne0 (by omega) (by omega)), if_neg (nI_ne0 (by omega) (by omega)), nI_add, nI_1]
      rcases ih (i + 1) z (b + len (wby vx i)) (by omega) (by omega) with h | ⟨h, h'⟩
      · exact Or.inl h
      · refine Or.inr ⟨fun j hj => ?_, h'⟩
        by_cases e0 : j = 0
        · subst e0; exact e
        · have := h (j - 1) (by omega)
          rw [show i + 1 + (j - 1) = i + j by omega] at this
          exact this
