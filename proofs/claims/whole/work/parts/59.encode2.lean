/-! ===== encode ===== -/
theorem enc_scan {N n T : Nat} (hn : n ≤ 6000) {vx : Nat → Int64} {vy : Nat → Int32} (hs : Same vx vy n) {len : Nat → Nat} (hT : ∀ s, s < 256 → len s ≤ T) (hT1 : T ≤ 11) {xl yl ys : Nat → Int32} (hxl : ∀ s, s < 256 → xl s = nI (len s)) (hyl : ∀ s, s < 256 → yl s = nI (len s)) {lp g gg l1 l2 ol bm : Int32} {vo vm : Nat → Int32} : ∀ (d i z b : Nat), n = i + d → d < z →
    (f_Streams_bitsOf_b6 N xl (nI n) 751 vx lp (nI n) z (nI b) (nI i) = some (-1) ∧ f_MM_encode_b24 N (nI n) g gg vy yl ys l1 z l2 (nI i) ol bm vo vm = some (-2, ol, bm, vo, vm)) ∨
    (allc len vx i d ∧ f_MM_encode_b24 N (nI n) g gg vy yl ys l1 z l2 (nI i) ol bm vo vm = f_MM_encode_b55 N (nI n) g gg vy yl ys l1 l2 ol bm vo vm) := by
  intro d
  induction d with
  | zero =>
    intro i z b h1 h2
    obtain ⟨z, rfl⟩ := z_succ h2
    refine Or.inr ⟨fun j hj => absurd hj (by omega), ?_⟩
    rw [f_MM_encode_b24, if_pos (nI_le (by omega) (by omega))]
  | succ d ih =>
    intro i z b h1 h2
    obtain ⟨z, rfl⟩ := z_succ h2
    have hw : wby vx i < 256 := wby_lt _ _
    have hl := hT _ hw
    rw [f_Streams_bitsOf_b6, f_MM_encode_b24, if_neg (nI_ge (by omega) (by omega)), if_neg (nI_ge (by omega) (by omega)), Row_get_in (by omega) (by omega) (by decide)]
    simp only [bd1, nm]
    rw [ck_n hw (by decide), nI_clamp (by omega), hxl _ hw, ck_n (by omega) (by decide), nI_clamp (by omega), hs i (by omega), ck_n hw (by decide), nI_clamp (by omega), hyl _ hw]
    by_cases e : len (wby vx i) = 0
    · rw [e, if_pos (show nI 0 = 0 from rfl), if_pos (show nI 0 = 0 from rfl)]
      exact Or.inl ⟨rfl, rfl⟩
    · rw [if_neg (nI_ne0 (by omega) (by omega)), if_neg (nI_ne0 (by omega) (by omega)), nI_add, nI_1]
      rcases ih (i + 1) z (b + len (wby vx i)) (by omega) (by omega) with h | ⟨h, h'⟩
      · exact Or.inl h
      · refine Or.inr ⟨fun j hj => ?_, h'⟩
        by_cases e0 : j = 0
        · subst e0; exact e
        · have := h (j - 1) (by omega)
          rw [show i + 1 + (j - 1) = i + j by omega] at this
          exact this
theorem up8_div {L : Nat} : up8 (L + 1) / 8 = L / 8 + 1 := by unfold up8; omega
/-- one stream, when all have codes -/
theorem encOne {N n p T : Nat} (hN : 6001 ≤ N) (hn : n ≤ 6000) (hp : p ≤ n) {vx : Nat → Int64} {vy : Nat → Int32} (hs : Same vx vy n) {len : Nat → Nat} (hG : Good T len) {xl xv yl ys : Nat → Int32} (hxl : ∀ s, s < 256 → xl s = nI (len s)) (hxv : ∀ s, s < 256 → len s ≠ 0 → xv s = nI (ap T len s / 2 ^ (T - len s))) (hyl : ∀ s, s < 256 → yl s = nI (len s)) (hyt : Tab T len ys) (hc : allc len vx p (n - p)) {no : Nat} (hno : no ≤ 6000) {ox : Nat → Int64} {oy made : Nat → Int32} (ho : Same ox oy no) {bm l2 : Int32} :
    ∃ r no' ox' oy' bm' made', f_Streams_encodeOne N xl xv (nI n) 751 vx (nI 6000) 751 (nI p) (nI no) 0 0 ox = some (r, nI no', 0, 0, ox') ∧ f_MM_encode_b55 N (nI n) (nI p) (nI T) vy yl ys 0 l2 (nI no) bm oy made = some (r, nI no', bm', oy', made') ∧ no' ≤ 6000 ∧ Same ox' oy' no' := by
  have hT := hG.le
  have hT1 := hG.2.1
  have hb1 := bytesOf_ok (N := N) hN hn (vx := vx) hT hT1 hxl (a := p) (e := n - p) (by omega) hc
  have hb2 := streamBytes_ok (N := N) hN hn hs hT hT1 hyl (a := p) (e := n - p) (by omega)
  rw [show p + (n - p) = n by omega] at hb1 hb2
  have hb : tb len vx p (n - p) ≤ (n - p) * T := tb_le hT
  have hbb : (n - p) * T ≤ 6000 * 11 := Nat.mul_le_mul (by omega) hT1
  unfold f_Streams_encodeOne f_MM_encode_b55 f_MM_encode_b75 f_MM_encode_b115
  rw [hb1]
  simp only [bd1, nm]
  rw [if_pos trivial, if_pos trivial, hb2]
  dsimp only
  obtain ⟨z, hz⟩ : ∃ z, N = z + 1 := ⟨N - 1, by omega⟩
  have e120 : ∀ l3 l5 l6, f_MM_encode_b120 N (nI n) (nI p) (nI T) vy yl ys 0 N l3 (nI p) l5 l6 (nI no) bm oy made = f_MM_encode_b161 N (nI n) (nI p) (nI T) vy yl ys 0 l3 (nI p) l5 (nI no) bm oy made := by
    intro l3 l5 l6
    conv => lhs; rw [hz]
    rw [f_MM_encode_b120, if_pos rfl, hz]
  rw [e120]
  unfold f_MM_encode_b161
  by_cases h : tb len vx p (n - p) / 8 + 1 ≤ 6000
  · rw [if_pos (le_lit (b := 6000) h (by decide)), if_pos (le_lit (b := 6000) h (by decide))]
    obtain ⟨made1, g1, g2⟩ := MM_begin_ok (N := N) hN bm made
    obtain ⟨u, he, mn, bm2, v2, made2, V2, r1, r2, r3, r4⟩ := putStream_loop (N := N) (by omega) hn hs hG hxl hxv hyl hyt (a := p) (l3 := nI n) (n - p) N 0 0 0 0 ox made1 0 0 (by omega) (by omega) hc (by omega) (BX_start ox) g2
    rw [show p + (n - p) = n by omega] at r1 r2
    rw [Nat.zero_add] at r3 r4
    obtain ⟨k1, k2, k3⟩ := BX_end r3
    obtain ⟨oy2, w1, w2⟩ := MM_give_ok (N := N) hN (by unfold up8; omega) r4 (nI no) oy r3
    have e179 : ∀ l3, f_MM_encode_b179 N (nI n) (nI p) (nI T) vy yl ys 0 N l3 (nI p) 0 (nI no) 0 oy made1 = f_MM_encode_b276 N (nI n) (nI p) (nI T) vy yl ys 0 (nI p) (nI no) 0 oy made1 := by
      intro l3
      conv => lhs; rw [hz]
      rw [f_MM_encode_b179, if_pos rfl]
      unfold f_MM_encode_b221
      rw [f_MM_encode_b224, if_pos rfl]
      unfold f_MM_encode_b260
      rw [if_pos rfl, hz]
    rw [g1]
    simp only [bd2]
    rw [e179]
    unfold f_MM_encode_b276 f_MM_putStream f_Row_empty f_Streams_putStream
    simp only [nm, bd1]
    rw [r1, r2]
    simp only [bd2, bd4]
    rw [w1]
    simp only [bd3]
    rw [k1, k2, k3, up8_div]
    rw [up8_div] at w2
    exact ⟨_, _, v2, oy2, _, _, rfl, rfl, h, w2⟩
  · rw [if_neg (nle_lit (b := 6000) (by omega) (by omega)), if_neg (nle_lit (b := 6000) (by omega) (by omega))]
    exact ⟨-4, no, ox, oy, bm, made, rfl, rfl, hno, ho⟩
