theorem up8_step {L t : Nat} (h : L % 8 = 0) : up8 (L + t + 1) = L + 8 * (t / 8 + 1) := by unfold up8; omega
/-- four streams, when all have codes -/
theorem encFour {N n p T : Nat} (hN : 6001 ≤ N) (hn : n ≤ 6000) (hp : p ≤ n) {vx : Nat → Int64} {vy : Nat → Int32} (hs : Same vx vy n) {len : Nat → Nat} (hG : Good T len) {xl xv yl ys : Nat → Int32} (hxl : ∀ s, s < 256 → xl s = nI (len s)) (hxv : ∀ s, s < 256 → len s ≠ 0 → xv s = nI (ap T len s / 2 ^ (T - len s))) (hyl : ∀ s, s < 256 → yl s = nI (len s)) (hyt : Tab T len ys) (hc : allc len vx p (n - p)) {no : Nat} (hno : no ≤ 6000) {ox : Nat → Int64} {oy made : Nat → Int32} (ho : Same ox oy no) {bm l1 : Int32} (hl1 : ¬ l1 = 0) :
    ∃ r no' ox' oy' bm' made', f_Streams_encodeFour N xl xv (nI n) 751 vx (nI 6000) 751 (nI p) (nI no) 0 0 ox = some (r, nI no', 0, 0, ox') ∧ f_MM_encode_b55 N (nI n) (nI p) (nI T) vy yl ys l1 (nI (n - p)) (nI no) bm oy made = some (r, nI no', bm', oy', made') ∧ no' ≤ 6000 ∧ Same ox' oy' no' := by
  have hT := hG.le
  have hT1 := hG.2.1
  obtain ⟨q, hq⟩ : ∃ q, (n - p + 3) / 4 = q := ⟨_, rfl⟩
  by_cases h3 : 3 * q ≤ n - p
  case neg =>
    exact ⟨-3, no, ox, oy, bm, made, encFourX_no hn hp (by rw [hq]; exact h3), encFourY_no hn hl1 (by rw [hq]; exact h3), hno, ho⟩
  have w0 : p + 0 * q = p := by omega
  have w1 : p + 1 * q = p + q := by omega
  have w2 : p + 2 * q = p + q + q := by omega
  have w3 : p + 3 * q = p + q + q + q := by omega
  have c0 : allc len vx p q := allc_sub hc (Nat.le_refl _) (by omega)
  have c1 : allc len vx (p + q) q := allc_sub hc (by omega) (by omega)
  have c2 : allc len vx (p + q + q) q := allc_sub hc (by omega) (by omega)
  have c3 : allc len vx (p + q + q + q) (n - (p + q + q + q)) := allc_sub hc (by omega) (by omega)
  have e0 := bytesOf_ok (N := N) hN hn (vx := vx) hT hT1 hxl (a := p) (e := q) (by omega) c0
  have e1 := bytesOf_ok (N := N) hN hn (vx := vx) hT hT1 hxl (a := p + q) (e := q) (by omega) c1
  have e2 := bytesOf_ok (N := N) hN hn (vx := vx) hT hT1 hxl (a := p + q + q) (e := q) (by omega) c2
  have e3 := bytesOf_ok (N := N) hN hn (vx := vx) hT hT1 hxl (a := p + q + q + q) (e := n - (p + q + q + q)) (by omega) c3
  rw [show p + q + q + q + (n - (p + q + q + q)) = n by omega] at e3
  rw [encFourX_sum (N := N) hn hp hq h3 e0 e1 e2 e3, encFourY_sum (N := N) hN hn hp hq h3 hs hG hyl hl1]
  have esm : sm (fun j => tb len vx (p + (0 + j) * q) q / 8 + 1) 3 = (tb len vx p q / 8 + 1) + (tb len vx (p + q) q / 8 + 1) + (tb len vx (p + q + q) q / 8 + 1) := by
    show 0 + (tb len vx (p + (0 + 0) * q) q / 8 + 1) + (tb len vx (p + (0 + 1) * q) q / 8 + 1) + (tb len vx (p + (0 + 2) * q) q / 8 + 1) = _
    rw [show p + (0 + 0) * q = p by omega, show p + (0 + 1) * q = p + q by omega, show p + (0 + 2) * q = p + q + q by omega, Nat.zero_add]
  rw [w3, esm]
  have l0 : tb len vx p q ≤ q * T := tb_le hT
  have l1' : tb len vx (p + q) q ≤ q * T := tb_le hT
  have l2 : tb len vx (p + q + q) q ≤ q * T := tb_le hT
  have l3 : tb len vx (p + q + q + q) (n - (p + q + q + q)) ≤ (n - (p + q + q + q)) * T := tb_le hT
  have lq : q * T ≤ 6000 * 11 := Nat.mul_le_mul (by omega) hT1
  have lq3 : (n - (p + q + q + q)) * T ≤ 6000 * 11 := Nat.mul_le_mul (by omega) hT1
  generalize ht0 : tb len vx p q = t0 at *
  generalize ht1 : tb len vx (p + q) q = t1 at *
  generalize ht2 : tb len vx (p + q + q) q = t2 at *
  generalize ht3 : tb len vx (p + q + q + q) (n - (p + q + q + q)) = t3 at *
  unfold f_MM_encode_b161
  rw [show 6 + (t3 / 8 + 1) + (t0 / 8 + 1 + (t1 / 8 + 1) + (t2 / 8 + 1)) = 6 + (t0 / 8 + 1) + (t1 / 8 + 1) + (t2 / 8 + 1) + (t3 / 8 + 1) by omega]
  by_cases h : 6 + (t0 / 8 + 1) + (t1 / 8 + 1) + (t2 / 8 + 1) + (t3 / 8 + 1) ≤ 6000
  case neg =>
    rw [if_neg (nle_lit (b := 6000) (by omega) (by omega)), if_neg (nle_lit (b := 6000) (by omega) (by omega))]
    exact ⟨-4, no, ox, oy, bm, made, rfl, rfl, hno, ho⟩
  rw [if_pos (le_lit (b := 6000) h (by decide)), if_pos (le_lit (b := 6000) h (by decide))]
  obtain ⟨z, hz⟩ : ∃ z, N = z + 4 := ⟨N - 4, by omega⟩
  obtain ⟨ma, g1, gY⟩ := MM_begin_ok (N := N) hN bm made
  rw [g1, bd2_e]
  have gX := BX_start ox
  have p16 : (16 : Int32) = nI 16 := rfl
  obtain ⟨u1, he1, m1, v1, x1, gX1⟩ := Row_put_ok (N := N) (room := 6000) (nw := 751) (by omega) (by decide) (by decide) gX (x := t0 / 8 + 1) (n := 16) (by decide) (by omega) (by omega)
  obtain ⟨bm1, ma1, y1, gY1⟩ := four_num (N := N) (p := p) (q := q) (z := z + 3) (k := 0) hN hn (by decide) (by omega) hs hG hyl (l1 := l1) (ol := nI no) hl1 (vo := oy) (g := nI p) (gg := nI T) (by rw [w0, ht0]; omega) (by omega) gY
  rw [w0, ht0] at gY1
  obtain ⟨u2, he2, m2, v2, x2, gX2⟩ := Row_put_ok (N := N) (room := 6000) (nw := 751) (by omega) (by decide) (by decide) gX1 (x := t1 / 8 + 1) (n := 16) (by decide) (by omega) (by omega)
  obtain ⟨bm2, ma2, y2, gY2⟩ := four_num (N := N) (p := p) (q := q) (z := z + 2) (k := 1) hN hn (by decide) (by omega) hs hG hyl (l1 := l1) (ol := nI no) hl1 (vo := oy) (g := nI p) (gg := nI T) (by rw [w1, ht1]; omega) (by omega) gY1
  rw [w1, ht1] at gY2
  obtain ⟨u3, he3, m3, v3, x3, gX3⟩ := Row_put_ok (N := N) (room := 6000) (nw := 751) (by omega) (by decide) (by decide) gX2 (x := t2 / 8 + 1) (n := 16) (by decide) (by omega) (by omega)
  obtain ⟨bm3, ma3, y3, gY3⟩ := four_num (N := N) (p := p) (q := q) (z := z + 1) (k := 2) hN hn (by decide) (by omega) hs hG hyl (l1 := l1) (ol := nI no) hl1 (vo := oy) (g := nI p) (gg := nI T) (by rw [w2, ht2]; omega) (by omega) gY2
  rw [w2, ht2] at gY3
  rw [p16, x1, bd4_e, x2, bd4_e, x3, bd4_e]
  have y0 : f_MM_encode_b179 N (nI n) (nI p) (nI T) vy yl ys l1 N (nI q) (nI p) 0 (nI no) 0 oy ma = f_MM_encode_b179 N (nI n) (nI p) (nI T) vy yl ys l1 (z + 3 + 1) (nI q) (nI p) (nI 0) (nI no) 0 oy ma := by
    conv => lhs; rw [hz]
    conv => rhs; rw [hz]
    rfl
  rw [y0, y1, y2, y3, four_num_end hl1]
  generalize hV3 : 0 + (t0 / 8 + 1) * 2 ^ 0 + (t1 / 8 + 1) * 2 ^ (0 + 16) + (t2 / 8 + 1) * 2 ^ (0 + 16 + 16) = V3 at *
  rw [show 0 + 16 + 16 + 16 = 48 by decide] at gX3 gY3
  obtain ⟨u4, he4, m4, v4, bm4, ma4, V4, x4, y4, gX4, gY4⟩ := four_put (N := N) (p := p) (q := q) (z := z + 3) (k := 0) hN hn (by decide) (by omega) hs hG hxl hxv hyl hyt (by rw [w0]; exact c0) (l1 := l1) (ol := nI no) hl1 (vo := oy) (g := nI p) (by rw [w0, ht0]; omega) gX3 gY3
  rw [w0, ht0, up8_step (by decide)] at gX4 gY4
  rw [w0] at x4
  obtain ⟨u5, he5, m5, v5, bm5, ma5, V5, x5, y5, gX5, gY5⟩ := four_put (N := N) (p := p) (q := q) (z := z + 2) (k := 1) hN hn (by decide) (by omega) hs hG hxl hxv hyl hyt (by rw [w1]; exact c1) (l1 := l1) (ol := nI no) hl1 (vo := oy) (g := nI p) (by rw [w1, ht1]; omega) gX4 gY4
  rw [w1, ht1, up8_step (by omega)] at gX5 gY5
  rw [w1] at x5
  obtain ⟨u6, he6, m6, v6, bm6, ma6, V6, x6, y6, gX6, gY6⟩ := four_put (N := N) (p := p) (q := q) (z := z + 1) (k := 2) hN hn (by decide) (by omega) hs hG hxl hxv hyl hyt (by rw [w2]; exact c2) (l1 := l1) (ol := nI no) hl1 (vo := oy) (g := nI p) (by rw [w2, ht2]; omega) gX5 gY5
  rw [w2, ht2, up8_step (by omega)] at gX6 gY6
  rw [w2] at x6
  obtain ⟨u7, he7, m7, bm7, v7, ma7, V7, r1, r2, gX7, gY7⟩ := putStream_loop (N := N) (by omega) hn hs hG hxl hxv hyl hyt (a := p + q + q + q) (l3 := nI n) (n - (p + q + q + q)) N u6 he6 m6 bm6 v6 ma6 _ _ (by omega) (by omega) c3 (by rw [ht3]; omega) gX6 gY6
  rw [show p + q + q + q + (n - (p + q + q + q)) = n by omega] at r1 r2
  have x7 : f_Streams_putStream N xl xv (nI n) 751 vx (nI 6000) 751 (nI (p + q + q + q)) (nI n) u6 he6 m6 v6 = some (u7, he7, m7, v7) := r1
  have y7 : f_MM_putStream N (nI T) vy yl ys (nI (p + q + q + q)) (nI n) bm6 ma6 = some (bm7, ma7) := r2
  rw [ht3] at gX7 gY7
  obtain ⟨k1, k2, k3⟩ := BX_end gX7
  obtain ⟨oy2, g7, sm2⟩ := MM_give_ok (N := N) hN (by unfold up8; omega) gY7 (nI no) oy gX7
  have y00 : f_MM_encode_b224 N (nI n) (nI p) (nI T) vy yl ys l1 N (nI q) (nI p) 0 (nI no) bm3 oy ma3 = f_MM_encode_b224 N (nI n) (nI p) (nI T) vy yl ys l1 (z + 3 + 1) (nI q) (nI p) (nI 0) (nI no) bm3 oy ma3 := by
    conv => lhs; rw [hz]
    conv => rhs; rw [hz]
    rfl
  rw [x4, bd4_e, x5, bd4_e, x6, bd4_e, x7, bd4_e, y00, y4, y5, y6, four_put_end hl1]
  have e3q : nI p + 3 * nI q = nI (p + q + q + q) := by rw [show (3 : Int32) * nI q = nI (3 * q) from pk_mul 3 q, nI_add, w3]
  unfold f_MM_encode_b276
  rw [e3q, y7, bd2_e, g7, bd3_e, k1, k2, k3]
  exact ⟨_, _, v7, oy2, _, _, rfl, rfl, by rw [up8_div]; omega, sm2⟩
theorem sim_encode {N n p : Nat} (hN : 6001 ≤ N) (hn : n ≤ 6000) (hp : p ≤ n) {vx : Nat → Int64} {vy : Nat → Int32} (hs : Same vx vy n) {T : Nat} {len : Nat → Nat} {gx kn hi gy : Int32} {xl xv xc yl ys : Nat → Int32} (hX : CodX T len gx kn hi xl xv xc) (hY : CodY T len gy yl ys) {no : Nat} (hno : no ≤ 6000) {ox : Nat → Int64} {oy made : Nat → Int32} (ho : Same ox oy no) {bm : Int32} (w : Int32) :
    ∃ r no' ox' oy' bm' made', f_PM_encode N (nI p) (nI n) 751 vx (nI 6000) 751 gx xl xv w (nI no) 0 0 ox = some (r, nI no', 0, 0, ox') ∧ f_MM_encode N (nI n) (nI p) gy vy yl ys w (nI no) bm oy made = some (r, nI no', bm', oy', made') ∧ no' ≤ 6000 ∧ Same ox' oy' no' := by
  obtain ⟨rfl, hX⟩ := hX
  obtain ⟨rfl, hY⟩ := hY
  unfold f_PM_encode f_MM_encode
  rcases hX with h0 | ⟨hG, hkn, -, hxl, -, hxv⟩
  · subst h0
    rw [areThere_n (by decide), if_pos (show nI 0 = 0 from rfl)]
    exact ⟨-1, no, ox, oy, bm, made, rfl, rfl, hno, ho⟩
  have hT0 : T ≠ 0 := by have := hG.1; omega
  have hT1 := hG.2.1
  rcases hY with h0 | ⟨-, hyl, hyt⟩
  · exact absurd h0 hT0
  rw [areThere_n (by omega), if_neg hT0, if_neg (nI_ne0 (by omega) (by omega)), bd1_e, if_neg (by decide), nm_q, pk_sub hp]
  have hsc := enc_scan (N := N) hn hs hG.le hT1 hxl hyl (ys := ys) (lp := nI p) (g := nI p) (gg := nI T) (l1 := w) (l2 := nI (n - p)) (ol := nI no) (bm := bm) (vo := oy) (vm := made) (n - p) p N 0 (by omega) (by omega)
  rcases hsc with ⟨q1, q2⟩ | ⟨hc, q2⟩
  · have q1' : f_Streams_bitsOf N xl (nI n) 751 vx (nI p) (nI n) = some (-1) := q1
    rw [q1', bd1_e, if_neg (by decide), q2]
    exact ⟨-2, no, ox, oy, bm, made, rfl, rfl, hno, ho⟩
  · have q1 := bitsOf_loop (N := N) hn (vx := vx) hG.le hT1 hxl (a := p) (e := n - p) (by omega) (l2 := nI p) (n - p) 0 N (by omega) (by omega) hc
    rw [show p + (n - p) = n by omega, Nat.add_zero] at q1
    have q1' : f_Streams_bitsOf N xl (nI n) 751 vx (nI p) (nI n) = some (nI (tb len vx p (n - p))) := q1
    have hb : tb len vx p (n - p) ≤ (n - p) * T := tb_le hG.le
    have hbb : (n - p) * T ≤ 6000 * 11 := Nat.mul_le_mul (by omega) hT1
    rw [q1', bd1_e, if_pos (nI_pos' (by omega)), q2]
    by_cases hw : w = 0
    · subst hw
      rw [if_pos rfl]
      obtain ⟨r, no', ox', oy', bm', made', a1, a2, a3, a4⟩ := encOne (N := N) hN hn hp hs hG hxl hxv hyl hyt hc hno ho (bm := bm) (made := made) (l2 := nI (n - p))
      rw [a1, bd5_e, a2]
      exact ⟨r, no', ox', oy', bm', made', rfl, rfl, a3, a4⟩
    · rw [if_neg hw]
      obtain ⟨r, no', ox', oy', bm', made', a1, a2, a3, a4⟩ := encFour (N := N) hN hn hp hs hG hxl hxv hyl hyt hc hno ho (bm := bm) (made := made) hw
      rw [a1, bd5_e, a2]
      exact ⟨r, no', ox', oy', bm', made', rfl, rfl, a3, a4⟩
