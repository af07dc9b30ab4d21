theorem bd1_e {α1 β : Type} {a : α1} {k : α1 → Option β} : bd1 (some a) k = k a := rfl
theorem bd2_e {α1 α2 β : Type} {a : α1} {b : α2} {k : α1 → α2 → Option β} : bd2 (some (a, b)) k = k a b := rfl
theorem bd3_e {α1 α2 α3 β : Type} {a : α1} {b : α2} {c : α3} {k : α1 → α2 → α3 → Option β} : bd3 (some (a, b, c)) k = k a b c := rfl
theorem bd4_e {α1 α2 α3 α4 β : Type} {a : α1} {b : α2} {c : α3} {d : α4} {k : α1 → α2 → α3 → α4 → Option β} : bd4 (some (a, b, c, d)) k = k a b c d := rfl
theorem bd5_e {α1 α2 α3 α4 α5 β : Type} {a : α1} {b : α2} {c : α3} {d : α4} {e : α5} {k : α1 → α2 → α3 → α4 → α5 → Option β} : bd5 (some (a, b, c, d, e)) k = k a b c d e := rfl
theorem nm_q {α β : Type} {x : α} {k : α → Option β} : nm x k = k x := rfl
/-- the class's four streams up to the sum of the bytes -/
theorem encFourX_sum {N n p q : Nat} (hn : n ≤ 6000) (hp : p ≤ n) (hq : (n - p + 3) / 4 = q) (h3 : 3 * q ≤ n - p) {vx : Nat → Int64} {xl xv : Nat → Int32} {no : Int32} {ox : Nat → Int64} {b0 b1 b2 b3 : Nat}
    (e0 : f_Streams_bytesOf N xl (nI n) 751 vx (nI p) (nI (p + q)) = some (nI b0)) (e1 : f_Streams_bytesOf N xl (nI n) 751 vx (nI (p + q)) (nI (p + q + q)) = some (nI b1)) (e2 : f_Streams_bytesOf N xl (nI n) 751 vx (nI (p + q + q)) (nI (p + q + q + q)) = some (nI b2)) (e3 : f_Streams_bytesOf N xl (nI n) 751 vx (nI (p + q + q + q)) (nI n) = some (nI b3)) :
    f_Streams_encodeFour N xl xv (nI n) 751 vx (nI 6000) 751 (nI p) no 0 0 ox = if nI (6 + b0 + b1 + b2 + b3) ≤ 6000 then
      bd4 (f_Row_put N (nI 6000) 751 (nI b0) 16 0 0 0 ox) fun u1 h1 m1 v1 =>
      bd4 (f_Row_put N (nI 6000) 751 (nI b1) 16 u1 h1 m1 v1) fun u2 h2 m2 v2 =>
      bd4 (f_Row_put N (nI 6000) 751 (nI b2) 16 u2 h2 m2 v2) fun u3 h3 m3 v3 =>
      bd4 (f_Streams_putStream N xl xv (nI n) 751 vx (nI 6000) 751 (nI p) (nI (p + q)) u3 h3 m3 v3) fun u4 h4 m4 v4 =>
      bd4 (f_Streams_putStream N xl xv (nI n) 751 vx (nI 6000) 751 (nI (p + q)) (nI (p + q + q)) u4 h4 m4 v4) fun u5 h5 m5 v5 =>
      bd4 (f_Streams_putStream N xl xv (nI n) 751 vx (nI 6000) 751 (nI (p + q + q)) (nI (p + q + q + q)) u5 h5 m5 v5) fun u6 h6 m6 v6 =>
      bd4 (f_Streams_putStream N xl xv (nI n) 751 vx (nI 6000) 751 (nI (p + q + q + q)) (nI n) u6 h6 m6 v6) fun u7 h7 m7 v7 =>
      some (u7, u7, h7, m7, v7) else some (-4, no, 0, 0, ox) := by
  unfold f_Streams_encodeFour
  rw [nm_q, pk_sub hp, areFour_n (by omega), hq, if_pos h3, bd1_e, if_neg (by decide), quarter_n (by omega), hq, bd1_e, nm_q, bd1_e, nm_q, bd1_e, nm_q]
  rw [nI_add, nI_add, nI_add, e0, bd1_e, e1, bd1_e, e2, bd1_e, e3, bd1_e]
  rw [show (6 : Int32) + nI b0 = nI (6 + b0) from nI_add 6 b0, nI_add, nI_add, nI_add]
  rfl
/-- the reference's, up to the sum -/
theorem encFourY_sum {N n p T q : Nat} (hN : 6001 ≤ N) (hn : n ≤ 6000) (hp : p ≤ n) (hq : (n - p + 3) / 4 = q) (h3 : 3 * q ≤ n - p) {vx : Nat → Int64} {vy : Nat → Int32} (hs : Same vx vy n) {len : Nat → Nat} (hG : Good T len) {yl ys : Nat → Int32} (hyl : ∀ s, s < 256 → yl s = nI (len s)) {l1 no bm : Int32} (hl1 : ¬ l1 = 0) {oy made : Nat → Int32} :
    f_MM_encode_b55 N (nI n) (nI p) (nI T) vy yl ys l1 (nI (n - p)) no bm oy made = f_MM_encode_b161 N (nI n) (nI p) (nI T) vy yl ys l1 (nI q) (nI p) (nI (6 + (tb len vx (p + 3 * q) (n - (p + 3 * q)) / 8 + 1) + sm (fun j => tb len vx (p + (0 + j) * q) q / 8 + 1) 3)) no bm oy made := by
  have e1 : (nI (n - p) + 3) / (4 : Int32) = nI q := by
    rw [show nI (n - p) + (3 : Int32) = nI (n - p + 3) from nI_add _ 3, ← hq]
    exact pk_div (d := 4) (by omega) (by decide) (by decide)
  have e2 : (3 : Int32) * nI q = nI (3 * q) := pk_mul 3 _
  have hb := streamBytes_ok (N := N) hN hn hs hG.le hG.2.1 hyl (a := p + 3 * q) (e := n - (p + 3 * q)) (by omega)
  rw [show p + 3 * q + (n - (p + 3 * q)) = n by omega] at hb
  unfold f_MM_encode_b55
  rw [e1, nm_q, if_neg hl1, e2, if_pos (nI_le h3 (by omega))]
  unfold f_MM_encode_b75
  rw [if_neg hl1, e2, nI_add, hb, bd1_e]
  unfold f_MM_encode_b115
  rw [show (6 : Int32) + nI (tb len vx (p + 3 * q) (n - (p + 3 * q)) / 8 + 1) = nI (6 + (tb len vx (p + 3 * q) (n - (p + 3 * q)) / 8 + 1)) from nI_add 6 _]
  exact four_sum (N := N) hN hn (by omega) hs hG hyl hl1 3 0 N _ (by omega) (by omega)
