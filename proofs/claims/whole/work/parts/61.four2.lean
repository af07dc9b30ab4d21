theorem encFourX_no {N n p : Nat} (hn : n ≤ 6000) (hp : p ≤ n) {vx : Nat → Int64} {xl xv : Nat → Int32} {no : Int32} {ox : Nat → Int64} (h3 : ¬ 3 * ((n - p + 3) / 4) ≤ n - p) :
    f_Streams_encodeFour N xl xv (nI n) 751 vx (nI 6000) 751 (nI p) no 0 0 ox = some (-3, no, 0, 0, ox) := by
  unfold f_Streams_encodeFour
  rw [nm, pk_sub hp, areFour_n (by omega), if_neg h3, bd1, if_pos rfl]
theorem encFourY_no {N n p T : Nat} (hn : n ≤ 6000) {vy yl ys : Nat → Int32} {no bm l1 : Int32} (hl1 : ¬ l1 = 0) {oy made : Nat → Int32} (h3 : ¬ 3 * ((n - p + 3) / 4) ≤ n - p) :
    f_MM_encode_b55 N (nI n) (nI p) (nI T) vy yl ys l1 (nI (n - p)) no bm oy made = some (-3, no, bm, oy, made) := by
  have e1 : (nI (n - p) + 3) / (4 : Int32) = nI ((n - p + 3) / 4) := by
    rw [show nI (n - p) + (3 : Int32) = nI (n - p + 3) from nI_add _ 3]
    exact pk_div (d := 4) (by omega) (by decide) (by decide)
  have e2 : (3 : Int32) * nI ((n - p + 3) / 4) = nI (3 * ((n - p + 3) / 4)) := pk_mul 3 _
  unfold f_MM_encode_b55
  rw [e1, nm, if_neg hl1, e2, if_neg (nI_ge (by omega) (by omega))]
