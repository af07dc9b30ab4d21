/-! ===== streams, written ===== -/
theorem i_m1 (x : Int32) : x + (-1) = x - 1 := by rw [Int32.sub_eq_add_neg]
theorem m1_lt {a : Nat} (h : a < 2 ^ 30) : nI a - 1 < nI a := by
  rw [Int32.lt_iff_toInt_lt, show nI a - 1 = nI a - nI 1 from rfl, pk_sub_toInt h (by decide), nI_toInt (by omega)]
  omega
/-- the bits of d bytes from a place on -/
def tb (len : Nat → Nat) (vx : Nat → Int64) (a d : Nat) : Nat := sm (fun j => len (wby vx (a + j))) d
/-- all of them have codes -/
def allc (len : Nat → Nat) (vx : Nat → Int64) (a d : Nat) : Prop := ∀ j, j < d → len (wby vx (a + j)) ≠ 0
theorem tb_le {len : Nat → Nat} {vx : Nat → Int64} {a d T : Nat} (hT : ∀ s, s < 256 → len s ≤ T) : tb len vx a d ≤ d * T := by
  induction d with
  | zero => exact Nat.zero_le _
  | succ d ih =>
    show tb len vx a d + len (wby vx (a + d)) ≤ _
    have := hT _ (wby_lt vx (a + d))
    rw [Nat.succ_mul]; omega
theorem code_lt {T : Nat} {len : Nat → Nat} (hG : Good T len) {s : Nat} (hs : s < 256) (h0 : len s ≠ 0) : ap T len s / 2 ^ (T - len s) < 2 ^ len s := by
  have h := ap_lt hG hs h0
  have hp : 0 < 2 ^ (T - len s) := Nat.pow_pos (by decide)
  apply Nat.div_lt_of_lt_mul
  rw [← Nat.pow_add, show T - len s + len s = T by have := hG.le s hs; omega]
  omega
theorem putStream_loop {N n T : Nat} (hN : 2049 ≤ N) (hn : n ≤ 6000) {vx : Nat → Int64} {vy : Nat → Int32} (hs : Same vx vy n) {len : Nat → Nat} (hG : Good T len) {xl xv yl ys : Nat → Int32} (hxl : ∀ s, s < 256 → xl s = nI (len s)) (hxv : ∀ s, s < 256 → len s ≠ 0 → xv s = nI (ap T len s / 2 ^ (T - len s))) (hyl : ∀ s, s < 256 → yl s = nI (len s)) (hyt : Tab T len ys) {a : Nat} {l3 : Int32} : ∀ (d z : Nat) (used held many bm : Int32) (v : Nat → Int64) (made : Nat → Int32) (L V : Nat), a + d ≤ n → d < z → allc len vx a d → (L + tb len vx a d + 8) / 8 ≤ 6000 → BX used held many v L V → BY bm made L V →
    ∃ used' held' many' bm' v' made' V', f_Streams_putStream_b5 N xl xv (nI n) 751 vx (nI 6000) 751 (nI a) l3 z (nI (a + d) - 1) used held many v = some (used', held', many', v') ∧ f_MM_putStream_b4 N (nI T) vy yl ys (nI a) l3 z (nI (a + d) - 1) bm made = some (bm', made') ∧ BX used' held' many' v' (up8 (L + tb len vx a d + 1)) V' ∧ BY bm' made' (up8 (L + tb len vx a d + 1)) V' := by
  intro d
  induction d with
  | zero =>
    intro z used held many bm v made L V h1 h2 h3 h4 hX hY
    obtain ⟨z, rfl⟩ := z_succ h2
    have h4' : (L + 8) / 8 ≤ 6000 := by have : L + tb len vx a 0 = L := rfl; omega
    obtain ⟨u1, e1, m1, v1, p1, p2⟩ := Row_finish_ok (N := N) (room := 6000) (nw := 751) (by omega) (by decide) (by decide) hX (by omega)
    obtain ⟨made1, q1, q2⟩ := MM_put_ok (N := N) (x := 1) (n := 1) (by omega) (by decide) (by decide) (by omega) hY
    rw [Nat.one_mul] at q2
    have q3 := BY_fill q2
    refine ⟨u1, e1, m1, nI (up8 (L + 1)), v1, made1, V + 2 ^ L, ?_, ?_, p2, q3⟩
    · rw [f_Streams_putStream_b5, Nat.add_zero, if_pos (m1_lt (a := a) (by omega))]
      unfold f_Streams_putStream_b44
      rw [p1]
      rfl
    · rw [f_MM_putStream_b4, Nat.add_zero, if_pos (m1_lt (a := a) (by omega))]
      unfold f_MM_putStream_b40
      rw [show (1 : Int32) = nI 1 from rfl, q1]
      simp only [bd2]
      rw [MM_fill_ok (by omega)]
      rfl
  | succ d ih =>
    intro z used held many bm v made L V h1 h2 h3 h4 hX hY
    obtain ⟨z, rfl⟩ := z_succ h2
    have hw : wby vx (a + d) < 256 := wby_lt _ _
    have h0 : len (wby vx (a + d)) ≠ 0 := h3 d (by omega)
    have hl := hG.le _ hw
    have hT1 := hG.2.1
    have etb : tb len vx a (d + 1) = tb len vx a d + len (wby vx (a + d)) := rfl
    obtain ⟨u1, e1, m1, v1, p1, p2⟩ := Row_put_ok (N := N) (room := 6000) (nw := 751) (by omega) (by decide) (by decide) hX (n := len (wby vx (a + d))) (by omega) (code_lt hG hw h0) (by omega)
    obtain ⟨made1, q1, q2⟩ := MM_put_ok (N := N) (by omega) (n := len (wby vx (a + d))) (by omega) (code_lt hG hw h0) (by omega) hY
    obtain ⟨u2, e2, m2, bm2, v2, made2, V2, r1, r2, r3, r4⟩ := ih z u1 e1 m1 _ v1 made1 _ _ (by omega) (by omega) (fun j hj => h3 j (by omega)) (by omega) p2 q2
    rw [show L + len (wby vx (a + d)) + tb len vx a d + 1 = L + tb len vx a (d + 1) + 1 by omega] at r3 r4
    refine ⟨u2, e2, m2, bm2, v2, made2, V2, ?_, ?_, r3, r4⟩
    · rw [f_Streams_putStream_b5, show nI (a + (d + 1)) - 1 = nI (a + d) from nI_pred (a + d), if_neg (nI_nlt (by omega) (by omega)), Row_get_in (by omega) (by omega) (by decide)]
      simp only [bd1, nm]
      rw [ck_n hw (by decide), ck_n hw (by decide), nI_clamp (by omega), hxl _ hw, hxv _ hw h0, p1]
      simp only [bd4]
      rw [i_m1, r1]
    · rw [f_MM_putStream_b4, show nI (a + (d + 1)) - 1 = nI (a + d) from nI_pred (a + d), if_neg (nI_nlt (by omega) (by omega)), ck_n (by omega) (by decide), nI_clamp (by omega), hs (a + d) (by omega), codeOf_ok hN hG hyl hyt hw h0]
      simp only [bd1, nm]
      rw [ck_n (by omega) (by decide), ck_n hw (by decide), nI_clamp (by omega), hyl _ hw, q1]
      simp only [bd2]
      rw [i_m1, r2]
