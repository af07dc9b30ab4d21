/-! ===== four streams, written ===== -/
theorem quarter_n {N m : Nat} (hm : m ≤ 6000) : f_Streams_quarter N (nI m) = some (nI ((m + 3) / 4)) := by
  unfold f_Streams_quarter
  rw [show nI m + (3 : Int32) = nI (m + 3) from nI_add m 3, show nI (m + 3) / (4 : Int32) = nI ((m + 3) / 4) from pk_div (d := 4) (by omega) (by decide) (by decide)]
theorem areFour_n {N m : Nat} (hm : m ≤ 6000) : f_Streams_areFour N (nI m) = some (if 3 * ((m + 3) / 4) ≤ m then 1 else 0) := by
  unfold f_Streams_areFour
  rw [quarter_n hm]
  simp only [bd1]
  rw [show (3 : Int32) * nI ((m + 3) / 4) = nI (3 * ((m + 3) / 4)) from pk_mul 3 _]
  by_cases h : 3 * ((m + 3) / 4) ≤ m
  · rw [if_neg (nI_nlt h (by omega)), if_pos h]
  · rw [if_pos (nI_lt (by omega) (by omega)), if_neg h]
theorem sm_head {f : Nat → Nat} {d : Nat} : sm f (d + 1) = f 0 + sm (fun j => f (j + 1)) d := by
  induction d with
  | zero => show 0 + f 0 = f 0 + 0; omega
  | succ d ih =>
    show sm f (d + 1) + f (d + 1) = f 0 + (sm (fun j => f (j + 1)) d + f (d + 1))
    omega
theorem step3 {p q k : Nat} : nI p + nI k * nI q = nI (p + k * q) := by rw [pk_mul, nI_add]
theorem allc_sub {len : Nat → Nat} {vx : Nat → Int64} {a d b e : Nat} (h : allc len vx a d) (h1 : a ≤ b) (h2 : b + e ≤ a + d) : allc len vx b e := fun j hj => by
  have := h (b - a + j) (by omega)
  rw [show a + (b - a + j) = b + j by omega] at this
  exact this
/-- the reference's sum of the bytes -/
theorem four_sum {N n p T q : Nat} (hN : 6001 ≤ N) (hn : n ≤ 6000) (hq : p + 3 * q ≤ n) {vx : Nat → Int64} {vy : Nat → Int32} (hs : Same vx vy n) {len : Nat → Nat} (hG : Good T len) {yl ys : Nat → Int32} (hyl : ∀ s, s < 256 → yl s = nI (len s)) {l1 ol bm : Int32} (hl1 : ¬ l1 = 0) {vo vm : Nat → Int32} {g gg : Int32} : ∀ (d k z b : Nat), 3 = k + d → d < z →
    f_MM_encode_b120 N (nI n) g gg vy yl ys l1 z (nI q) (nI p) (nI b) (nI k) ol bm vo vm = f_MM_encode_b161 N (nI n) g gg vy yl ys l1 (nI q) (nI p) (nI (b + sm (fun j => tb len vx (p + (k + j) * q) q / 8 + 1) d)) ol bm vo vm := by
  intro d
  induction d with
  | zero =>
    intro k z b h1 h2
    obtain ⟨z, rfl⟩ := z_succ h2
    rw [f_MM_encode_b120, if_neg hl1, if_pos (show (3 : Int32) ≤ nI k from nI_le (a := 3) (by omega) (by omega))]
    rfl
  | succ d ih =>
    intro k z b h1 h2
    obtain ⟨z, rfl⟩ := z_succ h2
    have hkq : p + k * q + q ≤ n := by
      have : (k + 1) * q ≤ 3 * q := Nat.mul_le_mul_right _ (by omega)
      rw [Nat.succ_mul] at this
      omega
    have hb := streamBytes_ok (N := N) hN hn hs hG.le hG.2.1 hyl (a := p + k * q) (e := q) hkq
    rw [f_MM_encode_b120, if_neg hl1, if_neg (show ¬ (3 : Int32) ≤ nI k from nI_ge (b := 3) (by omega) (by decide)), step3, nI_add, hb]
    simp only [bd1, nm]
    rw [nI_add, nI_1, ih (k + 1) z _ (by omega) (by omega)]
    congr 2
    have e : sm (fun j => tb len vx (p + (k + j) * q) q / 8 + 1) (d + 1) = (tb len vx (p + k * q) q / 8 + 1) + sm (fun j => tb len vx (p + (k + 1 + j) * q) q / 8 + 1) d := by
      rw [sm_head]
      congr 1
      exact sm_congr (fun j _ => by rw [show k + (j + 1) = k + 1 + j by omega])
    omega
/-- one of the three numbers -/
theorem four_num {N n p T q k z : Nat} (hN : 6001 ≤ N) (hn : n ≤ 6000) (hk : k < 3) (hq : p + 3 * q ≤ n) {vx : Nat → Int64} {vy : Nat → Int32} (hs : Same vx vy n) {len : Nat → Nat} (hG : Good T len) {yl ys : Nat → Int32} (hyl : ∀ s, s < 256 → yl s = nI (len s)) {l1 ol bm : Int32} (hl1 : ¬ l1 = 0) {vo vm : Nat → Int32} {g gg : Int32} {L V : Nat} (hb : tb len vx (p + k * q) q / 8 + 1 ≤ 6000) (hL : L + 16 ≤ 48) (hY : BY bm vm L V) :
    ∃ bm' vm', f_MM_encode_b179 N (nI n) g gg vy yl ys l1 (z + 1) (nI q) (nI p) (nI k) ol bm vo vm = f_MM_encode_b179 N (nI n) g gg vy yl ys l1 z (nI q) (nI p) (nI (k + 1)) ol bm' vo vm' ∧ BY bm' vm' (L + 16) (V + (tb len vx (p + k * q) q / 8 + 1) * 2 ^ L) := by
  have hkq : p + k * q + q ≤ n := by
    have : (k + 1) * q ≤ 3 * q := Nat.mul_le_mul_right _ (by omega)
    rw [Nat.succ_mul] at this
    omega
  have hbs := streamBytes_ok (N := N) hN hn hs hG.le hG.2.1 hyl (a := p + k * q) (e := q) hkq
  obtain ⟨vm', q1, q2⟩ := MM_put_ok (N := N) (x := tb len vx (p + k * q) q / 8 + 1) (n := 16) (by omega) (by decide) (by omega) (by omega) hY
  refine ⟨_, vm', ?_, q2⟩
  rw [f_MM_encode_b179, if_neg hl1, if_neg (show ¬ (3 : Int32) ≤ nI k from nI_ge (b := 3) (by omega) (by decide)), step3, nI_add, hbs]
  simp only [bd1, nm]
  rw [show (16 : Int32) = nI 16 from rfl, q1]
  simp only [bd2]
  rw [nI_1]
theorem four_num_end {N : Nat} {a g gg l1 l3 l4 ol bm : Int32} {vy yl ys vo vm : Nat → Int32} (hl1 : ¬ l1 = 0) {z : Nat} : f_MM_encode_b179 N a g gg vy yl ys l1 (z + 1) l3 l4 (nI 3) ol bm vo vm = f_MM_encode_b224 N a g gg vy yl ys l1 N l3 l4 0 ol bm vo vm := by
  rw [f_MM_encode_b179, if_neg hl1, if_pos (show (3 : Int32) ≤ nI 3 from nI_le (a := 3) (Nat.le_refl _) (by decide))]
  rfl
theorem four_put_end {N : Nat} {a g gg l1 l3 l4 ol bm : Int32} {vy yl ys vo vm : Nat → Int32} (hl1 : ¬ l1 = 0) {z : Nat} : f_MM_encode_b224 N a g gg vy yl ys l1 (z + 1) l3 l4 (nI 3) ol bm vo vm = f_MM_encode_b276 N a g gg vy yl ys l1 (l4 + (3 * l3)) ol bm vo vm := by
  rw [f_MM_encode_b224, if_neg hl1, if_pos (show (3 : Int32) ≤ nI 3 from nI_le (a := 3) (Nat.le_refl _) (by decide))]
  unfold f_MM_encode_b260
  rw [if_neg hl1]
/-- one of the first three streams, on both sides -/
theorem four_put {N n p T q k z : Nat} (hN : 6001 ≤ N) (hn : n ≤ 6000) (hk : k < 3) (hq : p + 3 * q ≤ n) {vx : Nat → Int64} {vy : Nat → Int32} (hs : Same vx vy n) {len : Nat → Nat} (hG : Good T len) {xl xv yl ys : Nat → Int32} (hxl : ∀ s, s < 256 → xl s = nI (len s)) (hxv : ∀ s, s < 256 → len s ≠ 0 → xv s = nI (ap T len s / 2 ^ (T - len s))) (hyl : ∀ s, s < 256 → yl s = nI (len s)) (hyt : Tab T len ys) (hc : allc len vx (p + k * q) q) {l1 ol bm used held many : Int32} (hl1 : ¬ l1 = 0) {v : Nat → Int64} {vo vm : Nat → Int32} {g : Int32} {L V : Nat} (hL : (L + tb len vx (p + k * q) q + 8) / 8 ≤ 6000) (hX : BX used held many v L V) (hY : BY bm vm L V) :
    ∃ used' held' many' v' bm' vm' V', f_Streams_putStream N xl xv (nI n) 751 vx (nI 6000) 751 (nI (p + k * q)) (nI (p + k * q + q)) used held many v = some (used', held', many', v') ∧ f_MM_encode_b224 N (nI n) g (nI T) vy yl ys l1 (z + 1) (nI q) (nI p) (nI k) ol bm vo vm = f_MM_encode_b224 N (nI n) g (nI T) vy yl ys l1 z (nI q) (nI p) (nI (k + 1)) ol bm' vo vm' ∧ BX used' held' many' v' (up8 (L + tb len vx (p + k * q) q + 1)) V' ∧ BY bm' vm' (up8 (L + tb len vx (p + k * q) q + 1)) V' := by
  have hkq : p + k * q + q ≤ n := by
    have : (k + 1) * q ≤ 3 * q := Nat.mul_le_mul_right _ (by omega)
    rw [Nat.succ_mul] at this
    omega
  obtain ⟨u, he, mn, bm2, v2, made2, V2, r1, r2, r3, r4⟩ := putStream_loop (N := N) (by omega) hn hs hG hxl hxv hyl hyt (a := p + k * q) (l3 := nI (p + k * q + q)) q N used held many bm v vm L V hkq (by omega) hc hL hX hY
  refine ⟨u, he, mn, v2, bm2, made2, V2, r1, ?_, r3, r4⟩
  rw [f_MM_encode_b224, if_neg hl1, if_neg (show ¬ (3 : Int32) ≤ nI k from nI_ge (b := 3) (by omega) (by decide)), step3, nI_add]
  unfold f_MM_putStream
  simp only [nm]
  rw [r2]
  simp only [bd2]
  rw [nI_1]
