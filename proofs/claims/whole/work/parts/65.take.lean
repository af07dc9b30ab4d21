/-! ===== a stream, read ===== -/
theorem Tail_open_no {N n : Nat} {vx : Nat → Int64} {a b : Nat} (hb : b ≤ n) (hn : n ≤ 6000) (h : b ≤ a ∨ wby vx (b - 1) = 0) (ha : a < 2 ^ 30) {fi le : Int32} :
    f_Tail_open N (nI n) 751 vx (nI a) (nI b) fi le = some (0, fi, le) := by
  unfold f_Tail_open f_Tail_open_b16
  by_cases h1 : b ≤ a
  · rw [if_pos (nI_le h1 (by omega)), if_neg (by decide)]
  · rw [if_neg (nI_ge (by omega) (by omega)), show nI b - (1 : Int32) = nI (b - 1) from pk_sub (b := 1) (by omega), Row_get_in (by omega) (by omega) (by decide), bd1_e]
    rcases h with h | h
    · exact absurd h h1
    · rw [h, if_neg (show ¬ (0 : Int32) < nI 0 by decide)]
theorem Tail_open_yes {N n : Nat} (hN : 32 ≤ N) {vx : Nat → Int64} {a b : Nat} (hb : b ≤ n) (hn : n ≤ 6000) (h1 : a < b) (h2 : wby vx (b - 1) ≠ 0) {fi le : Int32} :
    f_Tail_open N (nI n) 751 vx (nI a) (nI b) fi le = some (1, nI (8 * a), nI (8 * (b - 1 - a) + Nat.log2 (wby vx (b - 1)))) := by
  have hw := wby_lt vx (b - 1)
  unfold f_Tail_open f_Tail_open_b16
  rw [if_neg (nI_ge (by omega) (by omega)), show nI b - (1 : Int32) = nI (b - 1) from pk_sub (b := 1) (by omega), Row_get_in (by omega) (by omega) (by decide), bd1_e, if_pos (show (0 : Int32) < nI (wby vx (b - 1)) from nI_lt (a := 0) (by omega) (by omega)), nm_q, nI_8mul, log2_ok hN (by omega), bd1_e, nm_q, pk_sub (by omega), nI_8mul, nI_add]
/-- the END that the reference finds -/
theorem top_loop {N n : Nat} (hn : n ≤ 6000) {vx : Nat → Int64} {vy : Nat → Int32} (hs : Same vx vy n) {b : Nat} (hb : 1 ≤ b) (hb2 : b ≤ n) (h0 : wby vx (b - 1) ≠ 0) {g l1 l2 l3 l4 : Int32} {vl vs : Nat → Int32} : ∀ (d z : Nat) (made : Nat → Int32), d ≤ 7 - Nat.log2 (wby vx (b - 1)) → d < z →
    f_MM_takeStream_b27 N g vy vl vs l1 l2 l3 l4 z (nI (8 * (b - 1) + Nat.log2 (wby vx (b - 1)) + d)) made = f_MM_takeStream_b42 N g vy vl vs l1 l2 l3 l4 (nI (8 * (b - 1) + Nat.log2 (wby vx (b - 1)))) made := by
  have hw := wby_lt vx (b - 1)
  have hlog : Nat.log2 (wby vx (b - 1)) < 8 := (Nat.log2_lt h0).mpr hw
  have hbit : ∀ r, r < 8 → iv vx n / 2 ^ (8 * (b - 1) + r) % 2 = wby vx (b - 1) / 2 ^ r % 2 := by
    intro r hr
    rw [← iv_in (n := n) (show b - 1 < n by omega), Nat.pow_add, ← Nat.div_div_eq_div_mul]
    have := mod_div_mod (X := iv vx n / 2 ^ (8 * (b - 1))) (a := 8) (r := r) (m := 1) (by omega)
    exact this.symm
  intro d
  induction d with
  | zero =>
    intro z made h1 h2
    obtain ⟨z, rfl⟩ := z_succ h2
    have hone : wby vx (b - 1) / 2 ^ Nat.log2 (wby vx (b - 1)) = 1 := by
      have a1 := Nat.log2_self_le h0
      have a2 : wby vx (b - 1) < 2 ^ (Nat.log2 (wby vx (b - 1)) + 1) := Nat.lt_log2_self
      rw [Nat.pow_succ] at a2
      rw [Nat.div_eq_iff (Nat.pow_pos (by decide))]
      omega
    rw [f_MM_takeStream_b27, Nat.add_zero, bitAt_ok hn hs (by omega), hbit _ hlog, hone, bd1_e, if_neg (by decide)]
  | succ d ih =>
    intro z made h1 h2
    obtain ⟨z, rfl⟩ := z_succ h2
    have hz : wby vx (b - 1) / 2 ^ (Nat.log2 (wby vx (b - 1)) + (d + 1)) = 0 := by
      apply Nat.div_eq_of_lt
      exact Nat.lt_of_lt_of_le Nat.lt_log2_self (Nat.pow_le_pow_right (by decide) (by omega))
    rw [f_MM_takeStream_b27, bitAt_ok hn hs (by omega), Nat.add_assoc, hbit _ (by omega), hz, bd1_e, if_pos (by decide), nm_q, show 8 * (b - 1) + (Nat.log2 (wby vx (b - 1)) + (d + 1)) = 8 * (b - 1) + Nat.log2 (wby vx (b - 1)) + d + 1 by omega, pk_m1]
    exact ih z made (by omega) (by omega)
/-- the j highest bits of those left, zeros below them -/
def cv (I a left j : Nat) : Nat := if j ≤ left then I / 2 ^ (8 * a + left - j) % 2 ^ j else I / 2 ^ (8 * a) % 2 ^ left * 2 ^ (j - left)
theorem cv_lt {I a left j : Nat} : cv I a left j < 2 ^ j := by
  unfold cv
  split
  · exact Nat.mod_lt _ (Nat.pow_pos (by decide))
  · rename_i h
    have : I / 2 ^ (8 * a) % 2 ^ left < 2 ^ left := Nat.mod_lt _ (Nat.pow_pos (by decide))
    rw [show (2 : Nat) ^ j = 2 ^ left * 2 ^ (j - left) by rw [← Nat.pow_add]; congr 1; omega]
    exact Nat.mul_lt_mul_of_pos_right this (Nat.pow_pos (by decide))
theorem cv_in {I a left j : Nat} (h : j + 1 ≤ left) : cv I a left (j + 1) = 2 * cv I a left j + I / 2 ^ (8 * a + left - (j + 1)) % 2 := by
  unfold cv
  rw [if_pos h, if_pos (by omega), Nat.pow_succ, Nat.mul_comm (2 ^ j) 2, Nat.mod_mul, Nat.div_div_eq_div_mul, ← Nat.pow_succ, show (8 * a + left - (j + 1)).succ = 8 * a + left - j by omega]
  omega
theorem cv_out {I a left j : Nat} (h : left < j + 1) : cv I a left (j + 1) = 2 * cv I a left j := by
  unfold cv
  rw [if_neg (by omega)]
  by_cases e : j = left
  · subst e
    rw [if_pos (Nat.le_refl _), show j + 1 - j = 1 by omega, show 8 * a + j - j = 8 * a by omega]
    omega
  · rw [if_neg (by omega), show j + 1 - left = (j - left) + 1 by omega, Nat.pow_succ, ← Nat.mul_assoc, Nat.mul_comm]
theorem Tail_look_ok {N n : Nat} (hN : 4 ≤ N) {vx : Nat → Int64} (hn : n ≤ 6000) {a left T : Nat} (hT : T ≤ 11) (hb : 8 * a + left ≤ 8 * n) :
    f_Tail_look N (nI (8 * a)) (nI left) (nI n) 751 vx (nI T) = some (nI (cv (iv vx n) a left T)) := by
  unfold f_Tail_look
  by_cases h : left < T
  · have h1 : iv vx n / 2 ^ (8 * a) % 2 ^ left < 2 ^ left := Nat.mod_lt _ (Nat.pow_pos (by decide))
    have h2 : 2 ^ left ≤ 2 ^ 11 := Nat.pow_le_pow_right (by decide) (by omega)
    have h3 : iv vx n / 2 ^ (8 * a) % 2 ^ left * 2 ^ (T - left) < 2 ^ 32 := by
      have h4 : 2 ^ (T - left) ≤ 2 ^ 11 := Nat.pow_le_pow_right (by decide) (by omega)
      exact Nat.lt_of_le_of_lt (Nat.mul_le_mul (Nat.le_of_lt (Nat.lt_of_lt_of_le h1 h2)) h4) (by decide)
    rw [if_pos (nI_lt h (by omega)), Row_bits_ok hN (by omega) (by decide) (by omega) (by omega), bd1_e, pk_sub (by omega), shl_n (by omega) h3]
    unfold cv
    rw [if_neg (by omega)]
  · rw [if_neg (nI_nlt (by omega) (by omega)), nI_add, pk_sub (by omega), Row_bits_ok hN (by omega) (by decide) (by omega) (by omega), bd1_e]
    unfold cv
    rw [if_pos (by omega)]
theorem cell_loop {N n : Nat} (hn : n ≤ 6000) {vx : Nat → Int64} {vy : Nat → Int32} (hs : Same vx vy n) {a left T : Nat} (hT : T ≤ 11) (hb : 8 * a + left ≤ 8 * n) {l2 l3 l4 l7 : Int32} {vl vs : Nat → Int32} {k54 : Int32 → Int32 → (Nat → Int32) → Option (Int32 × (Nat → Int32))} : ∀ (d j z : Nat) (made : Nat → Int32), T = j + d → d < z →
    f_MM_takeStream_b66 N (nI T) vy vl vs (nI a) l2 l3 l4 k54 z (nI left) l7 (nI (cv (iv vx n) a left j)) (nI (j + 1)) made = f_MM_takeStream_b113 N (nI T) vy vl vs (nI a) l2 l3 l4 k54 (nI left) l7 (nI (cv (iv vx n) a left T)) made := by
  intro d
  induction d with
  | zero =>
    intro j z made h1 h2
    obtain ⟨z, rfl⟩ := z_succ h2
    obtain rfl : j = T := by omega
    rw [f_MM_takeStream_b66, if_pos (nI_lt (by omega) (by omega))]
  | succ d ih =>
    intro j z made h1 h2
    obtain ⟨z, rfl⟩ := z_succ h2
    have hc : cv (iv vx n) a left j < 2 ^ j := cv_lt
    have h2j : 2 ^ j ≤ 2 ^ 11 := Nat.pow_le_pow_right (by decide) (by omega)
    rw [f_MM_takeStream_b66, if_neg (nI_nlt (by omega) (by omega)), ← ih (j + 1) z made (by omega) (by omega)]
    by_cases h : left < j + 1
    · rw [if_pos (nI_lt h (by omega))]
      unfold f_MM_takeStream_b104
      rw [nm_q, nm_q, nI_1, cv_out h, show (2 : Int32) * nI (cv (iv vx n) a left j) = nI (2 * cv (iv vx n) a left j) from pk_mul 2 _, show nI (2 * cv (iv vx n) a left j) + (0 : Int32) = nI (2 * cv (iv vx n) a left j) from nI_add _ 0]
    · rw [if_neg (nI_nlt (by omega) (by omega)), nI_8mul, nI_add, pk_sub (by omega), bitAt_ok hn hs (by omega), bd1_e]
      unfold f_MM_takeStream_b104
      rw [nm_q, nm_q, nI_1, cv_in (by omega), show (2 : Int32) * nI (cv (iv vx n) a left j) = nI (2 * cv (iv vx n) a left j) from pk_mul 2 _, nI_add]
theorem take_loop {N n T m into : Nat} (hN : 13 ≤ N) (hn : n ≤ 6000) {vx : Nat → Int64} {vy : Nat → Int32} (hs : Same vx vy n) {len : Nat → Nat} (hG : Good T len) {xl xc yl ys : Nat → Int32} (hxl : ∀ s, s < 256 → xl s = nI (len s)) (hxt : Tab T len xc) (hyl : ∀ s, s < 256 → yl s = nI (len s)) (hyt : Tab T len ys) {a b : Nat} {l4 : Int32} (hm : into + m ≤ 6000) : ∀ (d k z left : Nat) (v : Nat → Int64) (made : Nat → Int32), m = k + d → d < z → 8 * a + left ≤ 8 * n → Same v made (into + k) →
    ∃ r u' v' le' made', f_Streams_takeStream_b20 N (nI 6000) 751 (nI T) xl xc (nI n) 751 vx (nI a) l4 (nI m) z (nI k) (nI (into + k)) v (nI (8 * a)) (nI left) = some (r, u', v', nI (8 * a), le') ∧ f_MM_takeStream_b54 N (nI T) vy yl ys (nI a) l4 (nI m) (nI into) z (nI left) (nI k) made = some (r, made') ∧ (r = 0 → u' = nI (into + m) ∧ Same v' made' (into + m)) := by
  have hT1 := hG.2.1
  intro d
  induction d with
  | zero =>
    intro k z left v made h1 h2 h3 h4
    obtain ⟨z, rfl⟩ := z_succ h2
    obtain rfl : k = m := by omega
    rw [f_Streams_takeStream_b20, f_MM_takeStream_b54, if_pos (nI_le (by omega) (by omega)), if_pos (nI_le (by omega) (by omega))]
    unfold f_Streams_takeStream_b81 f_MM_takeStream_b160
    by_cases e : nI left = 0
    · rw [if_pos e, if_pos e]
      exact ⟨0, _, v, _, made, rfl, rfl, fun _ => ⟨rfl, h4⟩⟩
    · rw [if_neg e, if_neg e]
      exact ⟨-4, _, v, _, made, rfl, rfl, fun q => absurd q (by decide)⟩
  | succ d ih =>
    intro k z left v made h1 h2 h3 h4
    obtain ⟨z, rfl⟩ := z_succ h2
    have hcv : cv (iv vx n) a left T < 2 ^ T := cv_lt
    have h2T : 2 ^ T ≤ 2 ^ 11 := Nat.pow_le_pow_right (by decide) hT1
    obtain ⟨s, hs1, hs2, hs3, hs4⟩ := hxt.2 _ hcv
    have hls := hG.le s hs1
    have e0 : cv (iv vx n) a left 0 = 0 := Nat.lt_one_iff.mp (cv_lt (I := iv vx n) (a := a) (left := left) (j := 0))
    have ec := cell_loop (N := N) hn hs hT1 h3 (l2 := l4) (l3 := nI m) (l4 := nI into) (l7 := nI k) (vl := yl) (vs := ys) (k54 := f_MM_takeStream_b54 N (nI T) vy yl ys (nI a) l4 (nI m) (nI into) z) T 0 N made (by omega) (by omega)
    rw [e0] at ec
    rw [f_Streams_takeStream_b20, f_MM_takeStream_b54, if_neg (nI_ge (by omega) (by omega)), if_neg (nI_ge (by omega) (by omega)), Tail_look_ok (by omega) hn hT1 h3, bd1_e, ck_n (by omega) (by decide), nI_clamp (by omega), hxt.1 s hs1 hs2 _ hs3 hs4, nm_q, ck_n hs1 (by decide), nI_clamp (by omega), hxl s hs1]
    have ec' : f_MM_takeStream_b66 N (nI T) vy yl ys (nI a) l4 (nI m) (nI into) (f_MM_takeStream_b54 N (nI T) vy yl ys (nI a) l4 (nI m) (nI into) z) N (nI left) (nI k) 0 1 made = _ := ec
    rw [ec']
    unfold f_MM_takeStream_b113
    rw [ck_n (by omega) (by decide), nI_clamp (by omega), hyt.1 s hs1 hs2 _ hs3 hs4, nm_q, nI_add, ck_n (by omega) (by decide), nI_clamp (by omega), nm_q, ck_n hs1 (by decide), nI_clamp (by omega), hyl s hs1, nm_q]
    unfold f_Tail_drop
    by_cases h : len s ≤ left
    · obtain ⟨v1, p1, p2, p3⟩ := Row_add_ok (N := N) (n_words := 751) (room := 6000) (n := into + k) (x := s) (v := v) (by omega) (by decide) (by decide) hs1
      have hsame : Same v1 (upd made (into + k) (nI s)) (into + (k + 1)) := by
        intro i hi
        by_cases e : i = into + k
        · subst e; rw [pk_us, p2]
        · rw [pk_un e, p3 i e]; exact h4 i (by omega)
      obtain ⟨r, u', v', le', made', q1, q2, q3⟩ := ih (k + 1) z (left - len s) v1 _ (by omega) (by omega) (by omega) hsame
      refine ⟨r, u', v', le', made', ?_, ?_, q3⟩
      · rw [if_pos (nI_le h (by omega)), nm_q, pk_sub h, bd2_e, if_neg (by decide), p1, bd2_e, nm_q, nI_1]
        exact q1
      · rw [pk_sub h, if_pos (nI_pos' (by omega)), nm_q, nI_1]
        exact q2
    · refine ⟨-4, nI (into + k), v, nI left, upd made (into + k) (nI s), ?_, ?_, fun q => absurd q (by decide)⟩
      · rw [if_neg (nI_ge (by omega) (by omega)), bd2_e, if_pos rfl]
        rfl
      · rw [if_neg (show ¬ (0 : Int32) ≤ nI left - nI (len s) from fun q => by
          have := Int32.le_iff_toInt_le.mp q
          rw [pk_sub_toInt (by omega) (by omega)] at this
          have e : (0 : Int32).toInt = 0 := rfl
          omega)]
        rfl
theorem takeStream_ok {N n T m into : Nat} (hN : 6001 ≤ N) (hn : n ≤ 6000) {vx : Nat → Int64} {vy : Nat → Int32} (hs : Same vx vy n) {len : Nat → Nat} (hG : Good T len) {xl xc yl ys : Nat → Int32} (hxl : ∀ s, s < 256 → xl s = nI (len s)) (hxt : Tab T len xc) (hyl : ∀ s, s < 256 → yl s = nI (len s)) (hyt : Tab T len ys) {a b : Nat} (ha : a ≤ n) (hb : b ≤ n) (hm : into + m ≤ 6000) {v : Nat → Int64} {made : Nat → Int32} (h4 : Same v made into) (fi le : Int32) :
    ∃ r u' v' fi' le' made', f_Streams_takeStream N (nI 6000) 751 (nI T) xl xc (nI n) 751 vx (nI a) (nI b) (nI m) (nI into) v fi le = some (r, u', v', fi', le') ∧ f_MM_takeStream N (nI T) vy yl ys (nI a) (nI b) (nI m) (nI into) made = some (r, made') ∧ (r = 0 → u' = nI (into + m) ∧ Same v' made' (into + m)) := by
  unfold f_Streams_takeStream f_MM_takeStream f_MM_takeStream_b16
  by_cases h1 : b ≤ a
  · rw [Tail_open_no hb hn (Or.inl h1) (by omega), bd3_e, if_pos rfl, if_pos (nI_le h1 (by omega))]
    exact ⟨-3, _, v, _, _, made, rfl, rfl, fun q => absurd q (by decide)⟩
  have e1 : nI b - (1 : Int32) = nI (b - 1) := pk_sub (b := 1) (by omega)
  rw [if_neg (nI_ge (by omega) (by omega)), e1, ck_n (by omega) (by decide), nI_clamp (by omega), hs _ (by omega)]
  have hw := wby_lt vx (b - 1)
  by_cases h2 : wby vx (b - 1) = 0
  · rw [Tail_open_no hb hn (Or.inr h2) (by omega), bd3_e, if_pos rfl, h2, if_pos (show nI 0 = 0 from rfl)]
    exact ⟨-3, _, v, _, _, made, rfl, rfl, fun q => absurd q (by decide)⟩
  have hlog : Nat.log2 (wby vx (b - 1)) < 8 := (Nat.log2_lt h2).mpr hw
  have e8 : (8 : Int32) * nI b - 1 = nI (8 * (b - 1) + Nat.log2 (wby vx (b - 1)) + (7 - Nat.log2 (wby vx (b - 1)))) := by
    rw [nI_8mul, show nI (8 * b) - (1 : Int32) = nI (8 * b - 1) from pk_sub (b := 1) (by omega)]
    congr 1
    omega
  rw [Tail_open_yes (by omega) hb hn (by omega) h2, bd3_e, if_neg (by decide), if_neg (nI_ne0 (by omega) (by omega)), nm_q, e8, top_loop hn hs (by omega) hb h2 _ N made (Nat.le_refl _) (by omega)]
  unfold f_MM_takeStream_b42
  rw [nm_q, nI_8mul, pk_sub (by omega), show 8 * (b - 1) + Nat.log2 (wby vx (b - 1)) - 8 * a = 8 * (b - 1 - a) + Nat.log2 (wby vx (b - 1)) by omega]
  obtain ⟨r, u', v', le', made', p1, p2, p3⟩ := take_loop (N := N) (m := m) (into := into) (by omega) hn hs hG hxl hxt hyl hyt (a := a) (b := b) (l4 := nI b) hm m 0 N (8 * (b - 1 - a) + Nat.log2 (wby vx (b - 1))) v made (by omega) (by omega) (by omega) h4
  exact ⟨r, u', v', _, le', made', p1, p2, p3⟩
