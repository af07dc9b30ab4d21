/-! ===== a share, read ===== -/
theorem bits_step {I p k : Nat} : I / 2 ^ p % 2 ^ (k + 1) = I / 2 ^ p % 2 ^ k + I / 2 ^ (p + k) % 2 * 2 ^ k := by
  rw [Nat.mod_pow_succ, Nat.div_div_eq_div_mul, ← Nat.pow_add, Nat.mul_comm]
theorem bits_or {I p k : Nat} (hk : k < 30) : nI (I / 2 ^ p % 2 ^ k) ||| (nI (I / 2 ^ (p + k) % 2) <<< (nI k &&& 31)) = nI (I / 2 ^ p % 2 ^ (k + 1)) := by
  have h1 : I / 2 ^ p % 2 ^ k < 2 ^ k := Nat.mod_lt _ (Nat.pow_pos (by decide))
  have h2 : I / 2 ^ (p + k) % 2 < 2 := Nat.mod_lt _ (by decide)
  have h3 : I / 2 ^ (p + k) % 2 * 2 ^ k ≤ 1 * 2 ^ k := Nat.mul_le_mul_right _ (by omega)
  have h4 : 2 ^ k ≤ 2 ^ 29 := Nat.pow_le_pow_right (by decide) (by omega)
  rw [shl_n (by omega) (by omega), nI_or (by omega) (by omega), or_add h1, bits_step]
theorem take_loop2 {N n E m p : Nat} (hn : n ≤ 6000) {vx : Nat → Int64} {vy : Nat → Int32} (hs : Same vx vy n) (hm : m ≤ 16) (hp : p + m ≤ 8 * n) : ∀ (d k z : Nat), m = k + d → d < z →
    f_MM_take_b19 N (nI E) vy (nI m) z (nI (iv vx n / 2 ^ p % 2 ^ k)) (nI k) (nI p) = some (nI (iv vx n / 2 ^ p % 2 ^ m), nI (p + m)) := by
  intro d
  induction d with
  | zero =>
    intro k z h1 h2
    obtain ⟨z, rfl⟩ := z_succ h2
    obtain rfl : k = m := by omega
    rw [f_MM_take_b19, if_pos (nI_le (Nat.le_refl _) (by omega))]
    unfold f_MM_take_b45
    rw [nm_q, nI_add]
  | succ d ih =>
    intro k z h1 h2
    obtain ⟨z, rfl⟩ := z_succ h2
    rw [f_MM_take_b19, if_neg (nI_ge (by omega) (by omega)), nI_add, bitAt_ok hn hs (by omega), bd1_e, nm_q, nm_q, nI_1, bits_or (by omega)]
    exact ih (k + 1) z (by omega) (by omega)
theorem take_ok {N n E m p : Nat} (hN : 70 ≤ N) (hn : n ≤ 6000) {vx : Nat → Int64} {vy : Nat → Int32} (hs : Same vx vy n) (hE : E ≤ 8 * n) (hm : m ≤ 16) (hp : p + m ≤ E) :
    f_MM_take N (nI E) vy (nI m) (nI p) = some (nI (iv vx n / 2 ^ p % 2 ^ m), nI (p + m)) := by
  unfold f_MM_take
  rw [nI_add, if_pos (nI_le hp (by omega))]
  have h := take_loop2 (N := N) (E := E) hn hs hm (show p + m ≤ 8 * n by omega) m 0 N (by omega) (by omega)
  rw [Nat.pow_zero, Nat.mod_one] at h
  exact h
theorem take_no {N E m p : Nat} {vy : Nat → Int32} (h : E < p + m) (h2 : p + m < 2 ^ 30) : f_MM_take N (nI E) vy (nI m) (nI p) = some (-1, nI p) := by
  unfold f_MM_take
  rw [nI_add, if_neg (nI_ge h (by omega))]
theorem takeBits_ok {N n : Nat} (hN : 70 ≤ N) {vx : Nat → Int64} (hn : n ≤ 6000) {p m : Nat} (hp : p < 2 ^ 29) (hm : m ≤ 16) : f_Share_takeBits N (nI n) 751 vx (nI m) (nI p) = some (nI (iv vx n / 2 ^ p % 2 ^ m), nI (p + m)) := by
  unfold f_Share_takeBits
  rw [Row_bits_ok (by omega) (by omega) (by decide) (by omega) hm, bd1_e, nm_q, nI_add]
theorem m1_ne {a : Nat} (h : a < 2 ^ 30) : ¬ nI a = (-1 : Int32) := fun q => by
  have q2 := congrArg Int32.toInt q
  rw [nI_toInt (by omega)] at q2
  have e : (-1 : Int32).toInt = -1 := rfl
  omega
/-- a number of points on both sides: the class reads on, the reference stops at the end -/
theorem number_ok {N n : Nat} (hN : 70 ≤ N) (hn : n ≤ 6000) {vx : Nat → Int64} {vy : Nat → Int32} (hs : Same vx vy n) {lack p : Nat} (hl0 : 1 ≤ lack) (hl : lack ≤ 64) (hp : p ≤ 60000) :
    ∃ u p', f_Share_takePoints N (nI n) 751 vx (nI lack) (nI p) = some (nI u - 1, nI p') ∧ u ≤ lack + 1 ∧ p < p' ∧ p' ≤ p + 8 ∧ ∀ E, E ≤ 8 * n → p ≤ E →
      ((p' ≤ E ∧ f_MM_takeNumber N (nI E) vy (nI lack) (nI p) = some (nI u, nI p')) ∨ (E < p' ∧ ∃ q, f_MM_takeNumber N (nI E) vy (nI lack) (nI p) = some (-1, nI q))) := by
  have hk : Nat.log2 (lack + 1) < 7 := (Nat.log2_lt (by omega)).mpr (show lack + 1 < 2 ^ 7 by omega)
  have ht1 : 2 ^ Nat.log2 (lack + 1) ≤ lack + 1 := Nat.log2_self_le (by omega)
  have ht2 : lack + 1 < 2 ^ (Nat.log2 (lack + 1) + 1) := Nat.lt_log2_self
  have hk1 : 1 ≤ Nat.log2 (lack + 1) := (Nat.le_log2 (by omega)).mpr (by omega)
  rw [Nat.pow_succ] at ht2
  have hlog := log2_ok (N := N) (x := lack + 1) (by omega) (by omega)
  have hbf := bitsFor_ok (N := N) (r := lack) hN (by omega)
  generalize hkk : Nat.log2 (lack + 1) = k at *
  have h1k := sh1 (k := k) (by omega)
  have e5 : (2 : Int32) * nI (2 ^ k) - 2 - nI lack = nI (2 * 2 ^ k - 2 - lack) := by
    rw [show (2 : Int32) * nI (2 ^ k) = nI (2 * 2 ^ k) from pk_mul 2 _, show nI (2 * 2 ^ k) - (2 : Int32) = nI (2 * 2 ^ k - 2) from pk_sub (b := 2) (by omega), pk_sub (by omega)]
  have hx : iv vx n / 2 ^ p % 2 ^ k < 2 ^ k := Nat.mod_lt _ (Nat.pow_pos (by decide))
  have hb : iv vx n / 2 ^ (p + k) % 2 ^ 1 < 2 := Nat.mod_lt _ (by decide)
  have tb1 := takeBits_ok (N := N) hN (vx := vx) hn (p := p) (m := k) (by omega) (by omega)
  have tb2 := takeBits_ok (N := N) hN (vx := vx) hn (p := p + k) (m := 1) (by omega) (by decide)
  have tk1 : ∀ E, E ≤ 8 * n → p + k ≤ E → f_MM_take N (nI E) vy (nI k) (nI p) = some (nI (iv vx n / 2 ^ p % 2 ^ k), nI (p + k)) := fun E h1 h2 => take_ok hN hn hs h1 (by omega) h2
  have tk2 : ∀ E, E ≤ 8 * n → p + k + 1 ≤ E → f_MM_take N (nI E) vy 1 (nI (p + k)) = some (nI (iv vx n / 2 ^ (p + k) % 2 ^ 1), nI (p + k + 1)) := fun E h1 h2 => take_ok hN hn hs h1 (by decide) h2
  generalize iv vx n / 2 ^ p % 2 ^ k = x at *
  generalize iv vx n / 2 ^ (p + k) % 2 ^ 1 = b at *
  have tb2' : f_Share_takeBits N (nI n) 751 vx 1 (nI (p + k)) = some (nI b, nI (p + k + 1)) := tb2
  have no1 : ∀ E, E < p + k → f_MM_takeNumber N (nI E) vy (nI lack) (nI p) = some (-1, nI p) := by
    intro E hE
    unfold f_MM_takeNumber
    rw [hbf, bd1_e, h1k, nm_q, e5, nm_q, take_no hE (by omega), bd2_e, if_pos rfl]
    rfl
  unfold f_Share_takePoints
  rw [nI_1, hlog, bd1_e, h1k, nm_q, e5, nm_q, tb1, bd2_e]
  by_cases h1 : x < 2 * 2 ^ k - 2 - lack
  · rw [if_pos (nI_lt h1 (by omega))]
    refine ⟨x, p + k, rfl, by omega, by omega, by omega, fun E hE1 hE2 => ?_⟩
    by_cases h2 : p + k ≤ E
    · refine Or.inl ⟨h2, ?_⟩
      unfold f_MM_takeNumber
      rw [hbf, bd1_e, h1k, nm_q, e5, nm_q, tk1 E hE1 h2, bd2_e, if_neg (m1_ne (by omega)), if_neg (nI_ge h1 (by omega))]
      rfl
    · exact Or.inr ⟨by omega, p, no1 E (by omega)⟩
  · rw [if_neg (nI_nlt (by omega) (by omega)), tb2', bd2_e]
    have yes : ∀ E, E ≤ 8 * n → p + k + 1 ≤ E → f_MM_takeNumber N (nI E) vy (nI lack) (nI p) = if nI b = 0 then some (nI x, nI (p + k + 1)) else some (nI x + nI (2 ^ k) - nI (2 * 2 ^ k - 2 - lack), nI (p + k + 1)) := by
      intro E hE1 hE2
      unfold f_MM_takeNumber
      rw [hbf, bd1_e, h1k, nm_q, e5, nm_q, tk1 E hE1 (by omega), bd2_e, if_neg (m1_ne (by omega)), if_pos (nI_le (by omega) (by omega)), tk2 E hE1 hE2, bd2_e, if_neg (m1_ne (by omega))]
    have no2 : ∀ E, E ≤ 8 * n → E < p + k + 1 → ∃ q, f_MM_takeNumber N (nI E) vy (nI lack) (nI p) = some (-1, nI q) := by
      intro E hE1 hE2
      by_cases h2 : p + k ≤ E
      · refine ⟨p + k, ?_⟩
        have t : f_MM_take N (nI E) vy 1 (nI (p + k)) = some (-1, nI (p + k)) := take_no (m := 1) hE2 (by omega)
        unfold f_MM_takeNumber
        rw [hbf, bd1_e, h1k, nm_q, e5, nm_q, tk1 E hE1 h2, bd2_e, if_neg (m1_ne (by omega)), if_pos (nI_le (by omega) (by omega)), t, bd2_e, if_pos rfl]
      · exact ⟨p, no1 E (by omega)⟩
    by_cases h3 : b = 1
    · rw [if_pos (show nI b = (1 : Int32) by rw [h3]; rfl), nm_q, pk_sub (by omega), nI_add]
      refine ⟨x + (2 ^ k - (2 * 2 ^ k - 2 - lack)), p + k + 1, rfl, by omega, by omega, by omega, fun E hE1 hE2 => ?_⟩
      by_cases h2 : p + k + 1 ≤ E
      · refine Or.inl ⟨h2, ?_⟩
        rw [yes E hE1 h2, if_neg (nI_ne0 (by omega) (by omega)), nI_add, pk_sub (by omega), show x + 2 ^ k - (2 * 2 ^ k - 2 - lack) = x + (2 ^ k - (2 * 2 ^ k - 2 - lack)) by omega]
      · exact Or.inr ⟨by omega, no2 E hE1 (by omega)⟩
    · rw [if_neg (show ¬ nI b = (1 : Int32) from fun q => h3 ((nI_eq (b := 1) (by omega) (by decide)).mp q))]
      refine ⟨x, p + k + 1, rfl, by omega, by omega, by omega, fun E hE1 hE2 => ?_⟩
      by_cases h2 : p + k + 1 ≤ E
      · refine Or.inl ⟨h2, ?_⟩
        rw [yes E hE1 h2, if_pos (show nI b = 0 by rw [show b = 0 by omega]; rfl)]
      · exact Or.inr ⟨by omega, no2 E hE1 (by omega)⟩
/-- the reference, when no weight is left: it stops, whatever it reads -/
theorem deadY {N n E : Nat} (hN : 60000 ≤ N) (hn : n ≤ 6000) {vx : Nat → Int64} {vy : Nat → Int32} (hs : Same vx vy n) (hE : E ≤ 8 * n) {lack : Nat} (hl0 : 1 ≤ lack) (hl : lack ≤ 64) {oi : Int32} {yp yo : Nat → Int32} {z : Nat} : ∀ (m p v y s : Nat), E - p ≤ m → p ≤ E → m < y → 11 ≤ v → v + 3 * m < 2 ^ 29 → s < 4 →
    ∃ q, f_MM_takeShare_b119 N (nI E) vy (f_MM_takeShare_b55 N (nI E) vy (z + 1)) y (nI lack) (nI v) (nI s) oi (nI p) yp yo = some (0, oi, q, yp, yo) := by
  have dead : ∀ v p, 11 ≤ v → v < 2 ^ 29 → ∃ q, f_MM_takeShare_b148 N (nI E) vy (f_MM_takeShare_b55 N (nI E) vy (z + 1)) (nI lack) (nI v) oi (nI p) yp yo = some (0, oi, q, yp, yo) := by
    intro v p h1 h2
    unfold f_MM_takeShare_b148
    refine ⟨nI p, ?_⟩
    rw [nm_q, nI_1, f_MM_takeShare_b55, if_neg (nle0 hl0 (by omega)), if_neg (nle_lit (b := 11) (by omega) (by omega))]
    unfold f_MM_takeShare_b74
    rw [if_pos rfl]
    rfl
  intro m
  induction m with
  | zero =>
    intro p v y s h1 h2 h3 h4 h5 h6
    obtain ⟨y, rfl⟩ := z_succ h3
    rw [f_MM_takeShare_b119]
    by_cases e : s = 3
    · have t : f_MM_take N (nI E) vy 2 (nI p) = some (-1, nI p) := take_no (m := 2) (by omega) (by omega)
      rw [if_pos (show nI s = (3 : Int32) by rw [e]; rfl), t, bd2_e, if_pos rfl]
      exact ⟨_, rfl⟩
    · rw [if_neg (show ¬ nI s = (3 : Int32) from fun q => e ((nI_eq (b := 3) (by omega) (by decide)).mp q))]
      exact dead v p h4 (by omega)
  | succ m ih =>
    intro p v y s h1 h2 h3 h4 h5 h6
    obtain ⟨y, rfl⟩ := z_succ h3
    rw [f_MM_takeShare_b119]
    by_cases e : s = 3
    · rw [if_pos (show nI s = (3 : Int32) by rw [e]; rfl)]
      by_cases h7 : p + 2 ≤ E
      · have t : f_MM_take N (nI E) vy 2 (nI p) = _ := take_ok (N := N) (m := 2) (by omega) hn hs hE (by decide) h7
        have hx : iv vx n / 2 ^ p % 2 ^ 2 < 4 := Nat.mod_lt _ (by decide)
        rw [t, bd2_e, if_neg (m1_ne (by omega)), nm_q, nI_add]
        exact ih (p + 2) _ y _ (by omega) h7 (by omega) (by omega) (by omega) hx
      · have t : f_MM_take N (nI E) vy 2 (nI p) = some (-1, nI p) := take_no (m := 2) (by omega) (by omega)
        rw [t, bd2_e, if_pos rfl]
        exact ⟨_, rfl⟩
    · rw [if_neg (show ¬ nI s = (3 : Int32) from fun q => e ((nI_eq (b := 3) (by omega) (by decide)).mp q))]
      exact dead v p h4 (by omega)
/-- weights without points: the class's way alone -/
theorem noneXr {N n : Nat} (hN : 70 ≤ N) (hn : n ≤ 6000) {vx : Nat → Int64} {l2 : Int32} : ∀ (m a z p s : Nat), 12 - a ≤ m → m < z → a ≤ 14 → p ≤ 60000 + 2 * (12 - m) → m ≤ 12 → s < 4 →
    ∃ v' p', f_Share_takeNone_b5 N (nI n) 751 vx l2 z (nI a) (nI s) (nI p) = some (nI v', nI p') ∧ a ≤ v' ∧ v' ≤ 14 ∧ p ≤ p' ∧ p' ≤ p + 2 * m := by
  intro m
  induction m with
  | zero =>
    intro a z p s h1 h2 h3 h4 h4' h5
    obtain ⟨z, rfl⟩ := z_succ h2
    refine ⟨a, p, ?_, by omega, h3, by omega, by omega⟩
    rw [f_Share_takeNone_b5, if_pos (show (12 : Int32) ≤ nI a from nI_le (a := 12) (by omega) (by omega))]
    unfold f_Share_takeNone_b33
    split <;> rfl
  | succ m ih =>
    intro a z p s h1 h2 h3 h4 h4' h5
    obtain ⟨z, rfl⟩ := z_succ h2
    rw [f_Share_takeNone_b5]
    unfold f_Share_takeNone_b33
    by_cases e : s = 3
    · rw [if_pos (show nI s = (3 : Int32) by rw [e]; rfl)]
      by_cases h6 : 12 ≤ a
      · rw [if_pos (show (12 : Int32) ≤ nI a from nI_le (a := 12) h6 (by omega))]
        exact ⟨a, p, rfl, by omega, h3, by omega, by omega⟩
      · have hx : iv vx n / 2 ^ p % 2 ^ 2 < 4 := Nat.mod_lt _ (by decide)
        have t : f_Share_takeBits N (nI n) 751 vx 2 (nI p) = _ := takeBits_ok (N := N) hN (vx := vx) hn (p := p) (m := 2) (by omega) (by decide)
        rw [if_neg (show ¬ (12 : Int32) ≤ nI a from nI_ge (b := 12) (by omega) (by decide)), t, bd2_e, nm_q, nI_add]
        by_cases e3 : iv vx n / 2 ^ p % 2 ^ 2 = 0
        · rw [e3]
          -- no run: it stops at the next look
          obtain ⟨z, rfl⟩ : ∃ z', z = z' + 1 := ⟨z - 1, by omega⟩
          refine ⟨a, p + 2, ?_, by omega, h3, by omega, by omega⟩
          rw [f_Share_takeNone_b5, if_neg (show ¬ nI 0 = (3 : Int32) by decide)]
          rfl
        · obtain ⟨v', p', q1, q2, q3, q4, q5⟩ := ih (a + iv vx n / 2 ^ p % 2 ^ 2) z (p + 2) _ (by omega) (by omega) (by omega) (by omega) (by omega) hx
          exact ⟨v', p', q1, by omega, q3, by omega, by omega⟩
    · rw [if_neg (show ¬ nI s = (3 : Int32) from fun q => e ((nI_eq (b := 3) (by omega) (by decide)).mp q))]
      exact ⟨a, p, rfl, by omega, h3, by omega, by omega⟩
