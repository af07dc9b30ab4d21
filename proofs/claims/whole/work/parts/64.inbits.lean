/-! ===== bits of IN: the number of its bytes ===== -/
def iv (vx : Nat → Int64) : Nat → Nat
  | 0 => 0
  | n + 1 => iv vx n + wby vx n * 2 ^ (8 * n)
theorem iv_lt {vx : Nat → Int64} {n : Nat} : iv vx n < 2 ^ (8 * n) := by
  induction n with
  | zero => exact Nat.pow_pos (by decide)
  | succ n ih =>
    have h := V_lt (n := 8) ih (show wby vx n < 2 ^ 8 from wby_lt vx n)
    rw [show 8 * n + 8 = 8 * (n + 1) by omega] at h
    exact h
theorem iv_in {vx : Nat → Int64} {n k : Nat} (h : k < n) : iv vx n / 2 ^ (8 * k) % 256 = wby vx k := by
  induction n with
  | zero => exact absurd h (by omega)
  | succ n ih =>
    show (iv vx n + wby vx n * 2 ^ (8 * n)) / 2 ^ (8 * k) % 256 = _
    rw [div_add_pow (show 8 * k ≤ 8 * n by omega)]
    by_cases e : k = n
    · subst e
      rw [Nat.div_eq_of_lt iv_lt, Nat.sub_self, Nat.zero_add, Nat.pow_zero, Nat.mul_one, Nat.mod_eq_of_lt (wby_lt _ _)]
    · rw [show 8 * n - 8 * k = 8 + (8 * n - 8 * k - 8) by omega, Nat.pow_add, Nat.mul_left_comm, show (2 : Nat) ^ 8 = 256 from rfl, Nat.add_mul_mod_self_left]
      exact ih (by omega)
theorem iv_out {vx : Nat → Int64} {n k : Nat} (h : n ≤ k) : iv vx n / 2 ^ (8 * k) = 0 :=
  Nat.div_eq_of_lt (Nat.lt_of_lt_of_le iv_lt (Nat.pow_le_pow_right (by decide) (by omega)))
theorem mod_div_mod {X a r m : Nat} (h : r + m ≤ a) : X % 2 ^ a / 2 ^ r % 2 ^ m = X / 2 ^ r % 2 ^ m := by
  rw [show 2 ^ a = 2 ^ r * 2 ^ (a - r) by rw [← Nat.pow_add]; congr 1; omega, Nat.mod_mul_right_div_self]
  exact Nat.mod_mod_of_dvd _ (Nat.pow_dvd_pow 2 (by omega))
/-- a byte, or 0 where there is none -/
theorem Row_get0 {N n nw : Nat} {vx : Nat → Int64} (hn : n ≤ 8 * nw) (hw : nw < 2 ^ 27) {k : Nat} (hk : k < 2 ^ 31) :
    (bd1 (f_Row_get N (nI n) nw vx (nI k)) fun r => f_JMath_max N r 0) = some (nI (iv vx n / 2 ^ (8 * k) % 256)) := by
  by_cases h : k < n
  · rw [Row_get_in h hn hw, bd1_e, iv_in h]
    have := JMath_max_n (N := N) (a := wby vx k) (b := 0) (by have := wby_lt vx k; omega) (by decide)
    rw [Nat.max_zero] at this
    exact this
  · rw [Row_get_out (by omega) hk, bd1_e, iv_out (by omega)]
    rfl
theorem Row_bits_ok {N n nw : Nat} (hN : 4 ≤ N) {vx : Nat → Int64} (hn : n ≤ 8 * nw) (hw : nw < 2 ^ 27) {p m : Nat} (hp : p < 2 ^ 30) (hm : m ≤ 16) :
    f_Row_bits N (nI n) nw vx (nI p) (nI m) = some (nI (iv vx n / 2 ^ p % 2 ^ m)) := by
  obtain ⟨z, rfl⟩ : ∃ z, N = z + 4 := ⟨N - 4, by omega⟩
  have G : ∀ {β : Type} (k : Nat), k < 2 ^ 31 → ∀ f : Int32 → Option β, (bd1 (f_Row_get (z + 4) (nI n) nw vx (nI k)) fun r => bd1 (f_JMath_max (z + 4) r 0) f) = f (nI (iv vx n / 2 ^ (8 * k) % 256)) := by
    intro β k hk f
    have h := Row_get0 (N := z + 4) hn hw (vx := vx) hk
    generalize f_Row_get (z + 4) (nI n) nw vx (nI k) = o at h
    cases o with
    | none => cases h
    | some a =>
      rw [bd1_e] at h
      rw [bd1_e, h, bd1_e]
  have e3 : nI p >>> ((3 : Int32) &&& 31) = nI (p / 8) := nI_shr3 (by omega)
  have s8 : ∀ a, a < 2 ^ 24 → nI a <<< ((8 : Int32) &&& 31) = nI (a * 256) := fun a ha => by
    have := pk_shlN (n := a) ((8 : Int32) &&& 31) 8 (by decide) (by omega)
    exact this
  have q2 : iv vx n / 2 ^ (8 * (p / 8 + 2)) % 256 < 256 := Nat.mod_lt _ (by decide)
  have q1 : iv vx n / 2 ^ (8 * (p / 8 + 1)) % 256 < 256 := Nat.mod_lt _ (by decide)
  have q0 : iv vx n / 2 ^ (8 * (p / 8)) % 256 < 256 := Nat.mod_lt _ (by decide)
  unfold f_Row_bits
  rw [f_Row_bits_b5, if_neg (by decide), e3, show nI (p / 8) + (2 : Int32) = nI (p / 8 + 2) from nI_add _ 2, G _ (by omega)]
  rw [nm_q, nm_q, show ((0 : Int32) <<< ((8 : Int32) &&& 31)) = nI 0 by decide, nI_or (by decide) (by omega), Nat.zero_or, show (2 : Int32) + (-1) = 1 by decide]
  rw [f_Row_bits_b5, if_neg (by decide), e3, nI_1, G _ (by omega), nm_q, nm_q, s8 _ (by omega), nI_or (by omega) (by omega), Nat.or_comm, show ∀ x, x * 256 = x * 2 ^ 8 from fun _ => rfl, or_add (k := 8) q1, show (1 : Int32) + (-1) = 0 by decide]
  rw [f_Row_bits_b5, if_neg (by decide), e3, show nI (p / 8) + (0 : Int32) = nI (p / 8) from nI_add _ 0, G _ (by omega), nm_q, nm_q, s8 _ (by omega), nI_or (by omega) (by omega), Nat.or_comm, show ∀ x, x * 256 = x * 2 ^ 8 from fun _ => rfl, or_add (k := 8) q0, show (0 : Int32) + (-1) = -1 by decide]
  rw [f_Row_bits_b5, if_pos (by decide)]
  unfold f_Row_bits_b36
  rw [nI_and7 (by omega), shr_n (by omega) (by omega), sh1 (by omega), show nI (2 ^ m) - (1 : Int32) = nI (2 ^ m - 1) from pk_sub (b := 1) (Nat.pow_pos (by decide))]
  have h2m : 2 ^ m ≤ 2 ^ 16 := Nat.pow_le_pow_right (by decide) hm
  have h0m : 0 < 2 ^ m := Nat.pow_pos (by decide)
  rw [pk_andN (Nat.lt_of_le_of_lt (Nat.div_le_self _ _) (by omega)) m (pk_tn (by omega))]
  congr 2
  have eX : iv vx n / 2 ^ (8 * (p / 8)) % 256 + (iv vx n / 2 ^ (8 * (p / 8 + 1)) % 256 + iv vx n / 2 ^ (8 * (p / 8 + 2)) % 256 * 2 ^ 8) * 2 ^ 8 = iv vx n / 2 ^ (8 * (p / 8)) % 2 ^ 24 := by
    rw [show 8 * (p / 8 + 1) = 8 * (p / 8) + 8 by omega, show 8 * (p / 8 + 2) = 8 * (p / 8) + 16 by omega, Nat.pow_add, Nat.pow_add, ← Nat.div_div_eq_div_mul, ← Nat.div_div_eq_div_mul]
    generalize iv vx n / 2 ^ (8 * (p / 8)) = X
    omega
  rw [eX, mod_div_mod (by omega), Nat.div_div_eq_div_mul, ← Nat.pow_add, show 8 * (p / 8) + p % 8 = p by omega]
theorem bitAt_ok {N n : Nat} (hn : n ≤ 6000) {vx : Nat → Int64} {vy : Nat → Int32} (hs : Same vx vy n) {b : Nat} (hb : b < 8 * n) :
    f_MM_bitAt N vy (nI b) = some (nI (iv vx n / 2 ^ b % 2)) := by
  have hw := wby_lt vx (b / 8)
  unfold f_MM_bitAt
  rw [show nI b / (8 : Int32) = nI (b / 8) from pk_div (d := 8) (by omega) (by decide) (by decide), ck_n (by omega) (by decide), nI_clamp (by omega), hs _ (by omega), show nI (b / 8) * (8 : Int32) = nI (b / 8 * 8) from pk_mul _ 8, pk_sub (by omega), shr_n (by omega) (by omega), show (1 : Int32) = nI 1 from rfl, pk_andN (Nat.lt_of_le_of_lt (Nat.div_le_self _ _) (by omega)) 1 (by decide), ← iv_in (n := n) (show b / 8 < n by omega)]
  congr 2
  have := mod_div_mod (X := iv vx n / 2 ^ (8 * (b / 8))) (a := 8) (r := b - b / 8 * 8) (m := 1) (by omega)
  rw [show (2 : Nat) ^ 8 = 256 from rfl] at this
  rw [this, Nat.div_div_eq_div_mul, ← Nat.pow_add, show 8 * (b / 8) + (b - b / 8 * 8) = b by omega]
theorem log2_loop {N x : Nat} (hx : x < 2 ^ 31) : ∀ (d k z : Nat), Nat.log2 x = k + d → d < z → f_PM_log2_b2 N (nI x) z (nI k) = some (nI (Nat.log2 x)) := by
  intro d
  have h30 : Nat.log2 x < 31 := by
    by_cases h0 : x = 0
    · subst h0; decide
    · exact (Nat.log2_lt h0).mpr hx
  induction d with
  | zero =>
    intro k z h1 h2
    obtain ⟨z, rfl⟩ := z_succ h2
    have hz : x / 2 ^ (k + 1) = 0 := by
      apply Nat.div_eq_of_lt
      by_cases h0 : x = 0
      · subst h0; exact Nat.pow_pos (by decide)
      · rw [← Nat.log2_lt h0]; omega
    rw [f_PM_log2_b2]
    unfold f_PM_log2_b22
    by_cases h : 30 ≤ k
    · rw [if_pos (show (30 : Int32) ≤ nI k from nI_le (a := 30) h (by omega)), h1]; rfl
    · rw [if_neg (show ¬ (30 : Int32) ≤ nI k from nI_ge (b := 30) (by omega) (by decide)), nI_1, shr_n hx (by omega), hz, if_pos (le0 rfl), h1]; rfl
  | succ d ih =>
    intro k z h1 h2
    obtain ⟨z, rfl⟩ := z_succ h2
    have h0 : x ≠ 0 := by
      intro q; subst q
      rw [show Nat.log2 0 = 0 by decide] at h1
      omega
    have hz : 0 < x / 2 ^ (k + 1) := by
      apply Nat.div_pos
      · rw [← Nat.le_log2 h0]; omega
      · exact Nat.pow_pos (by decide)
    have hz2 : x / 2 ^ (k + 1) < 2 ^ 31 := Nat.lt_of_le_of_lt (Nat.div_le_self _ _) hx
    rw [f_PM_log2_b2, if_neg (show ¬ (30 : Int32) ≤ nI k from nI_ge (b := 30) (by omega) (by decide)), nI_1, shr_n hx (by omega), if_neg (nle0 hz hz2), nm_q]
    exact ih (k + 1) z (by omega) (by omega)
theorem log2_ok {N x : Nat} (hN : 32 ≤ N) (hx : x < 2 ^ 31) : f_PM_log2 N (nI x) = some (nI (Nat.log2 x)) := by
  have h30 : Nat.log2 x < 31 := by
    by_cases h0 : x = 0
    · subst h0; decide
    · exact (Nat.log2_lt h0).mpr hx
  exact log2_loop hx (Nat.log2 x) 0 N (by omega) (by omega)
