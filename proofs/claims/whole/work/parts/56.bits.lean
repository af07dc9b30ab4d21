/-! ===== bits that are appended: a number V of L bits, the first the lowest ===== -/
theorem pow_split {a b : Nat} (h : a ≤ b) : 2 ^ b = 2 ^ a * 2 ^ (b - a) := by rw [← Nat.pow_add]; congr 1; omega
theorem div_add_pow {V p a b : Nat} (h : a ≤ p) : (V + b * 2 ^ p) / 2 ^ a = V / 2 ^ a + b * 2 ^ (p - a) := by
  rw [pow_split h, ← Nat.mul_assoc, Nat.mul_comm b, Nat.mul_assoc, Nat.add_mul_div_left _ _ (Nat.pow_pos (by decide))]
theorem V_lt {V L x n : Nat} (hV : V < 2 ^ L) (hx : x < 2 ^ n) : V + x * 2 ^ L < 2 ^ (L + n) := by
  have : (x + 1) * 2 ^ L ≤ 2 ^ n * 2 ^ L := Nat.mul_le_mul_right _ hx
  rw [Nat.pow_add, Nat.mul_comm (2 ^ L)]
  rw [Nat.succ_mul] at this
  omega
/-- the bytes of a row of the class below 'used' -/
def PX (v : Nat → Int64) (used V : Nat) : Prop := ∀ k, k < used → wby v k = V / 2 ^ (8 * k) % 256
theorem or_add {a b k : Nat} (ha : a < 2 ^ k) : a ||| b * 2 ^ k = a + b * 2 ^ k := by
  rw [Nat.mul_comm, Nat.or_comm, ← Nat.two_pow_add_eq_or_of_lt ha, Nat.add_comm]
theorem nI_or {a b : Nat} (ha : a < 2 ^ 32) (hb : b < 2 ^ 32) : nI a ||| nI b = nI (a ||| b) := by
  apply Int32.toBitVec_inj.mp
  rw [Int32.toBitVec_or]
  show BitVec.ofNat 32 a ||| BitVec.ofNat 32 b = BitVec.ofNat 32 (a ||| b)
  apply BitVec.eq_of_toNat_eq
  rw [BitVec.toNat_or, BitVec.toNat_ofNat, BitVec.toNat_ofNat, BitVec.toNat_ofNat, Nat.mod_eq_of_lt ha, Nat.mod_eq_of_lt hb, Nat.mod_eq_of_lt (Nat.or_lt_two_pow ha hb)]
theorem Row_put_loop {N room nw : Nat} (hr : room ≤ 8 * nw) (hw : nw < 2 ^ 27) {l1 l2 : Int32} {V : Nat} : ∀ (q many used z : Nat) (v : Nat → Int64), many / 8 = q → many < 31 → q < z → V < 2 ^ (8 * used + many) → used + q ≤ room → PX v used V →
    ∃ v', f_Row_put_b25 N (nI room) nw l1 l2 z (nI used) (nI (V / 2 ^ (8 * used))) (nI many) v = some (nI (used + q), nI (V / 2 ^ (8 * (used + q))), nI (many - 8 * q), v') ∧ PX v' (used + q) V := by
  intro q
  induction q with
  | zero =>
    intro many used z v h1 h2 h3 hV h5 hP
    obtain ⟨z, rfl⟩ := z_succ h3
    refine ⟨v, ?_, hP⟩
    rw [f_Row_put_b25, if_pos (show nI many < (8 : Int32) from nI_lt (b := 8) (by omega) (by decide))]
    rfl
  | succ q ih =>
    intro many used z v h1 h2 h3 hV h5 hP
    obtain ⟨z, rfl⟩ := z_succ h3
    have hh : V / 2 ^ (8 * used) < 2 ^ many := by
      rw [Nat.pow_add] at hV
      exact Nat.div_lt_of_lt_mul hV
    have hm : 2 ^ many ≤ 2 ^ 30 := Nat.pow_le_pow_right (by decide) (by omega)
    obtain ⟨v1, e1, a1, b1⟩ := Row_add_ok (N := N) (n_words := nw) (room := room) (n := used) (x := V / 2 ^ (8 * used) % 256) (v := v) (by omega) hr hw (Nat.mod_lt _ (by decide))
    have hP1 : PX v1 (used + 1) V := by
      intro k hk
      by_cases e : k = used
      · subst e; exact a1
      · rw [b1 k e]; exact hP k (by omega)
    obtain ⟨v', p1, p2⟩ := ih (many - 8) (used + 1) z v1 (by omega) (by omega) (by omega) (by rw [show 8 * (used + 1) + (many - 8) = 8 * used + many by omega]; exact hV) (by omega) hP1
    rw [show used + 1 + q = used + (q + 1) by omega, show many - 8 - 8 * q = many - 8 * (q + 1) by omega] at p1
    rw [show used + 1 + q = used + (q + 1) by omega] at p2
    refine ⟨v', ?_, p2⟩
    have e8 : nI (V / 2 ^ (8 * used)) >>> ((8 : Int32) &&& 31) = nI (V / 2 ^ (8 * (used + 1))) := by
      rw [pk_shrN (n := V / 2 ^ (8 * used)) (by omega) _ 8 (by decide), Nat.div_div_eq_div_mul, ← Nat.pow_add]
      rfl
    rw [f_Row_put_b25, if_neg (show ¬ nI many < (8 : Int32) from nI_nlt (b := 8) (by omega) (by omega)), nI_and255, e1]
    simp only [bd2, nm]
    rw [e8, show nI many - (8 : Int32) = nI (many - 8) from pk_sub (b := 8) (by omega), p1]
/-- a row of the class to which bits are appended -/
def BX (used held many : Int32) (v : Nat → Int64) (L V : Nat) : Prop := used = nI (L / 8) ∧ many = nI (L % 8) ∧ held = nI (V / 2 ^ (8 * (L / 8))) ∧ V < 2 ^ L ∧ PX v (L / 8) V
theorem Row_put_ok {N room nw : Nat} (hN : 4 ≤ N) (hr : room ≤ 8 * nw) (hw : nw < 2 ^ 27) {used held many : Int32} {v : Nat → Int64} {L V : Nat} (hB : BX used held many v L V) {x n : Nat} (hn : n ≤ 16) (hx : x < 2 ^ n) (hroom : (L + n) / 8 ≤ room) :
    ∃ used' held' many' v', f_Row_put N (nI room) nw (nI x) (nI n) used held many v = some (used', held', many', v') ∧ BX used' held' many' v' (L + n) (V + x * 2 ^ L) := by
  obtain ⟨rfl, rfl, rfl, hV, hP⟩ := hB
  have hV' := V_lt hV hx
  have hm : L % 8 < 8 := Nat.mod_lt _ (by decide)
  have hd : 8 * (L / 8) ≤ L := by omega
  have hh : V / 2 ^ (8 * (L / 8)) < 2 ^ (L % 8) := by
    have : L = 8 * (L / 8) + L % 8 := by omega
    rw [this, Nat.pow_add] at hV
    exact Nat.div_lt_of_lt_mul hV
  have hp8 : 2 ^ (L % 8) ≤ 2 ^ 7 := Nat.pow_le_pow_right (by decide) (by omega)
  have hpn : 2 ^ n ≤ 2 ^ 16 := Nat.pow_le_pow_right (by decide) hn
  have hxm : x * 2 ^ (L % 8) < 2 ^ 24 := Nat.lt_of_lt_of_le (Nat.mul_lt_mul_of_lt_of_le hx hp8 (Nat.pow_pos (by decide))) (by rw [show (2 : Nat) ^ 24 = 2 ^ 16 * 2 ^ 8 by decide]; exact Nat.mul_le_mul hpn (by decide))
  have e1 : (V + x * 2 ^ L) / 2 ^ (8 * (L / 8)) = V / 2 ^ (8 * (L / 8)) + x * 2 ^ (L % 8) := by
    rw [div_add_pow hd, show L - 8 * (L / 8) = L % 8 by omega]
  have hP2 : PX v (L / 8) (V + x * 2 ^ L) := by
    intro k hk
    rw [hP k hk, div_add_pow (show 8 * k ≤ L by omega), show L - 8 * k = 8 + (L - 8 * k - 8) by omega, Nat.pow_add, Nat.mul_left_comm, show (2 : Nat) ^ 8 = 256 from rfl, Nat.add_mul_mod_self_left]
  obtain ⟨v', p1, p2⟩ := Row_put_loop (N := N) hr hw (l1 := nI x) (l2 := nI n) (V := V + x * 2 ^ L) ((L % 8 + n) / 8) (L % 8 + n) (L / 8) N v rfl (by omega) (by omega) (by rw [show 8 * (L / 8) + (L % 8 + n) = L + n by omega]; exact hV') (by omega) hP2
  have eq1 : L / 8 + (L % 8 + n) / 8 = (L + n) / 8 := by omega
  have eq2 : L % 8 + n - 8 * ((L % 8 + n) / 8) = (L + n) % 8 := by omega
  rw [eq1, eq2] at p1
  rw [eq1] at p2
  refine ⟨_, _, _, v', ?_, rfl, rfl, rfl, hV', p2⟩
  unfold f_Row_put
  simp only [nm]
  rw [shl_n (by omega) (by omega), nI_or (by omega) (by omega), or_add hh, nI_add, ← e1, p1]
theorem BX_fill {used held many : Int32} {v : Nat → Int64} {L V n : Nat} (h : BX used held many v (L + n) (V + 0 * 2 ^ L)) : BX used held many v (L + n) V := by
  rw [Nat.zero_mul, Nat.add_zero] at h
  exact h
/-- up to the end of a byte -/
def up8 (L : Nat) : Nat := (L + 7) / 8 * 8
theorem Row_pad_ok {N room nw : Nat} (hN : 4 ≤ N) (hr : room ≤ 8 * nw) (hw : nw < 2 ^ 27) {used held many : Int32} {v : Nat → Int64} {L V : Nat} (hB : BX used held many v L V) (hroom : (L + 7) / 8 ≤ room) :
    ∃ used' held' many' v', f_Row_pad N (nI room) nw used held many v = some (used', held', many', v') ∧ BX used' held' many' v' (up8 L) V := by
  have hm : many = nI (L % 8) := hB.2.1
  unfold f_Row_pad
  by_cases h : L % 8 = 0
  · rw [hm, if_pos (le0 h), ← hm]
    refine ⟨used, held, many, v, rfl, ?_⟩
    rw [show up8 L = L by unfold up8; omega]
    exact hB
  · have hlt : L % 8 < 8 := Nat.mod_lt _ (by decide)
    obtain ⟨used', held', many', v', p1, p2⟩ := Row_put_ok (N := N) hN hr hw hB (x := 0) (n := 8 - L % 8) (by omega) (Nat.pow_pos (by decide)) (by omega)
    have p2 := BX_fill p2
    rw [show L + (8 - L % 8) = up8 L by unfold up8; omega] at p2
    refine ⟨used', held', many', v', ?_, p2⟩
    have e8 : (8 : Int32) - many = nI (8 - L % 8) := by rw [hm]; exact pk_sub (a := 8) (by omega)
    rw [if_neg (by rw [hm]; exact nle0 (by omega) (by omega)), e8, show (0 : Int32) = nI 0 from rfl, p1]
    rfl
theorem Row_finish_ok {N room nw : Nat} (hN : 4 ≤ N) (hr : room ≤ 8 * nw) (hw : nw < 2 ^ 27) {used held many : Int32} {v : Nat → Int64} {L V : Nat} (hB : BX used held many v L V) (hroom : (L + 8) / 8 ≤ room) :
    ∃ used' held' many' v', f_Row_finish N (nI room) nw used held many v = some (used', held', many', v') ∧ BX used' held' many' v' (up8 (L + 1)) (V + 2 ^ L) := by
  obtain ⟨u1, h1, m1, v1, p1, p2⟩ := Row_put_ok (N := N) hN hr hw hB (x := 1) (n := 1) (by decide) (by decide) (by omega)
  rw [Nat.one_mul] at p2
  obtain ⟨u2, h2, m2, v2, q1, q2⟩ := Row_pad_ok (N := N) hN hr hw p2 (by omega)
  refine ⟨u2, h2, m2, v2, ?_, q2⟩
  unfold f_Row_finish
  rw [show (1 : Int32) = nI 1 from rfl, p1]
  simp only [bd4]
  rw [q1]
/-! ===== the reference's bits ===== -/
def BY (bm : Int32) (made : Nat → Int32) (L V : Nat) : Prop := bm = nI L ∧ V < 2 ^ L ∧ ∀ k, k < 6000 → made k = nI (V / 2 ^ (8 * k) % 256)
theorem byte_add {V p b k : Nat} (hV : V < 2 ^ p) (hb : b < 2) : (V + b * 2 ^ p) / 2 ^ (8 * k) % 256 = if k = p / 8 then V / 2 ^ (8 * k) % 256 + b * 2 ^ (p % 8) else V / 2 ^ (8 * k) % 256 := by
  by_cases h1 : k = p / 8
  · rw [if_pos h1, div_add_pow (show 8 * k ≤ p by omega), show p - 8 * k = p % 8 by omega]
    have h2 : V / 2 ^ (8 * k) < 2 ^ (p % 8) := by
      have e : p = 8 * k + p % 8 := by omega
      have hV2 : V < 2 ^ (8 * k) * 2 ^ (p % 8) := by rw [← Nat.pow_add, ← e]; exact hV
      exact Nat.div_lt_of_lt_mul hV2
    have h3 : 2 ^ (p % 8) ≤ 2 ^ 7 := Nat.pow_le_pow_right (by decide) (by omega)
    have h4 : b * 2 ^ (p % 8) ≤ 1 * 2 ^ (p % 8) := Nat.mul_le_mul_right _ (by omega)
    rw [Nat.mod_eq_of_lt (show V / 2 ^ (8 * k) < 256 by omega), Nat.mod_eq_of_lt (by omega)]
  · rw [if_neg h1]
    by_cases h2 : k < p / 8
    · rw [div_add_pow (show 8 * k ≤ p by omega), show p - 8 * k = 8 + (p - 8 * k - 8) by omega, Nat.pow_add, Nat.mul_left_comm, show (2 : Nat) ^ 8 = 256 from rfl, Nat.add_mul_mod_self_left]
    · have h3 : 2 ^ (p + 1) ≤ 2 ^ (8 * k) := Nat.pow_le_pow_right (by decide) (by omega)
      have h4 : V + b * 2 ^ p < 2 ^ (p + 1) := V_lt (n := 1) hV (by omega)
      rw [Nat.div_eq_of_lt (by omega), Nat.div_eq_of_lt (by have : 2 ^ p ≤ 2 ^ (p + 1) := Nat.pow_le_pow_right (by decide) (by omega); omega)]
theorem MM_put_loop {N x : Nat} (hx : x < 2 ^ 31) {V L n : Nat} (hn : n < 32) (hL : L + n ≤ 48000) : ∀ (d i z : Nat) (made : Nat → Int32), n = i + d → d < z → BY (nI (L + i)) made (L + i) (V + x % 2 ^ i * 2 ^ L) →
    ∃ made', f_MM_put_b2 N (nI x) (nI n) z (nI i) (nI (L + i)) made = some (nI (L + n), made') ∧ BY (nI (L + n)) made' (L + n) (V + x % 2 ^ n * 2 ^ L) := by
  intro d
  induction d with
  | zero =>
    intro i z made h1 h2 hB
    obtain ⟨z, rfl⟩ := z_succ h2
    obtain rfl : i = n := by omega
    refine ⟨made, ?_, hB⟩
    rw [f_MM_put_b2, if_pos (nI_le (by omega) (by omega))]
  | succ d ih =>
    intro i z made h1 h2 hB
    obtain ⟨z, rfl⟩ := z_succ h2
    obtain ⟨-, hV, hm⟩ := hB
    have hbit : x / 2 ^ i % 2 < 2 := Nat.mod_lt _ (by decide)
    have eV : V + x % 2 ^ (i + 1) * 2 ^ L = (V + x % 2 ^ i * 2 ^ L) + x / 2 ^ i % 2 * 2 ^ (L + i) := by
      rw [Nat.mod_pow_succ, Nat.add_mul, Nat.pow_add, Nat.mul_comm (2 ^ i) (x / 2 ^ i % 2), Nat.mul_assoc, Nat.mul_comm (2 ^ i) (2 ^ L)]; omega
    have hB' : BY (nI (L + (i + 1))) (upd made ((L + i) / 8) (made ((L + i) / 8) + nI (x / 2 ^ i % 2 * 2 ^ ((L + i) % 8)))) (L + (i + 1)) (V + x % 2 ^ (i + 1) * 2 ^ L) := by
      refine ⟨rfl, ?_, ?_⟩
      · rw [eV]; exact V_lt (n := 1) hV (by omega)
      · intro k hk
        rw [eV, byte_add hV hbit]
        by_cases e : k = (L + i) / 8
        · rw [if_pos e, ← e, pk_us, hm k hk, nI_add]
        · rw [if_neg e, pk_un e]; exact hm k hk
    obtain ⟨made', p1, p2⟩ := ih (i + 1) z _ (by omega) (by omega) hB'
    refine ⟨made', ?_, p2⟩
    have e1 : nI (L + i) / (8 : Int32) = nI ((L + i) / 8) := pk_div (d := 8) (by omega) (by decide) (by decide)
    have e2 : nI (L + i) - nI ((L + i) / 8) * 8 = nI ((L + i) % 8) := by
      rw [show nI ((L + i) / 8) * (8 : Int32) = nI ((L + i) / 8 * 8) from pk_mul _ 8, pk_sub (by omega)]
      congr 1; omega
    have e3 : nI (x / 2 ^ i) &&& 1 = nI (x / 2 ^ i % 2) := pk_andN (Nat.lt_of_le_of_lt (Nat.div_le_self _ _) (by omega)) 1 (by decide)
    have h7 : 2 ^ ((L + i) % 8) ≤ 2 ^ 7 := Nat.pow_le_pow_right (by decide) (by omega)
    have h8 : x / 2 ^ i % 2 * 2 ^ ((L + i) % 8) ≤ 1 * 2 ^ 7 := Nat.mul_le_mul (by omega) h7
    rw [f_MM_put_b2, if_neg (nI_ge (by omega) (by omega)), e1, ck_n (by omega) (by decide), ck_n (by omega) (by decide), nI_clamp (by omega), shr_n hx (by omega), e3, e2, shl_n (by omega) (by omega)]
    simp only [nm]
    rw [nI_1, nI_1, show L + i + 1 = L + (i + 1) by omega, p1]
theorem MM_put_ok {N x : Nat} {V L n : Nat} (hN : 33 ≤ N) (hn : n ≤ 16) (hx : x < 2 ^ n) (hL : L + n ≤ 48000) {bm : Int32} {made : Nat → Int32} (hB : BY bm made L V) :
    ∃ made', f_MM_put N (nI x) (nI n) bm made = some (nI (L + n), made') ∧ BY (nI (L + n)) made' (L + n) (V + x * 2 ^ L) := by
  have hpn : 2 ^ n ≤ 2 ^ 16 := Nat.pow_le_pow_right (by decide) hn
  have h0 : V + x % 2 ^ 0 * 2 ^ L = V := by rw [Nat.pow_zero, Nat.mod_one, Nat.zero_mul, Nat.add_zero]
  obtain ⟨made', p1, p2⟩ := MM_put_loop (N := N) (x := x) (by omega) (V := V) (L := L) (n := n) (by omega) hL n 0 N made (by omega) (by omega) (by rw [h0]; exact ⟨rfl, hB.2⟩)
  rw [Nat.mod_eq_of_lt hx] at p2
  refine ⟨made', ?_, p2⟩
  rw [hB.1]
  exact p1
theorem MM_fill_ok {N L : Nat} (hL : L + 7 ≤ 48007) : f_MM_fill N (nI L) = some (nI (up8 L)) := by
  unfold f_MM_fill
  simp only [nm]
  rw [show nI L + (7 : Int32) = nI (L + 7) from nI_add L 7, show nI (L + 7) / (8 : Int32) = nI ((L + 7) / 8) from pk_div (d := 8) (by omega) (by decide) (by decide), show nI ((L + 7) / 8) * (8 : Int32) = nI ((L + 7) / 8 * 8) from pk_mul _ 8]
  rfl
theorem BY_fill {bm : Int32} {made : Nat → Int32} {L V : Nat} (hB : BY bm made L V) : BY (nI (up8 L)) made (up8 L) V :=
  ⟨rfl, Nat.lt_of_lt_of_le hB.2.1 (Nat.pow_le_pow_right (by decide) (by unfold up8; omega)), hB.2.2⟩
