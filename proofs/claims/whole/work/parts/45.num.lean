/-! ===== lN n to 2^64: shifts, and, or, masks, one bit ===== -/
theorem wb_tb (n : Nat) : (lN n).toBitVec = BitVec.ofNat 64 n := rfl
theorem wb_inj {a b : Int64} (h : a.toBitVec = b.toBitVec) : a = b := Int64.toBitVec_inj.mp h
theorem wb_tn {n : Nat} (h : n < 2 ^ 64) : (lN n).toBitVec.toNat = n := by rw [wb_tb, BitVec.toNat_ofNat, Nat.mod_eq_of_lt h]
theorem wb_of (x : Int64) : ∃ n, n < 2 ^ 64 ∧ x = lN n := ⟨x.toBitVec.toNat, x.toBitVec.isLt, wb_inj (by rw [wb_tb]; simp)⟩
theorem wb_of32 (x : Int32) : ∃ n, n < 2 ^ 32 ∧ x = nI n := ⟨x.toBitVec.toNat, x.toBitVec.isLt, Int32.toBitVec_inj.mp (by show _ = BitVec.ofNat 32 _; simp)⟩
theorem wb_c : ∀ k, k < 64 → ((nI k).toInt64 &&& 63) = lN k := by decide +kernel
theorem wb_cu : ∀ k, k < 64 → ((nI k).toInt64.toUInt64 &&& Int64.toUInt64 63) = UInt64.ofNat k := by decide +kernel
theorem wb_sm : ∀ k, k < 64 → (BitVec.ofNat 64 k).smod 64 = BitVec.ofNat 64 k := by decide +kernel
theorem wb_pw {a b : Nat} (h : a ≤ b) : 2 ^ b = 2 ^ a * 2 ^ (b - a) := by rw [← Nat.pow_add]; congr 1; omega
theorem wb_lt2 {a b : Nat} (h : a < b) : 2 ^ a < 2 ^ b := Nat.pow_lt_pow_right (by decide) h
theorem wb_mod (n : Nat) : lN n = lN (n % 2 ^ 64) := wb_inj (by rw [wb_tb, wb_tb]; apply BitVec.eq_of_toNat_eq; rw [BitVec.toNat_ofNat, BitVec.toNat_ofNat, Nat.mod_mod])
theorem wb_shr {n k : Nat} (hn : n < 2 ^ 64) (hk : k < 64) : ((lN n).toUInt64 >>> ((nI k).toInt64.toUInt64 &&& Int64.toUInt64 63)).toInt64 = lN (n / 2 ^ k) := by
  rw [wb_cu k hk]
  apply wb_inj
  apply BitVec.eq_of_toNat_eq
  show ((lN n).toUInt64 >>> UInt64.ofNat k).toNat = (BitVec.ofNat 64 _).toNat
  have h1 : (UInt64.ofNat k).toNat = k := by
    show (BitVec.ofNat 64 k).toNat = k
    rw [BitVec.toNat_ofNat, Nat.mod_eq_of_lt (by omega)]
  have h2 : (lN n).toUInt64.toNat = n := wb_tn hn
  rw [UInt64.toNat_shiftRight, h1, h2, Nat.mod_eq_of_lt hk, Nat.shiftRight_eq_div_pow, BitVec.toNat_ofNat, Nat.mod_eq_of_lt (Nat.lt_of_le_of_lt (Nat.div_le_self _ _) hn)]
theorem wb_shl (n : Nat) {k : Nat} (hk : k < 64) : lN n <<< ((nI k).toInt64 &&& 63) = lN (n * 2 ^ k) := by
  rw [wb_c k hk]
  apply wb_inj
  rw [Int64.toBitVec_shiftLeft, wb_tb, wb_tb, wb_tb, wb_sm k hk]
  apply BitVec.eq_of_toNat_eq
  rw [BitVec.shiftLeft_eq', BitVec.toNat_shiftLeft, BitVec.toNat_ofNat, BitVec.toNat_ofNat, BitVec.toNat_ofNat, Nat.mod_eq_of_lt (show k < 2 ^ 64 by omega), Nat.shiftLeft_eq, Nat.mul_mod, Nat.mod_mod, ← Nat.mul_mod]
theorem wb_and {a b : Nat} (ha : a < 2 ^ 64) (hb : b < 2 ^ 64) : lN a &&& lN b = lN (a &&& b) := by
  apply wb_inj
  rw [Int64.toBitVec_and, wb_tb, wb_tb, wb_tb]
  apply BitVec.eq_of_toNat_eq
  rw [BitVec.toNat_and, BitVec.toNat_ofNat, BitVec.toNat_ofNat, BitVec.toNat_ofNat, Nat.mod_eq_of_lt ha, Nat.mod_eq_of_lt hb, Nat.mod_eq_of_lt (Nat.and_lt_two_pow _ hb)]
theorem wb_or {a b : Nat} (ha : a < 2 ^ 64) (hb : b < 2 ^ 64) : lN a ||| lN b = lN (a ||| b) := by
  apply wb_inj
  rw [Int64.toBitVec_or, wb_tb, wb_tb, wb_tb]
  apply BitVec.eq_of_toNat_eq
  rw [BitVec.toNat_or, BitVec.toNat_ofNat, BitVec.toNat_ofNat, BitVec.toNat_ofNat, Nat.mod_eq_of_lt ha, Nat.mod_eq_of_lt hb, Nat.mod_eq_of_lt (Nat.or_lt_two_pow ha hb)]
theorem wb_mask {n k : Nat} (hn : n < 2 ^ 64) (hk : k < 64) : lN n &&& lN (2 ^ k - 1) = lN (n % 2 ^ k) := by
  rw [wb_and hn (by have := wb_lt2 hk; omega), Nat.and_two_pow_sub_one_eq_mod]
theorem wb_a1 {n : Nat} (hn : n < 2 ^ 64) : lN n &&& 1 = lN (n % 2) := wb_mask (k := 1) hn (by decide)
theorem wb_bit {n k : Nat} (hn : n < 2 ^ 64) (hk : k < 64) : ((lN n).toUInt64 >>> ((nI k).toInt64.toUInt64 &&& Int64.toUInt64 63)).toInt64 &&& 1 = lN (n / 2 ^ k % 2) := by
  rw [wb_shr hn hk, wb_a1 (Nat.lt_of_le_of_lt (Nat.div_le_self _ _) hn)]
theorem wb_xor {q k : Nat} (hk : k < 63) (h : 2 ^ k ≤ q) (h2 : q < 2 ^ (k + 1)) : lN q ^^^ lN (2 ^ k) = lN (q - 2 ^ k) := by
  obtain ⟨r, rfl⟩ : ∃ r, q = 2 ^ k + r := ⟨q - 2 ^ k, by omega⟩
  have hr : r < 2 ^ k := by rw [Nat.pow_succ] at h2; omega
  have hx : (2 ^ k + r) ^^^ 2 ^ k = r := by
    apply Nat.eq_of_testBit_eq
    intro i
    rw [Nat.testBit_xor, Nat.testBit_two_pow]
    rcases Nat.lt_trichotomy i k with h | h | h
    · rw [Nat.testBit_two_pow_add_gt h]
      simp [show ¬ k = i by omega]
    · subst h
      rw [Nat.testBit_two_pow_add_eq]
      simp
    · have a1 : 2 ^ (k + 1) ≤ 2 ^ i := Nat.pow_le_pow_right (by decide) h
      rw [Nat.testBit_lt_two_pow (show 2 ^ k + r < 2 ^ i by omega), Nat.testBit_lt_two_pow (show r < 2 ^ i by omega)]
      simp [show ¬ k = i by omega]
  have b1 := wb_lt2 (show k + 1 < 64 by omega)
  have b2 := wb_lt2 (show k < 64 by omega)
  apply wb_inj
  rw [Int64.toBitVec_xor, wb_tb, wb_tb, wb_tb]
  apply BitVec.eq_of_toNat_eq
  rw [BitVec.toNat_xor, BitVec.toNat_ofNat, BitVec.toNat_ofNat, BitVec.toNat_ofNat, Nat.mod_eq_of_lt (by omega : 2 ^ k + r < 2 ^ 64), Nat.mod_eq_of_lt b2, hx, Nat.add_sub_cancel_left, Nat.mod_eq_of_lt (by omega)]
/-! ===== numbers: Int32 as Nat ===== -/
theorem i_lit (n : Nat) : (OfNat.ofNat n : Int32) = nI n := rfl
theorem inb_n {k n : Nat} (h : k < n) (hn : n < 2 ^ 31) : inb (nI k) n = true := by
  unfold inb
  rw [nI_toInt (by omega)]
  exact decide_eq_true (by omega)
theorem ck_t {α : Type} {b : Bool} {k : Option α} (h : b = true) : ck b k = k := by subst h; rfl
theorem ck_n {α : Type} {k n : Nat} {o : Option α} (h : k < n) (hn : n < 2 ^ 31) : ck (inb (nI k) n) o = o := ck_t (inb_n h hn)
theorem nI_and255 (n : Nat) : nI n &&& 255 = nI (n % 256) := by
  rw [pk_and (nI n) (m := 255) 8 (by decide)]
  congr 1
  show (BitVec.ofNat 32 n).toNat % 2 ^ 8 = n % 256
  rw [BitVec.toNat_ofNat]
  omega
theorem nI_and7 {n : Nat} (h : n < 2 ^ 31) : nI n &&& 7 = nI (n % 8) := pk_andN (by omega) 3 (by decide)
theorem nI_shr3 {n : Nat} (h : n < 2 ^ 31) : nI n >>> ((3 : Int32) &&& 31) = nI (n / 8) := pk_shrN h _ 3 (by decide)
theorem nI_8mul (n : Nat) : (8 : Int32) * nI n = nI (8 * n) := pk_mul 8 n
/-! ===== bytes of a row of longs ===== -/
def wby (v : Nat → Int64) (k : Nat) : Nat := (v (k / 8)).toBitVec.toNat / 2 ^ (8 * (k % 8)) % 256
theorem wby_lt (v : Nat → Int64) (k : Nat) : wby v k < 256 := Nat.mod_lt _ (by decide)
theorem Row_get_in {N n_words : Nat} {v : Nat → Int64} {n k : Nat} (hk : k < n) (hn : n ≤ 8 * n_words) (hw : n_words < 2 ^ 27) : f_Row_get N (nI n) n_words v (nI k) = some (nI (wby v k)) := by
  unfold f_Row_get
  rw [if_neg (nI_pos (by omega)), if_pos (nI_lt hk (by omega)), nI_shr3 (by omega), ck_n (by omega) (by omega), nI_clamp (by omega), nI_and7 (by omega), nI_8mul]
  obtain ⟨w, hw1, ew⟩ := wb_of (v (k / 8))
  unfold wby
  rw [ew, wb_shr hw1 (by omega), lN_i, nI_and255, wb_tn hw1]
theorem Row_get_out {N n_words : Nat} {v : Nat → Int64} {n k : Nat} (hk : n ≤ k) (hk2 : k < 2 ^ 31) : f_Row_get N (nI n) n_words v (nI k) = some (-1) := by
  unfold f_Row_get f_Row_get_b12
  rw [if_neg (nI_pos (by omega)), if_neg (nI_nlt hk (by omega))]
theorem Row_get_neg {N n_words : Nat} {v : Nat → Int64} {u k : Int32} (hk : k < 0) : f_Row_get N u n_words v k = some (-1) := by
  unfold f_Row_get f_Row_get_b12
  rw [if_pos hk]
/-! a byte put into a number of 64 bits -/
theorem put8 {w x j : Nat} (hw : w < 2 ^ 64) (hx : x < 256) (hj : j < 8) (i : Nat) (hi : i < 8) :
    ((w &&& (255 * 2 ^ (8 * j) ^^^ (2 ^ 64 - 1))) ||| x * 2 ^ (8 * j)) / 2 ^ (8 * i) % 256 = if i = j then x else w / 2 ^ (8 * i) % 256 := by
  apply Nat.eq_of_testBit_eq
  intro b
  have h256 : (256 : Nat) = 2 ^ 8 := rfl
  have h255 : (255 : Nat) = 2 ^ 8 - 1 := rfl
  by_cases hb : b < 8
  · by_cases e : i = j
    · subst e
      rw [if_pos rfl, h256, Nat.testBit_mod_two_pow, Nat.testBit_div_two_pow, Nat.testBit_or, Nat.testBit_and, Nat.testBit_xor, Nat.testBit_mul_two_pow, Nat.testBit_mul_two_pow, Nat.testBit_two_pow_sub_one, h255, Nat.testBit_two_pow_sub_one]
      have e1 : b + 8 * i - 8 * i = b := by omega
      simp [hb, e1, show b + 8 * i < 64 by omega]
    · rw [if_neg e, h256, Nat.testBit_mod_two_pow, Nat.testBit_mod_two_pow, Nat.testBit_div_two_pow, Nat.testBit_div_two_pow, Nat.testBit_or, Nat.testBit_and, Nat.testBit_xor, Nat.testBit_mul_two_pow, Nat.testBit_mul_two_pow, Nat.testBit_two_pow_sub_one, h255, Nat.testBit_two_pow_sub_one]
      have hx8 : ∀ c, 8 ≤ c → x.testBit c = false := fun c hc => Nat.testBit_lt_two_pow (Nat.lt_of_lt_of_le hx (by rw [h256]; exact Nat.pow_le_pow_right (by decide) hc))
      by_cases h1 : 8 * j ≤ b + 8 * i
      · have h2 : 8 ≤ b + 8 * i - 8 * j := by omega
        simp [hb, h1, hx8 _ h2, show ¬ (b + 8 * i - 8 * j < 8) by omega, show b + 8 * i < 64 by omega]
      · simp [hb, h1, show b + 8 * i < 64 by omega]
  · have z : ∀ y, (y % 256).testBit b = false := fun y => by rw [h256, Nat.testBit_mod_two_pow]; simp [hb]
    rw [z]
    split
    · exact (Nat.testBit_lt_two_pow (Nat.lt_of_lt_of_le hx (by rw [h256]; exact Nat.pow_le_pow_right (by decide) (by omega)))).symm
    · rw [z]
theorem Row_add_ok {N n_words room n x : Nat} {v : Nat → Int64} (hn : n < room) (hr : room ≤ 8 * n_words) (hw : n_words < 2 ^ 27) (hx : x < 256) :
    ∃ v', f_Row_add N (nI room) n_words (nI x) (nI n) v = some (nI (n + 1), v') ∧ wby v' n = x ∧ ∀ k, k ≠ n → wby v' k = wby v k := by
  unfold f_Row_add
  rw [if_neg (nI_ge hn (by omega))]
  simp only [nm]
  rw [nI_shr3 (by omega), ck_n (by omega) (by omega), ck_n (by omega) (by omega), nI_clamp (by omega), nI_and7 (by omega), nI_8mul]
  obtain ⟨w, hw1, ew⟩ := wb_of (v (n / 8))
  have e255 : ((255 : Int64) <<< (Int32.toInt64 (nI (8 * (n % 8))) &&& 63)) = lN (255 * 2 ^ (8 * (n % 8))) := wb_shl 255 (by omega)
  have h8 : 2 ^ (8 * (n % 8)) ≤ 2 ^ 56 := Nat.pow_le_pow_right (by decide) (by omega)
  have hlt : 255 * 2 ^ (8 * (n % 8)) < 2 ^ 64 := Nat.lt_of_le_of_lt (Nat.mul_le_mul_left 255 h8) (by decide)
  have exor : lN (255 * 2 ^ (8 * (n % 8))) ^^^ (-1) = lN (255 * 2 ^ (8 * (n % 8)) ^^^ (2 ^ 64 - 1)) := by
    apply wb_inj
    rw [Int64.toBitVec_xor, wb_tb, wb_tb]
    apply BitVec.eq_of_toNat_eq
    rw [BitVec.toNat_xor, BitVec.toNat_ofNat, BitVec.toNat_ofNat, Nat.mod_eq_of_lt hlt, Nat.mod_eq_of_lt (Nat.xor_lt_two_pow hlt (by decide))]
    rfl
  have hxor : 255 * 2 ^ (8 * (n % 8)) ^^^ (2 ^ 64 - 1) < 2 ^ 64 := Nat.xor_lt_two_pow hlt (by decide)
  have ex : (Int32.toInt64 (nI x) &&& 255) = lN x := by
    rw [nI_l (by omega)]
    have := wb_mask (n := x) (k := 8) (by omega) (by decide)
    rw [Nat.mod_eq_of_lt hx] at this
    exact this
  have hxl : x * 2 ^ (8 * (n % 8)) < 2 ^ 64 := Nat.lt_of_le_of_lt (Nat.mul_le_mul (show x ≤ 255 by omega) h8) (by decide)
  rw [ew, e255, exor, ex, wb_shl x (by omega), wb_and hw1 hxor, wb_or (Nat.lt_of_le_of_lt Nat.and_le_left hw1) hxl]
  have hW : (w &&& (255 * 2 ^ (8 * (n % 8)) ^^^ (2 ^ 64 - 1))) ||| x * 2 ^ (8 * (n % 8)) < 2 ^ 64 := Nat.or_lt_two_pow (Nat.lt_of_le_of_lt Nat.and_le_left hw1) hxl
  refine ⟨_, by rw [nI_1], ?_, ?_⟩
  · unfold wby
    rw [pk_uLs, wb_tn hW, put8 hw1 hx (by omega) (n % 8) (by omega), if_pos rfl]
  · intro k hk
    unfold wby
    by_cases e : k / 8 = n / 8
    · rw [e, pk_uLs, wb_tn hW, put8 hw1 hx (by omega) (k % 8) (by omega), if_neg (by omega), ew, wb_tn hw1]
    · rw [pk_uLn e]
theorem le256 {s : Nat} (h : 256 ≤ s) (hs : s < 2 ^ 31) : (256 : Int32) ≤ nI s := nI_le (a := 256) h hs
theorem nle256 {s : Nat} (h : s < 256) : ¬ (256 : Int32) ≤ nI s := nI_ge (b := 256) h (by decide)
theorem le0 {a : Nat} (h : a = 0) : nI a ≤ (0 : Int32) := by subst h; exact nI_le (a := 0) (b := 0) (Nat.le_refl _) (by decide)
theorem nle0 {a : Nat} (h : 0 < a) (ha : a < 2 ^ 31) : ¬ nI a ≤ (0 : Int32) := nI_ge (a := 0) h ha
theorem le_lit {a b : Nat} (h : a ≤ b) (hb : b < 2 ^ 31) : nI a ≤ (OfNat.ofNat b : Int32) := nI_le (b := b) h hb
theorem nle_lit {a b : Nat} (h : b < a) (ha : a < 2 ^ 31) : ¬ nI a ≤ (OfNat.ofNat b : Int32) := nI_ge (a := b) h ha
theorem le_lit_of {a b : Nat} (ha : a < 2 ^ 31) (hb : b < 2 ^ 31) (h : nI a ≤ (OfNat.ofNat b : Int32)) : a ≤ b := (nI_leI (b := b) ha hb).mp h
