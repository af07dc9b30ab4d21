/-! ===== write, again ===== -/
/-- byte i of eight, the highest first -/
def byt (e : Int64) (i : Nat) : Nat := (Int64.toInt32 ((Int64.toUInt64 e >>> (Int64.toUInt64 (Int32.toInt64 (56 - (8 * nI i))) &&& Int64.toUInt64 63)).toInt64)).toBitVec.toNat % 256
theorem byt_lt (e : Int64) (i : Nat) : byt e i < 256 := Nat.mod_lt _ (by decide)
theorem byt_e (e : Int64) (i : Nat) : ((Int64.toInt32 ((Int64.toUInt64 e >>> (Int64.toUInt64 (Int32.toInt64 (56 - (8 * nI i))) &&& Int64.toUInt64 63)).toInt64)) &&& 255) = nI (byt e i) := pk_and _ 8 (by decide)
theorem z_succ {z d : Nat} (h : d < z) : ∃ y, z = y + 1 := ⟨z - 1, by omega⟩
theorem PM_write_loop {N : Nat} {e : Int64} {m : Nat} (hm : m ≤ 8) : ∀ (d i z n : Nat) (v : Nat → Int64), m = i + d → d < z → n + d ≤ 6000 →
    ∃ v', f_PM_write_b31 N (nI 6000) 751 e (nI m) z (nI i) (nI n) v = some (1, nI (n + d), v') ∧ (∀ k, k < n → wby v' k = wby v k) ∧ ∀ j, j < d → wby v' (n + j) = byt e (i + j) := by
  intro d
  induction d with
  | zero =>
    intro i z n v h1 h2 h3
    obtain ⟨z, rfl⟩ := z_succ h2
    refine ⟨v, ?_, fun k _ => rfl, fun j hj => absurd hj (by omega)⟩
    rw [f_PM_write_b31, if_pos (nI_le (by omega) (by omega))]
    rfl
  | succ d ih =>
    intro i z n v h1 h2 h3
    obtain ⟨z, rfl⟩ := z_succ h2
    obtain ⟨v1, e1, a1, b1⟩ := Row_add_ok (N := N) (n_words := 751) (room := 6000) (n := n) (x := byt e i) (v := v) (by omega) (by decide) (by decide) (byt_lt e i)
    obtain ⟨v2, e2, a2, b2⟩ := ih (i + 1) z (n + 1) v1 (by omega) (by omega) (by omega)
    refine ⟨v2, ?_, ?_, ?_⟩
    · rw [f_PM_write_b31, if_neg (nI_ge (by omega) (by omega)), byt_e, e1]
      simp only [bd2, nm]
      rw [nI_1, e2, show n + 1 + d = n + (d + 1) by omega]
    · intro k hk
      rw [a2 k (by omega), b1 k (by omega)]
    · intro j hj
      by_cases hj0 : j = 0
      · subst hj0
        rw [Nat.add_zero, Nat.add_zero, a2 n (by omega)]
        exact a1
      · have := b2 (j - 1) (by omega)
        rw [show n + 1 + (j - 1) = n + j by omega, show i + 1 + (j - 1) = i + j by omega] at this
        exact this
theorem MM_write_loop {N : Nat} {e : Int64} {m : Nat} (hm : m ≤ 8) : ∀ (d i z n : Nat) (v : Nat → Int32), m = i + d → d < z → n + d ≤ 6000 →
    ∃ v', f_MM_write_b28 N e (nI m) z (nI i) (nI n) v = some (1, nI (n + d), v') ∧ (∀ k, k < n → v' k = v k) ∧ ∀ j, j < d → v' (n + j) = nI (byt e (i + j)) := by
  intro d
  induction d with
  | zero =>
    intro i z n v h1 h2 h3
    obtain ⟨z, rfl⟩ := z_succ h2
    refine ⟨v, ?_, fun k _ => rfl, fun j hj => absurd hj (by omega)⟩
    rw [f_MM_write_b28, if_pos (nI_le (by omega) (by omega))]
    rfl
  | succ d ih =>
    intro i z n v h1 h2 h3
    obtain ⟨z, rfl⟩ := z_succ h2
    obtain ⟨v2, e2, a2, b2⟩ := ih (i + 1) z (n + 1) (upd v n (nI (byt e i))) (by omega) (by omega) (by omega)
    refine ⟨v2, ?_, ?_, ?_⟩
    · rw [f_MM_write_b28, if_neg (nI_ge (by omega) (by omega)), byt_e, ck_n (by omega) (by decide), nI_clamp (by omega)]
      simp only [nm]
      rw [nI_1, nI_1, e2, show n + 1 + d = n + (d + 1) by omega]
    · intro k hk
      rw [a2 k (by omega), pk_un (by omega)]
    · intro j hj
      by_cases hj0 : j = 0
      · subst hj0
        rw [Nat.add_zero, Nat.add_zero, a2 n (by omega)]
        exact pk_us
      · have := b2 (j - 1) (by omega)
        rw [show n + 1 + (j - 1) = n + j by omega, show i + 1 + (j - 1) = i + j by omega] at this
        exact this
/-- IN (or OUT) as both have it: n bytes B -/
def RowX (v : Nat → Int64) (n : Nat) (B : Nat → Nat) : Prop := ∀ k, k < n → wby v k = B k
def RowY (v : Nat → Int32) (n : Nat) (B : Nat → Nat) : Prop := ∀ k, k < n → v k = nI (B k)
/-- the same bytes on both sides -/
def Same (vx : Nat → Int64) (vy : Nat → Int32) (n : Nat) : Prop := ∀ k, k < n → vy k = nI (wby vx k)
theorem sim_write {N n : Nat} (hN : 10 ≤ N) {vx : Nat → Int64} {vy : Nat → Int32} (hn : n ≤ 6000) (hs : Same vx vy n) (e : Int64) (m : Int32) :
    ∃ r n' vx' vy', f_PM_write N (nI 6000) 751 e m (nI n) vx = some (r, nI n', vx') ∧ f_MM_write N e m (nI n) vy = some (r, nI n', vy') ∧ n ≤ n' ∧ n' ≤ 6000 ∧ Same vx' vy' n' := by
  unfold f_PM_write f_MM_write
  by_cases h1 : m < 1
  · rw [if_pos h1, if_pos h1]
    exact ⟨0, n, vx, vy, rfl, rfl, Nat.le_refl _, hn, hs⟩
  rw [if_neg h1, if_neg h1]
  by_cases h2 : 8 < m
  · rw [if_pos h2, if_pos h2]
    exact ⟨0, n, vx, vy, rfl, rfl, Nat.le_refl _, hn, hs⟩
  rw [if_neg h2, if_neg h2]
  obtain ⟨k, hk, rfl⟩ : ∃ k : Nat, k ≤ 8 ∧ m = nI k := by
    have a1 : ¬ m.toInt < 1 := fun q => h1 (Int32.lt_iff_toInt_lt.mpr q)
    have a2 : ¬ 8 < m.toInt := fun q => h2 (Int32.lt_iff_toInt_lt.mpr q)
    refine ⟨m.toInt.toNat, by omega, Int32.toInt_inj.mp ?_⟩
    rw [nI_toInt (by omega)]
    omega
  have e1 : (6000 : Int32) - nI n = nI (6000 - n) := pk_sub hn
  rw [e1, nI_add]
  by_cases h3 : n + k ≤ 6000
  · rw [if_pos (nI_le (by omega) (by omega)), if_pos (show nI (n + k) ≤ (6000 : Int32) from le_lit (b := 6000) h3 (by decide))]
    obtain ⟨vx', p1, p2, p3⟩ := PM_write_loop (N := N) (e := e) hk k 0 N n vx (by omega) (by omega) h3
    obtain ⟨vy', q1, q2, q3⟩ := MM_write_loop (N := N) (e := e) hk k 0 N n vy (by omega) (by omega) h3
    refine ⟨1, n + k, vx', vy', p1, q1, by omega, h3, ?_⟩
    intro j hj
    by_cases hj1 : j < n
    · rw [q2 j hj1, p2 j hj1]
      exact hs j hj1
    · have a := p3 (j - n) (by omega)
      have b := q3 (j - n) (by omega)
      rw [show n + (j - n) = j by omega] at a b
      rw [a, b]
  · rw [if_neg (fun q => h3 (by have := (nI_leI (by omega) (by omega)).mp q; omega)), if_neg (fun q : nI (n + k) ≤ (6000 : Int32) => h3 ((nI_leI (by omega) (by decide)).mp q))]
    exact ⟨0, n, vx, vy, rfl, rfl, Nat.le_refl _, hn, hs⟩
