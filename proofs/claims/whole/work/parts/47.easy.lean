/-! ===== again ===== -/
theorem again_loop {N m q : Nat} {l2 : Int32} (hm0 : 1 ≤ m) (hq : q ≤ 6000) : ∀ (d i z n : Nat) (vx : Nat → Int64) (vy : Nat → Int32), q = i + d → d < z → m ≤ n → n + d ≤ 6000 → Same vx vy n →
    ∃ vx' vy', f_PM_again_b50 N (nI 6000) 751 (nI m) l2 z (nI q) (nI i) (nI n) vx = some (1, nI (n + d), vx') ∧ f_MM_again_b44 N (nI m) l2 z (nI q) (nI i) (nI n) vy = some (1, nI (n + d), vy') ∧ Same vx' vy' (n + d) := by
  intro d
  induction d with
  | zero =>
    intro i z n vx vy h1 h2 h3 h4 hs
    obtain ⟨z, rfl⟩ := z_succ h2
    refine ⟨vx, vy, ?_, ?_, hs⟩
    · rw [f_PM_again_b50, if_pos (nI_le (by omega) (by omega))]; rfl
    · rw [f_MM_again_b44, if_pos (nI_le (by omega) (by omega))]; rfl
  | succ d ih =>
    intro i z n vx vy h1 h2 h3 h4 hs
    obtain ⟨z, rfl⟩ := z_succ h2
    obtain ⟨v1, e1, a1, b1⟩ := Row_add_ok (N := N) (n_words := 751) (room := 6000) (n := n) (x := wby vx (n - m)) (v := vx) (by omega) (by decide) (by decide) (wby_lt _ _)
    have hs1 : Same v1 (upd vy n (vy (n - m))) (n + 1) := by
      intro k hk
      by_cases e : k = n
      · subst e
        rw [pk_us, a1, hs _ (by omega)]
      · rw [pk_un e, b1 k e, hs k (by omega)]
    obtain ⟨vx', vy', p1, p2, p3⟩ := ih (i + 1) z (n + 1) v1 (upd vy n (vy (n - m))) (by omega) (by omega) (by omega) (by omega) hs1
    rw [show n + 1 + d = n + (d + 1) by omega] at p1 p2 p3
    refine ⟨vx', vy', ?_, ?_, p3⟩
    · rw [f_PM_again_b50, if_neg (nI_ge (by omega) (by omega)), pk_sub h3, Row_get_in (by omega) (by omega) (by decide)]
      simp only [bd1]
      rw [e1]
      simp only [bd2, nm]
      rw [nI_1, p1]
    · rw [f_MM_again_b44, if_neg (nI_ge (by omega) (by omega)), pk_sub h3, ck_n (by omega) (by decide), ck_n (by omega) (by decide), nI_clamp (by omega), nI_clamp (by omega)]
      simp only [nm]
      rw [nI_1, nI_1, p2]
theorem nonneg_nI {x : Int32} (h : ¬ x < 0) : ∃ k : Nat, k < 2 ^ 31 ∧ x = nI k := nI_of h
theorem sim_again {N n : Nat} (hN : 6001 ≤ N) {vx : Nat → Int64} {vy : Nat → Int32} (hn : n ≤ 6000) (hs : Same vx vy n) (a b : Int32) :
    ∃ r n' vx' vy', f_PM_again N (nI 6000) 751 a b (nI n) vx = some (r, nI n', vx') ∧ f_MM_again N a b (nI n) vy = some (r, nI n', vy') ∧ n ≤ n' ∧ n' ≤ 6000 ∧ Same vx' vy' n' := by
  unfold f_PM_again f_MM_again
  by_cases h1 : a < 1
  · rw [if_pos h1, if_pos h1]; exact ⟨0, n, vx, vy, rfl, rfl, Nat.le_refl _, hn, hs⟩
  rw [if_neg h1, if_neg h1]
  by_cases h2 : nI n < a
  · rw [if_pos h2, if_pos h2]; exact ⟨0, n, vx, vy, rfl, rfl, Nat.le_refl _, hn, hs⟩
  rw [if_neg h2, if_neg h2]
  by_cases h3 : b < 0
  · rw [if_pos h3, if_pos h3]; exact ⟨0, n, vx, vy, rfl, rfl, Nat.le_refl _, hn, hs⟩
  rw [if_neg h3, if_neg h3]
  obtain ⟨m, hm, rfl⟩ : ∃ k : Nat, (1 ≤ k ∧ k ≤ n) ∧ a = nI k := by
    have a1 : ¬ a.toInt < 1 := fun q => h1 (Int32.lt_iff_toInt_lt.mpr q)
    have a2 : ¬ (n : Int) < a.toInt := fun q => h2 (Int32.lt_iff_toInt_lt.mpr (by rw [nI_toInt (by omega)]; exact q))
    refine ⟨a.toInt.toNat, by omega, Int32.toInt_inj.mp ?_⟩
    rw [nI_toInt (by omega)]
    omega
  obtain ⟨q, hq, rfl⟩ := nonneg_nI h3
  have hmq : m * q < 2 ^ 62 := Nat.lt_of_le_of_lt (Nat.mul_le_mul (show m ≤ 6000 by omega) (Nat.le_of_lt hq)) (by decide)
  have e1 : (6000 : Int32) - nI n = nI (6000 - n) := pk_sub hn
  rw [e1, nI_l (by omega), nI_l hq, nI_l (by omega), nI_l (by omega), lN_mul, lN_add]
  have c1 : (lg_cmp (lN (m * q)) (lN (6000 - n)) ≤ 0) ↔ n + m * q ≤ 6000 := by
    rw [lg_cmp_le, pk_lLE (by omega) (by omega)]; omega
  have c2 : (lg_cmp (lN (n + m * q)) 6000 ≤ 0) ↔ n + m * q ≤ 6000 := by
    rw [lg_cmp_le, show (6000 : Int64) = lN 6000 from rfl, pk_lLE (by omega) (by omega)]
  by_cases h4 : n + m * q ≤ 6000
  · rw [if_pos (c1.mpr h4), if_pos (c2.mpr h4)]
    simp only [nm]
    rw [pk_mul]
    obtain ⟨vx', vy', p1, p2, p3⟩ := again_loop (N := N) (l2 := nI q) (q := m * q) hm.1 (by omega) (m * q) 0 N n vx vy (by omega) (by omega) hm.2 h4 hs
    exact ⟨1, n + m * q, vx', vy', p1, p2, by omega, h4, p3⟩
  · rw [if_neg (fun z => h4 (c1.mp z)), if_neg (fun z => h4 (c2.mp z))]
    exact ⟨0, n, vx, vy, rfl, rfl, Nat.le_refl _, hn, hs⟩
/-! ===== turn ===== -/
theorem MM_turn_loop {N no : Nat} (hno : no ≤ 6000) {oy : Nat → Int32} {g : Int32} {il : Int32} : ∀ (d i z : Nat) (v : Nat → Int32), no = i + d → d < z →
    ∃ v', f_MM_turn_b2 N (nI no) oy z (nI i) il g v = some (nI no, 0, v') ∧ (∀ k, k < i → v' k = v k) ∧ ∀ k, i ≤ k → k < no → v' k = oy k := by
  intro d
  induction d with
  | zero =>
    intro i z v h1 h2
    obtain ⟨z, rfl⟩ := z_succ h2
    refine ⟨v, ?_, fun k _ => rfl, fun k h3 h4 => absurd h4 (by omega)⟩
    rw [f_MM_turn_b2, if_pos (nI_le (by omega) (by omega))]; rfl
  | succ d ih =>
    intro i z v h1 h2
    obtain ⟨z, rfl⟩ := z_succ h2
    obtain ⟨v', e, a, b⟩ := ih (i + 1) z (upd v i (oy i)) (by omega) (by omega)
    refine ⟨v', ?_, ?_, ?_⟩
    · rw [f_MM_turn_b2, if_neg (nI_ge (by omega) (by omega)), ck_n (by omega) (by decide), ck_n (by omega) (by decide), nI_clamp (by omega)]
      simp only [nm]
      rw [nI_1, e]
    · intro k hk
      rw [a k (by omega), pk_un (by omega)]
    · intro k h3 h4
      by_cases e5 : k = i
      · subst e5
        rw [a k (by omega), pk_us]
      · exact b k (by omega) h4
theorem Row_copy_ok {N no : Nat} (hno : no ≤ 6000) {ox v : Nat → Int64} {u : Int32} : ∃ v', f_Row_copy N (nI 6000) 751 (nI no) 751 ox u v = some (nI no, v') ∧ ∀ k, k < 6000 → wby v' k = wby ox k := by
  refine ⟨va_cpy ox v 0 0 751, ?_, ?_⟩
  · unfold f_Row_copy f_JMath_min
    rw [if_neg (by decide)]
    simp only [bd1, nm]
    rw [ck_t (by decide), if_neg (nI_nlt hno (by decide))]
    rfl
  · intro k hk
    unfold wby
    rw [pk_cpy_in (by omega) (by omega), show 0 + (k / 8 - 0) = k / 8 by omega]
theorem sim_turn {N no : Nat} (hN : 6001 ≤ N) (hno : no ≤ 6000) {ox v : Nat → Int64} {oy vy : Nat → Int32} (hs : Same ox oy no) {u il px py : Int32} :
    ∃ vx' vy', f_PM_turn N (nI 6000) 751 (nI no) 751 ox px u v = some (0, nI no, vx') ∧ f_MM_turn N (nI no) oy il py vy = some (nI no, 0, vy') ∧ Same vx' vy' no := by
  obtain ⟨vx', e1, a1⟩ := Row_copy_ok (N := N) hno (ox := ox) (v := v) (u := u)
  obtain ⟨vy', e2, -, b2⟩ := MM_turn_loop (N := N) hno (oy := oy) (g := py) (il := il) no 0 N vy (by omega) (by omega)
  refine ⟨vx', vy', ?_, ?_, ?_⟩
  · unfold f_PM_turn; rw [e1]; rfl
  · unfold f_MM_turn; exact e2
  · intro k hk
    rw [b2 k (by omega) hk, a1 k (by omega)]
    exact hs k hk
/-! ===== filling with zeros ===== -/
theorem JArr_fill_loop {N n : Nat} (hn : n < 2 ^ 31) {a : Int32} : ∀ (d i z : Nat) (v : Nat → Int32), n = i + d → d < z →
    ∃ v', f_JArr_fill_b5 N n a z (nI i) (nI n) v = some v' ∧ (∀ k, k < i → v' k = v k) ∧ (∀ k, i ≤ k → k < n → v' k = a) ∧ ∀ k, n ≤ k → v' k = v k := by
  intro d
  induction d with
  | zero =>
    intro i z v h1 h2
    obtain ⟨z, rfl⟩ := z_succ h2
    refine ⟨v, ?_, fun k _ => rfl, fun k h3 h4 => absurd h4 (by omega), fun k _ => rfl⟩
    rw [f_JArr_fill_b5, if_pos (nI_le (by omega) (by omega))]
  | succ d ih =>
    intro i z v h1 h2
    obtain ⟨z, rfl⟩ := z_succ h2
    obtain ⟨v', e, a1, b1, c1⟩ := ih (i + 1) z (upd v i a) (by omega) (by omega)
    refine ⟨v', ?_, ?_, ?_, ?_⟩
    · rw [f_JArr_fill_b5, if_neg (nI_ge (by omega) (by omega)), ck_n (by omega) (by omega), nI_clamp (by omega)]
      simp only [nm]
      rw [nI_1, e]
    · intro k hk; rw [a1 k (by omega), pk_un (by omega)]
    · intro k h3 h4
      by_cases e5 : k = i
      · subst e5; rw [a1 k (by omega), pk_us]
      · exact b1 k (by omega) h4
    · intro k hk; rw [c1 k hk, pk_un (by omega)]
theorem JArr_fill_ok {N n : Nat} (hn : n < 2 ^ 31) (hN : n < N) {a : Int32} {v : Nat → Int32} : ∃ v', f_JArr_fill N n a v = some v' ∧ (∀ k, k < n → v' k = a) ∧ ∀ k, n ≤ k → v' k = v k := by
  obtain ⟨v', e, -, b, c⟩ := JArr_fill_loop (N := N) hn (a := a) n 0 N v (by omega) hN
  exact ⟨v', by unfold f_JArr_fill; exact e, fun k h => b k (by omega) h, c⟩
