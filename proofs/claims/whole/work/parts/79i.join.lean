/-! ===== joining, by itself: leaves 0 .. M - 1 in rising order, sums M, M + 1 .. ===== -/
/-- the least knot is taken: of a leaf and a sum that are equal the leaf -/
def PickR (M j : Nat) (val : Nat → Nat) (a b c a' b' : Nat) : Prop :=
  (a < M ∧ (b = j ∨ val a ≤ val (M + b)) ∧ c = a ∧ a' = a + 1 ∧ b' = b) ∨ (b < j ∧ (a < M → val (M + b) < val a) ∧ c = M + b ∧ a' = a ∧ b' = b + 1)
def liv (M j a b i : Nat) : Prop := (a ≤ i ∧ i < M) ∨ (M + b ≤ i ∧ i < M + j)
def tkn (M a b i : Nat) : Prop := i < a ∨ (M ≤ i ∧ i < M + b)
theorem pick_ex {M j a b : Nat} {val : Nat → Nat} (hb : b ≤ j) (h : a < M ∨ b < j) : ∃ c a' b', PickR M j val a b c a' b' := by
  by_cases h1 : a < M ∧ (b = j ∨ val a ≤ val (M + b))
  · exact ⟨a, a + 1, b, Or.inl ⟨h1.1, h1.2, rfl, rfl, rfl⟩⟩
  · refine ⟨M + b, a, b + 1, Or.inr ⟨?_, fun ha => ?_, rfl, rfl, rfl⟩⟩
    · by_cases ha : a < M
      · have : ¬ b = j := fun q => h1 ⟨ha, Or.inl q⟩
        omega
      · omega
    · have : ¬ val a ≤ val (M + b) := fun q => h1 ⟨ha, Or.inr q⟩
      omega
/-- sums in rising order, leaves too -/
def Ris (M j : Nat) (lv val : Nat → Nat) : Prop := (∀ i, i < M → val i = lv i) ∧ (∀ i k, i ≤ k → k < M → lv i ≤ lv k) ∧ ∀ i k, i ≤ k → k < j → val (M + i) ≤ val (M + k)
theorem pick_min {M j a b c a' b' : Nat} {lv val : Nat → Nat} (hR : Ris M j lv val) (h : PickR M j val a b c a' b') (i : Nat) (hi : liv M j a b i) : i = c ∨ val c < val i ∨ (val c = val i ∧ c < i) := by
  obtain ⟨r1, r2, r3⟩ := hR
  have low : ∀ i, a ≤ i → i < M → val a ≤ val i := fun i h1 h2 => by rw [r1 a (by omega), r1 i h2]; exact r2 a i h1 h2
  have high : ∀ i, M + b ≤ i → i < M + j → val (M + b) ≤ val i := fun i h1 h2 => by
    have := r3 b (i - M) (by omega) (by omega)
    rw [show M + (i - M) = i by omega] at this
    exact this
  rcases h with ⟨h1, h2, h3, -, -⟩ | ⟨h1, h2, h3, -, -⟩
  · subst h3
    rcases hi with hi | hi
    · have := low i hi.1 hi.2
      omega
    · rcases h2 with h2 | h2
      · omega
      · have := high i hi.1 hi.2
        omega
  · subst h3
    rcases hi with hi | hi
    · have h4 := low i hi.1 hi.2
      have h5 := h2 (by omega)
      omega
    · have := high i hi.1 hi.2
      omega
theorem pick_liv {M j a b c a' b' : Nat} {val : Nat → Nat} (ha : a ≤ M) (hb : b ≤ j) (h : PickR M j val a b c a' b') : liv M j a b c ∧ (∀ i, liv M j a' b' i ↔ (liv M j a b i ∧ i ≠ c)) ∧ a' ≤ M ∧ b' ≤ j ∧ a' + b' = a + b + 1 ∧ (∀ i, tkn M a' b' i ↔ (tkn M a b i ∨ i = c)) := by
  unfold liv tkn
  rcases h with ⟨h1, h2, rfl, rfl, rfl⟩ | ⟨h1, h2, rfl, rfl, rfl⟩
  · exact ⟨Or.inl ⟨Nat.le_refl _, h1⟩, fun i => by omega, by omega, by omega, by omega, fun i => by omega⟩
  · exact ⟨Or.inr ⟨Nat.le_refl _, by omega⟩, fun i => by omega, by omega, by omega, by omega, fun i => by omega⟩
/-- equal leaves: how high the trees are -/
def OneS (M j a b : Nat) (val ht : Nat → Nat) : Prop :=
  (a + 1 ≤ M ∧ b = 0 ∧ ∀ i, i < j → val (M + i) = 2 ∧ ht (M + i) ≤ 1) ∨
  (a = M ∧ ∃ k x, 1 ≤ k ∧ b ≤ x ∧ x < j ∧ (∀ i, b ≤ i → i < x → val (M + i) = 2 ^ k ∧ ht (M + i) ≤ k) ∧ (2 ^ k ≤ val (M + x) ∧ val (M + x) ≤ 2 ^ (k + 1) ∧ ht (M + x) ≤ k + 1 ∧ (val (M + x) = 2 ^ k → ht (M + x) ≤ k)) ∧ ∀ i, x < i → i < j → val (M + i) = 2 ^ (k + 1) ∧ ht (M + i) ≤ k + 1)
theorem one_step {M j a b c1 a1 b1 c2 a2 b2 : Nat} {val ht : Nat → Nat} (hv : ∀ i, i < M → val i = 1) (h0 : ∀ i, i < M → ht i = 0) (hl : a + b + 2 ≤ M + j) (hS : OneS M j a b val ht) (p1 : PickR M j val a b c1 a1 b1) (p2 : PickR M j val a1 b1 c2 a2 b2) :
    OneS M (j + 1) a2 b2 (uN val (M + j) (val c1 + val c2)) (uN ht (M + j) (max (ht c1) (ht c2) + 1)) := by
  have hN : ∀ (f : Nat → Nat) (x i : Nat), i < j → uN f (M + j) x (M + i) = f (M + i) := fun f x i hi => uN_n (by omega)
  rcases hS with ⟨s1, rfl, s3⟩ | ⟨haM, k, x, k1, k2, k3, k4, ⟨k5, k6, k7, k8⟩, k9⟩
  · -- leaves are left
    by_cases h2 : a + 2 ≤ M
    · have q1 : c1 = a ∧ a1 = a + 1 ∧ b1 = 0 := by
        rcases p1 with ⟨-, -, u, v, w⟩ | ⟨u, v, -, -, -⟩
        · exact ⟨u, v, w⟩
        · have := v (by omega)
          rw [(s3 0 (by omega)).1, hv a (by omega)] at this
          omega
      obtain ⟨rfl, rfl, rfl⟩ := q1
      have q2 : c2 = c1 + 1 ∧ a2 = c1 + 1 + 1 ∧ b2 = 0 := by
        rcases p2 with ⟨-, -, u, v, w⟩ | ⟨u, v, -, -, -⟩
        · exact ⟨u, v, w⟩
        · have := v (by omega)
          rw [(s3 0 (by omega)).1, hv (c1 + 1) (by omega)] at this
          omega
      obtain ⟨rfl, rfl, rfl⟩ := q2
      rw [hv c1 (by omega), hv (c1 + 1) (by omega), h0 c1 (by omega), h0 (c1 + 1) (by omega)]
      have new : ∀ i, i < j + 1 → uN val (M + j) (1 + 1) (M + i) = 2 ∧ uN ht (M + j) (max 0 0 + 1) (M + i) ≤ 1 := by
        intro i hi
        by_cases e : i = j
        · rw [e, uN_s, uN_s]; exact ⟨rfl, by decide⟩
        · rw [hN _ _ _ (by omega), hN _ _ _ (by omega)]; exact s3 i (by omega)
      by_cases h3 : c1 + 1 + 1 + 1 ≤ M
      · exact Or.inl ⟨h3, rfl, new⟩
      · refine Or.inr ⟨by omega, 1, j, Nat.le_refl _, by omega, by omega, fun i _ hi => new i (by omega), ?_, fun i h4 h5 => by omega⟩
        obtain ⟨n1, n2⟩ := new j (by omega)
        rw [n1]
        exact ⟨by decide, by decide, by omega, fun _ => n2⟩
    · -- the last leaf, with the first sum
      have ha : a = M - 1 := by omega
      have q1 : c1 = a ∧ a1 = a + 1 ∧ b1 = 0 := by
        rcases p1 with ⟨-, -, u, v, w⟩ | ⟨u, v, -, -, -⟩
        · exact ⟨u, v, w⟩
        · have := v (by omega)
          rw [(s3 0 (by omega)).1, hv a (by omega)] at this
          omega
      obtain ⟨rfl, rfl, rfl⟩ := q1
      have q2 : M = c2 ∧ c1 + 1 = a2 ∧ 1 = b2 := by
        rcases p2 with ⟨u, -, -, -, -⟩ | ⟨-, -, u, v, w⟩
        · omega
        · exact ⟨u.symm, v.symm, w.symm⟩
      obtain ⟨rfl, rfl, rfl⟩ := q2
      obtain ⟨t1, t2⟩ := s3 0 (by omega)
      rw [Nat.add_zero] at t1 t2
      rw [hv c1 (by omega), h0 c1 (by omega), t1]
      refine Or.inr ⟨by omega, 1, j, Nat.le_refl _, by omega, by omega, fun i h4 h5 => ?_, ?_, fun i h4 h5 => by omega⟩
      · rw [hN _ _ _ (by omega), hN _ _ _ (by omega)]
        exact s3 i (by omega)
      · rw [uN_s, uN_s]
        have : max 0 (ht M) = ht M := by omega
        exact ⟨by decide, by decide, by omega, fun q => by omega⟩
  · -- sums alone
    have haM' : M = a := haM.symm
    subst haM'
    have q1 : M + b = c1 ∧ M = a1 ∧ b + 1 = b1 := by
      rcases p1 with ⟨u, -, -, -, -⟩ | ⟨-, -, u, v, w⟩
      · omega
      · exact ⟨u.symm, v.symm, w.symm⟩
    obtain ⟨rfl, rfl, rfl⟩ := q1
    have q2 : M + (b + 1) = c2 ∧ M = a2 ∧ b + 1 + 1 = b2 := by
      rcases p2 with ⟨u, -, -, -, -⟩ | ⟨-, -, u, v, w⟩
      · omega
      · exact ⟨u.symm, v.symm, w.symm⟩
    obtain ⟨rfl, rfl, rfl⟩ := q2
    have pk1 : (2 : Nat) ^ (k + 1) = 2 ^ k * 2 := Nat.pow_succ 2 k
    have pk2 : (2 : Nat) ^ (k + 1 + 1) = 2 ^ (k + 1) * 2 := Nat.pow_succ 2 (k + 1)
    have pk0 : 0 < 2 ^ k := Nat.pow_pos (by decide)
    by_cases hx2 : b + 2 ≤ x
    · -- two of the lower ones
      obtain ⟨t1, t2⟩ := k4 b (Nat.le_refl _) (by omega)
      obtain ⟨t3, t4⟩ := k4 (b + 1) (by omega) (by omega)
      refine Or.inr ⟨rfl, k, x, k1, by omega, by omega, fun i h4 h5 => ?_, ?_, fun i h4 h5 => ?_⟩
      · rw [hN _ _ _ (by omega), hN _ _ _ (by omega)]; exact k4 i (by omega) h5
      · rw [hN _ _ _ k3, hN _ _ _ k3]; exact ⟨k5, k6, k7, k8⟩
      · by_cases e : i = j
        · rw [e, uN_s, uN_s, t1, t3]; exact ⟨by omega, by omega⟩
        · rw [hN _ _ _ (by omega), hN _ _ _ (by omega)]; exact k9 i h4 (by omega)
    · by_cases hx1 : x = b + 1
      · -- a lower one and the odd one
        obtain ⟨t1, t2⟩ := k4 b (Nat.le_refl _) (by omega)
        rw [← hx1]
        refine Or.inr ⟨rfl, k + 1, j, by omega, by omega, by omega, fun i h4 h5 => ?_, ?_, fun i h4 h5 => by omega⟩
        · rw [hN _ _ _ h5, hN _ _ _ h5]; exact k9 i (by omega) h5
        · rw [uN_s, uN_s, t1]
          refine ⟨by omega, by omega, by omega, fun q => ?_⟩
          have := k8 (by omega)
          omega
      · -- the odd one and a higher one
        have hxb : x = b := by omega
        subst hxb
        obtain ⟨t1, t2⟩ := k9 (x + 1) (by omega) (by omega)
        refine Or.inr ⟨rfl, k + 1, j, by omega, by omega, by omega, fun i h4 h5 => ?_, ?_, fun i h4 h5 => by omega⟩
        · rw [hN _ _ _ h5, hN _ _ _ h5]; exact k9 i (by omega) h5
        · rw [uN_s, uN_s, t1]
          exact ⟨by omega, by omega, by omega, fun q => by omega⟩
/-- all that is known while joining -/
def JI (M W : Nat) (lv : Nat → Nat) (j a b : Nat) (val up ht : Nat → Nat) : Prop :=
  (a + b = 2 * j ∧ a ≤ M ∧ b ≤ j ∧ (0 < j → b < j)) ∧ Ris M j lv val ∧
  (∃ ym, (a < M → ym ≤ val a) ∧ (b < j → ym ≤ val (M + b)) ∧ (0 < j → val (M + (j - 1)) ≤ 2 * ym)) ∧
  (∀ i, tkn M a b i → i < up i ∧ up i < M + j) ∧
  (sm lv M + sm (fun i => val (M + i)) j = W + sm lv a + sm (fun i => val (M + i)) b) ∧
  (∀ q : Nat → Nat, (∀ i, tkn M a b i → 2 * q i = q (up i)) → sm q a + sm (fun i => q (M + i)) b = sm (fun i => q (M + i)) j) ∧
  ((∀ i, i < M → ht i = 0) ∧ (∀ i, tkn M a b i → ht i + 1 ≤ ht (up i))) ∧
  ((∀ i, i < M → lv i = 1) → OneS M j a b val ht)
theorem sm_uNo {f : Nat → Nat} {k x n : Nat} (h : n ≤ k) : sm (uN f k x) n = sm f n := sm_congr (fun i hi => uN_n (by omega))
theorem pick_sm {M j a b c a' b' : Nat} {val : Nat → Nat} (h : PickR M j val a b c a' b') (q : Nat → Nat) : sm q a' + sm (fun i => q (M + i)) b' = sm q a + sm (fun i => q (M + i)) b + q c := by
  rcases h with ⟨-, -, rfl, rfl, rfl⟩ | ⟨-, -, rfl, rfl, rfl⟩
  · show sm q c + q c + sm _ b' = _
    omega
  · show sm q a' + (sm _ b + q (M + b)) = _
    omega
theorem JI_step {M W j a b c1 a1 b1 c2 a2 b2 : Nat} {lv val up ht : Nat → Nat} (hj : j + 1 < M) (hJ : JI M W lv j a b val up ht) (p1 : PickR M j val a b c1 a1 b1) (p2 : PickR M j val a1 b1 c2 a2 b2) :
    JI M W lv (j + 1) a2 b2 (uN val (M + j) (val c1 + val c2)) (uN (uN up c1 (M + j)) c2 (M + j)) (uN ht (M + j) (max (ht c1) (ht c2) + 1)) := by
  obtain ⟨⟨g1, g2, g3, g4⟩, gR, ⟨ym, y1, y2, y3⟩, gU, gW, gQ, ⟨gH0, gH⟩, gO⟩ := hJ
  obtain ⟨l1, l2, l3, l4, l5, l6⟩ := pick_liv g2 g3 p1
  obtain ⟨n1, n2, n3, n4, n5, n6⟩ := pick_liv l3 l4 p2
  have hc1 : c1 < M + j := by unfold liv at l1; omega
  have hc2 : c2 < M + j := by unfold liv at n1; omega
  have hne : c2 ≠ c1 := ((l2 c2).mp n1).2
  have hc2l : liv M j a b c2 := ((l2 c2).mp n1).1
  obtain ⟨r1, r2, r3⟩ := gR
  have gR : Ris M j lv val := ⟨r1, r2, r3⟩
  -- what is left is not below the second
  have min2 : ∀ i, liv M j a2 b2 i → val c2 ≤ val i := fun i hi => by
    rcases pick_min gR p2 i ((n2 i).mp hi).1 with q | q | q
    · rw [q]; omega
    · omega
    · omega
  have min1 : val c1 ≤ val c2 := by
    rcases pick_min gR p1 c2 hc2l with q | q | q
    · exact absurd q hne
    · omega
    · omega
  have hym1 : ym ≤ val c1 := by
    rcases p1 with ⟨u, -, v, -, -⟩ | ⟨u, -, v, -, -⟩
    · rw [v]; exact y1 u
    · rw [v]; exact y2 u
  have hold : ∀ i, i < M + j → uN val (M + j) (val c1 + val c2) i = val i := fun i hi => uN_n (by omega)
  have htk : ∀ i, tkn M a2 b2 i → i < M + j := fun i hi => by unfold tkn at hi; omega
  have htk2 : ∀ i, tkn M a2 b2 i ↔ (tkn M a b i ∨ i = c1 ∨ i = c2) := fun i => by rw [n6, l6, or_assoc]
  have hntk : ∀ i, tkn M a b i → i ≠ c1 ∧ i ≠ c2 := fun i hi => by
    have q1 := l1
    unfold liv at q1 hc2l
    unfold tkn at hi
    omega
  refine ⟨⟨by omega, n3, by omega, fun _ => by omega⟩, ⟨fun i hi => ?_, r2, fun i k h1 h2 => ?_⟩, ⟨val c2, fun h1 => ?_, fun h1 => ?_, fun _ => ?_⟩, fun i hi => ?_, ?_, fun q hq => ?_, ⟨fun i hi => ?_, fun i hi => ?_⟩, fun hone => ?_⟩
  · rw [hold i (by omega)]; exact r1 i hi
  · by_cases e : k = j
    · rw [e, uN_s]
      by_cases e2 : i = j
      · rw [e2, uN_s]; omega
      · rw [hold _ (by omega)]
        have h3 := r3 i (j - 1) (by omega) (by omega)
        have h4 := y3 (by omega)
        omega
    · rw [hold _ (by omega), hold _ (by omega)]; exact r3 i k h1 (by omega)
  · rw [hold a2 (by omega)]; exact min2 a2 (Or.inl ⟨Nat.le_refl _, h1⟩)
  · by_cases e : b2 = j
    · rw [e, uN_s]; omega
    · rw [hold _ (by omega)]; exact min2 _ (Or.inr ⟨Nat.le_refl _, by omega⟩)
  · rw [show j + 1 - 1 = j by omega, uN_s]; omega
  · rcases (htk2 i).mp hi with q | q | q
    · obtain ⟨q1, q2⟩ := hntk i q
      rw [uN_n q2, uN_n q1]
      have := gU i q
      omega
    · rw [q, uN_n (fun w => hne w.symm), uN_s]; omega
    · rw [q, uN_s]; omega
  · have hs1 := pick_sm p1 val
    have hs2 := pick_sm p2 val
    have e1 : sm (fun i => uN val (M + j) (val c1 + val c2) (M + i)) j = sm (fun i => val (M + i)) j := sm_congr (fun i hi => hold _ (by omega))
    have e2 : sm (fun i => uN val (M + j) (val c1 + val c2) (M + i)) b2 = sm (fun i => val (M + i)) b2 := sm_congr (fun i hi => hold _ (by omega))
    have e3 : sm lv a = sm val a := sm_congr (fun i hi => (r1 i (by omega)).symm)
    have e4 : sm lv a2 = sm val a2 := sm_congr (fun i hi => (r1 i (by omega)).symm)
    show sm lv M + (sm (fun i => uN val (M + j) (val c1 + val c2) (M + i)) j + uN val (M + j) (val c1 + val c2) (M + j)) = _
    rw [e1, e2, uN_s, e4]
    rw [e3] at gW
    omega
  · have hs1 := pick_sm p1 q
    have hs2 := pick_sm p2 q
    have hold2 := gQ q (fun i hi => by
      obtain ⟨q1, q2⟩ := hntk i hi
      have := hq i ((htk2 i).mpr (Or.inl hi))
      rw [uN_n q2, uN_n q1] at this
      exact this)
    have t1 := hq c1 ((htk2 c1).mpr (Or.inr (Or.inl rfl)))
    rw [uN_n (fun w => hne w.symm), uN_s] at t1
    have t2 := hq c2 ((htk2 c2).mpr (Or.inr (Or.inr rfl)))
    rw [uN_s] at t2
    show _ = sm (fun i => q (M + i)) j + q (M + j)
    omega
  · rw [uN_n (by omega)]; exact gH0 i hi
  · rcases (htk2 i).mp hi with q | q | q
    · obtain ⟨q1, q2⟩ := hntk i q
      have h1 := gU i q
      have h2 := htk i hi
      rw [uN_n q2, uN_n q1, uN_n (by omega), uN_n (by omega)]
      exact gH i q
    · rw [q, uN_n (fun w => hne w.symm), uN_s, uN_s, uN_n (by omega)]; omega
    · rw [q, uN_s, uN_s, uN_n (by omega)]; omega
  · exact one_step (fun i hi => by rw [r1 i hi]; exact hone i hi) gH0 (by omega) (gO hone) p1 p2
