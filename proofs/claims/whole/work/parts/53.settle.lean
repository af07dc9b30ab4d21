/-! ===== settle (the reference) ===== -/
theorem settle_cells {N T w : Nat} (hw1 : 1 ≤ w) (hw2 : w ≤ 11) {vd vlen : Nat → Int32} {l1 g : Int32} {k36 : Int32 → Int32 → Int32 → (Nat → Int32) → (Nat → Int32) → Option (Int32 × Int32 × (Nat → Int32) × (Nat → Int32))} {k44 : Int32 → Int32 → Int32 → Int32 → (Nat → Int32) → (Nat → Int32) → Option (Int32 × Int32 × (Nat → Int32) × (Nat → Int32))} {a s : Nat} (ha : a + 2 ^ (w - 1) ≤ 2048) : ∀ (d j z : Nat) (v : Nat → Int32), 2 ^ (w - 1) = j + d → d < z →
    ∃ v', f_MM_settle_b65 N vd l1 k36 k44 z (nI a) (nI w) (nI s) (nI j) g vlen v = k44 (nI (a + 2 ^ (w - 1))) (nI w) (nI (s + 1)) g vlen v' ∧ (∀ c, a + j ≤ c → c < a + 2 ^ (w - 1) → v' c = nI s) ∧ ∀ c, (c < a + j ∨ a + 2 ^ (w - 1) ≤ c) → v' c = v c := by
  have e1 : (nI w - 1) = nI (w - 1) := pk_sub (b := 1) hw1
  have hp : 2 ^ (w - 1) ≤ 2 ^ 10 := Nat.pow_le_pow_right (by decide) (by omega)
  intro d
  induction d with
  | zero =>
    intro j z v h1 h2
    obtain ⟨z, rfl⟩ := z_succ h2
    refine ⟨v, ?_, fun c h3 h4 => absurd h4 (by omega), fun c _ => rfl⟩
    rw [f_MM_settle_b65, e1, sh1 (by omega), if_pos (nI_le (by omega) (by omega))]
    unfold f_MM_settle_b92 f_MM_settle_b100
    simp only [nm]
    rw [e1, sh1 (by omega), nI_add, nI_1]
  | succ d ih =>
    intro j z v h1 h2
    obtain ⟨z, rfl⟩ := z_succ h2
    obtain ⟨v', p1, p2, p3⟩ := ih (j + 1) z (upd v (a + j) (nI s)) (by omega) (by omega)
    refine ⟨v', ?_, ?_, ?_⟩
    · rw [f_MM_settle_b65, e1, sh1 (by omega), if_neg (nI_ge (by omega) (by omega)), nI_add, ck_n (by omega) (by decide), nI_clamp (by omega)]
      simp only [nm]
      rw [nI_1, p1]
    · intro c h3 h4
      by_cases e : c = a + j
      · rw [p3 c (Or.inl (by omega)), e, pk_us]
      · exact p2 c (by omega) h4
    · intro c hc
      rw [p3 c (by omega), pk_un (by omega)]
theorem weightOf_n {N T : Nat} {len : Nat → Nat} {vlen : Nat → Int32} (hv : ∀ s, s < 256 → vlen s = nI (len s)) (hT1 : T < 2 ^ 30) {s : Nat} (hs : s < 256) (hl : len s ≤ T) : f_MM_weightOf N (nI T) vlen (nI s) = some (nI (if len s = 0 then 0 else T + 1 - len s)) := by
  unfold f_MM_weightOf
  rw [ck_n hs (by decide), nI_clamp (by omega), hv s hs]
  by_cases e : len s = 0
  · rw [e, if_pos rfl, if_pos (show nI 0 = 0 from rfl)]; rfl
  · rw [if_neg e, if_neg (nI_ne0 (by omega) (by omega)), ck_n hs (by decide), nI_1, pk_sub (by omega)]
theorem settle_inner {N T : Nat} (hN : 2049 ≤ N) (hT1 : T ≤ 11) {len : Nat → Nat} (hT : ∀ s, s < 256 → len s ≤ T) (hk : kraft T len = 2 ^ T) {vd vlen : Nat → Int32} (hv : ∀ s, s < 256 → vlen s = nI (len s)) {l : Nat} (hl1 : 1 ≤ l) (hl2 : l ≤ T) {l1 : Int32}
    (k36 : Int32 → Int32 → Int32 → (Nat → Int32) → (Nat → Int32) → Option (Int32 × Int32 × (Nat → Int32) × (Nat → Int32))) : ∀ (d s z : Nat) (v : Nat → Int32), 256 = s + d → d < z → CT T len l s v →
    ∃ v', f_MM_settle_b44 N vd l1 k36 z (nI (pos T len l s)) (nI (T + 1 - l)) (nI s) (nI T) vlen v = k36 (nI (pos T len l 256)) (nI (T + 1 - (l - 1))) (nI T) vlen v' ∧ CT T len l 256 v' := by
  have h2T : 2 ^ T ≤ 2 ^ 11 := Nat.pow_le_pow_right (by decide) hT1
  intro d
  induction d with
  | zero =>
    intro s z v h1 h2 hc
    obtain ⟨z, rfl⟩ := z_succ h2
    obtain rfl : s = 256 := by omega
    refine ⟨v, ?_, hc⟩
    rw [f_MM_settle_b44, if_pos (le256 (by omega) (by omega))]
    unfold f_MM_settle_b106
    simp only [nm]
    rw [nI_1, show T + 1 - l + 1 = T + 1 - (l - 1) by omega]
  | succ d ih =>
    intro s z v h1 h2 hc
    obtain ⟨z, rfl⟩ := z_succ h2
    have hs : s < 256 := by omega
    have hls := hT s hs
    rw [f_MM_settle_b44, if_neg (nle256 (by omega)), weightOf_n hv (by omega) hs hls]
    simp only [bd1]
    by_cases e : len s = l
    · have hp0 : 0 < 2 ^ (T - l) := Nat.pow_pos (by decide)
      have hp : pos T len l s + 2 ^ (T - l) ≤ 2 ^ T := by
        have a : pos T len l (s + 1) ≤ kraft T len := pos_le hT hl1 hl2 (by omega)
        rw [pos_succ, if_pos e, hk] at a
        exact a
      have ew : T + 1 - l - 1 = T - l := by omega
      obtain ⟨v1, g1, g2, g3⟩ := settle_cells (N := N) (T := T) (w := T + 1 - l) (vd := vd) (vlen := vlen) (l1 := l1) (g := nI T) (k36 := k36) (k44 := f_MM_settle_b44 N vd l1 k36 z) (a := pos T len l s) (s := s) (by omega) (by omega) (by rw [ew]; omega) (2 ^ (T + 1 - l - 1)) 0 N v (by omega) (by rw [ew]; omega)
      rw [ew] at g1 g2 g3
      have hc1 : CT T len l (s + 1) v1 := CT_step hT (by omega) hs e hc (fun c h h' => g2 c (by omega) h') (fun c h => g3 c (Or.inl (by omega)))
      obtain ⟨v', p1, p2⟩ := ih (s + 1) z v1 (by omega) (by omega) hc1
      refine ⟨v', ?_, p2⟩
      rw [if_pos (by rw [if_neg (by omega), e]), show (0 : Int32) = nI 0 from rfl, g1, ← p1, pos_succ, if_pos e]
    · obtain ⟨v', p1, p2⟩ := ih (s + 1) z v (by omega) (by omega) (CT_skip e hc)
      refine ⟨v', ?_, p2⟩
      rw [if_neg (fun q => by
        have q2 := (nI_eq (by split <;> omega) (by omega)).mp q
        split at q2 <;> omega)]
      unfold f_MM_settle_b100
      simp only [nm]
      rw [nI_1, ← p1, pos_succ, if_neg e]
      rfl
theorem settle_outer {N T : Nat} (hN : 2049 ≤ N) (hT1 : T ≤ 11) {len : Nat → Nat} (hT : ∀ s, s < 256 → len s ≤ T) (hk : kraft T len = 2 ^ T) {vd vlen : Nat → Int32} (hv : ∀ s, s < 256 → vlen s = nI (len s)) : ∀ (l z : Nat) (v : Nat → Int32), l ≤ T → l < z → CT T len l 0 v →
    ∃ v', f_MM_settle_b36 N vd (nI T) z (nI (pos T len l 0)) (nI (T + 1 - l)) (nI T) vlen v = some (nI T, nI T, vlen, v') ∧ CT T len 0 0 v' := by
  intro l
  induction l with
  | zero =>
    intro z v h1 h2 hc
    obtain ⟨z, rfl⟩ := z_succ h2
    refine ⟨v, ?_, hc⟩
    rw [f_MM_settle_b36, if_pos (nI_lt (by omega) (by omega))]
    rfl
  | succ l ih =>
    intro z v h1 h2 hc
    obtain ⟨z, rfl⟩ := z_succ h2
    obtain ⟨v1, p1, p2⟩ := settle_inner (N := N) hN hT1 hT hk (vd := vd) hv (l := l + 1) (by omega) h1 (l1 := nI T) (f_MM_settle_b36 N vd (nI T) z) 256 0 N v (by omega) (by omega) hc
    obtain ⟨v', q1, q2⟩ := ih z v1 (by omega) (by omega) (CT_next (l := l + 1) (by omega) h1 p2)
    refine ⟨v', ?_, q2⟩
    rw [f_MM_settle_b36, if_neg (nI_nlt (by omega) (by omega))]
    show f_MM_settle_b44 N vd (nI T) _ N _ _ (nI 0) (nI T) vlen v = _
    rw [p1, ← q1, ← pos_next (l := l + 1) (by omega) h1]
    rfl
theorem settle_copy {N : Nat} {vd : Nat → Int32} {l1 g : Int32} {vs : Nat → Int32} : ∀ (d s z : Nat) (v : Nat → Int32), 256 = s + d → d < z → (∀ i, i < s → v i = vd i) →
    ∃ v', f_MM_settle_b7 N vd l1 z (nI s) g v vs = f_MM_settle_b36 N vd l1 N 0 1 g v' vs ∧ ∀ i, i < 256 → v' i = vd i := by
  intro d
  induction d with
  | zero =>
    intro s z v h1 h2 h3
    obtain ⟨z, rfl⟩ := z_succ h2
    obtain rfl : s = 256 := by omega
    refine ⟨v, ?_, h3⟩
    rw [f_MM_settle_b7, if_pos (le256 (by omega) (by omega))]
    rfl
  | succ d ih =>
    intro s z v h1 h2 h3
    obtain ⟨z, rfl⟩ := z_succ h2
    obtain ⟨v', p1, p2⟩ := ih (s + 1) z (upd v s (vd s)) (by omega) (by omega) (fun i hi => by
      by_cases e : i = s
      · subst e; exact pk_us
      · rw [pk_un e]; exact h3 i (by omega))
    refine ⟨v', ?_, p2⟩
    rw [f_MM_settle_b7, if_neg (nle256 (by omega)), ck_n (by omega) (by decide), ck_n (by omega) (by decide), nI_clamp (by omega)]
    simp only [nm]
    rw [nI_1, p1]
theorem settle_ok {N T : Nat} (hN : 2049 ≤ N) {len : Nat → Nat} (hG : Good T len) {vd : Nat → Int32} (hv : ∀ s, s < 256 → vd s = nI (len s)) (g : Int32) (vl vs : Nat → Int32) :
    ∃ vl' vs', f_MM_settle N vd (nI T) g vl vs = some (nI T, nI T, vl', vs') ∧ (∀ s, s < 256 → vl' s = nI (len s)) ∧ Tab T len vs' := by
  have hT := hG.le
  obtain ⟨hT0, hT1, hm, hk⟩ := hG
  obtain ⟨vl', p1, p2⟩ := settle_copy (N := N) (vd := vd) (l1 := nI T) (g := nI T) (vs := vs) 256 0 N vl (by omega) (by omega) (fun i hi => absurd hi (by omega))
  have hv' : ∀ s, s < 256 → vl' s = nI (len s) := fun s hs => by rw [p2 s hs, hv s hs]
  obtain ⟨vs', q1, q2⟩ := settle_outer (N := N) hN hT1 hT hk (vd := vd) hv' T N vs (Nat.le_refl _) (by omega) (CT_start hT vs)
  refine ⟨vl', vs', ?_, hv', Tab_of hT0 hT hk q2⟩
  unfold f_MM_settle
  have e0 : f_MM_settle_b7 N vd (nI T) N 0 (nI T) vl vs = f_MM_settle_b7 N vd (nI T) N (nI 0) (nI T) vl vs := rfl
  rw [e0, p1, ← q1, pos_T0, show T + 1 - T = 1 by omega]
  rfl
