/-! ===== the greatest ===== -/
def mx (f : Nat → Nat) : Nat → Nat
  | 0 => 0
  | n + 1 => max (mx f n) (f n)
theorem mx_lt {f : Nat → Nat} {n b : Nat} (hb : 0 < b) (h : ∀ i, i < n → f i < b) : mx f n < b := by
  induction n with
  | zero => exact hb
  | succ n ih => exact Nat.max_lt.mpr ⟨ih (fun i hi => h i (by omega)), h n (by omega)⟩
theorem mx_ge {f : Nat → Nat} {n i : Nat} (h : i < n) : f i ≤ mx f n := by
  induction n with
  | zero => exact absurd h (by omega)
  | succ n ih =>
    show f i ≤ max (mx f n) (f n)
    by_cases e : i = n
    · subst e; exact Nat.le_max_right _ _
    · exact Nat.le_trans (ih (by omega)) (Nat.le_max_left _ _)
theorem mx_at {f : Nat → Nat} {n : Nat} (h : 0 < mx f n) : ∃ i, i < n ∧ f i = mx f n := by
  induction n with
  | zero => exact absurd h (Nat.lt_irrefl 0)
  | succ n ih =>
    by_cases e : mx f n ≤ f n
    · exact ⟨n, by omega, (Nat.max_eq_right e).symm⟩
    · have e2 : mx f (n + 1) = mx f n := Nat.max_eq_left (by omega)
      rw [e2] at h ⊢
      obtain ⟨i, hi, ei⟩ := ih h
      exact ⟨i, by omega, ei⟩
theorem JMath_max_n {N a b : Nat} (ha : a < 2 ^ 31) (hb : b < 2 ^ 31) : f_JMath_max N (nI a) (nI b) = some (nI (max a b)) := by
  unfold f_JMath_max
  by_cases h : a < b
  · rw [if_pos (nI_lt h hb), Nat.max_eq_right (by omega)]
  · rw [if_neg (nI_nlt (by omega) ha), Nat.max_eq_left (by omega)]
theorem greatestOf_loop {N n1 : Nat} (hn1 : 256 ≤ n1) (hn2 : n1 < 2 ^ 31) {v : Nat → Int32} {f : Nat → Nat} (hv : ∀ i, i < 256 → v i = nI (f i)) (hf : ∀ i, i < 256 → f i < 2 ^ 31) : ∀ (d s z : Nat), 256 = s + d → d < z →
    f_PM_greatestOf_b4 N n1 v z (nI (mx f s)) (nI s) = some (nI (mx f 256)) := by
  intro d
  induction d with
  | zero =>
    intro s z h1 h2
    obtain ⟨z, rfl⟩ := z_succ h2
    obtain rfl : s = 256 := by omega
    rw [f_PM_greatestOf_b4, if_pos (le256 (by omega) (by omega))]; rfl
  | succ d ih =>
    intro s z h1 h2
    obtain ⟨z, rfl⟩ := z_succ h2
    rw [f_PM_greatestOf_b4, if_neg (nle256 (by omega)), ck_n (by omega) hn2, nI_clamp (by omega), hv s (by omega), JMath_max_n (mx_lt (by decide) (fun i hi => hf i (by omega))) (hf s (by omega))]
    simp only [bd1, nm]
    rw [nI_1]
    exact ih (s + 1) z (by omega) (by omega)
theorem greatestOf_ok {N n1 : Nat} (hN : 257 ≤ N) (hn1 : 256 ≤ n1) (hn2 : n1 < 2 ^ 31) {v : Nat → Int32} {f : Nat → Nat} (hv : ∀ i, i < 256 → v i = nI (f i)) (hf : ∀ i, i < 256 → f i < 2 ^ 31) : f_PM_greatestOf N n1 v = some (nI (mx f 256)) := by
  unfold f_PM_greatestOf
  exact greatestOf_loop hn1 hn2 hv hf 256 0 N (by omega) (by omega)
theorem longestDraft_loop {N : Nat} {v : Nat → Int32} {f : Nat → Nat} (hv : ∀ i, i < 256 → v i = nI (f i)) (hf : ∀ i, i < 256 → f i < 2 ^ 31) : ∀ (d s z : Nat), 256 = s + d → d < z →
    f_MM_longestDraft_b4 N v z (nI (mx f s)) (nI s) = some (nI (mx f 256)) := by
  intro d
  induction d with
  | zero =>
    intro s z h1 h2
    obtain ⟨z, rfl⟩ := z_succ h2
    obtain rfl : s = 256 := by omega
    rw [f_MM_longestDraft_b4, if_pos (le256 (by omega) (by omega))]; rfl
  | succ d ih =>
    intro s z h1 h2
    obtain ⟨z, rfl⟩ := z_succ h2
    have hm : mx f s < 2 ^ 31 := mx_lt (by decide) (fun i hi => hf i (by omega))
    have := ih (s + 1) z (by omega) (by omega)
    rw [f_MM_longestDraft_b4, if_neg (nle256 (by omega)), ck_n (by omega) (by decide), nI_clamp (by omega), hv s (by omega)]
    by_cases h : f s ≤ mx f s
    · rw [if_pos (nI_le h hm)]
      unfold f_MM_longestDraft_b28
      simp only [nm]
      rw [nI_1]
      rw [show mx f (s + 1) = mx f s from Nat.max_eq_left h] at this
      exact this
    · rw [if_neg (nI_ge (by omega) (hf s (by omega))), ck_n (by omega) (by decide)]
      unfold f_MM_longestDraft_b28
      simp only [nm]
      rw [nI_1]
      rw [show mx f (s + 1) = f s from Nat.max_eq_right (by omega)] at this
      exact this
theorem longestDraft_ok {N : Nat} (hN : 257 ≤ N) {v : Nat → Int32} {f : Nat → Nat} (hv : ∀ i, i < 256 → v i = nI (f i)) (hf : ∀ i, i < 256 → f i < 2 ^ 31) : f_MM_longestDraft N v = some (nI (mx f 256)) := by
  unfold f_MM_longestDraft
  exact longestDraft_loop hv hf 256 0 N (by omega) (by omega)
/-! ===== shifts by a number below 31 ===== -/
theorem s_l : ∀ n, n < 32 → ((nI n &&& 31).toBitVec.smod 32).toNat = n := by decide +kernel
theorem sh1 {k : Nat} (hk : k < 31) : (1 : Int32) <<< (nI k &&& 31) = nI (2 ^ k) := by
  have h := pk_shlN (n := 1) (nI k &&& 31) k (s_l k (by omega)) (by rw [Nat.one_mul]; exact Nat.pow_lt_pow_right (by decide) (by omega))
  rw [Nat.one_mul] at h
  exact h
theorem shr_n {n k : Nat} (hn : n < 2 ^ 31) (hk : k < 32) : nI n >>> (nI k &&& 31) = nI (n / 2 ^ k) := pk_shrN hn _ k (s_l k hk)
theorem shl_n {n k : Nat} (hk : k < 32) (h : n * 2 ^ k < 2 ^ 32) : nI n <<< (nI k &&& 31) = nI (n * 2 ^ k) := pk_shlN _ k (s_l k hk) h
/-! ===== cells ===== -/
theorem giveCells_loop {N s : Nat} {l2 l3 : Int32} : ∀ (d i z e : Nat) (v : Nat → Int32), e = i + d → d < z → e ≤ 2048 →
    ∃ v', f_Codes_giveCells_b16 N (nI s) l2 l3 z (nI e) (nI i) v = some (nI e, v') ∧ (∀ c, i ≤ c → c < e → v' c = nI s) ∧ ∀ c, (c < i ∨ e ≤ c) → v' c = v c := by
  intro d
  induction d with
  | zero =>
    intro i z e v h1 h2 h3
    obtain ⟨z, rfl⟩ := z_succ h2
    refine ⟨v, ?_, fun c h4 h5 => absurd h5 (by omega), fun c _ => rfl⟩
    rw [f_Codes_giveCells_b16, if_pos (nI_le (by omega) (by omega))]; rfl
  | succ d ih =>
    intro i z e v h1 h2 h3
    obtain ⟨z, rfl⟩ := z_succ h2
    obtain ⟨v', e1, a, b⟩ := ih (i + 1) z e (upd v i (nI s)) (by omega) (by omega) h3
    refine ⟨v', ?_, ?_, ?_⟩
    · rw [f_Codes_giveCells_b16, if_neg (nI_ge (by omega) (by omega)), ck_n (by omega) (by decide), nI_clamp (by omega)]
      simp only [nm]
      rw [nI_1, e1]
    · intro c h4 h5
      by_cases e5 : c = i
      · subst e5; rw [b c (Or.inl (by omega)), pk_us]
      · exact a c (by omega) h5
    · intro c hc
      rw [b c (by omega), pk_un (by omega)]
theorem giveCells_ok {N s a m : Nat} {v : Nat → Int32} (h : a + m ≤ 2048) (hN : 2049 ≤ N) :
    ∃ v', f_Codes_giveCells N (nI s) (nI a) (nI m) v = some (nI (a + m), v') ∧ (∀ c, a ≤ c → c < a + m → v' c = nI s) ∧ ∀ c, (c < a ∨ a + m ≤ c) → v' c = v c := by
  obtain ⟨v', e1, b, c⟩ := giveCells_loop (N := N) (s := s) (l2 := nI a) (l3 := nI m) m a N (a + m) v rfl (by omega) h
  refine ⟨v', ?_, b, c⟩
  unfold f_Codes_giveCells f_JMath_min
  rw [nI_add, if_neg (show ¬ Int32.ofNat 2048 < nI (a + m) from nI_nlt h (by decide))]
  simp only [bd1]
  exact e1
/-- symbols whose cells are given when those of length l below s have theirs -/
def dn (len : Nat → Nat) (l s s' : Nat) : Prop := len s' ≠ 0 ∧ (l < len s' ∨ (len s' = l ∧ s' < s))
/-- the cells that are given hold their symbols -/
def CT (T : Nat) (len : Nat → Nat) (l s : Nat) (v : Nat → Int32) : Prop :=
  (∀ s', s' < 256 → dn len l s s' → ∀ c, ap T len s' ≤ c → c < ap T len s' + 2 ^ (T - len s') → v c = nI s') ∧
  ∀ c, c < pos T len l s → ∃ s', s' < 256 ∧ dn len l s s' ∧ ap T len s' ≤ c ∧ c < ap T len s' + 2 ^ (T - len s')
def VT (T : Nat) (len : Nat → Nat) (l s : Nat) (v : Nat → Int32) : Prop := ∀ s', s' < 256 → dn len l s s' → v s' = nI (ap T len s' / 2 ^ (T - len s'))
theorem pos_mono {T : Nat} {len : Nat → Nat} {l s s2 : Nat} (h : s ≤ s2) : pos T len l s ≤ pos T len l s2 := Nat.add_le_add_left (sm_mono h) _
theorem dn_end {T : Nat} {len : Nat → Nat} (hT : ∀ s, s < 256 → len s ≤ T) {l s s' : Nat} (hs' : s' < 256) (h : dn len l s s') : ap T len s' + 2 ^ (T - len s') ≤ pos T len l s := by
  obtain ⟨h0, h1⟩ := h
  have e : pos T len (len s') (s' + 1) = ap T len s' + 2 ^ (T - len s') := by rw [pos_succ, if_pos rfl]; rfl
  rw [← e]
  rcases h1 with h1 | ⟨h1, h2⟩
  · have a : pos T len (len s') (s' + 1) ≤ pos T len (len s') 256 := pos_mono (by omega)
    have b : pos T len (len s') 256 = sm (fun j => kl T len (T - j) 256) (T - len s' + 1) := by
      show sm _ _ + _ = sm _ _ + kl T len (T - (T - len s')) 256
      rw [show T - (T - len s') = len s' by have := hT s' hs'; omega]
    have c : sm (fun j => kl T len (T - j) 256) (T - len s' + 1) ≤ sm (fun j => kl T len (T - j) 256) (T - l) := sm_mono (by have := hT s' hs'; omega)
    have d : sm (fun j => kl T len (T - j) 256) (T - l) ≤ pos T len l s := Nat.le_add_right _ _
    omega
  · rw [h1]; exact pos_mono (by omega)
theorem dn_skip {len : Nat → Nat} {l s s' : Nat} (h : len s ≠ l) : dn len l (s + 1) s' ↔ dn len l s s' := by
  unfold dn
  constructor
  · rintro ⟨a, b | ⟨b, c⟩⟩
    · exact ⟨a, Or.inl b⟩
    · exact ⟨a, Or.inr ⟨b, by
        by_cases e : s' = s
        · subst e; exact absurd b h
        · omega⟩⟩
  · rintro ⟨a, b | ⟨b, c⟩⟩
    · exact ⟨a, Or.inl b⟩
    · exact ⟨a, Or.inr ⟨b, by omega⟩⟩
theorem dn_step {len : Nat → Nat} {l s s' : Nat} (hl : l ≠ 0) (h : len s = l) : dn len l (s + 1) s' ↔ dn len l s s' ∨ s' = s := by
  unfold dn
  constructor
  · rintro ⟨a, b | ⟨b, c⟩⟩
    · exact Or.inl ⟨a, Or.inl b⟩
    · by_cases e : s' = s
      · exact Or.inr e
      · exact Or.inl ⟨a, Or.inr ⟨b, by omega⟩⟩
  · rintro (⟨a, b | ⟨b, c⟩⟩ | e)
    · exact ⟨a, Or.inl b⟩
    · exact ⟨a, Or.inr ⟨b, by omega⟩⟩
    · subst e; exact ⟨by omega, Or.inr ⟨h, by omega⟩⟩
theorem dn_next {len : Nat → Nat} {l s' : Nat} (hl : 1 ≤ l) (hs' : s' < 256) : dn len (l - 1) 0 s' ↔ dn len l 256 s' := by
  unfold dn
  constructor
  · rintro ⟨a, b | ⟨b, c⟩⟩
    · refine ⟨a, ?_⟩
      by_cases e : len s' = l
      · exact Or.inr ⟨e, hs'⟩
      · exact Or.inl (by omega)
    · exact absurd c (by omega)
  · rintro ⟨a, b | ⟨b, c⟩⟩
    · exact ⟨a, Or.inl (by omega)⟩
    · exact ⟨a, Or.inl (by omega)⟩
theorem CT_skip {T : Nat} {len : Nat → Nat} {l s : Nat} {v : Nat → Int32} (hn : len s ≠ l) (h : CT T len l s v) : CT T len l (s + 1) v := by
  refine ⟨fun s' h1 h2 => h.1 s' h1 ((dn_skip hn).mp h2), fun c hc => ?_⟩
  rw [pos_succ, if_neg hn] at hc
  obtain ⟨s', a, b, d⟩ := h.2 c hc
  exact ⟨s', a, (dn_skip hn).mpr b, d⟩
theorem CT_step {T : Nat} {len : Nat → Nat} (hT : ∀ s, s < 256 → len s ≤ T) {l s : Nat} (hl : l ≠ 0) (hs : s < 256) {v v' : Nat → Int32} (hn : len s = l) (h : CT T len l s v) (h1 : ∀ c, pos T len l s ≤ c → c < pos T len l s + 2 ^ (T - l) → v' c = nI s) (h2 : ∀ c, c < pos T len l s → v' c = v c) : CT T len l (s + 1) v' := by
  have hap : ap T len s = pos T len l s := by unfold ap; rw [hn]
  refine ⟨fun s' a b c c1 c2 => ?_, fun c hc => ?_⟩
  · rcases (dn_step hl hn).mp b with b | b
    · have := dn_end hT a b
      rw [h2 c (by omega)]
      exact h.1 s' a b c c1 c2
    · subst b
      rw [hap] at c1 c2
      rw [hn] at c2
      exact h1 c c1 c2
  · rw [pos_succ, if_pos hn] at hc
    by_cases e : c < pos T len l s
    · obtain ⟨s', a, b, d⟩ := h.2 c e
      exact ⟨s', a, (dn_step hl hn).mpr (Or.inl b), d⟩
    · refine ⟨s, hs, (dn_step hl hn).mpr (Or.inr rfl), by omega, ?_⟩
      rw [hap, hn]; exact hc
theorem CT_next {T : Nat} {len : Nat → Nat} {l : Nat} {v : Nat → Int32} (h1 : 1 ≤ l) (h2 : l ≤ T) (h : CT T len l 256 v) : CT T len (l - 1) 0 v := by
  refine ⟨fun s' a b => h.1 s' a ((dn_next h1 a).mp b), fun c hc => ?_⟩
  rw [pos_next h1 h2] at hc
  obtain ⟨s', a, b, d⟩ := h.2 c hc
  exact ⟨s', a, (dn_next h1 a).mpr b, d⟩
