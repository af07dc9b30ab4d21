/-! ===== fillCells (the class) ===== -/
theorem fill_inner {N T : Nat} (hN : 2049 ≤ N) (hT1 : T ≤ 11) {len : Nat → Nat} (hT : ∀ s, s < 256 → len s ≤ T) (hk : kraft T len = 2 ^ T) {vl : Nat → Int32} (hv : ∀ s, s < 256 → vl s = nI (len s)) {l : Nat} (hl1 : 1 ≤ l) (hl2 : l ≤ T)
    (k7 : Int32 → Int32 → (Nat → Int32) → (Nat → Int32) → Option ((Nat → Int32) × (Nat → Int32))) : ∀ (d s z : Nat) (vv vc : Nat → Int32), 256 = s + d → d < z → CT T len l s vc → VT T len l s vv →
    ∃ vv' vc', f_Codes_fillCells_b13 N (nI T) vl k7 z (nI (pos T len l s)) (nI l) (nI s) vv vc = k7 (nI (pos T len l 256)) (nI (l - 1)) vv' vc' ∧ CT T len l 256 vc' ∧ VT T len l 256 vv' := by
  have h2T : 2 ^ T ≤ 2 ^ 11 := Nat.pow_le_pow_right (by decide) hT1
  intro d
  induction d with
  | zero =>
    intro s z vv vc h1 h2 hc hvv
    obtain ⟨z, rfl⟩ := z_succ h2
    obtain rfl : s = 256 := by omega
    refine ⟨vv, vc, ?_, hc, hvv⟩
    rw [f_Codes_fillCells_b13, if_pos (le256 (by omega) (by omega))]
    unfold f_Codes_fillCells_b65
    simp only [nm]
    rw [sb_m1 (by omega)]
  | succ d ih =>
    intro s z vv vc h1 h2 hc hvv
    obtain ⟨z, rfl⟩ := z_succ h2
    have hs : s < 256 := by omega
    have hls := hT s hs
    rw [f_Codes_fillCells_b13, if_neg (nle256 (by omega)), ck_n hs (by decide), nI_clamp (by omega), hv s hs]
    by_cases e : len s = l
    · have hp0 : 0 < 2 ^ (T - l) := Nat.pow_pos (by decide)
      have hp : pos T len l s + 2 ^ (T - l) ≤ 2 ^ T := by
        have a : pos T len l (s + 1) ≤ kraft T len := pos_le hT hl1 hl2 (by omega)
        rw [pos_succ, if_pos e, hk] at a
        exact a
      obtain ⟨vc1, g1, g2, g3⟩ := giveCells_ok (N := N) (s := s) (a := pos T len l s) (m := 2 ^ (T - l)) (v := vc) (by omega) hN
      have hc1 : CT T len l (s + 1) vc1 := CT_step hT (by omega) hs e hc g2 (fun c h => g3 c (Or.inl h))
      have hv1 : VT T len l (s + 1) (upd vv s (nI (pos T len l s / 2 ^ (T - l)))) := by
        intro s' a b
        by_cases e2 : s' = s
        · subst e2
          rw [pk_us]
          unfold ap
          rw [e]
        · rw [pk_un e2]
          rcases (dn_step (by omega) e).mp b with b | b
          · exact hvv s' a b
          · exact absurd b e2
      obtain ⟨vv', vc', p1, p2, p3⟩ := ih (s + 1) z _ _ (by omega) (by omega) hc1 hv1
      refine ⟨vv', vc', ?_, p2, p3⟩
      rw [if_pos (by rw [e]), ck_n hs (by decide), pk_sub hl2]
      simp only [nm]
      rw [shr_n (by omega) (by omega), sh1 (by omega), g1]
      simp only [bd2]
      unfold f_Codes_fillCells_b59
      simp only [nm]
      rw [nI_1, ← p1, pos_succ, if_pos e]
    · have hv1 : VT T len l (s + 1) vv := fun s' a b => hvv s' a ((dn_skip e).mp b)
      obtain ⟨vv', vc', p1, p2, p3⟩ := ih (s + 1) z vv vc (by omega) (by omega) (CT_skip e hc) hv1
      refine ⟨vv', vc', ?_, p2, p3⟩
      rw [if_neg (fun q => e ((nI_eq (by omega) (by omega)).mp q))]
      unfold f_Codes_fillCells_b59
      simp only [nm]
      rw [nI_1, ← p1, pos_succ, if_neg e]
      rfl
theorem fill_outer {N T : Nat} (hN : 2049 ≤ N) (hT1 : T ≤ 11) {len : Nat → Nat} (hT : ∀ s, s < 256 → len s ≤ T) (hk : kraft T len = 2 ^ T) {vl : Nat → Int32} (hv : ∀ s, s < 256 → vl s = nI (len s)) : ∀ (l z : Nat) (vv vc : Nat → Int32), l ≤ T → l < z → CT T len l 0 vc → VT T len l 0 vv →
    ∃ vv' vc', f_Codes_fillCells_b7 N (nI T) vl z (nI (pos T len l 0)) (nI l) vv vc = some (vv', vc') ∧ CT T len 0 0 vc' ∧ VT T len 0 0 vv' := by
  intro l
  induction l with
  | zero =>
    intro z vv vc h1 h2 hc hvv
    obtain ⟨z, rfl⟩ := z_succ h2
    refine ⟨vv, vc, ?_, hc, hvv⟩
    rw [f_Codes_fillCells_b7, if_pos (le0 (by omega))]
  | succ l ih =>
    intro z vv vc h1 h2 hc hvv
    obtain ⟨z, rfl⟩ := z_succ h2
    obtain ⟨vv1, vc1, p1, p2, p3⟩ := fill_inner (N := N) hN hT1 hT hk hv (l := l + 1) (by omega) h1 (f_Codes_fillCells_b7 N (nI T) vl z) 256 0 N vv vc (by omega) (by omega) hc hvv
    have hc2 : CT T len l 0 vc1 := CT_next (l := l + 1) (by omega) h1 p2
    have hv2 : VT T len l 0 vv1 := fun s' a b => p3 s' a ((dn_next (l := l + 1) (by omega) a).mp b)
    obtain ⟨vv', vc', q1, q2, q3⟩ := ih z vv1 vc1 (by omega) (by omega) hc2 hv2
    refine ⟨vv', vc', ?_, q2, q3⟩
    rw [f_Codes_fillCells_b7, if_neg (nle0 (by omega) (by omega))]
    show f_Codes_fillCells_b13 N (nI T) vl _ N _ _ (nI 0) vv vc = _
    rw [p1, ← q1, ← pos_next (l := l + 1) (by omega) h1]
    rfl
theorem CT_start {T : Nat} {len : Nat → Nat} (hT : ∀ s, s < 256 → len s ≤ T) (v : Nat → Int32) : CT T len T 0 v := by
  refine ⟨fun s' a b => ?_, fun c hc => ?_⟩
  · obtain ⟨-, b | ⟨-, b⟩⟩ := b
    · exact absurd (hT s' a) (by omega)
    · exact absurd b (by omega)
  · unfold pos at hc
    rw [Nat.sub_self] at hc
    exact absurd hc (by show ¬ c < 0 + 0; omega)
theorem VT_start {T : Nat} {len : Nat → Nat} (hT : ∀ s, s < 256 → len s ≤ T) (v : Nat → Int32) : VT T len T 0 v := by
  intro s' a b
  obtain ⟨-, b | ⟨-, b⟩⟩ := b
  · exact absurd (hT s' a) (by omega)
  · exact absurd b (by omega)
theorem pos_T0 {T : Nat} {len : Nat → Nat} : pos T len T 0 = 0 := by
  unfold pos; rw [Nat.sub_self]; rfl
/-- CODES' table, whole -/
def Tab (T : Nat) (len : Nat → Nat) (v : Nat → Int32) : Prop :=
  (∀ s, s < 256 → len s ≠ 0 → ∀ c, ap T len s ≤ c → c < ap T len s + 2 ^ (T - len s) → v c = nI s) ∧
  ∀ c, c < 2 ^ T → ∃ s, s < 256 ∧ len s ≠ 0 ∧ ap T len s ≤ c ∧ c < ap T len s + 2 ^ (T - len s)
theorem Tab_of {T : Nat} {len : Nat → Nat} (h1 : 1 ≤ T) (hT : ∀ s, s < 256 → len s ≤ T) (hk : kraft T len = 2 ^ T) {v : Nat → Int32} (h : CT T len 0 0 v) : Tab T len v := by
  have e : pos T len 0 0 = 2 ^ T := by
    rw [← hk, kraft_by hT]
    unfold pos
    rfl
  refine ⟨fun s a b => h.1 s a ⟨b, Or.inl (by omega)⟩, fun c hc => ?_⟩
  obtain ⟨s, a, b, d⟩ := h.2 c (by rw [e]; exact hc)
  exact ⟨s, a, b.1, d⟩
theorem fillCells_ok {N T : Nat} (hN : 2049 ≤ N) (hT0 : 1 ≤ T) (hT1 : T ≤ 11) {len : Nat → Nat} (hT : ∀ s, s < 256 → len s ≤ T) (hk : kraft T len = 2 ^ T) {vl : Nat → Int32} (hv : ∀ s, s < 256 → vl s = nI (len s)) (vv vc : Nat → Int32) :
    ∃ vv' vc', f_Codes_fillCells N (nI T) vl vv vc = some (vv', vc') ∧ Tab T len vc' ∧ ∀ s, s < 256 → len s ≠ 0 → vv' s = nI (ap T len s / 2 ^ (T - len s)) := by
  obtain ⟨vv', vc', p1, p2, p3⟩ := fill_outer (N := N) hN hT1 hT hk hv T N vv vc (Nat.le_refl _) (by omega) (CT_start hT vc) (VT_start hT vv)
  refine ⟨vv', vc', ?_, Tab_of hT0 hT hk p2, fun s a b => p3 s a ⟨b, Or.inl (by omega)⟩⟩
  unfold f_Codes_fillCells
  rw [← p1, pos_T0]
  rfl
/-! ===== become ===== -/
/-- how many have codes -/
def cn (len : Nat → Nat) (n : Nat) : Nat := sm (fun s => if len s = 0 then 0 else 1) n
/-- the highest that has one -/
def top (len : Nat → Nat) : Nat → Nat
  | 0 => 0
  | n + 1 => if len n = 0 then top len n else n
theorem cn_le {len : Nat → Nat} {n : Nat} : cn len n ≤ n := by
  induction n with
  | zero => exact Nat.le_refl _
  | succ n ih =>
    show cn len n + (if len n = 0 then 0 else 1) ≤ n + 1
    split <;> omega
theorem become_loop {N n1 : Nat} (hn1 : 256 ≤ n1) (hn2 : n1 < 2 ^ 31) {vp : Nat → Int32} {len : Nat → Nat} (hp : ∀ s, s < 256 → vp s = nI (len s)) (hb : ∀ s, s < 256 → len s < 2 ^ 31) {g : Int32} {vv vc : Nat → Int32} : ∀ (d s z : Nat) (h : Int32) (vl : Nat → Int32), 256 = s + d → d < z → (∀ i, i < s → vl i = nI (len i)) → (mx len s = 0 ∨ h = nI (top len s)) →
    ∃ h' vl', f_Codes_become_b15 N n1 vp z (nI s) g (nI (cn len s)) h vl vv vc = f_Codes_become_b61 N n1 vp g (nI (cn len 256)) h' vl' vv vc ∧ (∀ i, i < 256 → vl' i = nI (len i)) ∧ (mx len 256 = 0 ∨ h' = nI (top len 256)) := by
  intro d
  induction d with
  | zero =>
    intro s z h vl h1 h2 h3 h4
    obtain ⟨z, rfl⟩ := z_succ h2
    obtain rfl : s = 256 := by omega
    refine ⟨h, vl, ?_, h3, h4⟩
    rw [f_Codes_become_b15, if_pos (le256 (by omega) (by omega))]
  | succ d ih =>
    intro s z h vl h1 h2 h3 h4
    obtain ⟨z, rfl⟩ := z_succ h2
    have hs : s < 256 := by omega
    have h3' : ∀ i, i < s + 1 → upd vl s (nI (len s)) i = nI (len i) := by
      intro i hi
      by_cases e : i = s
      · subst e; exact pk_us
      · rw [pk_un e]; exact h3 i (by omega)
    rw [f_Codes_become_b15, if_neg (nle256 (by omega)), ck_n (by omega) hn2, ck_n hs (by decide), nI_clamp (by omega), hp s hs]
    simp only [nm]
    rw [ck_n hs (by decide), pk_us]
    by_cases e : len s = 0
    · obtain ⟨h', vl', p1, p2, p3⟩ := ih (s + 1) z h _ (by omega) (by omega) h3' (by
        show max (mx len s) (len s) = 0 ∨ h = nI (if len s = 0 then top len s else s)
        rw [if_pos e, e, Nat.max_eq_left (Nat.zero_le _)]; exact h4)
      refine ⟨h', vl', ?_, p2, p3⟩
      rw [if_pos (le0 (by omega))]
      unfold f_Codes_become_b55
      simp only [nm]
      rw [nI_1, ← p1, show cn len (s + 1) = cn len s from by show cn len s + (if len s = 0 then 0 else 1) = _; rw [if_pos e]; rfl]
    · obtain ⟨h', vl', p1, p2, p3⟩ := ih (s + 1) z (nI s) _ (by omega) (by omega) h3' (Or.inr (by
        show nI s = nI (if len s = 0 then top len s else s)
        rw [if_neg e]))
      refine ⟨h', vl', ?_, p2, p3⟩
      rw [if_neg (nle0 (by omega) (hb s hs))]
      unfold f_Codes_become_b55
      simp only [nm]
      rw [nI_1, nI_1, ← p1, show cn len (s + 1) = cn len s + 1 from by show cn len s + (if len s = 0 then 0 else 1) = _; rw [if_neg e]]
/-- lengths that are CODES, with their greatest -/
def Good (T : Nat) (len : Nat → Nat) : Prop := 1 ≤ T ∧ T ≤ 11 ∧ mx len 256 = T ∧ kraft T len = 2 ^ T
theorem Good.le {T : Nat} {len : Nat → Nat} (h : Good T len) : ∀ s, s < 256 → len s ≤ T := fun s hs => by rw [← h.2.2.1]; exact mx_ge hs
theorem become_ok {N n1 T : Nat} (hN : 2049 ≤ N) (hn1 : 256 ≤ n1) (hn2 : n1 < 2 ^ 31) {vp : Nat → Int32} {len : Nat → Nat} (hp : ∀ s, s < 256 → vp s = nI (len s)) (hG : Good T len) (g k h : Int32) (vl vv vc : Nat → Int32) :
    ∃ vl' vv' vc', f_Codes_become N n1 vp g k h vl vv vc = some (nI T, nI T, nI (cn len 256), nI (top len 256), vl', vv', vc') ∧ (∀ s, s < 256 → vl' s = nI (len s)) ∧ Tab T len vc' ∧ ∀ s, s < 256 → len s ≠ 0 → vv' s = nI (ap T len s / 2 ^ (T - len s)) := by
  have hT := hG.le
  obtain ⟨hT0, hT1, hm, hk⟩ := hG
  have hb : ∀ s, s < 256 → len s < 2 ^ 31 := fun s hs => by have := hT s hs; omega
  obtain ⟨h', vl', p1, p2, p3⟩ := become_loop (N := N) hn1 hn2 hp hb (g := nI T) (vv := vv) (vc := vc) 256 0 N h vl (by omega) (by omega) (fun i hi => absurd hi (by omega)) (Or.inl rfl)
  have e3 : h' = nI (top len 256) := by
    rcases p3 with p3 | p3
    · rw [hm] at p3; omega
    · exact p3
  obtain ⟨vv', vc', q1, q2, q3⟩ := fillCells_ok (N := N) hN hT0 hT1 hT hk p2 vv vc
  refine ⟨vl', vv', vc', ?_, p2, q2, q3⟩
  unfold f_Codes_become
  rw [greatestOf_ok (by omega) hn1 hn2 hp hb, hm]
  simp only [bd1]
  have e0 : f_Codes_become_b15 N n1 vp N 0 (nI T) 0 h vl vv vc = f_Codes_become_b15 N n1 vp N (nI 0) (nI T) (nI (cn len 0)) h vl vv vc := rfl
  rw [e0, p1]
  unfold f_Codes_become_b61
  rw [q1, e3]
  rfl
