/-! ===== weights, read directly ===== -/
theorem direct_read {N n p K : Nat} (hn : n ≤ 6000) {vx : Nat → Int64} {vy : Nat → Int32} (hs : Same vx vy n) (hK : K ≤ 128) (hp : p + 1 + (K + 1) / 2 ≤ n) {oi bi be kn : Int32} {yp yo : Nat → Int32} : ∀ (d i z y : Nat) (xw yw : Nat → Int32), K = i + d → d < z → d < y → SameW i 16 xw yw →
    ∃ xw' yw', f_Reader_takeDirect_b8 N (nI n) 751 vx (nI (p + 1)) (nI K) z (nI i) kn xw = some (kn, xw') ∧ f_MM_takeWeights_b70 N (nI n) (nI p) vy y (nI (K + 127)) (nI i) (nI i) oi bi be yw yp yo = some (0, nI K, oi, bi, be, yw', yp, yo) ∧ SameW K 16 xw' yw' := by
  have e127 : nI (K + 127) - (127 : Int32) = nI K := by
    rw [show nI (K + 127) - (127 : Int32) = nI (K + 127 - 127) from pk_sub (b := 127) (by omega), show K + 127 - 127 = K by omega]
  intro d
  induction d with
  | zero =>
    intro i z y xw yw h1 h2 h3 h4
    obtain ⟨z, rfl⟩ := z_succ h2
    obtain ⟨y, rfl⟩ := z_succ h3
    obtain rfl : i = K := by omega
    refine ⟨xw, yw, ?_, ?_, h4⟩
    · rw [f_Reader_takeDirect_b8, if_pos (nI_le (Nat.le_refl _) (by omega))]
    · rw [f_MM_takeWeights_b70, e127, if_pos (nI_le (Nat.le_refl _) (by omega))]
      rfl
  | succ d ih =>
    intro i z y xw yw h1 h2 h3 h4
    obtain ⟨z, rfl⟩ := z_succ h2
    obtain ⟨y, rfl⟩ := z_succ h3
    have hw := wby_lt vx (p + 1 + i / 2)
    have ei2 : nI i / (2 : Int32) = nI (i / 2) := pk_div (d := 2) (by omega) (by decide) (by decide)
    have em : nI i - nI i / 2 * 2 = nI (i % 2) := modI (d := 2) (by omega) (by decide) (by decide)
    have core : ∀ c, c < 16 → ∃ xw' yw', f_Reader_takeDirect_b51 N (nI n) 751 vx (nI (p + 1)) (nI K) (f_Reader_takeDirect_b8 N (nI n) 751 vx (nI (p + 1)) (nI K) z) (nI i) (nI c) (nI i) kn xw = some (kn, xw') ∧ f_MM_takeWeights_b114 N (nI n) (nI p) vy (f_MM_takeWeights_b70 N (nI n) (nI p) vy y) (nI (K + 127)) (nI i) (nI c) (nI i) oi bi be yw yp yo = some (0, nI K, oi, bi, be, yw', yp, yo) ∧ SameW K 16 xw' yw' := by
      intro c hc
      obtain ⟨xw', yw', q1, q2, q3⟩ := ih (i + 1) z y _ _ (by omega) (by omega) (by omega) (SameW_put h4 hc)
      refine ⟨xw', yw', ?_, ?_, q3⟩
      · unfold f_Reader_takeDirect_b51
        rw [ck_n (by omega) (by decide), nI_clamp (by omega), nm_q, nm_q, nI_1]
        exact q1
      · unfold f_MM_takeWeights_b114
        rw [putWeight_ok (by omega), bd3_e, nm_q, nI_1]
        exact q2
    have e16 : nI (wby vx (p + 1 + i / 2)) >>> ((4 : Int32) &&& 31) = nI (wby vx (p + 1 + i / 2) / 16) := pk_shrN (by omega) _ 4 (by decide)
    have e15 : nI (wby vx (p + 1 + i / 2)) &&& 15 = nI (wby vx (p + 1 + i / 2) % 16) := pk_andN (by omega) 4 (by decide)
    rw [f_Reader_takeDirect_b8, f_MM_takeWeights_b70, e127, if_neg (nI_ge (by omega) (by omega)), if_neg (nI_ge (by omega) (by omega)), em, ei2, nI_add, Row_get_in (by omega) (by omega) (by decide), bd1_e, nI_1, nI_add, ck_n (by omega) (by decide), nI_clamp (by omega), hs _ (by omega), nm_q, e16, e15]
    by_cases e : i % 2 = 0
    · rw [e, if_pos (show nI 0 = 0 from rfl), if_pos (show nI 0 = 0 from rfl)]
      exact core _ (by omega)
    · rw [if_neg (nI_ne0 (by omega) (by omega)), if_neg (nI_ne0 (by omega) (by omega))]
      exact core _ (by omega)
/-! ===== lengths out of weights ===== -/
def ws (w : Nat → Nat) (k : Nat) : Nat := sm (fun k => if w k = 0 then 0 else 2 ^ (w k - 1)) k
theorem ws_le {w : Nat → Nat} {K : Nat} (hw : ∀ k, k < K → w k < 16) : ws w K ≤ K * 16384 := by
  induction K with
  | zero => exact Nat.zero_le _
  | succ K ih =>
    have h1 := ih (fun k hk => hw k (by omega))
    have h2 : (if w K = 0 then 0 else 2 ^ (w K - 1)) ≤ 16384 := by
      split
      · decide
      · have := hw K (by omega)
        have h3 : 2 ^ (w K - 1) ≤ 2 ^ 14 := Nat.pow_le_pow_right (by decide) (by omega)
        exact h3
    show ws w K + (if w K = 0 then 0 else 2 ^ (w K - 1)) ≤ (K + 1) * 16384
    omega
theorem sumX {N K : Nat} (hK : K ≤ 255) {w : Nat → Nat} (hw : ∀ k, k < K → w k < 16) {xw xl : Nat → Int32} (hx : ∀ k, k < K → xw k = nI (w k)) : ∀ (d k z : Nat), K = k + d → d < z →
    f_Reader_takeLengths_b4 N (nI K) z (nI (ws w k)) (nI k) xw xl = f_Reader_takeLengths_b44 N (nI K) (nI (ws w K)) xw xl := by
  intro d
  induction d with
  | zero =>
    intro k z h1 h2
    obtain ⟨z, rfl⟩ := z_succ h2
    obtain rfl : k = K := by omega
    rw [f_Reader_takeLengths_b4, if_pos (nI_le (Nat.le_refl _) (by omega))]
  | succ d ih =>
    intro k z h1 h2
    obtain ⟨z, rfl⟩ := z_succ h2
    have h3 := ih (k + 1) z (by omega) (by omega)
    have hwk := hw k (by omega)
    have e : ws w (k + 1) = ws w k + (if w k = 0 then 0 else 2 ^ (w k - 1)) := rfl
    rw [e] at h3
    rw [f_Reader_takeLengths_b4, if_neg (nI_ge (by omega) (by omega)), ck_n (by omega) (by decide), nI_clamp (by omega), hx k (by omega)]
    unfold f_Reader_takeLengths_b36
    by_cases e0 : w k = 0
    · rw [if_pos (le0 e0), nm_q, nm_q, nI_1, show nI (ws w k) + (0 : Int32) = nI (ws w k) from nI_add _ 0]
      rw [if_pos e0] at h3
      exact h3
    · rw [if_neg (nle0 (by omega) (by omega)), ck_n (by omega) (by decide), show nI (w k) - (1 : Int32) = nI (w k - 1) from pk_sub (b := 1) (by omega), sh1 (by omega), nm_q, nm_q, nI_1, nI_add]
      rw [if_neg e0] at h3
      exact h3
theorem sumY {N K : Nat} (hK : K ≤ 255) {w : Nat → Nat} (hw : ∀ k, k < K → w k < 16) {yw : Nat → Int32} (hy : ∀ k, k < K → yw k = nI (w k)) {n go gr oi bi be : Int32} {vy yl ys yd yp yo : Nat → Int32} : ∀ (d k z : Nat), K = k + d → d < z →
    f_MM_read_b16 N n vy z (nI (ws w k)) (nI k) go gr (nI K) oi bi be yl ys yd yw yp yo = f_MM_read_b52 N n vy (nI (ws w K)) go gr (nI K) oi bi be yl ys yd yw yp yo := by
  intro d
  induction d with
  | zero =>
    intro k z h1 h2
    obtain ⟨z, rfl⟩ := z_succ h2
    obtain rfl : k = K := by omega
    rw [f_MM_read_b16, if_pos (nI_le (Nat.le_refl _) (by omega))]
  | succ d ih =>
    intro k z h1 h2
    obtain ⟨z, rfl⟩ := z_succ h2
    have h3 := ih (k + 1) z (by omega) (by omega)
    have hwk := hw k (by omega)
    have e : ws w (k + 1) = ws w k + (if w k = 0 then 0 else 2 ^ (w k - 1)) := rfl
    rw [e] at h3
    rw [f_MM_read_b16, if_neg (nI_ge (by omega) (by omega)), ck_n (by omega) (by decide), nI_clamp (by omega), hy k (by omega)]
    unfold f_MM_read_b46
    by_cases e0 : w k = 0
    · rw [if_pos (le0 e0), nm_q, nI_1]
      rw [if_pos e0] at h3
      exact h3
    · rw [if_neg (nle0 (by omega) (by omega)), ck_n (by omega) (by decide), show nI (w k) - (1 : Int32) = nI (w k - 1) from pk_sub (b := 1) (by omega), sh1 (by omega), nm_q, nm_q, nI_1, nI_add]
      rw [if_neg e0] at h3
      exact h3
/-- the power above the sum -/
theorem powY {N S t : Nat} (ht : t ≤ 25) (h1 : S < 2 ^ t) (h2 : ∀ j, j < t → 2 ^ j ≤ S) (hS : S < 2 ^ 30) {n go gr wn oi bi be : Int32} {vy yl ys yd yw yp yo : Nat → Int32} : ∀ (d j z : Nat), t = j + d → d < z →
    f_MM_read_b54 N n vy z (nI S) (nI j) go gr wn oi bi be yl ys yd yw yp yo = f_MM_read_b67 N n vy (nI S) (nI t) go gr wn oi bi be yl ys yd yw yp yo := by
  intro d
  induction d with
  | zero =>
    intro j z h3 h4
    obtain ⟨z, rfl⟩ := z_succ h4
    obtain rfl : j = t := by omega
    have : 2 ^ j ≤ 2 ^ 25 := Nat.pow_le_pow_right (by decide) ht
    rw [f_MM_read_b54, sh1 (by omega), if_pos (nI_lt h1 (by omega))]
  | succ d ih =>
    intro j z h3 h4
    obtain ⟨z, rfl⟩ := z_succ h4
    rw [f_MM_read_b54, sh1 (by omega), if_neg (nI_nlt (h2 j (by omega)) (by omega)), nm_q, nI_1]
    exact ih (j + 1) z (by omega) (by omega)
/-- the weight for the rest -/
theorem restY {N R c : Nat} (hc : c ≤ 25) (h1 : R ≤ 2 ^ c) (h2 : ∀ j, j < c → 2 ^ j < R) (hR : R < 2 ^ 30) {n l2 l3 go gr wn oi bi be : Int32} {vy yl ys yd yw yp yo : Nat → Int32} : ∀ (d j z : Nat), c = j + d → d < z →
    f_MM_read_b77 N n vy z l2 l3 (nI R) (nI (j + 1)) go gr wn oi bi be yl ys yd yw yp yo = f_MM_read_b94 N n vy l2 l3 (nI R) (nI (c + 1)) go gr wn oi bi be yl ys yd yw yp yo := by
  intro d
  induction d with
  | zero =>
    intro j z h3 h4
    obtain ⟨z, rfl⟩ := z_succ h4
    obtain rfl : j = c := by omega
    have : 2 ^ j ≤ 2 ^ 25 := Nat.pow_le_pow_right (by decide) hc
    rw [f_MM_read_b77, show nI (j + 1) - (1 : Int32) = nI j from nI_pred j, sh1 (by omega), if_pos (nI_le h1 (by omega))]
  | succ d ih =>
    intro j z h3 h4
    obtain ⟨z, rfl⟩ := z_succ h4
    rw [f_MM_read_b77, show nI (j + 1) - (1 : Int32) = nI j from nI_pred j, sh1 (by omega), if_neg (nI_ge (h2 j (by omega)) (by omega)), nm_q, nI_1]
    exact ih (j + 1) z (by omega) (by omega)
def on1 (w : Nat → Nat) (k : Nat) : Nat := sm (fun k => if w k = 1 then 1 else 0) k
theorem on1_le {w : Nat → Nat} {k : Nat} : on1 w k ≤ k := by
  induction k with
  | zero => exact Nat.le_refl _
  | succ k ih =>
    show on1 w k + (if w k = 1 then 1 else 0) ≤ k + 1
    split <;> omega
theorem onesY {N K : Nat} (hK : K ≤ 255) {w : Nat → Nat} (hw : ∀ k, k < K + 1 → w k < 2 ^ 30) {yw : Nat → Int32} (hy : ∀ k, k < K + 1 → yw k = nI (w k)) {n l2 l3 l4 l5 go gr oi bi be : Int32} {vy yl ys yd yp yo : Nat → Int32} : ∀ (d k z : Nat), K + 1 = k + d → d < z →
    f_MM_read_b111 N n vy z l2 l3 l4 l5 (nI (on1 w k)) (nI k) go gr (nI K) oi bi be yl ys yd yw yp yo = f_MM_read_b140 N n vy l2 l3 l4 l5 (nI (on1 w (K + 1))) go gr (nI K) oi bi be yl ys yd yw yp yo := by
  intro d
  induction d with
  | zero =>
    intro k z h1 h2
    obtain ⟨z, rfl⟩ := z_succ h2
    obtain rfl : k = K + 1 := by omega
    rw [f_MM_read_b111, if_pos (nI_lt (by omega) (by omega))]
  | succ d ih =>
    intro k z h1 h2
    obtain ⟨z, rfl⟩ := z_succ h2
    have h3 := ih (k + 1) z (by omega) (by omega)
    have hwk := hw k (by omega)
    have e : on1 w (k + 1) = on1 w k + (if w k = 1 then 1 else 0) := rfl
    rw [e] at h3
    rw [f_MM_read_b111, if_neg (nI_nlt (by omega) (by omega)), ck_n (by omega) (by decide), nI_clamp (by omega), hy k (by omega)]
    unfold f_MM_read_b134
    by_cases e0 : w k = 1
    · rw [if_pos (show nI (w k) = (1 : Int32) by rw [e0]; rfl), nm_q, nm_q, nI_1, nI_1]
      rw [if_pos e0] at h3
      exact h3
    · rw [if_neg (show ¬ nI (w k) = (1 : Int32) from fun q => e0 ((nI_eq (b := 1) (by omega) (by decide)).mp q)), nm_q, nI_1]
      rw [if_neg e0] at h3
      exact h3
def ln (t K : Nat) (w : Nat → Nat) (s : Nat) : Nat := if s ≤ K then (if w s = 0 then 0 else t + 1 - w s) else 0
theorem lensX {N K t : Nat} (hK : K ≤ 255) (ht : t ≤ 25) {w : Nat → Nat} (hw : ∀ k, k < K + 1 → w k ≤ t) {xw : Nat → Int32} (hx : ∀ k, k < K + 1 → xw k = nI (w k)) : ∀ (d k z : Nat) (xl : Nat → Int32), K + 1 = k + d → d < z → (∀ s, s < 256 → (s < k → xl s = nI (ln t K w s)) ∧ (k ≤ s → xl s = 0)) →
    ∃ xl', f_Reader_takeLengths_b106 N (nI K) z (nI t) (nI (on1 w k)) (nI k) xw xl = some (if on1 w (K + 1) < 2 then 0 else 1, xw, xl') ∧ ∀ s, s < 256 → xl' s = nI (ln t K w s) := by
  intro d
  induction d with
  | zero =>
    intro k z xl h1 h2 h3
    obtain ⟨z, rfl⟩ := z_succ h2
    obtain rfl : k = K + 1 := by omega
    refine ⟨xl, ?_, fun s hs => ?_⟩
    · rw [f_Reader_takeLengths_b106, if_pos (nI_lt (by omega) (by omega))]
      unfold f_Reader_takeLengths_b174
      have := on1_le (w := w) (k := K + 1)
      by_cases e : on1 w (K + 1) < 2
      · rw [if_pos e, if_pos (show nI (on1 w (K + 1)) < (2 : Int32) from nI_lt (b := 2) e (by decide))]
      · rw [if_neg e, if_neg (show ¬ nI (on1 w (K + 1)) < (2 : Int32) from nI_nlt (b := 2) (by omega) (by omega))]
    · by_cases e : s < K + 1
      · exact (h3 s hs).1 e
      · rw [(h3 s hs).2 (by omega)]
        unfold ln
        rw [if_neg (by omega)]
        rfl
  | succ d ih =>
    intro k z xl h1 h2 h3
    obtain ⟨z, rfl⟩ := z_succ h2
    have hwk := hw k (by omega)
    have e : on1 w (k + 1) = on1 w k + (if w k = 1 then 1 else 0) := rfl
    have core : ∀ x : Int32, x = nI (ln t K w k) → ∃ xl', f_Reader_takeLengths_b146 N (nI K) (f_Reader_takeLengths_b106 N (nI K) z) (nI t) (nI (on1 w k)) (nI k) x (nI k) xw xl = some (if on1 w (K + 1) < 2 then 0 else 1, xw, xl') ∧ ∀ s, s < 256 → xl' s = nI (ln t K w s) := by
      intro x hx0
      obtain ⟨xl', q1, q2⟩ := ih (k + 1) z (upd xl k x) (by omega) (by omega) (by
        intro s hs
        by_cases es : s = k
        · rw [es, pk_us]; exact ⟨fun _ => hx0, fun q => by omega⟩
        · rw [pk_un es]
          exact ⟨fun q => (h3 s hs).1 (by omega), fun q => (h3 s hs).2 (by omega)⟩)
      refine ⟨xl', ?_, q2⟩
      rw [e] at q1
      unfold f_Reader_takeLengths_b146
      rw [ck_n (by omega) (by decide), nI_clamp (by omega), nm_q, ck_n (by omega) (by decide), hx k (by omega)]
      unfold f_Reader_takeLengths_b165
      by_cases e0 : w k = 1
      · rw [if_pos (show nI (w k) = (1 : Int32) by rw [e0]; rfl), nm_q, nm_q, nI_1, nI_1]
        rw [if_pos e0] at q1
        exact q1
      · rw [if_neg (show ¬ nI (w k) = (1 : Int32) from fun q => e0 ((nI_eq (b := 1) (by omega) (by decide)).mp q)), nm_q, nm_q, nI_1, show nI (on1 w k) + (0 : Int32) = nI (on1 w k) from nI_add _ 0]
        rw [if_neg e0] at q1
        exact q1
    rw [f_Reader_takeLengths_b106, if_neg (nI_nlt (by omega) (by omega)), ck_n (by omega) (by decide), nI_clamp (by omega), hx k (by omega)]
    by_cases e0 : w k = 0
    · rw [if_pos (le0 e0)]
      refine core 0 ?_
      unfold ln
      rw [if_pos (by omega), if_pos e0]
      rfl
    · rw [if_neg (nle0 (by omega) (by omega)), ck_n (by omega) (by decide), nI_1, pk_sub (by omega)]
      refine core _ ?_
      unfold ln
      rw [if_pos (by omega), if_neg e0]
theorem lensY {N K t : Nat} (hK : K ≤ 255) (ht : t ≤ 25) {w : Nat → Nat} (hw : ∀ k, k < K + 1 → w k ≤ t) {yw : Nat → Int32} (hy : ∀ k, k < K + 1 → yw k = nI (w k)) {n go gr oi bi be : Int32} {vy yl ys yp yo : Nat → Int32} : ∀ (d s z : Nat) (yd : Nat → Int32), 256 = s + d → d < z → (∀ i, i < s → yd i = nI (ln t K w i)) →
    ∃ yd', f_MM_read_b173 N n vy z (nI t) (nI s) go gr (nI K) oi bi be yl ys yd yw yp yo = f_MM_read_b228 N n vy (nI t) go gr (nI K) oi bi be yl ys yd' yw yp yo ∧ ∀ i, i < 256 → yd' i = nI (ln t K w i) := by
  intro d
  induction d with
  | zero =>
    intro s z yd h1 h2 h3
    obtain ⟨z, rfl⟩ := z_succ h2
    obtain rfl : s = 256 := by omega
    refine ⟨yd, ?_, h3⟩
    rw [f_MM_read_b173, if_pos (le256 (by omega) (by omega))]
  | succ d ih =>
    intro s z yd h1 h2 h3
    obtain ⟨z, rfl⟩ := z_succ h2
    have core : ∀ x : Int32, x = nI (ln t K w s) → ∃ yd', f_MM_read_b221 N n vy (f_MM_read_b173 N n vy z) (nI t) (nI s) x (nI s) go gr (nI K) oi bi be yl ys yd yw yp yo = f_MM_read_b228 N n vy (nI t) go gr (nI K) oi bi be yl ys yd' yw yp yo ∧ ∀ i, i < 256 → yd' i = nI (ln t K w i) := by
      intro x hx0
      obtain ⟨yd', q1, q2⟩ := ih (s + 1) z (upd yd s x) (by omega) (by omega) (by
        intro i hi
        by_cases es : i = s
        · rw [es, pk_us]; exact hx0
        · rw [pk_un es]; exact h3 i (by omega))
      refine ⟨yd', ?_, q2⟩
      unfold f_MM_read_b221
      rw [ck_n (by omega) (by decide), nI_clamp (by omega), nm_q, nm_q, nI_1]
      exact q1
    rw [f_MM_read_b173, if_neg (nle256 (by omega))]
    unfold f_MM_read_b220
    by_cases e1 : K < s
    · rw [if_pos (nI_lt e1 (by omega))]
      refine core 0 ?_
      unfold ln
      rw [if_neg (by omega)]
      rfl
    · have hws := hw s (by omega)
      rw [if_neg (nI_nlt (by omega) (by omega)), ck_n (by omega) (by decide), nI_clamp (by omega), hy s (by omega)]
      by_cases e0 : w s = 0
      · rw [if_pos (le0 e0)]
        refine core 0 ?_
        unfold ln
        rw [if_pos (by omega), if_pos e0]
        rfl
      · rw [if_neg (nle0 (by omega) (by omega)), ck_n (by omega) (by decide), nI_1, pk_sub (by omega)]
        refine core _ ?_
        unfold ln
        rw [if_pos (by omega), if_neg e0]
theorem sm_tail {f : Nat → Nat} {m n : Nat} (h : m ≤ n) (hz : ∀ i, m ≤ i → i < n → f i = 0) : sm f n = sm f m := by
  induction n with
  | zero => rw [show m = 0 by omega]
  | succ n ih =>
    by_cases e : m = n + 1
    · rw [e]
    · show sm f n + f n = sm f m
      rw [ih (by omega) (fun i h1 h2 => hz i h1 (by omega)), hz n (by omega) (by omega)]
      rfl
theorem on1_at {w : Nat → Nat} {k : Nat} (h : 0 < on1 w k) : ∃ i, i < k ∧ w i = 1 := by
  induction k with
  | zero => exact absurd h (Nat.lt_irrefl 0)
  | succ k ih =>
    by_cases e : w k = 1
    · exact ⟨k, by omega, e⟩
    · have h' : 0 < on1 w k + (if w k = 1 then 1 else 0) := h
      rw [if_neg e] at h'
      obtain ⟨i, i1, i2⟩ := ih h'
      exact ⟨i, by omega, i2⟩
theorem ln_good {K t : Nat} (hK : K ≤ 255) (ht1 : 1 ≤ t) (ht : t ≤ 11) {w : Nat → Nat} (hw : ∀ k, k < K + 1 → w k ≤ t) (hsum : ws w (K + 1) = 2 ^ t) (hon : 0 < on1 w (K + 1)) : Good t (ln t K w) := by
  have hle : ∀ s, s < 256 → ln t K w s ≤ t := by
    intro s _
    unfold ln
    split
    · split <;> omega
    · omega
  refine ⟨ht1, ht, ?_, ?_⟩
  · obtain ⟨i, i1, i2⟩ := on1_at hon
    have h1 := mx_ge (f := ln t K w) (n := 256) (i := i) (by omega)
    have h2 : ln t K w i = t := by
      unfold ln
      rw [if_pos (by omega), if_neg (by omega), i2]
      omega
    have h3 := mx_lt (f := ln t K w) (n := 256) (b := t + 1) (by omega) (fun i hi => by have := hle i hi; omega)
    omega
  · unfold kraft
    rw [sm_tail (m := K + 1) (by omega) (fun i h1 h2 => if_pos (by unfold ln; rw [if_neg (by omega)]))]
    rw [← hsum]
    unfold ws
    apply sm_congr
    intro k hk
    have hwk := hw k hk
    by_cases e : w k = 0
    · rw [if_pos e, if_pos (by unfold ln; rw [if_pos (by omega), if_pos e])]
    · have e2 : ln t K w k = t + 1 - w k := by unfold ln; rw [if_pos (by omega), if_neg e]
      rw [if_neg e, e2, if_neg (by omega), show t - (t + 1 - w k) = w k - 1 by omega]
