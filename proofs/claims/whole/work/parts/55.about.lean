/-! ===== code, about ===== -/
theorem areThere_n {N T : Nat} (hT : T < 2 ^ 31) : f_Codes_areThere N (nI T) = some (if T = 0 then 0 else 1) := by
  unfold f_Codes_areThere
  by_cases h : T = 0
  · rw [if_pos h, if_pos (le0 (by omega))]
  · rw [if_neg h, if_neg (nle0 (by omega) hT)]
theorem ap_lt {T : Nat} {len : Nat → Nat} (hG : Good T len) {s : Nat} (hs : s < 256) (h0 : len s ≠ 0) : ap T len s + 2 ^ (T - len s) ≤ 2 ^ T := by
  have a : pos T len (len s) (s + 1) ≤ kraft T len := pos_le hG.le (by omega) (hG.le s hs) (by omega)
  rw [pos_succ, if_pos rfl, hG.2.2.2] at a
  exact a
theorem codeOf_loop {N T : Nat} {len : Nat → Nat} (hG : Good T len) {vl vs : Nat → Int32} (hl : ∀ s, s < 256 → vl s = nI (len s)) (ht : Tab T len vs) {s : Nat} (hs : s < 256) (h0 : len s ≠ 0) : ∀ (d c z : Nat), ap T len s = c + d → d < z →
    f_MM_codeOf_b2 N (nI T) vl vs (nI s) z (nI c) = some (nI (ap T len s / 2 ^ (T - len s))) := by
  have hT1 := hG.2.1
  have h2T : 2 ^ T ≤ 2 ^ 11 := Nat.pow_le_pow_right (by decide) hT1
  have hp : 0 < 2 ^ (T - len s) := Nat.pow_pos (by decide)
  have hap := ap_lt hG hs h0
  have hls := hG.le s hs
  intro d
  induction d with
  | zero =>
    intro c z h1 h2
    obtain ⟨z, rfl⟩ := z_succ h2
    rw [f_MM_codeOf_b2, ck_n (by omega) (by decide), nI_clamp (by omega), ht.1 s hs h0 c (by omega) (by omega), if_pos rfl]
    unfold f_MM_codeOf_b18
    rw [ck_n hs (by decide), nI_clamp (by omega), hl s hs, pk_sub hls, shr_n (by omega) (by omega), show ap T len s = c by omega]
  | succ d ih =>
    intro c z h1 h2
    obtain ⟨z, rfl⟩ := z_succ h2
    obtain ⟨s', a1, a2, a3, a4⟩ := ht.2 c (by omega)
    have hne : s' ≠ s := fun e => by subst e; omega
    rw [f_MM_codeOf_b2, ck_n (by omega) (by decide), nI_clamp (by omega), ht.1 s' a1 a2 c a3 a4, if_neg (fun q => hne ((nI_eq (by omega) (by omega)).mp q))]
    simp only [nm]
    rw [nI_1]
    exact ih (c + 1) z (by omega) (by omega)
theorem codeOf_ok {N T : Nat} (hN : 2049 ≤ N) {len : Nat → Nat} (hG : Good T len) {vl vs : Nat → Int32} (hl : ∀ s, s < 256 → vl s = nI (len s)) (ht : Tab T len vs) {s : Nat} (hs : s < 256) (h0 : len s ≠ 0) :
    f_MM_codeOf N (nI T) vl vs (nI s) = some (nI (ap T len s / 2 ^ (T - len s))) := by
  have hap := ap_lt hG hs h0
  have h2T : 2 ^ T ≤ 2 ^ 11 := Nat.pow_le_pow_right (by decide) hG.2.1
  have hp : 0 < 2 ^ (T - len s) := Nat.pow_pos (by decide)
  unfold f_MM_codeOf
  exact codeOf_loop hG hl ht hs h0 (ap T len s) 0 N (by omega) (by omega)
theorem sim_code {N : Nat} (hN : 2049 ≤ N) {T : Nat} {len : Nat → Nat} {gx kn hi gy : Int32} {xl xv xc yl ys : Nat → Int32} (hX : CodX T len gx kn hi xl xv xc) (hY : CodY T len gy yl ys) (a w : Int32) :
    ∃ r, f_PM_code N gx xl xv a w = some r ∧ f_MM_code N gy yl ys a w = some r := by
  obtain ⟨rfl, hX⟩ := hX
  obtain ⟨rfl, hY⟩ := hY
  unfold f_PM_code f_MM_code f_PM_code_b29 f_MM_code_b27
  rcases hX with h0 | ⟨hG, -, -, hxl, -, hxv⟩
  · subst h0
    rw [areThere_n (by decide), if_pos (show nI 0 = 0 from rfl)]
    exact ⟨-1, rfl, rfl⟩
  have hT0 : T ≠ 0 := by have := hG.1; omega
  have hT1 := hG.2.1
  rcases hY with h0 | ⟨-, hyl, hyt⟩
  · exact absurd h0 hT0
  rw [areThere_n (by omega), if_neg hT0, if_neg (nI_ne0 (by omega) (by omega))]
  simp only [bd1]
  rw [if_neg (by decide)]
  unfold f_PM_isSymbol f_PM_isSymbol_b15
  by_cases h1 : a < 0
  · rw [if_pos h1, if_pos h1]; exact ⟨-1, rfl, rfl⟩
  rw [if_neg h1, if_neg h1]
  by_cases h2 : 256 ≤ a
  · rw [if_pos h2, if_pos h2]; exact ⟨-1, rfl, rfl⟩
  rw [if_neg h2, if_neg h2]
  obtain ⟨s, hs0, rfl⟩ := nI_of h1
  have hs : s < 256 := Nat.lt_of_not_le fun q => h2 (le256 q (by omega))
  have K : ∀ o : Option Int32, ck (inb (nI s) 256) o = o := fun o => ck_n hs (by decide)
  simp only [bd1, K]
  rw [if_neg (by decide), nI_clamp hs0, hxl s hs, hyl s hs]
  by_cases h3 : w < 0
  · rw [if_pos h3]
    have e0 : ¬ w = 0 := fun q => by rw [q] at h3; exact absurd h3 (by decide)
    have e1 : ¬ w = 1 := fun q => by rw [q] at h3; exact absurd h3 (by decide)
    by_cases h4 : nI (len s) = 0
    · rw [if_pos h4]; exact ⟨-1, rfl, rfl⟩
    · rw [if_neg h4, if_neg e0, if_neg e1]; exact ⟨-1, rfl, rfl⟩
  rw [if_neg h3]
  by_cases h5 : w ≤ 1
  · rw [if_pos h5]
    by_cases h4 : nI (len s) = 0
    · rw [if_pos h4, if_pos h4]; exact ⟨-1, rfl, rfl⟩
    · rw [if_neg h4, if_neg h4]
      by_cases h6 : w = 0
      · rw [if_pos h6, if_pos h6]; exact ⟨_, rfl, rfl⟩
      · have h7 : w = 1 := by
          have a1 : ¬ w.toInt < 0 := fun q => h3 (Int32.lt_iff_toInt_lt.mpr q)
          have a2 : w.toInt ≤ 1 := Int32.le_iff_toInt_le.mp h5
          have a3 : w.toInt ≠ 0 := fun q => h6 (Int32.toInt_inj.mp q)
          exact Int32.toInt_inj.mp (show w.toInt = 1 by omega)
        have hl0 : len s ≠ 0 := fun q => h4 (by rw [q]; rfl)
        rw [if_neg h6, if_neg h6, if_pos h7, hxv s hs hl0, codeOf_ok hN hG hyl hyt hs hl0]
        exact ⟨_, rfl, rfl⟩
  · rw [if_neg h5]
    have e0 : ¬ w = 0 := fun q => by rw [q] at h5; exact absurd h5 (by decide)
    have e1 : ¬ w = 1 := fun q => by rw [q] at h5; exact absurd h5 (by decide)
    by_cases h4 : nI (len s) = 0
    · rw [if_pos h4]; exact ⟨-1, rfl, rfl⟩
    · rw [if_neg h4, if_neg e0, if_neg e1]; exact ⟨-1, rfl, rfl⟩
/-- the bits of the bytes i .. n - 1 by these lengths, none when one has no code -/
theorem about_bits {N n T : Nat} (hn : n ≤ 6000) {vx : Nat → Int64} {vy : Nat → Int32} (hs : Same vx vy n) {len : Nat → Nat} (hT : ∀ s, s < 256 → len s ≤ T) (hT1 : T ≤ 11) {xl yl : Nat → Int32} (hx : ∀ s, s < 256 → xl s = nI (len s)) (hy : ∀ s, s < 256 → yl s = nI (len s)) {l2 gg g l1 : Int32} : ∀ (d i z b : Nat), n = i + d → d < z → b ≤ 11 * i →
    ∃ r, f_Streams_bitsOf_b6 N xl (nI n) 751 vx l2 (nI n) z (nI b) (nI i) = some r ∧ f_MM_about_b68 N (nI n) g gg vy yl l1 z (nI b) (nI i) = some r := by
  intro d
  induction d with
  | zero =>
    intro i z b h1 h2 h3
    obtain ⟨z, rfl⟩ := z_succ h2
    refine ⟨nI b, ?_, ?_⟩
    · rw [f_Streams_bitsOf_b6, if_pos (nI_le (by omega) (by omega))]; rfl
    · rw [f_MM_about_b68, if_pos (nI_le (by omega) (by omega))]; rfl
  | succ d ih =>
    intro i z b h1 h2 h3
    obtain ⟨z, rfl⟩ := z_succ h2
    have hw : wby vx i < 256 := wby_lt _ _
    have hl := hT _ hw
    rw [f_Streams_bitsOf_b6, f_MM_about_b68, if_neg (nI_ge (by omega) (by omega)), if_neg (nI_ge (by omega) (by omega)), Row_get_in (by omega) (by omega) (by decide)]
    simp only [bd1, nm]
    rw [ck_n hw (by decide), nI_clamp (by omega), hx _ hw, ck_n (by omega) (by decide), nI_clamp (by omega), hs i (by omega), ck_n hw (by decide), nI_clamp (by omega), hy _ hw]
    by_cases e : nI (len (wby vx i)) = 0
    · rw [if_pos e, if_pos e]; exact ⟨-1, rfl, rfl⟩
    · rw [if_neg e, if_neg e, ck_n (by omega) (by decide), ck_n hw (by decide), nI_add, nI_1]
      exact ih (i + 1) z (b + len (wby vx i)) (by omega) (by omega) (by omega)
theorem about_known {N : Nat} {len : Nat → Nat} (hb : ∀ s, s < 256 → len s < 2 ^ 31) {yl : Nat → Int32} (hy : ∀ s, s < 256 → yl s = nI (len s)) {il g gg l1 : Int32} {vy : Nat → Int32} : ∀ (d s z : Nat), 256 = s + d → d < z →
    f_MM_about_b36 N il g gg vy yl l1 z (nI (cn len s)) (nI s) = some (nI (cn len 256)) := by
  intro d
  induction d with
  | zero =>
    intro s z h1 h2
    obtain ⟨z, rfl⟩ := z_succ h2
    obtain rfl : s = 256 := by omega
    rw [f_MM_about_b36, if_pos (le256 (by omega) (by omega))]; rfl
  | succ d ih =>
    intro s z h1 h2
    obtain ⟨z, rfl⟩ := z_succ h2
    have hs : s < 256 := by omega
    have := ih (s + 1) z (by omega) (by omega)
    rw [f_MM_about_b36, if_neg (nle256 (by omega)), ck_n hs (by decide), nI_clamp (by omega), hy s hs]
    by_cases e : len s = 0
    · rw [if_pos (le0 (by omega))]
      unfold f_MM_about_b55
      simp only [nm]
      rw [nI_1, ← this, show cn len (s + 1) = cn len s from by show cn len s + (if len s = 0 then 0 else 1) = _; rw [if_pos e]; rfl]
    · rw [if_neg (nle0 (by omega) (hb s hs))]
      unfold f_MM_about_b55
      simp only [nm]
      rw [nI_1, nI_1, ← this, show cn len (s + 1) = cn len s + 1 from by show cn len s + (if len s = 0 then 0 else 1) = _; rw [if_neg e]]
theorem sim_about {N n p : Nat} (hN : 6001 ≤ N) (hn : n ≤ 6000) (hp : p ≤ n) {vx : Nat → Int64} {vy : Nat → Int32} (hs : Same vx vy n) {T : Nat} {len : Nat → Nat} {gx kn hi gy : Int32} {xl xv xc yl ys : Nat → Int32} (hX : CodX T len gx kn hi xl xv xc) (hY : CodY T len gy yl ys) (w : Int32) :
    ∃ r, f_PM_about N (nI p) (nI n) 751 vx gx kn xl w = some r ∧ f_MM_about N (nI n) (nI p) gy vy yl w = some r := by
  obtain ⟨rfl, hX⟩ := hX
  obtain ⟨rfl, hY⟩ := hY
  unfold f_PM_about f_MM_about f_MM_about_b16
  rcases hX with h0 | ⟨hG, hkn, -, hxl, -, hxv⟩
  · subst h0
    rw [areThere_n (by decide), if_pos (show nI 0 = 0 from rfl)]
    exact ⟨-1, rfl, rfl⟩
  have hT0 : T ≠ 0 := by have := hG.1; omega
  have hT1 := hG.2.1
  rcases hY with h0 | ⟨-, hyl, hyt⟩
  · exact absurd h0 hT0
  rw [areThere_n (by omega), if_neg hT0, if_neg (nI_ne0 (by omega) (by omega))]
  simp only [bd1]
  rw [if_neg (by decide)]
  by_cases h0 : w = 0
  · subst h0
    rw [if_pos rfl, if_neg (by decide), if_pos (by decide), if_pos rfl]
    exact ⟨nI T, rfl, rfl⟩
  rw [if_neg h0]
  by_cases h1 : w = 1
  · subst h1
    rw [if_pos rfl, if_neg (by decide), if_pos (by decide), if_neg (by decide), if_pos rfl, hkn]
    exact ⟨_, rfl, about_known (N := N) (fun s h => by have := hG.le s h; omega) hyl 256 0 N (by omega) (by omega)⟩
  rw [if_neg h1]
  by_cases h2 : w = 2
  · subst h2
    rw [if_pos rfl, if_neg (by decide), if_pos (by decide), if_neg (by decide), if_neg (by decide)]
    obtain ⟨r, r1, r2⟩ := about_bits (N := N) hn hs hG.le hT1 hxl hyl (l2 := nI p) (gg := nI T) (g := nI p) (l1 := 2) (n - p) p N 0 (by omega) (by omega) (by omega)
    refine ⟨r, ?_, r2⟩
    unfold f_Streams_bitsOf
    have e0 : f_Streams_bitsOf_b6 N xl (nI n) 751 vx (nI p) (nI n) N 0 (nI p) = some r := r1
    rw [e0]
  rw [if_neg h2]
  by_cases h3 : w < 0
  · rw [if_pos h3]; exact ⟨-1, rfl, rfl⟩
  rw [if_neg h3]
  by_cases h4 : w ≤ 2
  · exfalso
    have a1 : ¬ w.toInt < 0 := fun q => h3 (Int32.lt_iff_toInt_lt.mpr q)
    have a2 : w.toInt ≤ 2 := Int32.le_iff_toInt_le.mp h4
    have b0 : w.toInt ≠ 0 := fun q => h0 (Int32.toInt_inj.mp q)
    have b1 : w.toInt ≠ 1 := fun q => h1 (Int32.toInt_inj.mp q)
    have b2 : w.toInt ≠ 2 := fun q => h2 (Int32.toInt_inj.mp q)
    omega
  · rw [if_neg h4]; exact ⟨-1, rfl, rfl⟩
