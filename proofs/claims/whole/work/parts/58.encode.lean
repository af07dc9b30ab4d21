/-! ===== how long streams are ===== -/
theorem bitsOf_loop {N n T : Nat} (hn : n ≤ 6000) {vx : Nat → Int64} {len : Nat → Nat} (hT : ∀ s, s < 256 → len s ≤ T) (hT1 : T ≤ 11) {xl : Nat → Int32} (hxl : ∀ s, s < 256 → xl s = nI (len s)) {a e : Nat} (he : a + e ≤ n) {l2 : Int32} : ∀ (d i z : Nat), e = i + d → d < z → allc len vx a e →
    f_Streams_bitsOf_b6 N xl (nI n) 751 vx l2 (nI (a + e)) z (nI (tb len vx a i)) (nI (a + i)) = some (nI (tb len vx a e)) := by
  intro d
  induction d with
  | zero =>
    intro i z h1 h2 h3
    obtain ⟨z, rfl⟩ := z_succ h2
    obtain rfl : i = e := by omega
    rw [f_Streams_bitsOf_b6, if_pos (nI_le (by omega) (by omega))]; rfl
  | succ d ih =>
    intro i z h1 h2 h3
    obtain ⟨z, rfl⟩ := z_succ h2
    have hw : wby vx (a + i) < 256 := wby_lt _ _
    have hl := hT _ hw
    have h0 := h3 i (by omega)
    rw [f_Streams_bitsOf_b6, if_neg (nI_ge (by omega) (by omega)), Row_get_in (by omega) (by omega) (by decide)]
    simp only [bd1, nm]
    rw [ck_n hw (by decide), nI_clamp (by omega), hxl _ hw, if_neg (nI_ne0 (by omega) (by omega)), nI_add, nI_1]
    exact ih (i + 1) z (by omega) (by omega) h3
theorem bytesOf_ok {N n T : Nat} (hN : 6001 ≤ N) (hn : n ≤ 6000) {vx : Nat → Int64} {len : Nat → Nat} (hT : ∀ s, s < 256 → len s ≤ T) (hT1 : T ≤ 11) {xl : Nat → Int32} (hxl : ∀ s, s < 256 → xl s = nI (len s)) {a e : Nat} (he : a + e ≤ n) (h3 : allc len vx a e) :
    f_Streams_bytesOf N xl (nI n) 751 vx (nI a) (nI (a + e)) = some (nI (tb len vx a e / 8 + 1)) := by
  have hb : tb len vx a e ≤ e * T := tb_le hT
  have hb2 : e * T ≤ 6000 * 11 := Nat.mul_le_mul (by omega) hT1
  unfold f_Streams_bytesOf f_Streams_bitsOf
  have := bitsOf_loop (N := N) hn hT hT1 hxl he (l2 := nI a) e 0 N (by omega) (by omega) h3
  have e0 : f_Streams_bitsOf_b6 N xl (nI n) 751 vx (nI a) (nI (a + e)) N 0 (nI a) = some (nI (tb len vx a e)) := this
  rw [e0]
  simp only [bd1]
  rw [show nI (tb len vx a e) / (8 : Int32) = nI (tb len vx a e / 8) from pk_div (d := 8) (by omega) (by decide) (by decide), nI_1]
theorem streamBytes_loop {N n T : Nat} (hn : n ≤ 6000) {vx : Nat → Int64} {vy : Nat → Int32} (hs : Same vx vy n) {len : Nat → Nat} (hT : ∀ s, s < 256 → len s ≤ T) (hT1 : T ≤ 11) {yl : Nat → Int32} (hyl : ∀ s, s < 256 → yl s = nI (len s)) {a e : Nat} (he : a + e ≤ n) {l1 : Int32} : ∀ (d i z : Nat), e = i + d → d < z →
    f_MM_streamBytes_b5 N vy yl l1 (nI (a + e)) z (nI (1 + tb len vx a i)) (nI (a + i)) = some (nI ((1 + tb len vx a e + 7) / 8)) := by
  intro d
  induction d with
  | zero =>
    intro i z h1 h2
    obtain ⟨z, rfl⟩ := z_succ h2
    obtain rfl : i = e := by omega
    have hb : tb len vx a i ≤ i * T := tb_le hT
    have hb2 : i * T ≤ 6000 * 11 := Nat.mul_le_mul (by omega) hT1
    rw [f_MM_streamBytes_b5, if_pos (nI_le (by omega) (by omega))]
    unfold f_MM_streamBytes_b32
    rw [show nI (1 + tb len vx a i) + (7 : Int32) = nI (1 + tb len vx a i + 7) from nI_add _ 7, show nI (1 + tb len vx a i + 7) / (8 : Int32) = nI ((1 + tb len vx a i + 7) / 8) from pk_div (d := 8) (by omega) (by decide) (by decide)]
  | succ d ih =>
    intro i z h1 h2
    obtain ⟨z, rfl⟩ := z_succ h2
    have hw : wby vx (a + i) < 256 := wby_lt _ _
    rw [f_MM_streamBytes_b5, if_neg (nI_ge (by omega) (by omega)), ck_n (by omega) (by decide), nI_clamp (by omega), hs (a + i) (by omega), ck_n hw (by decide), nI_clamp (by omega), hyl _ hw]
    simp only [nm]
    rw [nI_add, nI_1, Nat.add_assoc 1]
    exact ih (i + 1) z (by omega) (by omega)
theorem streamBytes_ok {N n T : Nat} (hN : 6001 ≤ N) (hn : n ≤ 6000) {vx : Nat → Int64} {vy : Nat → Int32} (hs : Same vx vy n) {len : Nat → Nat} (hT : ∀ s, s < 256 → len s ≤ T) (hT1 : T ≤ 11) {yl : Nat → Int32} (hyl : ∀ s, s < 256 → yl s = nI (len s)) {a e : Nat} (he : a + e ≤ n) :
    f_MM_streamBytes N vy yl (nI a) (nI (a + e)) = some (nI (tb len vx a e / 8 + 1)) := by
  unfold f_MM_streamBytes
  have := streamBytes_loop (N := N) hn hs hT hT1 hyl he (l1 := nI a) e 0 N (by omega) (by omega)
  rw [show (1 + tb len vx a e + 7) / 8 = tb len vx a e / 8 + 1 by omega] at this
  exact this
/-! ===== begin, give ===== -/
theorem MM_begin_loop {N : Nat} {bm : Int32} : ∀ (d i z : Nat) (v : Nat → Int32), 6000 = i + d → d < z → (∀ k, k < i → v k = 0) →
    ∃ v', f_MM_begin_b2 N z (nI i) bm v = some (0, v') ∧ ∀ k, k < 6000 → v' k = 0 := by
  intro d
  induction d with
  | zero =>
    intro i z v h1 h2 h3
    obtain ⟨z, rfl⟩ := z_succ h2
    obtain rfl : i = 6000 := by omega
    refine ⟨v, ?_, h3⟩
    rw [f_MM_begin_b2, if_pos (show (6000 : Int32) ≤ nI 6000 from nI_le (a := 6000) (Nat.le_refl _) (by decide))]; rfl
  | succ d ih =>
    intro i z v h1 h2 h3
    obtain ⟨z, rfl⟩ := z_succ h2
    obtain ⟨v', p1, p2⟩ := ih (i + 1) z (upd v i 0) (by omega) (by omega) (fun k hk => by
      by_cases e : k = i
      · subst e; exact pk_us
      · rw [pk_un e]; exact h3 k (by omega))
    refine ⟨v', ?_, p2⟩
    rw [f_MM_begin_b2, if_neg (show ¬ (6000 : Int32) ≤ nI i from nI_ge (b := 6000) (by omega) (by decide)), ck_n (by omega) (by decide), nI_clamp (by omega)]
    simp only [nm]
    rw [nI_1, p1]
theorem MM_begin_ok {N : Nat} (hN : 6001 ≤ N) (bm : Int32) (v : Nat → Int32) : ∃ v', f_MM_begin N bm v = some (0, v') ∧ BY 0 v' 0 0 := by
  obtain ⟨v', p1, p2⟩ := MM_begin_loop (N := N) (bm := bm) 6000 0 N v (by omega) (by omega) (fun k hk => absurd hk (by omega))
  refine ⟨v', p1, rfl, by decide, fun k hk => ?_⟩
  rw [p2 k hk, Nat.zero_div]
  rfl
theorem MM_give_loop {N n : Nat} (hn : n ≤ 6000) {bm : Int32} {made : Nat → Int32} : ∀ (d i z : Nat) (v : Nat → Int32), n = i + d → d < z → (∀ k, k < i → v k = made k) →
    ∃ v', f_MM_give_b13 N bm made z (nI i) (nI n) v = some (nI n, nI n, v') ∧ ∀ k, k < n → v' k = made k := by
  intro d
  induction d with
  | zero =>
    intro i z v h1 h2 h3
    obtain ⟨z, rfl⟩ := z_succ h2
    obtain rfl : i = n := by omega
    refine ⟨v, ?_, h3⟩
    rw [f_MM_give_b13, if_pos (nI_le (by omega) (by omega))]; rfl
  | succ d ih =>
    intro i z v h1 h2 h3
    obtain ⟨z, rfl⟩ := z_succ h2
    obtain ⟨v', p1, p2⟩ := ih (i + 1) z (upd v i (made i)) (by omega) (by omega) (fun k hk => by
      by_cases e : k = i
      · subst e; exact pk_us
      · rw [pk_un e]; exact h3 k (by omega))
    refine ⟨v', ?_, p2⟩
    rw [f_MM_give_b13, if_neg (nI_ge (by omega) (by omega)), ck_n (by omega) (by decide), ck_n (by omega) (by decide), nI_clamp (by omega)]
    simp only [nm]
    rw [nI_1, p1]
/-- what was made becomes OUT: as the class has it -/
theorem MM_give_ok {N L V : Nat} (hN : 6001 ≤ N) (hL : L ≤ 48000) {bm : Int32} {made : Nat → Int32} (hY : BY bm made L V) (o : Int32) (v : Nat → Int32) {used held many : Int32} {w : Nat → Int64} (hX : BX used held many w L V) :
    ∃ v', f_MM_give N bm made o v = some (nI (L / 8), nI (L / 8), v') ∧ Same w v' (L / 8) := by
  obtain ⟨v', p1, p2⟩ := MM_give_loop (N := N) (n := L / 8) (by omega) (bm := bm) (made := made) (L / 8) 0 N v (by omega) (by omega) (fun k hk => absurd hk (by omega))
  refine ⟨v', ?_, fun k hk => ?_⟩
  · unfold f_MM_give
    simp only [nm]
    rw [hY.1, show nI L / (8 : Int32) = nI (L / 8) from pk_div (d := 8) (by omega) (by decide) (by decide)]
    rw [hY.1] at p1
    exact p1
  · rw [p2 k hk, hY.2.2 k (by omega), hX.2.2.2.2 k hk]
theorem BX_start (v : Nat → Int64) : BX 0 0 0 v 0 0 := ⟨rfl, rfl, rfl, by decide, fun k hk => absurd hk (by omega)⟩
theorem BX_end {used held many : Int32} {v : Nat → Int64} {L V : Nat} (h : BX used held many v (up8 L) V) : used = nI (up8 L / 8) ∧ held = 0 ∧ many = 0 := by
  obtain ⟨h1, h2, h3, h4, -⟩ := h
  have e : up8 L % 8 = 0 := by unfold up8; omega
  have e2 : 8 * (up8 L / 8) = up8 L := by unfold up8; omega
  rw [e] at h2
  rw [e2, Nat.div_eq_of_lt h4] at h3
  exact ⟨h1, h3, h2⟩
