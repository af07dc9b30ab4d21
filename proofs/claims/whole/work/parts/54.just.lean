/-! ===== just ===== -/
def kr (T : Nat) (len : Nat → Nat) (n : Nat) : Nat := sm (fun s => if len s = 0 then 0 else 2 ^ (T - len s)) n
theorem kr_le {T : Nat} {len : Nat → Nat} {n : Nat} : kr T len n ≤ n * 2 ^ T := by
  induction n with
  | zero => exact Nat.zero_le _
  | succ n ih =>
    show kr T len n + (if len n = 0 then 0 else 2 ^ (T - len n)) ≤ (n + 1) * 2 ^ T
    have : (if len n = 0 then 0 else 2 ^ (T - len n)) ≤ 2 ^ T := by
      split
      · exact Nat.zero_le _
      · exact Nat.pow_le_pow_right (by decide) (Nat.sub_le _ _)
    rw [Nat.succ_mul]
    omega
theorem areLengths_loop {N T : Nat} (hT1 : T ≤ 11) {v : Nat → Int32} {len : Nat → Nat} (hv : ∀ s, s < 256 → v s = nI (len s)) (hT : ∀ s, s < 256 → len s ≤ T) : ∀ (d s z : Nat), 256 = s + d → d < z →
    f_PM_areLengths_b17 N 256 v z (nI T) (nI (kr T len s)) (nI s) = some (if kr T len 256 = 2 ^ T then 1 else 0) := by
  have h2T : 2 ^ T ≤ 2 ^ 11 := Nat.pow_le_pow_right (by decide) hT1
  have hkr : ∀ s, s ≤ 256 → kr T len s < 2 ^ 31 := fun s hs => Nat.lt_of_le_of_lt kr_le (Nat.lt_of_le_of_lt (Nat.mul_le_mul hs h2T) (by decide))
  intro d
  induction d with
  | zero =>
    intro s z h1 h2
    obtain ⟨z, rfl⟩ := z_succ h2
    obtain rfl : s = 256 := by omega
    rw [f_PM_areLengths_b17, if_pos (le256 (by omega) (by omega))]
    unfold f_PM_areLengths_b46
    rw [sh1 (by omega)]
    by_cases e : kr T len 256 = 2 ^ T
    · rw [if_pos e, if_pos (by rw [e])]
    · rw [if_neg e, if_neg (fun q => e ((nI_eq (hkr 256 (Nat.le_refl _)) (by omega)).mp q))]
  | succ d ih =>
    intro s z h1 h2
    obtain ⟨z, rfl⟩ := z_succ h2
    have hs : s < 256 := by omega
    have hls := hT s hs
    have := ih (s + 1) z (by omega) (by omega)
    rw [f_PM_areLengths_b17, if_neg (nle256 (by omega)), ck_n hs (by decide), nI_clamp (by omega), hv s hs]
    by_cases e : len s = 0
    · rw [if_pos (le0 (by omega))]
      unfold f_PM_areLengths_b40
      simp only [nm]
      rw [nI_1, ← this, show kr T len (s + 1) = kr T len s from by show kr T len s + (if len s = 0 then 0 else 2 ^ (T - len s)) = _; rw [if_pos e]; rfl]
    · rw [if_neg (nle0 (by omega) (by omega)), ck_n hs (by decide)]
      unfold f_PM_areLengths_b40
      simp only [nm]
      rw [pk_sub hls, sh1 (by omega), nI_add, nI_1, ← this, show kr T len (s + 1) = kr T len s + 2 ^ (T - len s) from by show kr T len s + (if len s = 0 then 0 else 2 ^ (T - len s)) = _; rw [if_neg e]]
theorem areLengths_ok {N : Nat} (hN : 257 ≤ N) {v : Nat → Int32} {len : Nat → Nat} (hv : ∀ s, s < 256 → v s = nI (len s)) (hb : ∀ s, s < 256 → len s ≤ 65535) :
    f_PM_areLengths N 256 v = some (if mx len 256 ≤ 11 ∧ kraft (mx len 256) len = 2 ^ mx len 256 then 1 else 0) := by
  have hm : mx len 256 < 2 ^ 31 := mx_lt (by decide) (fun i hi => by have := hb i hi; omega)
  unfold f_PM_areLengths
  rw [greatestOf_ok hN (by decide) (by decide) hv (fun i hi => by have := hb i hi; omega)]
  simp only [bd1]
  by_cases h : mx len 256 ≤ 11
  · rw [if_pos (show nI (mx len 256) ≤ (11 : Int32) from le_lit (b := 11) h (by decide))]
    have := areLengths_loop (N := N) h hv (fun s hs => mx_ge hs) 256 0 N (by omega) (by omega)
    have e0 : f_PM_areLengths_b17 N 256 v N (nI (mx len 256)) 0 0 = f_PM_areLengths_b17 N 256 v N (nI (mx len 256)) (nI (kr (mx len 256) len 0)) (nI 0) := rfl
    rw [e0, this]
    show some (if kraft (mx len 256) len = 2 ^ mx len 256 then 1 else 0) = _
    by_cases e : kraft (mx len 256) len = 2 ^ mx len 256
    · rw [if_pos e, if_pos ⟨h, e⟩]
    · rw [if_neg e, if_neg (fun q => e q.2)]
  · rw [if_neg (fun q : nI (mx len 256) ≤ (11 : Int32) => h (le_lit_of (b := 11) hm (by decide) q)), if_neg (fun q => h q.1)]
/-- the class's codes hold lengths 'len' -/
def CodX (T : Nat) (len : Nat → Nat) (g kn hi : Int32) (vl vv vc : Nat → Int32) : Prop :=
  g = nI T ∧ (T = 0 ∨ (Good T len ∧ kn = nI (cn len 256) ∧ hi = nI (top len 256) ∧ (∀ s, s < 256 → vl s = nI (len s)) ∧ Tab T len vc ∧ ∀ s, s < 256 → len s ≠ 0 → vv s = nI (ap T len s / 2 ^ (T - len s))))
/-- the reference's -/
def CodY (T : Nat) (len : Nat → Nat) (g : Int32) (vl vs : Nat → Int32) : Prop :=
  g = nI T ∧ (T = 0 ∨ (Good T len ∧ (∀ s, s < 256 → vl s = nI (len s)) ∧ Tab T len vs))
theorem just_copy {N : Nat} {vc : Nat → Int32} {c : Nat → Nat} (hc : ∀ s, s < 256 → vc s = nI (c s)) (hb : ∀ s, s < 256 → c s ≤ 65535) {g : Int32} {vl vs : Nat → Int32} : ∀ (d s z : Nat) (v : Nat → Int32), 256 = s + d → d < z → (∀ i, i < s → v i = nI (c i)) → (∀ i, i < s → c i ≤ 11) →
    (∃ v', f_MM_just_b4 N vc z 0 (nI s) g vl vs v = some (-1, g, vl, vs, v') ∧ ¬ mx c 256 ≤ 11) ∨
    (∃ v', f_MM_just_b4 N vc z 0 (nI s) g vl vs v = f_MM_just_b42 N vc 0 g vl vs v' ∧ (∀ i, i < 256 → v' i = nI (c i)) ∧ mx c 256 ≤ 11) := by
  intro d
  induction d with
  | zero =>
    intro s z v h1 h2 h3 h4
    obtain ⟨z, rfl⟩ := z_succ h2
    obtain rfl : s = 256 := by omega
    refine Or.inr ⟨v, ?_, h3, by have := mx_lt (b := 12) (by decide) (fun i hi => Nat.lt_succ_of_le (h4 i hi)); omega⟩
    rw [f_MM_just_b4, if_pos (le256 (by omega) (by omega))]
  | succ d ih =>
    intro s z v h1 h2 h3 h4
    obtain ⟨z, rfl⟩ := z_succ h2
    have hs : s < 256 := by omega
    have hbs := hb s hs
    rw [f_MM_just_b4, if_neg (nle256 (by omega)), ck_n hs (by decide), nI_clamp (by omega), hc s hs]
    by_cases e : c s ≤ 11
    · rw [if_pos (show nI (c s) ≤ (11 : Int32) from le_lit (b := 11) e (by decide)), ck_n hs (by decide), ck_n hs (by decide)]
      simp only [nm]
      rw [nI_1]
      exact ih (s + 1) z _ (by omega) (by omega) (fun i hi => by
        by_cases e2 : i = s
        · subst e2; exact pk_us
        · rw [pk_un e2]; exact h3 i (by omega)) (fun i hi => by
        by_cases e2 : i = s
        · subst e2; exact e
        · exact h4 i (by omega))
    · rw [if_neg (show ¬ nI (c s) ≤ (11 : Int32) from nle_lit (b := 11) (by omega) (by omega))]
      refine Or.inl ⟨v, rfl, fun q => ?_⟩
      have := mx_ge (f := c) hs
      omega
theorem just_sum {N T : Nat} (hT1 : T ≤ 11) {v : Nat → Int32} {len : Nat → Nat} (hv : ∀ s, s < 256 → v s = nI (len s)) (hT : ∀ s, s < 256 → len s ≤ T) {vc : Nat → Int32} {g : Int32} {vl vs : Nat → Int32} : ∀ (d s z : Nat), 256 = s + d → d < z →
    f_MM_just_b50 N vc z (lN (kr T len s)) (nI T) (nI s) g vl vs v = f_MM_just_b89 N vc (lN (kr T len 256)) (nI T) g vl vs v := by
  have h2T : 2 ^ T ≤ 2 ^ 11 := Nat.pow_le_pow_right (by decide) hT1
  intro d
  induction d with
  | zero =>
    intro s z h1 h2
    obtain ⟨z, rfl⟩ := z_succ h2
    obtain rfl : s = 256 := by omega
    rw [f_MM_just_b50, if_pos (le256 (by omega) (by omega))]
  | succ d ih =>
    intro s z h1 h2
    obtain ⟨z, rfl⟩ := z_succ h2
    have hs : s < 256 := by omega
    have hls := hT s hs
    have := ih (s + 1) z (by omega) (by omega)
    have hp : 2 ^ (T - len s) ≤ 2 ^ 11 := Nat.pow_le_pow_right (by decide) (by omega)
    rw [f_MM_just_b50, if_neg (nle256 (by omega)), ck_n hs (by decide), nI_clamp (by omega), hv s hs]
    by_cases e : len s = 0
    · rw [if_pos (le0 (by omega))]
      unfold f_MM_just_b83
      simp only [nm]
      rw [nI_1, ← this, show kr T len (s + 1) = kr T len s from by show kr T len s + (if len s = 0 then 0 else 2 ^ (T - len s)) = _; rw [if_pos e]; rfl]
    · rw [if_neg (nle0 (by omega) (by omega)), ck_n hs (by decide)]
      unfold f_MM_just_b83
      simp only [nm]
      rw [pk_sub hls, sh1 (by omega), nI_l (by omega), lN_add, nI_1, ← this, show kr T len (s + 1) = kr T len s + 2 ^ (T - len s) from by show kr T len s + (if len s = 0 then 0 else 2 ^ (T - len s)) = _; rw [if_neg e]]
theorem lg_cmp0 (x y : Int64) : (lg_cmp x y = 0) ↔ x = y := lg_cmp_eq x y
theorem sim_just {N : Nat} (hN : 2049 ≤ N) {cx cy : Nat → Int32} {c : Nat → Nat} (hc : Cnt cx cy c) (hb : ∀ s, s < 256 → c s ≤ 65535) {T : Nat} {len : Nat → Nat} {gx kn hi gy : Int32} {xl xv xc yl ys yd : Nat → Int32} (hX : CodX T len gx kn hi xl xv xc) (hY : CodY T len gy yl ys) :
    ∃ r T' len' gx' kn' hi' xl' xv' xc' gy' yl' ys' yd', f_PM_just N cx gx kn hi xl xv xc = some (r, gx', kn', hi', xl', xv', xc') ∧ f_MM_just N cy gy yl ys yd = some (r, gy', yl', ys', yd') ∧ CodX T' len' gx' kn' hi' xl' xv' xc' ∧ CodY T' len' gy' yl' ys' := by
  have hcx : ∀ s, s < 256 → cx s = nI (c s) := fun s h => (hc s h).1
  have hcy : ∀ s, s < 256 → cy s = nI (c s) := fun s h => (hc s h).2
  unfold f_PM_just f_MM_just
  rw [areLengths_ok (by omega) hcx hb]
  simp only [bd1]
  have hcopy := just_copy (N := N) hcy hb (g := gy) (vl := yl) (vs := ys) 256 0 N yd (by omega) (by omega) (fun i hi => absurd hi (by omega)) (fun i hi => absurd hi (by omega))
  have e0 : f_MM_just_b4 N cy N 0 0 gy yl ys yd = f_MM_just_b4 N cy N 0 (nI 0) gy yl ys yd := rfl
  rw [e0]
  rcases hcopy with ⟨v', p1, p2⟩ | ⟨v', p1, p2, p3⟩
  · rw [p1, if_neg (show ¬ (mx c 256 ≤ 11 ∧ kraft (mx c 256) c = 2 ^ mx c 256) from fun q => p2 q.1), if_pos rfl]
    exact ⟨-1, T, len, gx, kn, hi, xl, xv, xc, gy, yl, ys, v', rfl, rfl, hX, hY⟩
  · rw [p1]
    unfold f_MM_just_b42
    rw [longestDraft_ok (by omega) p2 (fun i hi => by have := hb i hi; omega)]
    simp only [bd1]
    have hsum := just_sum (N := N) p3 p2 (fun s hs => mx_ge hs) (vc := cy) (g := gy) (vl := yl) (vs := ys) 256 0 N (by omega) (by omega)
    have e1 : f_MM_just_b50 N cy N 0 (nI (mx c 256)) 0 gy yl ys v' = f_MM_just_b50 N cy N (lN (kr (mx c 256) c 0)) (nI (mx c 256)) (nI 0) gy yl ys v' := rfl
    rw [e1, hsum]
    unfold f_MM_just_b89
    have h2T : 2 ^ mx c 256 ≤ 2 ^ 11 := Nat.pow_le_pow_right (by decide) p3
    have hkr : kr (mx c 256) c 256 < 2 ^ 62 := Nat.lt_of_le_of_lt kr_le (Nat.lt_of_le_of_lt (Nat.mul_le_mul_left _ h2T) (by decide))
    by_cases h0 : mx c 256 = 0
    · have hz : kraft (mx c 256) c = 0 := by
        unfold kraft
        rw [sm_congr (g := fun _ => 0) (fun s hs => if_pos (by have := mx_ge (f := c) hs; omega)), sm_zero]
      rw [if_neg (show ¬ (mx c 256 ≤ 11 ∧ kraft (mx c 256) c = 2 ^ mx c 256) from fun q => by have := q.2; rw [hz, h0] at this; exact absurd this (by decide)), if_pos rfl, h0, if_pos (show nI 0 = 0 from rfl)]
      exact ⟨-1, T, len, gx, kn, hi, xl, xv, xc, gy, yl, ys, v', rfl, rfl, hX, hY⟩
    · rw [if_neg (nI_ne0 (by omega) (by omega)), sh1 (by omega), nI_l (by omega)]
      by_cases hk : kraft (mx c 256) c = 2 ^ mx c 256
      · have hG : Good (mx c 256) c := ⟨by omega, p3, rfl, hk⟩
        rw [if_pos (show (mx c 256 ≤ 11 ∧ kraft (mx c 256) c = 2 ^ mx c 256) from ⟨p3, hk⟩), if_neg (by decide), if_pos ((lg_cmp0 _ _).mpr (by show lN (kraft (mx c 256) c) = _; rw [hk]))]
        obtain ⟨vl', vv', vc', q1, q2, q3, q4⟩ := become_ok (N := N) hN (n1 := 256) (by decide) (by decide) hcx hG gx kn hi xl xv xc
        obtain ⟨yl', ys', r1, r2, r3⟩ := settle_ok (N := N) hN hG p2 gy yl ys
        rw [q1, r1]
        exact ⟨nI (mx c 256), mx c 256, c, nI (mx c 256), _, _, vl', vv', vc', nI (mx c 256), yl', ys', v', rfl, rfl, ⟨rfl, Or.inr ⟨hG, rfl, rfl, q2, q3, q4⟩⟩, ⟨rfl, Or.inr ⟨hG, r2, r3⟩⟩⟩
      · rw [if_neg (show ¬ (mx c 256 ≤ 11 ∧ kraft (mx c 256) c = 2 ^ mx c 256) from fun q => hk q.2), if_pos rfl, if_neg (fun q => hk (by
          have q2 := (lg_cmp0 _ _).mp q
          exact (pk_lEQ (a := kr (mx c 256) c 256) (by omega) (by omega)).mp q2))]
        exact ⟨-1, T, len, gx, kn, hi, xl, xv, xc, gy, yl, ys, v', rfl, rfl, hX, hY⟩
