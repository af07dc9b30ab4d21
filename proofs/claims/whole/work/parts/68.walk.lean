/-! ===== the walk ===== -/
theorem oA {o : Nat} (ho : o = 5 ∨ o = 6) : 2 ^ o = 32 ∨ 2 ^ o = 64 := by rcases ho with rfl | rfl; exact Or.inl rfl; exact Or.inr rfl
theorem stp_lt {o : Nat} (ho : o = 5 ∨ o = 6) : stp o < 50 := by rcases ho with rfl | rfl <;> decide
theorem stp_n {o : Nat} (ho : o = 5 ∨ o = 6) : nI (2 ^ o) >>> ((1 : Int32) &&& 31) + nI (2 ^ o) >>> ((3 : Int32) &&& 31) + 3 = nI (stp o) := by rcases ho with rfl | rfl <;> decide
theorem walkX1 {N o fr : Nat} (ho : o = 5 ∨ o = 6) (hfr : fr ≤ 2 ^ o) {xp : Nat → Int32} : ∀ (d i z : Nat) (xo xw : Nat → Int32), 2 ^ o = i + d → d < z → (∀ k, k < i → pp o k < fr → xw (cb o fr k) = nI (pp o k)) →
    ∃ xw', f_Share_giveByWalk_b23 N (nI o) xp (nI fr) z (nI (2 ^ o)) (nI (stp o)) (nI (cb o fr i)) (nI i) xo xw = f_Share_giveByWalk_b63 N (nI o) xp (nI fr) (nI fr) xo xw' ∧ ∀ k, k < 2 ^ o → pp o k < fr → xw' (cb o fr k) = nI (pp o k) := by
  have hA := oA ho
  have hst := stp_lt ho
  intro d
  induction d with
  | zero =>
    intro i z xo xw h1 h2 h3
    obtain ⟨z, rfl⟩ := z_succ h2
    obtain rfl : i = 2 ^ o := by omega
    refine ⟨xw, ?_, h3⟩
    rw [f_Share_giveByWalk_b23, if_pos (nI_le (Nat.le_refl _) (by omega)), cb_all ho hfr]
  | succ d ih =>
    intro i z xo xw h1 h2 h3
    obtain ⟨z, rfl⟩ := z_succ h2
    have him : i * stp o < 64 * 50 := Nat.lt_of_le_of_lt (Nat.mul_le_mul_right _ (show i ≤ 63 by omega)) (by omega)
    have hc : cb o fr i ≤ cb o fr (2 ^ o) := cb_mono (by omega)
    rw [cb_all ho hfr] at hc
    have eand : nI i * nI (stp o) &&& (nI (2 ^ o) - 1) = nI (pp o i) := by
      rw [pk_mul, show nI (2 ^ o) - (1 : Int32) = nI (2 ^ o - 1) from pk_sub (b := 1) (by omega)]
      exact pk_andN (by omega) o (pk_tn (by omega))
    have hpp : pp o i < 2 ^ o := pp_lt
    rw [f_Share_giveByWalk_b23, if_neg (nI_ge (by omega) (by omega)), eand, nm_q]
    unfold f_Share_giveByWalk_b57
    by_cases e : pp o i < fr
    · have e1 : cb o fr (i + 1) = cb o fr i + 1 := by rw [cb_succ, if_pos e]
      have hc1 : cb o fr (i + 1) ≤ cb o fr (2 ^ o) := cb_mono (by omega)
      rw [cb_all ho hfr] at hc1
      obtain ⟨xw', p1, p2⟩ := ih (i + 1) z xo (upd xw (cb o fr i) (nI (pp o i))) (by omega) (by omega) (by
        intro k hk hk2
        by_cases e2 : k = i
        · subst e2; exact pk_us
        · have := cb_lt (o := o) (b := fr) (show k < i by omega) hk2
          rw [pk_un (by omega)]
          exact h3 k (by omega) hk2)
      refine ⟨xw', ?_, p2⟩
      rw [if_neg (nI_ge e (by omega)), ck_n (by omega) (by decide), nI_clamp (by omega), nm_q, nm_q, nm_q, nI_1, nI_1, ← e1]
      exact p1
    · have e1 : cb o fr (i + 1) = cb o fr i := by rw [cb_succ, if_neg e]; rfl
      obtain ⟨xw', p1, p2⟩ := ih (i + 1) z xo xw (by omega) (by omega) (by
        intro k hk hk2
        by_cases e2 : k = i
        · subst e2; exact absurd hk2 e
        · exact h3 k (by omega) hk2)
      refine ⟨xw', ?_, p2⟩
      rw [if_pos (nI_le (by omega) (by omega)), nm_q, nI_1, ← e1]
      exact p1
theorem walkX2 {N o fr : Nat} (ho : o = 5 ∨ o = 6) (hfr : fr ≤ 2 ^ o) {u : Nat → Nat} (hu : ∀ v, v < 12 → u v < 2 ^ 30) (htot : ps u 12 = fr) {xp : Nat → Int32} (hp : Pts u xp) {l1 : Int32} {xw xo0 : Nat → Int32} (hw : ∀ k, k < 2 ^ o → pp o k < fr → xw (cb o fr k) = nI (pp o k))
    {v : Nat} (hv : v < 12) {k69 : Int32 → Int32 → Int32 → (Nat → Int32) → (Nat → Int32) → Option ((Nat → Int32) × (Nat → Int32))} : ∀ (d i z : Nat) (xo : Nat → Int32), u v - 1 = i + d → d < z → wk_ok u o fr (fun k => cb o fr k < ps u v + i) xo → (∀ p, fr ≤ p → xo p = xo0 p) →
    ∃ xo', f_Share_giveByWalk_b79 N (nI o) xp l1 k69 z (nI fr) (nI (ps u v + i)) (nI v) (nI i) xo xw = k69 (nI fr) (nI (ps u (v + 1))) (nI (v + 1)) xo' xw ∧ wk_ok u o fr (fun k => cb o fr k < ps u (v + 1)) xo' ∧ (∀ p, fr ≤ p → xo' p = xo0 p) := by
  have hA := oA ho
  have hps : ps u (v + 1) ≤ ps u 12 := ps_mono (by omega)
  have huv := hu v hv
  intro d
  induction d with
  | zero =>
    intro i z xo h1 h2 h3 h4
    obtain ⟨z, rfl⟩ := z_succ h2
    have e1 : ps u v + i = ps u (v + 1) := by rw [ps_succ]; omega
    refine ⟨xo, ?_, by rw [← e1]; exact h3, h4⟩
    rw [f_Share_giveByWalk_b79, ck_n hv (by decide), nI_clamp (by omega), hp v hv]
    have hle : nI (u v) - 1 ≤ nI i := by
      by_cases e : u v = 0
      · rw [e, pI_0, show i = 0 by omega]; decide
      · rw [pI_p (by omega)]; exact nI_le (by omega) (by omega)
    rw [if_pos hle]
    unfold f_Share_giveByWalk_b121
    rw [nm_q, nI_1, e1]
  | succ d ih =>
    intro i z xo h1 h2 h3 h4
    obtain ⟨z, rfl⟩ := z_succ h2
    have e1 : ps u (v + 1) = ps u v + (u v - 1) := ps_succ
    obtain ⟨k, k1, k2, k3⟩ := cb_sur (o := o) (b := fr) (n := 2 ^ o) (g := ps u v + i) (by rw [cb_all ho hfr]; omega)
    have hpk : pp o k < 2 ^ o := pp_lt
    obtain ⟨xo', p1, p2, p3⟩ := ih (i + 1) z (upd xo (pp o k) (nI v)) (by omega) (by omega) (by
      intro k' a1 a2 a3
      by_cases e : k' = k
      · subst e
        exact ⟨v, ⟨hv, by omega, by omega⟩, pk_us⟩
      · have hne : pp o k' ≠ pp o k := fun q => e (pp_inj ho k' a1 k k1 q)
        have hne2 : cb o fr k' ≠ cb o fr k := fun q => by
          rcases Nat.lt_trichotomy k' k with h | h | h
          · have := cb_lt (o := o) h a2; omega
          · exact e h
          · have := cb_lt (o := o) h k2; omega
        rw [pk_un hne]
        exact h3 k' a1 a2 (by show cb o fr k' < ps u v + i; have a3' : cb o fr k' < ps u v + (i + 1) := a3; omega)) (by
      intro p hpp
      rw [pk_un (by omega)]
      exact h4 p hpp)
    refine ⟨xo', ?_, p2, p3⟩
    have hwk := hw k k1 k2
    rw [k3] at hwk
    rw [f_Share_giveByWalk_b79, ck_n hv (by decide), nI_clamp (by omega), hp v hv, pI_p (by omega), if_neg (nI_ge (by omega) (by omega)), if_neg (nI_ge (by omega) (by omega)), ck_n (by omega) (by decide), nI_clamp (by omega), hwk, ck_n (by omega) (by decide), nI_clamp (by omega), nm_q, nm_q, nm_q, nI_1, nI_1]
    exact p1
theorem walkX3 {N o fr : Nat} (hN : 70 ≤ N) (ho : o = 5 ∨ o = 6) (hfr : fr ≤ 2 ^ o) {u : Nat → Nat} (hu : ∀ v, v < 12 → u v < 2 ^ 30) (htot : ps u 12 = fr) {xp : Nat → Int32} (hp : Pts u xp) {l1 : Int32} {xw xo0 : Nat → Int32} (hw : ∀ k, k < 2 ^ o → pp o k < fr → xw (cb o fr k) = nI (pp o k)) : ∀ (d v z : Nat) (xo : Nat → Int32), 12 = v + d → d < z → wk_ok u o fr (fun k => cb o fr k < ps u v) xo → (∀ p, fr ≤ p → xo p = xo0 p) →
    ∃ xo', f_Share_giveByWalk_b69 N (nI o) xp l1 z (nI fr) (nI (ps u v)) (nI v) xo xw = some (xo', xw) ∧ wk_ok u o fr (fun _ => True) xo' ∧ (∀ p, fr ≤ p → xo' p = xo0 p) := by
  have hA := oA ho
  intro d
  induction d with
  | zero =>
    intro v z xo h1 h2 h3 h4
    obtain ⟨z, rfl⟩ := z_succ h2
    obtain rfl : v = 12 := by omega
    refine ⟨xo, ?_, ?_, h4⟩
    · rw [f_Share_giveByWalk_b69, if_pos (show (12 : Int32) ≤ nI 12 by decide)]
    · intro k a1 a2 _
      refine h3 k a1 a2 ?_
      show cb o fr k < ps u 12
      rw [htot]
      have := cb_lt (o := o) (show k < 2 ^ o from a1) a2
      rw [cb_all ho hfr] at this
      exact this
  | succ d ih =>
    intro v z xo h1 h2 h3 h4
    obtain ⟨z, rfl⟩ := z_succ h2
    have hps : ps u (v + 1) ≤ ps u 12 := ps_mono (by omega)
    have e1 : ps u (v + 1) = ps u v + (u v - 1) := ps_succ
    obtain ⟨xo1, p1, p2, p3⟩ := walkX2 (N := N) ho hfr hu htot hp (l1 := l1) hw (v := v) (by omega) (k69 := f_Share_giveByWalk_b69 N (nI o) xp l1 z) (u v - 1) 0 N xo (by omega) (by omega) h3 h4
    obtain ⟨xo2, q1, q2, q3⟩ := ih (v + 1) z xo1 (by omega) (by omega) p2 p3
    refine ⟨xo2, ?_, q2, q3⟩
    rw [f_Share_giveByWalk_b69, if_neg (show ¬ (12 : Int32) ≤ nI v from nI_ge (b := 12) (by omega) (by decide))]
    have p1' : f_Share_giveByWalk_b79 N (nI o) xp l1 (f_Share_giveByWalk_b69 N (nI o) xp l1 z) N (nI fr) (nI (ps u v)) (nI v) 0 xo xw = _ := p1
    rw [p1']
    exact q1
/-- the reference finds whose the next place is -/
theorem walkY1 {N o fr : Nat} (hfr : fr ≤ 64) {u : Nat → Nat} (hu : ∀ v, v < 12 → u v < 2 ^ 30) (htot : ps u 12 = fr) {yp : Nat → Int32} (hp : Pts u yp) {j : Nat} (hj : j < fr) {l1 l2 l5 l6 : Int32} {k51 : Int32 → Int32 → Int32 → Int32 → Int32 → (Nat → Int32) → Option (Nat → Int32)} {yo : Nat → Int32} : ∀ (d v z got : Nat), 11 = v + d → d < z → ps u v + got = j → got ≤ u v - 1 →
    ∃ w g, f_MM_givePlaces_b79 N (nI o) yp k51 z l1 l2 (nI v) (nI got) l5 l6 yo = f_MM_givePlaces_b105 N (nI o) yp k51 l1 l2 (nI w) (nI g) l5 l6 yo ∧ isw u j w ∧ ps u w + g = j := by
  intro d
  induction d with
  | zero =>
    intro v z got h1 h2 h3 h4
    obtain ⟨z, rfl⟩ := z_succ h2
    obtain rfl : v = 11 := by omega
    refine ⟨11, got, ?_, ⟨by decide, by omega, by rw [← htot] at hj; exact hj⟩, h3⟩
    rw [f_MM_givePlaces_b79, if_pos (show (11 : Int32) ≤ nI 11 by decide)]
  | succ d ih =>
    intro v z got h1 h2 h3 h4
    obtain ⟨z, rfl⟩ := z_succ h2
    have huv := hu v (by omega)
    have e1 : ps u (v + 1) = ps u v + (u v - 1) := ps_succ
    rw [f_MM_givePlaces_b79, if_neg (show ¬ (11 : Int32) ≤ nI v from nI_ge (b := 11) (by omega) (by decide)), ck_n (by omega) (by decide), nI_clamp (by omega), hp v (by omega)]
    by_cases e : got < u v - 1
    · refine ⟨v, got, ?_, ⟨by omega, by omega, by omega⟩, h3⟩
      rw [pI_p (by omega), if_pos (nI_lt e (by omega))]
    · have hnl : ¬ nI got < nI (u v) - 1 := by
        by_cases e0 : u v = 0
        · rw [e0, pI_0, show got = 0 by omega]; decide
        · rw [pI_p (by omega)]; exact nI_nlt (by omega) (by omega)
      obtain ⟨w, g, p1, p2, p3⟩ := ih (v + 1) z 0 (by omega) (by omega) (by omega) (Nat.zero_le _)
      refine ⟨w, g, ?_, p2, p3⟩
      rw [if_neg hnl, nm_q, nI_1]
      exact p1
theorem walkY2 {N o fr : Nat} (hN : 70 ≤ N) (ho : o = 5 ∨ o = 6) (hfr : fr ≤ 2 ^ o) {u : Nat → Nat} (hu : ∀ v, v < 12 → u v < 2 ^ 30) (htot : ps u 12 = fr) {yp : Nat → Int32} (hp : Pts u yp) {yo0 : Nat → Int32} : ∀ (d i z v got : Nat) (yo : Nat → Int32), 2 ^ o = i + d → d < z → v < 12 → ps u v + got = cb o fr i → got ≤ u v - 1 → wk_ok u o fr (fun k => k < i) yo → (∀ p, fr ≤ p → yo p = yo0 p) →
    ∃ yo', f_MM_givePlaces_b51 N (nI o) yp z (nI (2 ^ o)) (nI fr) (nI v) (nI got) (nI i) yo = some yo' ∧ wk_ok u o fr (fun _ => True) yo' ∧ (∀ p, fr ≤ p → yo' p = yo0 p) := by
  have hA := oA ho
  have hst := stp_lt ho
  intro d
  induction d with
  | zero =>
    intro i z v got yo h1 h2 hv h3 h4 h5 h6
    obtain ⟨z, rfl⟩ := z_succ h2
    obtain rfl : i = 2 ^ o := by omega
    refine ⟨yo, ?_, fun k a1 a2 _ => h5 k a1 a2 a1, h6⟩
    rw [f_MM_givePlaces_b51, if_pos (nI_le (Nat.le_refl _) (by omega))]
  | succ d ih =>
    intro i z v got yo h1 h2 hv h3 h4 h5 h6
    obtain ⟨z, rfl⟩ := z_succ h2
    have him : i * stp o < 64 * 50 := Nat.lt_of_le_of_lt (Nat.mul_le_mul_right _ (show i ≤ 63 by omega)) (by omega)
    have hpp : pp o i < 2 ^ o := pp_lt
    have edm : nI i * nI (stp o) - nI i * nI (stp o) / nI (2 ^ o) * nI (2 ^ o) = nI (pp o i) := by
      rw [pk_mul, pk_div (by omega) (by omega) (by omega), pk_mul, pk_sub (Nat.div_mul_le_self _ _)]
      congr 1
      unfold pp
      have := Nat.div_add_mod (i * stp o) (2 ^ o)
      rw [Nat.mul_comm] at this
      omega
    have hnz : nz (nI (2 ^ o)) = true := decide_eq_true (nI_ne0 (by omega) (by omega))
    rw [f_MM_givePlaces_b51, if_neg (nI_ge (by omega) (by omega)), ck_t hnz, stp_n ho, edm, nm_q]
    by_cases e : pp o i < fr
    · have e1 : cb o fr (i + 1) = cb o fr i + 1 := by rw [cb_succ, if_pos e]
      have hc : cb o fr i < cb o fr (2 ^ o) := cb_lt (by omega) e
      rw [cb_all ho hfr] at hc
      obtain ⟨w, g, p1, p2, p3⟩ := walkY1 (N := N) (o := o) (by omega) hu htot hp hc (l1 := nI (2 ^ o)) (l2 := nI fr) (l5 := nI i) (l6 := nI (pp o i)) (k51 := f_MM_givePlaces_b51 N (nI o) yp z) (yo := yo) (11 - v) v N got (by omega) (by omega) h3 h4
      have hw12 := p2.1
      have e2 : ps u (w + 1) = ps u w + (u w - 1) := ps_succ
      have hw3 := p2.2.2
      obtain ⟨yo', q1, q2, q3⟩ := ih (i + 1) z w (g + 1) (upd yo (pp o i) (nI w)) (by omega) (by omega) hw12 (by omega) (by omega) (by
        intro k a1 a2 a3
        by_cases ek : k = i
        · subst ek; exact ⟨w, p2, pk_us⟩
        · have hne : pp o k ≠ pp o i := fun q => ek (pp_inj ho k a1 i (by omega) q)
          rw [pk_un hne]
          exact h5 k a1 a2 (by show k < i; have a3' : k < i + 1 := a3; omega)) (by
        intro p hp1
        rw [pk_un (by omega)]
        exact h6 p hp1)
      refine ⟨yo', ?_, q2, q3⟩
      rw [if_neg (nI_ge e (by omega)), p1]
      unfold f_MM_givePlaces_b105 f_MM_givePlaces_b116
      rw [ck_n (by omega) (by decide), nI_clamp (by omega), nm_q, nm_q, nm_q, nI_1, nI_1]
      exact q1
    · have e1 : cb o fr (i + 1) = cb o fr i := by rw [cb_succ, if_neg e]; rfl
      obtain ⟨yo', q1, q2, q3⟩ := ih (i + 1) z v got yo (by omega) (by omega) hv (by omega) h4 (by
        intro k a1 a2 a3
        by_cases ek : k = i
        · subst ek; exact absurd a2 e
        · exact h5 k a1 a2 (by show k < i; have a3' : k < i + 1 := a3; omega)) h6
      refine ⟨yo', ?_, q2, q3⟩
      rw [if_pos (nI_le (by omega) (by omega))]
      unfold f_MM_givePlaces_b116
      rw [nm_q, nI_1]
      exact q1
