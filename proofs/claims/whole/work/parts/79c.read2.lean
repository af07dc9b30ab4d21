theorem dead55 {N E z : Nat} {vy : Nat → Int32} {lack v : Nat} (hl0 : 1 ≤ lack) (hl : lack ≤ 64) (h1 : 12 ≤ v) (h2 : v < 2 ^ 29) {oi b : Int32} {yp yo : Nat → Int32} : f_MM_takeShare_b55 N (nI E) vy (z + 1) (nI lack) (nI v) oi b yp yo = some (0, oi, b, yp, yo) := by
  rw [f_MM_takeShare_b55, if_neg (nle0 hl0 (by omega)), if_neg (nle_lit (b := 11) (by omega) (by omega))]
  unfold f_MM_takeShare_b74
  rw [if_pos rfl]
  rfl
theorem none_both {N n E : Nat} (hN : 60000 ≤ N) (hn : n ≤ 6000) {vx : Nat → Int64} {vy : Nat → Int32} (hs : Same vx vy n) (hE : E ≤ 8 * n) {lack : Nat} (hl0 : 1 ≤ lack) (hl : lack ≤ 64) {oi l2 : Int32} {yp yo : Nat → Int32} {w : Nat} : ∀ (m a z y p : Nat), 12 - a ≤ m → m < z → 1 ≤ a → a < 12 → p ≤ E → E - p < y → m ≤ 12 →
    ∃ v' p', f_Share_takeNone_b5 N (nI n) 751 vx l2 z (nI a) 3 (nI p) = some (nI v', nI p') ∧ a ≤ v' ∧ v' ≤ 14 ∧ p ≤ p' ∧ p' ≤ p + 2 * m ∧ ((v' < 12 ∧ p' ≤ E ∧ f_MM_takeShare_b119 N (nI E) vy (f_MM_takeShare_b55 N (nI E) vy (w + 1)) y (nI lack) (nI (a - 1)) 3 oi (nI p) yp yo = f_MM_takeShare_b55 N (nI E) vy (w + 1) (nI lack) (nI v') oi (nI p') yp yo) ∨ ((12 ≤ v' ∨ E < p') ∧ ∃ q, f_MM_takeShare_b119 N (nI E) vy (f_MM_takeShare_b55 N (nI E) vy (w + 1)) y (nI lack) (nI (a - 1)) 3 oi (nI p) yp yo = some (0, oi, q, yp, yo))) := by
  intro m
  induction m with
  | zero => intro a z y p h1 h2 h3 h4; omega
  | succ m ih =>
    intro a z y p h1 h2 h3 h4 h5 h6 hm12
    obtain ⟨z, rfl⟩ := z_succ h2
    obtain ⟨y, rfl⟩ := z_succ h6
    have hx : iv vx n / 2 ^ p % 2 ^ 2 < 4 := Nat.mod_lt _ (by decide)
    have t : f_Share_takeBits N (nI n) 751 vx 2 (nI p) = _ := takeBits_ok (N := N) (by omega) (vx := vx) hn (p := p) (m := 2) (by omega) (by decide)
    have tY : p + 2 ≤ E → f_MM_take N (nI E) vy 2 (nI p) = some (nI (iv vx n / 2 ^ p % 2 ^ 2), nI (p + 2)) := fun h7 => take_ok (N := N) (m := 2) (by omega) hn hs hE (by decide) h7
    have none1 := noneXr (N := N) (by omega) hn (vx := vx) (l2 := l2) m
    rw [f_Share_takeNone_b5, if_pos rfl, if_neg (show ¬ (12 : Int32) ≤ nI a from nI_ge (b := 12) (by omega) (by decide)), t, bd2_e, nm_q, nI_add, f_MM_takeShare_b119, if_pos rfl]
    generalize iv vx n / 2 ^ p % 2 ^ 2 = r at *
    have stop : r ≠ 3 → f_Share_takeNone_b5 N (nI n) 751 vx l2 z (nI (a + r)) (nI r) (nI (p + 2)) = some (nI (a + r), nI (p + 2)) := by
      intro hr
      obtain ⟨z', rfl⟩ : ∃ z', z = z' + 1 := ⟨z - 1, by omega⟩
      rw [f_Share_takeNone_b5, if_neg (show ¬ nI r = (3 : Int32) from fun q => hr ((nI_eq (b := 3) (by omega) (by decide)).mp q))]
      rfl
    by_cases h7 : p + 2 ≤ E
    · rw [tY h7, bd2_e, if_neg (m1_ne (by omega)), nm_q, nI_add]
      by_cases hr : r = 3
      · subst hr
        by_cases h8 : a + 3 < 12
        · obtain ⟨v', p', q1, q2, q3, q4, q5, q6⟩ := ih (a + 3) z y (p + 2) (by omega) (by omega) (by omega) h8 h7 (by omega) (by omega)
          refine ⟨v', p', q1, by omega, q3, by omega, by omega, ?_⟩
          rw [show a - 1 + 3 = a + 3 - 1 by omega]
          exact q6
        · obtain ⟨z', rfl⟩ : ∃ z', z = z' + 1 := ⟨z - 1, by omega⟩
          refine ⟨a + 3, p + 2, ?_, by omega, by omega, by omega, by omega, Or.inr ⟨Or.inl (by omega), ?_⟩⟩
          · rw [f_Share_takeNone_b5, if_pos (show nI 3 = (3 : Int32) from rfl), if_pos (show (12 : Int32) ≤ nI (a + 3) from nI_le (a := 12) (by omega) (by omega))]
            rfl
          · exact deadY (N := N) hN hn hs hE hl0 hl (E - (p + 2)) (p + 2) (a - 1 + 3) y 3 (by omega) h7 (by omega) (by omega) (by omega) (by decide)
      · rw [stop hr]
        obtain ⟨y', rfl⟩ : ∃ y', y = y' + 1 := ⟨y - 1, by omega⟩
        have e148 : f_MM_takeShare_b119 N (nI E) vy (f_MM_takeShare_b55 N (nI E) vy (w + 1)) (y' + 1) (nI lack) (nI (a - 1 + r)) (nI r) oi (nI (p + 2)) yp yo = f_MM_takeShare_b55 N (nI E) vy (w + 1) (nI lack) (nI (a + r)) oi (nI (p + 2)) yp yo := by
          rw [f_MM_takeShare_b119, if_neg (show ¬ nI r = (3 : Int32) from fun q => hr ((nI_eq (b := 3) (by omega) (by decide)).mp q))]
          unfold f_MM_takeShare_b148
          rw [nm_q, nI_1, show a - 1 + r + 1 = a + r by omega]
        rw [e148]
        by_cases h8 : a + r < 12
        · exact ⟨a + r, p + 2, rfl, by omega, by omega, by omega, by omega, Or.inl ⟨h8, h7, rfl⟩⟩
        · exact ⟨a + r, p + 2, rfl, by omega, by omega, by omega, by omega, Or.inr ⟨Or.inl (by omega), nI (p + 2), dead55 hl0 hl (by omega) (by omega)⟩⟩
    · have tn : f_MM_take N (nI E) vy 2 (nI p) = some (-1, nI p) := take_no (m := 2) (by omega) (by omega)
      rw [tn, bd2_e, if_pos rfl]
      by_cases hr : r = 0
      · rw [stop (by omega)]
        exact ⟨a + r, p + 2, rfl, by omega, by omega, by omega, by omega, Or.inr ⟨Or.inr (by omega), _, rfl⟩⟩
      · obtain ⟨v', p', q1, q2, q3, q4, q5⟩ := none1 (a + r) z (p + 2) r (by omega) (by omega) (by omega) (by omega) (by omega) hx
        exact ⟨v', p', q1, by omega, q3, by omega, by omega, Or.inr ⟨Or.inr (by omega), _, rfl⟩⟩
theorem end118 {N n to p lack : Nat} {vx : Nat → Int64} (h : 8 * to < p ∨ 1 ≤ lack) (hp : p < 2 ^ 30) (hl : lack ≤ 64) {l2 oi : Int32} {xp xo xt xb xr xs xn xw : Nat → Int32} :
    f_Share_take_b118 N (nI n) 751 vx l2 (nI to) (nI lack) oi (nI p) xp xo xt xb xr xs xn xw = some (-1, oi, nI p, xp, xo, xt, xb, xr, xs, xn, xw) := by
  unfold f_Share_take_b118 f_Share_take_b134
  by_cases h1 : 1 ≤ lack
  · rw [if_pos (show (0 : Int32) < nI lack from nI_lt (a := 0) h1 (by omega))]
  · rcases h with h | h
    · rw [if_neg (show ¬ (0 : Int32) < nI lack from nI_nlt (a := 0) (by omega) (by decide)), nI_8mul, if_neg (nI_ge h (by omega))]
    · exact absurd h h1
/-- the class's step -/
theorem stepX {N n to : Nat} {vx : Nat → Int64} {v lack u p p1 z : Nat} (hv : v < 12) (hl0 : 1 ≤ lack) (hl : lack ≤ 64) (hu : u ≤ lack + 1) {l2 oi : Int32} {xp xo xt xb xr xs xn xw : Nat → Int32} (hq : f_Share_takePoints N (nI n) 751 vx (nI lack) (nI p) = some (nI u - 1, nI p1)) :
    f_Share_take_b50 N (nI n) 751 vx l2 (nI to) (z + 1) (nI lack) (nI v) oi (nI p) xp xo xt xb xr xs xn xw = if u = 1 then
      bd2 (f_Share_takeNone N (nI n) 751 vx (nI (v + 1)) (nI p1)) fun r q => f_Share_take_b50 N (nI n) 751 vx l2 (nI to) z (nI lack) r oi q (upd xp v 0) xo xt xb xr xs xn xw
      else f_Share_take_b50 N (nI n) 751 vx l2 (nI to) z (nI (lack - ms u)) (nI (v + 1)) oi (nI p1) (upd xp v (nI u - 1)) xo xt xb xr xs xn xw := by
  have hms : ms u ≤ lack := by unfold ms; split <;> omega
  have hm : f_Share_massOf N (upd xp v (nI u - 1)) (nI v) = some (nI (ms u)) := massOf_at hv pk_us (by omega)
  rw [f_Share_take_b50, if_neg (show ¬ (12 : Int32) ≤ nI v from nI_ge (b := 12) (by omega) (by decide)), if_neg (nle0 hl0 (by omega)), hq, bd2_e, ck_n hv (by decide), nI_clamp (by omega), nm_q, hm, bd1_e, nm_q, pk_sub hms, ck_n hv (by decide), pk_us, nI_1]
  unfold f_Share_take_b113
  by_cases e : u = 1
  · rw [if_pos e, if_pos ((pI_eq0 (by omega)).mpr e), e]
    rfl
  · rw [if_neg e, if_neg (fun q => e ((pI_eq0 (by omega)).mp q))]
/-- too far: whatever the class reads on, it answers -1 -/
theorem overX {N n to : Nat} (hN : 70 ≤ N) (hn : n ≤ 6000) {vx : Nat → Int64} {vy : Nat → Int32} (hs : Same vx vy n) {l2 oi : Int32} {xo xt xb xr xs xn xw : Nat → Int32} : ∀ (m v z p lack : Nat) (xp : Nat → Int32), 12 - v ≤ m → m < z → v ≤ 14 → lack ≤ 64 → 8 * to < p → p + 40 * m ≤ 59000 → m ≤ 12 →
    ∃ q xp', f_Share_take_b50 N (nI n) 751 vx l2 (nI to) z (nI lack) (nI v) oi (nI p) xp xo xt xb xr xs xn xw = some (-1, oi, q, xp', xo, xt, xb, xr, xs, xn, xw) := by
  intro m
  induction m with
  | zero =>
    intro v z p lack xp h1 h2 h3 h4 h5 h6 hm
    obtain ⟨z, rfl⟩ := z_succ h2
    refine ⟨nI p, xp, ?_⟩
    rw [f_Share_take_b50, if_pos (show (12 : Int32) ≤ nI v from nI_le (a := 12) (by omega) (by omega))]
    exact end118 (Or.inl h5) (by omega) h4
  | succ m ih =>
    intro v z p lack xp h1 h2 h3 h4 h5 h6 hm
    obtain ⟨z, rfl⟩ := z_succ h2
    by_cases hv : v < 12
    · by_cases hl0 : 1 ≤ lack
      · obtain ⟨u, p1, q1, q2, q3, q4, -⟩ := number_ok (N := N) hN hn hs hl0 h4 (show p ≤ 60000 by omega)
        rw [stepX hv hl0 h4 q2 q1]
        by_cases e : u = 1
        · obtain ⟨v', p', r1, r2, r3, r4, r5⟩ := noneXr (N := N) hN hn (vx := vx) (l2 := nI (v + 1)) 12 (v + 1) N p1 3 (by omega) (by omega) (by omega) (by omega) (by omega) (by decide)
          have r1' : f_Share_takeNone N (nI n) 751 vx (nI (v + 1)) (nI p1) = some (nI v', nI p') := r1
          rw [if_pos e, r1', bd2_e]
          exact ih v' z p' lack _ (by omega) (by omega) (by omega) h4 (by omega) (by omega) (by omega)
        · rw [if_neg e]
          exact ih (v + 1) z p1 (lack - ms u) _ (by omega) (by omega) (by omega) (by omega) (by omega) (by omega) (by omega)
      · refine ⟨nI p, xp, ?_⟩
        rw [f_Share_take_b50, if_neg (show ¬ (12 : Int32) ≤ nI v from nI_ge (b := 12) (by omega) (by decide)), if_pos (le0 (by omega))]
        exact end118 (Or.inl h5) (by omega) h4
    · refine ⟨nI p, xp, ?_⟩
      rw [f_Share_take_b50, if_pos (show (12 : Int32) ≤ nI v from nI_le (a := 12) (by omega) (by omega))]
      exact end118 (Or.inl h5) (by omega) h4
/-- what both sides have of a share that was read -/
def ShareOk (n to o : Nat) (X : Option (Int32 × Int32 × Int32 × (Nat → Int32) × (Nat → Int32) × (Nat → Int32) × (Nat → Int32) × (Nat → Int32) × (Nat → Int32) × (Nat → Int32) × (Nat → Int32))) (Y : Option (Int32 × Int32 × Int32 × (Nat → Int32) × (Nat → Int32))) : Prop :=
  (∃ a1 a2 a3 a4 a5 a6 a7 a8 a9 a10 b1 b2 b3 b4, X = some (-1, a1, a2, a3, a4, a5, a6, a7, a8, a9, a10) ∧ Y = some (0, b1, b2, b3, b4)) ∨
  ∃ u own p xp xo xt xb xr xs xn xw yp yo, X = some (nI ((p + 7) / 8), nI o, nI p, xp, xo, xt, xb, xr, xs, xn, xw) ∧ Y = some (1, nI o, nI (8 * ((p + 7) / 8)), yp, yo) ∧ p ≤ 8 * to ∧ (∀ v, v < 12 → u v < 2 ^ 30) ∧ Pts u yp ∧ Plc u o own ∧ LayX u o own xo xt xb xr xs ∧ ∀ p, p < 2 ^ o → yo p = nI (own p)
theorem share_loop {N n to o : Nat} (hN : 60000 ≤ N) (hn : n ≤ 6000) (hto : to ≤ n) (ho : o = 5 ∨ o = 6) {vx : Nat → Int64} {vy : Nat → Int32} (hs : Same vx vy n) {l2 : Int32} {xo xt xb xr xs xn xw yo : Nat → Int32} : ∀ (m v z y p lack : Nat) (u : Nat → Nat) (xp yp : Nat → Int32), 12 - v ≤ m → m < z → m < y → v ≤ 12 → m ≤ 12 → p ≤ 8 * to → (∀ x, v ≤ x → x < 12 → u x = 1) → (∀ x, x < 12 → u x < 2 ^ 30) → mtt u 12 + lack = 2 ^ o → Pts u xp → Pts u yp →
    ShareOk n to o (f_Share_take_b50 N (nI n) 751 vx l2 (nI to) z (nI lack) (nI v) (nI o) (nI p) xp xo xt xb xr xs xn xw) (f_MM_takeShare_b55 N (nI (8 * to)) vy y (nI lack) (nI v) (nI o) (nI p) yp yo) := by
  have hA := oA ho
  have fin : ∀ (u : Nat → Nat) (p : Nat) (xp yp : Nat → Int32) (v : Nat), v ≤ 12 → p ≤ 8 * to → (∀ x, x < 12 → u x < 2 ^ 30) → mtt u 12 = 2 ^ o → Pts u xp → Pts u yp → ShareOk n to o (f_Share_take_b118 N (nI n) 751 vx l2 (nI to) (nI 0) (nI o) (nI p) xp xo xt xb xr xs xn xw) (f_MM_takeShare_b154 N (nI (8 * to)) vy (nI v) (nI o) (nI p) yp yo) := by
    intro u p xp yp v hv hp hu hsum hxp hyp
    obtain ⟨own, xo', xt', xb', xr', xs', xn', xw', yo', q1, q2, q3, q4, q5⟩ := layOut_ok (N := N) (by omega) ho hu hsum hxp hyp xo xt xb xr xs xn xw yo
    have e7 : (nI p + 7) / (8 : Int32) = nI ((p + 7) / 8) := by
      rw [show nI p + (7 : Int32) = nI (p + 7) from nI_add p 7]
      exact pk_div (d := 8) (by omega) (by decide) (by decide)
    refine Or.inr ⟨u, own, p, xp, xo', xt', xb', xr', xs', xn', xw', yp, yo', ?_, ?_, hp, hu, hyp, q3, q4, q5⟩
    · unfold f_Share_take_b118
      rw [if_neg (show ¬ (0 : Int32) < nI 0 by decide), nI_8mul, if_pos (nI_le hp (by omega)), q1, bd7_e, e7]
    · unfold f_MM_takeShare_b154
      rw [if_pos (le_lit (b := 12) hv (by decide)), q2, bd1_e, nm_q, e7, show nI ((p + 7) / 8) * (8 : Int32) = nI ((p + 7) / 8 * 8) from pk_mul _ 8, Nat.mul_comm]
  intro m
  induction m with
  | zero =>
    intro v z y p lack u xp yp h1 h2 h2' h3 hm h4 h5 h6 h7 h8 h9
    obtain ⟨z, rfl⟩ := z_succ h2
    obtain ⟨y, rfl⟩ := z_succ h2'
    obtain rfl : v = 12 := by omega
    rw [f_Share_take_b50, if_pos (show (12 : Int32) ≤ nI 12 by decide)]
    by_cases hl : lack = 0
    · subst hl
      rw [f_MM_takeShare_b55, if_pos (le0 rfl)]
      exact fin u p xp yp 12 (by omega) h4 h6 (by omega) h8 h9
    · rw [end118 (Or.inr (by omega)) (by omega) (by omega), dead55 (by omega) (by omega) (Nat.le_refl _) (by decide)]
      exact Or.inl ⟨_, _, _, _, _, _, _, _, _, _, _, _, _, _, rfl, rfl⟩
  | succ m ih =>
    intro v z y p lack u xp yp h1 h2 h2' h3 hm h4 h5 h6 h7 h8 h9
    obtain ⟨z, rfl⟩ := z_succ h2
    obtain ⟨y, rfl⟩ := z_succ h2'
    by_cases hl : lack = 0
    · subst hl
      have eX : f_Share_take_b50 N (nI n) 751 vx l2 (nI to) (z + 1) (nI 0) (nI v) (nI o) (nI p) xp xo xt xb xr xs xn xw = f_Share_take_b118 N (nI n) 751 vx l2 (nI to) (nI 0) (nI o) (nI p) xp xo xt xb xr xs xn xw := by
        rw [f_Share_take_b50]
        by_cases h12 : (12 : Int32) ≤ nI v
        · rw [if_pos h12]
        · rw [if_neg h12, if_pos (le0 rfl)]
      rw [eX, f_MM_takeShare_b55, if_pos (le0 rfl)]
      exact fin u p xp yp v h3 h4 h6 (by omega) h8 h9
    · by_cases hv : v < 12
      · obtain ⟨uu, p1, q1, q2, q3, q4, q5⟩ := number_ok (N := N) (by omega) hn hs (show 1 ≤ lack by omega) (show lack ≤ 64 by omega) (show p ≤ 60000 by omega)
        rw [stepX hv (by omega) (by omega) q2 q1, f_MM_takeShare_b55, if_neg (nle0 (by omega) (by omega)), if_pos (le_lit (b := 11) (by omega) (by decide))]
        have hms : ms uu ≤ lack := by unfold ms; split <;> omega
        rcases q5 (8 * to) (by omega) h4 with ⟨r1, r2⟩ | ⟨r1, q, r2⟩
        · rw [r2, bd2_e]
          unfold f_MM_takeShare_b74 f_MM_takeShare_b117
          have hux : Pts (uN u v uu) (upd xp v (nI uu - 1)) := Pts_uN h8 rfl
          have huy : Pts (uN u v uu) (upd yp v (nI uu - 1)) := Pts_uN h9 rfl
          have hsum2 : mtt (uN u v uu) 12 + ms (u v) = mtt u 12 + ms uu := sm_uN (g := ms) hv
          have hms1 : ms (u v) = 0 := by rw [h5 v (Nat.le_refl _) hv]; rfl
          have hu2 : ∀ x, x < 12 → uN u v uu x < 2 ^ 30 := fun x hx => by
            by_cases e : x = v
            · rw [e, uN_s]; omega
            · rw [uN_n e]; exact h6 x hx
          rw [if_neg (m1_ne (by omega)), ck_n hv (by decide), nI_clamp (by omega), nm_q, ck_n hv (by decide), pk_us, mass_ok (by omega), bd1_e, nm_q, pk_sub hms]
          by_cases e : uu = 1
          · subst e
            rw [if_pos rfl, if_pos (show nI 1 = (1 : Int32) from rfl)]
            have e0 : nI 1 - (1 : Int32) = 0 := by decide
            rw [e0] at hux huy ⊢
            have em : ms 1 = 0 := rfl
            rw [em, Nat.sub_zero]
            obtain ⟨y', rfl⟩ : ∃ y', y = y' + 1 := ⟨y - 1, by omega⟩
            by_cases hv1 : v + 1 < 12
            · obtain ⟨v', p', s1, s2, s3, s4, s5, s6⟩ := none_both (N := N) hN hn hs (E := 8 * to) (by omega) (show 1 ≤ lack by omega) (show lack ≤ 64 by omega) (oi := nI o) (l2 := nI (v + 1)) (yp := upd yp v 0) (yo := yo) (w := y') 12 (v + 1) N N p1 (by omega) (by omega) (by omega) hv1 r1 (by omega) (by omega)
              have s1' : f_Share_takeNone N (nI n) 751 vx (nI (v + 1)) (nI p1) = some (nI v', nI p') := s1
              rw [s1', bd2_e]
              rw [show v + 1 - 1 = v by omega] at s6
              rcases s6 with ⟨t1, t2, t3⟩ | ⟨t1, q, t3⟩
              · rw [t3]
                refine ih v' z (y' + 1) p' lack (uN u v 1) _ _ (by omega) (by omega) (by omega) (by omega) (by omega) t2 (fun x hx1 hx2 => ?_) hu2 (by omega) hux huy
                rw [uN_n (by omega)]
                exact h5 x (by omega) hx2
              · rw [t3]
                by_cases h12 : 12 ≤ v'
                · obtain ⟨z', rfl⟩ : ∃ z', z = z' + 1 := ⟨z - 1, by omega⟩
                  rw [f_Share_take_b50, if_pos (show (12 : Int32) ≤ nI v' from nI_le (a := 12) h12 (by omega)), end118 (Or.inr (by omega)) (by omega) (by omega)]
                  exact Or.inl ⟨_, _, _, _, _, _, _, _, _, _, _, _, _, _, rfl, rfl⟩
                · obtain ⟨q', xp', o1⟩ := overX (N := N) (to := to) (by omega) hn hs (l2 := l2) (oi := nI o) (xo := xo) (xt := xt) (xb := xb) (xr := xr) (xs := xs) (xn := xn) (xw := xw) m v' z p' lack (upd xp v 0) (by omega) (by omega) (by omega) (by omega) (by omega) (by omega) (by omega)
                  rw [o1]
                  exact Or.inl ⟨_, _, _, _, _, _, _, _, _, _, _, _, _, _, rfl, rfl⟩
            · -- no weight behind it
              have hv11 : v = 11 := by omega
              obtain ⟨z', rfl⟩ : ∃ z', z = z' + 1 := ⟨z - 1, by omega⟩
              obtain ⟨q, t3⟩ := deadY (N := N) hN hn hs (E := 8 * to) (by omega) (show 1 ≤ lack by omega) (show lack ≤ 64 by omega) (oi := nI o) (yp := upd yp v 0) (yo := yo) (z := y') (8 * to - p1) p1 v N 3 (by omega) r1 (by omega) (by omega) (by omega) (by decide)
              have t3' : f_MM_takeShare_b119 N (nI (8 * to)) vy (f_MM_takeShare_b55 N (nI (8 * to)) vy (y' + 1)) N (nI lack) (nI v) 3 (nI o) (nI p1) (upd yp v 0) yo = _ := t3
              have s1' : f_Share_takeNone N (nI n) 751 vx (nI (v + 1)) (nI p1) = some (nI (v + 1), nI p1) := by
                unfold f_Share_takeNone
                obtain ⟨N', hN'⟩ : ∃ N', N = N' + 1 := ⟨N - 1, by omega⟩
                have : f_Share_takeNone_b5 N (nI n) 751 vx (nI (v + 1)) (N' + 1) (nI (v + 1)) 3 (nI p1) = some (nI (v + 1), nI p1) := by
                  rw [f_Share_takeNone_b5, if_pos rfl, if_pos (show (12 : Int32) ≤ nI (v + 1) from nI_le (a := 12) (by omega) (by omega))]
                  rfl
                rw [← hN'] at this
                exact this
              rw [t3', s1', bd2_e, f_Share_take_b50, if_pos (show (12 : Int32) ≤ nI (v + 1) from nI_le (a := 12) (by omega) (by omega)), end118 (Or.inr (by omega)) (by omega) (by omega)]
              exact Or.inl ⟨_, _, _, _, _, _, _, _, _, _, _, _, _, _, rfl, rfl⟩
          · rw [if_neg e, if_neg (show ¬ nI uu = (1 : Int32) from fun q => e ((nI_eq (b := 1) (by omega) (by decide)).mp q))]
            have e119 : f_MM_takeShare_b119 N (nI (8 * to)) vy (f_MM_takeShare_b55 N (nI (8 * to)) vy y) N (nI (lack - ms uu)) (nI v) 0 (nI o) (nI p1) (upd yp v (nI uu - 1)) yo = f_MM_takeShare_b55 N (nI (8 * to)) vy y (nI (lack - ms uu)) (nI (v + 1)) (nI o) (nI p1) (upd yp v (nI uu - 1)) yo := by
              obtain ⟨N', hN'⟩ : ∃ N', N = N' + 1 := ⟨N - 1, by omega⟩
              have : ∀ k55, f_MM_takeShare_b119 N (nI (8 * to)) vy k55 (N' + 1) (nI (lack - ms uu)) (nI v) 0 (nI o) (nI p1) (upd yp v (nI uu - 1)) yo = k55 (nI (lack - ms uu)) (nI (v + 1)) (nI o) (nI p1) (upd yp v (nI uu - 1)) yo := by
                intro k55
                rw [f_MM_takeShare_b119, if_neg (by decide)]
                unfold f_MM_takeShare_b148
                rw [nm_q, nI_1]
              rw [← hN'] at this
              exact this _
            rw [e119]
            refine ih (v + 1) z y p1 (lack - ms uu) (uN u v uu) _ _ (by omega) (by omega) (by omega) (by omega) (by omega) r1 (fun x hx1 hx2 => ?_) hu2 (by omega) hux huy
            rw [uN_n (by omega)]
            exact h5 x (by omega) hx2
        · -- the end comes in the midst of a number
          rw [r2, bd2_e]
          unfold f_MM_takeShare_b74
          rw [if_pos rfl]
          by_cases e : uu = 1
          · obtain ⟨v', p', s1, s2, s3, s4, s5⟩ := noneXr (N := N) (by omega) hn (vx := vx) (l2 := nI (v + 1)) 12 (v + 1) N p1 3 (by omega) (by omega) (by omega) (by omega) (by omega) (by decide)
            have s1' : f_Share_takeNone N (nI n) 751 vx (nI (v + 1)) (nI p1) = some (nI v', nI p') := s1
            obtain ⟨q', xp', o1⟩ := overX (N := N) (to := to) (by omega) hn hs (l2 := l2) (oi := nI o) (xo := xo) (xt := xt) (xb := xb) (xr := xr) (xs := xs) (xn := xn) (xw := xw) m v' z p' lack (upd xp v 0) (by omega) (by omega) (by omega) (by omega) (by omega) (by omega) (by omega)
            rw [if_pos e, s1', bd2_e, o1]
            exact Or.inl ⟨_, _, _, _, _, _, _, _, _, _, _, _, _, _, rfl, rfl⟩
          · obtain ⟨q', xp', o1⟩ := overX (N := N) (to := to) (by omega) hn hs (l2 := l2) (oi := nI o) (xo := xo) (xt := xt) (xb := xb) (xr := xr) (xs := xs) (xn := xn) (xw := xw) m (v + 1) z p1 (lack - ms uu) (upd xp v (nI uu - 1)) (by omega) (by omega) (by omega) (by omega) (by omega) (by omega) (by omega)
            rw [if_neg e, o1]
            exact Or.inl ⟨_, _, _, _, _, _, _, _, _, _, _, _, _, _, rfl, rfl⟩
      · obtain rfl : v = 12 := by omega
        rw [f_Share_take_b50, if_pos (show (12 : Int32) ≤ nI 12 by decide), end118 (Or.inr (by omega)) (by omega) (by omega), dead55 (by omega) (by omega) (Nat.le_refl _) (by decide)]
        exact Or.inl ⟨_, _, _, _, _, _, _, _, _, _, _, _, _, _, rfl, rfl⟩
