/-! ===== points taken away ===== -/
theorem pI_le {a b : Nat} (ha : a < 2 ^ 30) (hb : b < 2 ^ 30) : (nI a - 1 ≤ nI b - 1) ↔ a ≤ b := by
  rw [Int32.le_iff_toInt_le, show nI a - (1 : Int32) = nI a - nI 1 from rfl, show nI b - (1 : Int32) = nI b - nI 1 from rfl, pk_sub_toInt ha (by decide), pk_sub_toInt hb (by decide)]
  omega
/-- the first of the greatest -/
def am (u : Nat → Nat) : Nat → Nat
  | 0 => 0
  | n + 1 => if u n ≤ u (am u n) then am u n else n
theorem am_1 {u : Nat → Nat} : am u 1 = 0 := if_pos (Nat.le_refl _)
theorem am_lt {u : Nat → Nat} {n : Nat} (h : 1 ≤ n) : am u n < n := by
  induction n with
  | zero => omega
  | succ n ih =>
    show (if u n ≤ u (am u n) then am u n else n) < n + 1
    split
    · by_cases e : n = 0
      · subst e; exact Nat.zero_lt_one
      · have := ih (by omega); omega
    · omega
theorem am_ge {u : Nat → Nat} {n : Nat} : ∀ i, i < n → u i ≤ u (am u n) := by
  induction n with
  | zero => intro i hi; omega
  | succ n ih =>
    intro i hi
    show u i ≤ u (if u n ≤ u (am u n) then am u n else n)
    split
    · rename_i h
      by_cases e : i = n
      · subst e; exact h
      · exact ih i (by omega)
    · rename_i h
      by_cases e : i = n
      · subst e; exact Nat.le_refl _
      · have := ih i (by omega); omega
def uN (u : Nat → Nat) (k x : Nat) : Nat → Nat := fun j => if j = k then x else u j
theorem uN_s {u : Nat → Nat} {k x : Nat} : uN u k x k = x := if_pos rfl
theorem uN_n {u : Nat → Nat} {k x j : Nat} (h : j ≠ k) : uN u k x j = u j := if_neg h
theorem sm_uN {u g : Nat → Nat} {k x n : Nat} (hk : k < n) : sm (fun v => g (uN u k x v)) n + g (u k) = sm (fun v => g (u v)) n + g x := by
  induction n with
  | zero => omega
  | succ n ih =>
    show sm (fun v => g (uN u k x v)) n + g (uN u k x n) + g (u k) = sm (fun v => g (u v)) n + g (u n) + g x
    by_cases e : k = n
    · subst e
      rw [uN_s, sm_congr (g := fun v => g (u v)) (fun i hi => by rw [uN_n (by omega)])]
      omega
    · have := ih (by omega)
      rw [uN_n (by omega)]
      omega
theorem Pts_uN {u : Nat → Nat} {xp : Nat → Int32} (h : Pts u xp) {k x : Nat} {y : Int32} (hy : y = nI x - 1) : Pts (uN u k x) (upd xp k y) := by
  intro v hv
  by_cases e : v = k
  · subst e; rw [pk_us, uN_s]; exact hy
  · rw [pk_un e, uN_n e]; exact h v hv
theorem lackY_loop {N o : Nat} {u : Nat → Nat} (hu : ∀ v, v < 12 → u v < 2 ^ 30) {yp : Nat → Int32} (hp : Pts u yp) : ∀ (d v z : Nat), 12 = v + d → d < z →
    f_MM_lacking_b4 N (nI o) yp z (nI (mtt u v)) (nI v) = f_MM_lacking_b28 N (nI o) yp (nI (mtt u 12)) := by
  intro d
  induction d with
  | zero =>
    intro v z h1 h2
    obtain ⟨z, rfl⟩ := z_succ h2
    obtain rfl : v = 12 := by omega
    rw [f_MM_lacking_b4, if_pos (show (12 : Int32) ≤ nI 12 by decide)]
  | succ d ih =>
    intro v z h1 h2
    obtain ⟨z, rfl⟩ := z_succ h2
    have := ih (v + 1) z (by omega) (by omega)
    rw [mt_succ] at this
    rw [f_MM_lacking_b4, if_neg (show ¬ (12 : Int32) ≤ nI v from nI_ge (b := 12) (by omega) (by decide)), ck_n (by omega) (by decide), nI_clamp (by omega), hp v (by omega), mass_ok (hu v (by omega)), bd1_e, nm_q, nm_q, nI_add, nI_1]
    exact this
theorem lackY {N o : Nat} (hN : 70 ≤ N) (ho : o ≤ 6) {u : Nat → Nat} (hu : ∀ v, v < 12 → u v < 2 ^ 30) {yp : Nat → Int32} (hp : Pts u yp) : f_MM_lacking N (nI o) yp = some (nI (2 ^ o) - nI (mtt u 12)) := by
  unfold f_MM_lacking
  have h := lackY_loop (N := N) (o := o) hu hp 12 0 N (by omega) (by omega)
  have h' : f_MM_lacking_b4 N (nI o) yp N 0 0 = _ := h
  rw [h']
  unfold f_MM_lacking_b28
  rw [sh1 (by omega)]
theorem lackX_loop {N o : Nat} {u : Nat → Nat} (hu : ∀ v, v < 12 → u v < 2 ^ 30) {xp : Nat → Int32} (hp : Pts u xp) {a : Int32} : ∀ (d v z : Nat), 12 = v + d → d < z →
    f_Share_lacking_b9 N (nI o) xp z (a - nI (mtt u v)) (nI v) = some (a - nI (mtt u 12)) := by
  intro d
  induction d with
  | zero =>
    intro v z h1 h2
    obtain ⟨z, rfl⟩ := z_succ h2
    obtain rfl : v = 12 := by omega
    rw [f_Share_lacking_b9, if_pos (show (12 : Int32) ≤ nI 12 by decide)]
    rfl
  | succ d ih =>
    intro v z h1 h2
    obtain ⟨z, rfl⟩ := z_succ h2
    have h3 := ih (v + 1) z (by omega) (by omega)
    rw [mt_succ, ← nI_add] at h3
    rw [f_Share_lacking_b9, if_neg (show ¬ (12 : Int32) ≤ nI v from nI_ge (b := 12) (by omega) (by decide)), massOf_ok hp (by omega) (hu v (by omega)), bd1_e, nm_q, nm_q, nI_1]
    have e : ∀ x y w : Int32, x - y - w = x - (y + w) := fun x y w => Int32.sub_sub x y w
    rw [e]
    exact h3
theorem lackX {N o : Nat} (hN : 70 ≤ N) (ho : o ≤ 6) {u : Nat → Nat} (hu : ∀ v, v < 12 → u v < 2 ^ 30) {xp : Nat → Int32} (hp : Pts u xp) : f_Share_lacking N (nI o) xp = some (nI (2 ^ o) - nI (mtt u 12)) := by
  unfold f_Share_lacking
  have h := lackX_loop (N := N) (o := o) hu hp (a := nI (2 ^ o)) 12 0 N (by omega) (by omega)
  rw [show mtt u 0 = 0 from rfl, show nI (2 ^ o) - nI 0 = nI (2 ^ o) from Int32.sub_zero _] at h
  rw [sh1 (by omega), nm_q]
  exact h
theorem awayX1 {N : Nat} {u : Nat → Nat} (hu : ∀ v, v < 12 → u v < 2 ^ 30) {xp : Nat → Int32} (hp : Pts u xp) {l1 l2 : Int32} {k2 : Int32 → (Nat → Int32) → Option (Nat → Int32)} : ∀ (d v z : Nat), 12 = v + d → d < z → 1 ≤ v →
    f_Share_takeAway_b12 N l1 k2 z l2 (nI (am u v)) (nI v) xp = f_Share_takeAway_b44 N l1 k2 l2 (nI (am u 12)) xp := by
  intro d
  induction d with
  | zero =>
    intro v z h1 h2 h3
    obtain ⟨z, rfl⟩ := z_succ h2
    obtain rfl : v = 12 := by omega
    rw [f_Share_takeAway_b12, if_pos (show (12 : Int32) ≤ nI 12 by decide)]
  | succ d ih =>
    intro v z h1 h2 h3
    obtain ⟨z, rfl⟩ := z_succ h2
    have ha := am_lt (u := u) h3
    have h4 := ih (v + 1) z (by omega) (by omega) (by omega)
    have e : am u (v + 1) = if u v ≤ u (am u v) then am u v else v := rfl
    rw [f_Share_takeAway_b12, if_neg (show ¬ (12 : Int32) ≤ nI v from nI_ge (b := 12) (by omega) (by decide)), ck_n (by omega) (by decide), ck_n (by omega) (by decide), nI_clamp (by omega), nI_clamp (by omega), hp v (by omega), hp _ (by omega)]
    unfold f_Share_takeAway_b38
    by_cases h : u v ≤ u (am u v)
    · rw [if_pos ((pI_le (hu v (by omega)) (hu _ (by omega))).mpr h), nm_q, nI_1]
      rw [e, if_pos h] at h4
      exact h4
    · rw [if_neg (fun q => h ((pI_le (hu v (by omega)) (hu _ (by omega))).mp q)), nm_q, nI_1]
      rw [e, if_neg h] at h4
      exact h4
theorem awayY1 {N : Nat} {u : Nat → Nat} (hu : ∀ v, v < 12 → u v < 2 ^ 30) {yp yw yc yh yo : Nat → Int32} (hp : Pts u yp) {l1 oi K : Int32} {k119 : Int32 → (Nat → Int32) → (Nat → Int32) → (Nat → Int32) → (Nat → Int32) → Option (Int32 × (Nat → Int32) × (Nat → Int32) × (Nat → Int32) × (Nat → Int32))} : ∀ (d v z : Nat), 12 = v + d → d < z → 1 ≤ v →
    f_MM_shareByCounts_b130 N K yw l1 k119 z (nI (am u v)) (nI v) oi yp yc yh yo = f_MM_shareByCounts_b159 N K yw l1 k119 (nI (am u 12)) oi yp yc yh yo := by
  intro d
  induction d with
  | zero =>
    intro v z h1 h2 h3
    obtain ⟨z, rfl⟩ := z_succ h2
    obtain rfl : v = 12 := by omega
    rw [f_MM_shareByCounts_b130, if_pos (show (12 : Int32) ≤ nI 12 by decide)]
  | succ d ih =>
    intro v z h1 h2 h3
    obtain ⟨z, rfl⟩ := z_succ h2
    have ha := am_lt (u := u) h3
    have h4 := ih (v + 1) z (by omega) (by omega) (by omega)
    have e : am u (v + 1) = if u v ≤ u (am u v) then am u v else v := rfl
    rw [f_MM_shareByCounts_b130, if_neg (show ¬ (12 : Int32) ≤ nI v from nI_ge (b := 12) (by omega) (by decide)), ck_n (by omega) (by decide), ck_n (by omega) (by decide), nI_clamp (by omega), nI_clamp (by omega), hp v (by omega), hp _ (by omega)]
    unfold f_MM_shareByCounts_b153
    by_cases h : u v ≤ u (am u v)
    · rw [if_pos ((pI_le (hu v (by omega)) (hu _ (by omega))).mpr h), nm_q, nI_1]
      rw [e, if_pos h] at h4
      exact h4
    · rw [if_neg (fun q => h ((pI_le (hu v (by omega)) (hu _ (by omega))).mp q)), nm_q, nI_1]
      rw [e, if_neg h] at h4
      exact h4
theorem big_point {u : Nat → Nat} (h : 13 ≤ mtt u 12) : 3 ≤ u (am u 12) := by
  by_cases h3 : 3 ≤ u (am u 12)
  · exact h3
  · exfalso
    have h1 : mtt u 12 ≤ sm (fun _ => 1) 12 := sm_le (fun v hv => by
      have := am_ge (u := u) v hv
      unfold ms
      split <;> omega)
    have : sm (fun _ => 1) 12 = 12 := rfl
    omega
/-- what stays of the points: those that are there stay there -/
def Keep (c u : Nat → Nat) : Prop := ∀ v, v < 12 → (u v < 2 ^ 20) ∧ (c v ≠ 0 → u v ≠ 1)
theorem away_ok {N o : Nat} (hN : 70 ≤ N) (ho : o = 5 ∨ o = 6) {c : Nat → Nat} {K l1 : Int32} {yw yc yh yo : Nat → Int32} {m : Nat} (hm : m ≤ 12) : ∀ (d i z y : Nat) (u : Nat → Nat) (xp yp : Nat → Int32), m = i + d → d < z → d < y → Keep c u → Pts u xp → Pts u yp → mtt u 12 = 2 ^ o + d →
    ∃ u' xp' yp', f_Share_takeAway_b2 N (nI m) z (nI i) xp = some xp' ∧ f_MM_shareByCounts_b119 N K yw l1 y (nI o) yp yc yh yo = f_MM_shareByCounts_b172 N K yw l1 (nI o) yp' yc yh yo ∧ Keep c u' ∧ Pts u' xp' ∧ Pts u' yp' ∧ mtt u' 12 = 2 ^ o := by
  have hA := oA ho
  have hoo := o6 ho
  intro d
  induction d with
  | zero =>
    intro i z y u xp yp h1 h2 h2' h3 h4 h5 h6
    obtain ⟨z, rfl⟩ := z_succ h2
    obtain ⟨y, rfl⟩ := z_succ h2'
    refine ⟨u, xp, yp, ?_, ?_, h3, h4, h5, by omega⟩
    · rw [f_Share_takeAway_b2, if_pos (nI_le (by omega) (by omega))]
    · rw [f_MM_shareByCounts_b119, lackY hN hoo (fun v hv => by have := (h3 v hv).1; omega) h5, bd1_e, h6, if_pos (by rw [pk_sub (by omega)]; exact nI_pos' (by omega))]
  | succ d ih =>
    intro i z y u xp yp h1 h2 h2' h3 h4 h5 h6
    obtain ⟨z, rfl⟩ := z_succ h2
    obtain ⟨y, rfl⟩ := z_succ h2'
    have hu : ∀ v, v < 12 → u v < 2 ^ 30 := fun v hv => by have := (h3 v hv).1; omega
    have h12 := am_lt (u := u) (n := 12) (by decide)
    have hbig := big_point (u := u) (by omega)
    have hum := hu _ h12
    have hms : mtt (uN u (am u 12) (u (am u 12) - 1)) 12 + ms (u (am u 12)) = mtt u 12 + ms (u (am u 12) - 1) := sm_uN (g := ms) h12
    have e1 : ms (u (am u 12)) = u (am u 12) - 1 := by unfold ms; rw [if_neg (by omega)]
    have e2 : ms (u (am u 12) - 1) = u (am u 12) - 1 - 1 := by unfold ms; rw [if_neg (by omega)]
    have hy : nI (u (am u 12)) - 1 - 1 = nI (u (am u 12) - 1) - 1 := by rw [pI_p (show 1 ≤ u (am u 12) by omega)]
    obtain ⟨u', xp', yp', p1, p2, p3, p4, p5, p6⟩ := ih (i + 1) z y (uN u (am u 12) (u (am u 12) - 1)) _ _ (by omega) (by omega) (by omega) (by
      intro v hv
      by_cases e : v = am u 12
      · rw [e, uN_s]; have := (h3 _ h12).1; exact ⟨by omega, fun _ => by omega⟩
      · rw [uN_n e]; exact h3 v hv) (Pts_uN h4 hy) (Pts_uN h5 hy) (by omega)
    refine ⟨u', xp', yp', ?_, ?_, p3, p4, p5, p6⟩
    · have q := awayX1 (N := N) hu h4 (l1 := nI m) (l2 := nI i) (k2 := f_Share_takeAway_b2 N (nI m) z) 11 1 N (by omega) (by omega) (by decide)
      rw [am_1] at q
      have q' : f_Share_takeAway_b12 N (nI m) (f_Share_takeAway_b2 N (nI m) z) N (nI i) 0 1 xp = _ := q
      rw [f_Share_takeAway_b2, if_neg (nI_ge (by omega) (by omega)), q']
      unfold f_Share_takeAway_b44
      rw [ck_n h12 (by decide), ck_n h12 (by decide), nI_clamp (by omega), h4 _ h12, nm_q, nm_q, nI_1]
      exact p1
    · have q := awayY1 (N := N) hu (yw := yw) (yc := yc) (yh := yh) (yo := yo) h5 (l1 := l1) (oi := nI o) (K := K) (k119 := f_MM_shareByCounts_b119 N K yw l1 y) 11 1 N (by omega) (by omega) (by decide)
      rw [am_1] at q
      have q' : f_MM_shareByCounts_b130 N K yw l1 (f_MM_shareByCounts_b119 N K yw l1 y) N 0 1 (nI o) yp yc yh yo = _ := q
      rw [f_MM_shareByCounts_b119, lackY hN hoo hu h5, bd1_e, if_neg (show ¬ (0 : Int32) ≤ nI (2 ^ o) - nI (mtt u 12) from fun q => by
        have := Int32.le_iff_toInt_le.mp q
        rw [pk_sub_toInt (by omega) (by omega)] at this
        have e : (0 : Int32).toInt = 0 := rfl
        omega), q']
      unfold f_MM_shareByCounts_b159
      rw [ck_n h12 (by decide), ck_n h12 (by decide), nI_clamp (by omega), h5 _ h12, nm_q]
      exact p2
