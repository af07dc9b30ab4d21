/-! ===== shares: points by u = points + 1 ===== -/
def ms (u : Nat) : Nat := if u = 0 then 1 else u - 1
theorem pI_0 : nI 0 - 1 = (-1 : Int32) := by decide
theorem pI_p {u : Nat} (h : 1 ≤ u) : nI u - 1 = nI (u - 1) := pk_sub (b := 1) h
theorem sm_list (f : Nat → Nat) (n : Nat) : sm f n = ((List.range n).map f).sum := by
  induction n with
  | zero => rfl
  | succ n ih => rw [List.range_succ, List.map_append, List.sum_append, ← ih]; show _ = _ + (f n + 0); rfl
/-- the step of the walk -/
def stp (o : Nat) : Nat := 2 ^ o / 2 + 2 ^ o / 8 + 3
def pp (o k : Nat) : Nat := k * stp o % 2 ^ o
theorem pp_lt {o k : Nat} : pp o k < 2 ^ o := Nat.mod_lt _ (Nat.pow_pos (by decide))
theorem pp_perm {o : Nat} (ho : o = 5 ∨ o = 6) : List.Perm ((List.range (2 ^ o)).map (pp o)) (List.range (2 ^ o)) := by
  rcases ho with rfl | rfl
  · exact List.isPerm_iff.mp (by decide +kernel)
  · exact List.isPerm_iff.mp (by decide +kernel)
theorem sm_pp {o : Nat} (ho : o = 5 ∨ o = 6) (f : Nat → Nat) : sm (fun k => f (pp o k)) (2 ^ o) = sm f (2 ^ o) := by
  rw [sm_list, sm_list, show List.map (fun k => f (pp o k)) (List.range (2 ^ o)) = List.map f (List.map (pp o) (List.range (2 ^ o))) from (List.map_map).symm]
  exact List.Perm.sum_nat ((pp_perm ho).map f)
theorem pp_inj {o : Nat} (ho : o = 5 ∨ o = 6) : ∀ j, j < 2 ^ o → ∀ k, k < 2 ^ o → pp o j = pp o k → j = k := by
  rcases ho with rfl | rfl
  · decide +kernel
  · decide +kernel
theorem pp_sur {o : Nat} (ho : o = 5 ∨ o = 6) : ∀ p, p < 2 ^ o → ∃ k, k < 2 ^ o ∧ pp o k = p := by
  rcases ho with rfl | rfl
  · decide +kernel
  · decide +kernel
/-- how many of the first n are below b -/
def cb (o b n : Nat) : Nat := sm (fun k => if pp o k < b then 1 else 0) n
theorem cb_succ {o b n : Nat} : cb o b (n + 1) = cb o b n + (if pp o n < b then 1 else 0) := rfl
theorem sm_below {b n : Nat} (h : b ≤ n) : sm (fun k => if k < b then 1 else 0) n = b := by
  induction n with
  | zero => show 0 = b; omega
  | succ n ih =>
    show sm _ n + (if n < b then 1 else 0) = b
    by_cases e : b ≤ n
    · rw [ih e, if_neg (by omega)]; rfl
    · have : sm (fun k => if k < b then 1 else 0) n = n := by
        have : sm (fun k => if k < b then 1 else 0) n = sm (fun _ => 1) n := sm_congr (fun i hi => if_pos (by omega))
        rw [this]
        clear this ih h e
        induction n with
        | zero => rfl
        | succ n ih => show sm _ n + 1 = n + 1; rw [ih]
      rw [this, if_pos (by omega)]; omega
theorem cb_all {o : Nat} (ho : o = 5 ∨ o = 6) {b : Nat} (h : b ≤ 2 ^ o) : cb o b (2 ^ o) = b := by
  unfold cb
  rw [sm_pp ho (fun p => if p < b then 1 else 0), sm_below h]
theorem cb_mono {o b m n : Nat} (h : m ≤ n) : cb o b m ≤ cb o b n := sm_mono h
theorem cb_lt {o b j k : Nat} (h : j < k) (hj : pp o j < b) : cb o b j < cb o b k := by
  have h1 : cb o b (j + 1) ≤ cb o b k := cb_mono h
  rw [cb_succ, if_pos hj] at h1
  omega
theorem cb_sur {o b n g : Nat} (h : g < cb o b n) : ∃ k, k < n ∧ pp o k < b ∧ cb o b k = g := by
  induction n with
  | zero => exact absurd h (Nat.not_lt_zero _)
  | succ n ih =>
    by_cases e : g < cb o b n
    · obtain ⟨k, a, b1, c⟩ := ih e
      exact ⟨k, by omega, b1, c⟩
    · rw [cb_succ] at h
      by_cases e2 : pp o n < b
      · rw [if_pos e2] at h
        exact ⟨n, by omega, e2, by omega⟩
      · rw [if_neg e2] at h; omega
/-- how many have -1 points; the points of the others -/
def hz (u : Nat → Nat) (n : Nat) : Nat := sm (fun v => if u v = 0 then 1 else 0) n
def ps (u : Nat → Nat) (n : Nat) : Nat := sm (fun v => u v - 1) n
def mtt (u : Nat → Nat) (n : Nat) : Nat := sm (fun v => ms (u v)) n
theorem mt_split {u : Nat → Nat} {n : Nat} : mtt u n = ps u n + hz u n := by
  induction n with
  | zero => rfl
  | succ n ih =>
    show mtt u n + ms (u n) = (ps u n + (u n - 1)) + (hz u n + (if u n = 0 then 1 else 0))
    unfold ms
    by_cases e : u n = 0
    · rw [if_pos e, if_pos e, e]; omega
    · rw [if_neg e, if_neg e]; omega
theorem hz_le {u : Nat → Nat} {n : Nat} : hz u n ≤ n := by
  induction n with
  | zero => exact Nat.le_refl _
  | succ n ih =>
    show hz u n + (if u n = 0 then 1 else 0) ≤ n + 1
    split <;> omega
theorem hz_succ {u : Nat → Nat} {n : Nat} : hz u (n + 1) = hz u n + (if u n = 0 then 1 else 0) := rfl
theorem ps_succ {u : Nat → Nat} {n : Nat} : ps u (n + 1) = ps u n + (u n - 1) := rfl
theorem mt_succ {u : Nat → Nat} {n : Nat} : mtt u (n + 1) = mtt u n + ms (u n) := rfl
theorem ps_mono {u : Nat → Nat} {m n : Nat} (h : m ≤ n) : ps u m ≤ ps u n := sm_mono h
theorem hz_mono {u : Nat → Nat} {m n : Nat} (h : m ≤ n) : hz u m ≤ hz u n := sm_mono h
theorem mt_mono {u : Nat → Nat} {m n : Nat} (h : m ≤ n) : mtt u m ≤ mtt u n := sm_mono h
/-- whose the j-th place of the walk is -/
def isw (u : Nat → Nat) (j v : Nat) : Prop := v < 12 ∧ ps u v ≤ j ∧ j < ps u (v + 1)
theorem isw_uniq {u : Nat → Nat} {j v w : Nat} (h1 : isw u j v) (h2 : isw u j w) : v = w := by
  rcases Nat.lt_trichotomy v w with h | h | h
  · have := ps_mono (u := u) (show v + 1 ≤ w from h)
    have := h1.2.2
    have := h2.2.1
    omega
  · exact h
  · have := ps_mono (u := u) (show w + 1 ≤ v from h)
    have := h2.2.2
    have := h1.2.1
    omega
/-- of places from b on: the owners of -1 points -/
def hi_ok (u : Nat → Nat) (A n : Nat) (xo : Nat → Int32) : Prop := ∀ p, A - hz u n ≤ p → p < A → ∃ w, w < n ∧ u w = 0 ∧ hz u w = A - 1 - p ∧ xo p = nI w
/-- of places of the walk -/
def wk_ok (u : Nat → Nat) (o fr : Nat) (D : Nat → Prop) (xo : Nat → Int32) : Prop := ∀ k, k < 2 ^ o → pp o k < fr → D k → ∃ v, isw u (cb o fr k) v ∧ xo (pp o k) = nI v
def Pts (u : Nat → Nat) (x : Nat → Int32) : Prop := ∀ v, v < 12 → x v = nI (u v) - 1
theorem hi_step {u : Nat → Nat} {A n : Nat} {xo : Nat → Int32} (hA : 12 ≤ A) (hn : n < 12) (h0 : u n = 0) (h : hi_ok u A n xo) : hi_ok u A (n + 1) (upd xo (A - hz u (n + 1)) (nI n)) := by
  intro p hp1 hp2
  have h1 := hz_le (u := u) (n := n)
  have e1 : hz u (n + 1) = hz u n + 1 := by rw [hz_succ, if_pos h0]
  by_cases e : p = A - hz u (n + 1)
  · refine ⟨n, by omega, h0, by omega, ?_⟩
    rw [e, pk_us]
  · obtain ⟨w, a, b, c, d⟩ := h p (by omega) hp2
    exact ⟨w, by omega, b, c, by rw [pk_un e]; exact d⟩
theorem hi_skip {u : Nat → Nat} {A n : Nat} {xo : Nat → Int32} (h0 : u n ≠ 0) (h : hi_ok u A n xo) : hi_ok u A (n + 1) xo := by
  have e1 : hz u (n + 1) = hz u n := by rw [hz_succ, if_neg h0]; rfl
  intro p hp1 hp2
  rw [e1] at hp1
  obtain ⟨w, a, b, c, d⟩ := h p hp1 hp2
  exact ⟨w, by omega, b, c, d⟩
theorem hiX {N o : Nat} (ho : o = 5 ∨ o = 6) {u : Nat → Nat} (hu : ∀ v, v < 12 → u v < 2 ^ 30) {xp : Nat → Int32} (hp : Pts u xp) : ∀ (d v z : Nat) (xo : Nat → Int32), 12 = v + d → d < z → hi_ok u (2 ^ o) v xo →
    ∃ xo', f_Share_giveHighest_b9 N (nI o) xp z (nI (2 ^ o - hz u v)) (nI v) xo = some (nI (2 ^ o - hz u 12), xo') ∧ hi_ok u (2 ^ o) 12 xo' := by
  have hA : 2 ^ o = 32 ∨ 2 ^ o = 64 := by rcases ho with rfl | rfl; exact Or.inl rfl; exact Or.inr rfl
  intro d
  induction d with
  | zero =>
    intro v z xo h1 h2 h3
    obtain ⟨z, rfl⟩ := z_succ h2
    obtain rfl : v = 12 := by omega
    refine ⟨xo, ?_, h3⟩
    rw [f_Share_giveHighest_b9, if_pos (show (12 : Int32) ≤ nI 12 by decide)]
    rfl
  | succ d ih =>
    intro v z xo h1 h2 h3
    obtain ⟨z, rfl⟩ := z_succ h2
    have h4 := hz_le (u := u) (n := v)
    rw [f_Share_giveHighest_b9, if_neg (show ¬ (12 : Int32) ≤ nI v from nI_ge (b := 12) (by omega) (by decide)), ck_n (by omega) (by decide), nI_clamp (by omega), hp v (by omega)]
    unfold f_Share_giveHighest_b34
    by_cases e : u v = 0
    · have e1 : hz u (v + 1) = hz u v + 1 := by rw [hz_succ, if_pos e]
      obtain ⟨xo', p1, p2⟩ := ih (v + 1) z _ (by omega) (by omega) (hi_step (by omega) (by omega) e h3)
      refine ⟨xo', ?_, p2⟩
      rw [e, pI_0, if_neg (by decide), nm_q, show 2 ^ o - hz u v = (2 ^ o - hz u (v + 1)) + 1 by omega, pk_m1, ck_n (by omega) (by decide), nI_clamp (by omega), nm_q, nm_q, nI_1]
      exact p1
    · have e1 : hz u (v + 1) = hz u v := by rw [hz_succ, if_neg e]; rfl
      obtain ⟨xo', p1, p2⟩ := ih (v + 1) z xo (by omega) (by omega) (hi_skip e h3)
      refine ⟨xo', ?_, p2⟩
      have := hu v (by omega)
      rw [pI_p (by omega), if_pos (nI_pos' (by omega)), nm_q, nI_1, ← e1]
      exact p1
theorem hiY {N o : Nat} (ho : o = 5 ∨ o = 6) {u : Nat → Nat} (hu : ∀ v, v < 12 → u v < 2 ^ 30) {yp : Nat → Int32} (hp : Pts u yp) : ∀ (d v z : Nat) (yo : Nat → Int32), 12 = v + d → d < z → hi_ok u (2 ^ o) v yo →
    ∃ yo', f_MM_givePlaces_b11 N (nI o) yp z (nI (2 ^ o)) (nI (2 ^ o - hz u v)) (nI v) yo = f_MM_givePlaces_b43 N (nI o) yp (nI (2 ^ o)) (nI (2 ^ o - hz u 12)) yo' ∧ hi_ok u (2 ^ o) 12 yo' := by
  have hA : 2 ^ o = 32 ∨ 2 ^ o = 64 := by rcases ho with rfl | rfl; exact Or.inl rfl; exact Or.inr rfl
  intro d
  induction d with
  | zero =>
    intro v z xo h1 h2 h3
    obtain ⟨z, rfl⟩ := z_succ h2
    obtain rfl : v = 12 := by omega
    refine ⟨xo, ?_, h3⟩
    rw [f_MM_givePlaces_b11, if_pos (show (12 : Int32) ≤ nI 12 by decide)]
  | succ d ih =>
    intro v z xo h1 h2 h3
    obtain ⟨z, rfl⟩ := z_succ h2
    have h4 := hz_le (u := u) (n := v)
    rw [f_MM_givePlaces_b11, if_neg (show ¬ (12 : Int32) ≤ nI v from nI_ge (b := 12) (by omega) (by decide)), ck_n (by omega) (by decide), nI_clamp (by omega), hp v (by omega)]
    unfold f_MM_givePlaces_b37
    by_cases e : u v = 0
    · have e1 : hz u (v + 1) = hz u v + 1 := by rw [hz_succ, if_pos e]
      obtain ⟨xo', p1, p2⟩ := ih (v + 1) z _ (by omega) (by omega) (hi_step (by omega) (by omega) e h3)
      refine ⟨xo', ?_, p2⟩
      rw [e, pI_0, if_pos rfl, nm_q, show 2 ^ o - hz u v = (2 ^ o - hz u (v + 1)) + 1 by omega, pk_m1, ck_n (by omega) (by decide), nI_clamp (by omega), nm_q, nm_q, nI_1]
      exact p1
    · have e1 : hz u (v + 1) = hz u v := by rw [hz_succ, if_neg e]; rfl
      obtain ⟨xo', p1, p2⟩ := ih (v + 1) z xo (by omega) (by omega) (hi_skip e h3)
      refine ⟨xo', ?_, p2⟩
      have := hu v (by omega)
      have hne : ¬ nI (u v - 1) = (-1 : Int32) := fun q => by
        have q2 := congrArg Int32.toInt q
        rw [nI_toInt (by omega)] at q2
        have e : (-1 : Int32).toInt = -1 := rfl
        omega
      rw [pI_p (by omega), if_neg hne, nm_q, nI_1, ← e1]
      exact p1
