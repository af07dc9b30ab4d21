/-! ===== points by counts, at first ===== -/
/-- the u of the first points: K weights in all, c of this one -/
def u0 (o K c : Nat) : Nat := if c = 0 then 1 else if c * 2 ^ o < K then 0 else c * 2 ^ o / K + 1
theorem u0_lt {o K c : Nat} (ho : o = 5 ∨ o = 6) (hc : c ≤ 255) : u0 o K c < 2 ^ 30 := by
  have hA := oA ho
  have h1 : c * 2 ^ o ≤ 255 * 64 := Nat.mul_le_mul hc (by omega)
  have h2 : c * 2 ^ o / K ≤ c * 2 ^ o := Nat.div_le_self _ _
  unfold u0
  split
  · decide
  · split
    · decide
    · omega
theorem u0_sub {o K c : Nat} (hK : 1 ≤ K) : u0 o K c - 1 = c * 2 ^ o / K := by
  unfold u0
  split
  · rename_i h; rw [h, Nat.zero_mul, Nat.zero_div]
  · split
    · rename_i h; rw [Nat.div_eq_of_lt h]
    · rfl
theorem u0_ne1 {o K c : Nat} (hK : 1 ≤ K) (hc : c ≠ 0) : u0 o K c ≠ 1 := by
  unfold u0
  rw [if_neg hc]
  split
  · decide
  · rename_i h
    have : 0 < c * 2 ^ o / K := Nat.div_pos (by omega) (by omega)
    omega
theorem u0_ge2 {o K c : Nat} (hK : 1 ≤ K) (h : K ≤ c * 2 ^ o) : 2 ≤ u0 o K c := by
  have h0 : c ≠ 0 := fun q => by rw [q, Nat.zero_mul] at h; omega
  have : 0 < c * 2 ^ o / K := Nat.div_pos h (by omega)
  unfold u0
  rw [if_neg h0, if_neg (by omega)]
  omega
theorem sm_div {f : Nat → Nat} {K n : Nat} (hK : 1 ≤ K) : sm (fun v => f v / K) n ≤ sm f n / K := by
  have : sm (fun v => f v / K) n * K ≤ sm f n := by
    induction n with
    | zero => exact Nat.le_of_eq (Nat.zero_mul K)
    | succ n ih =>
      show (sm (fun v => f v / K) n + f n / K) * K ≤ sm f n + f n
      have := Nat.div_mul_le_self (f n) K
      rw [Nat.add_mul]
      omega
  exact (Nat.le_div_iff_mul_le hK).mpr this
theorem sm_mulr {f : Nat → Nat} {a n : Nat} : sm (fun v => f v * a) n = sm f n * a := by
  induction n with
  | zero => exact (Nat.zero_mul a).symm
  | succ n ih =>
    show sm (fun v => f v * a) n + f n * a = (sm f n + f n) * a
    rw [ih, Nat.add_mul]
/-- the weights' counts: c, of K in all -/
def Cts (K : Nat) (c : Nat → Nat) : Prop := 1 ≤ K ∧ K ≤ 255 ∧ sm c 12 = K
theorem Cts.le {K : Nat} {c : Nat → Nat} (h : Cts K c) {v : Nat} (hv : v < 12) : c v ≤ 255 := by
  have h1 := sm_term (f := c) hv
  have := h.2.2
  have := h.2.1
  omega
theorem mt_u0 {o K : Nat} (ho : o = 5 ∨ o = 6) {c : Nat → Nat} (hC : Cts K c) : mtt (fun v => u0 o K (c v)) 12 ≤ 2 ^ o + 12 := by
  rw [mt_split]
  have h1 := hz_le (u := fun v => u0 o K (c v)) (n := 12)
  have h2 : ps (fun v => u0 o K (c v)) 12 ≤ 2 ^ o := by
    have e : ps (fun v => u0 o K (c v)) 12 = sm (fun v => c v * 2 ^ o / K) 12 := sm_congr (fun v _ => u0_sub hC.1)
    rw [e]
    refine Nat.le_trans (sm_div hC.1) ?_
    rw [sm_mulr, hC.2.2, Nat.mul_comm, Nat.mul_div_cancel _ hC.1]
    exact Nat.le_refl _
  omega
/-- one weight has points -/
theorem some_points {o K : Nat} (ho : o = 5 ∨ o = 6) {c : Nat → Nat} (hC : Cts K c) : ∃ v, v < 12 ∧ 2 ≤ u0 o K (c v) := by
  have hA := oA ho
  by_cases h : ∃ v, v < 12 ∧ 2 ≤ u0 o K (c v)
  · exact h
  · exfalso
    have h1 : ∀ v, v < 12 → c v * 32 ≤ K - 1 := by
      intro v hv
      have h2 : ¬ 2 ≤ u0 o K (c v) := fun q => h ⟨v, hv, q⟩
      have h3 : ¬ K ≤ c v * 2 ^ o := fun q => h2 (u0_ge2 hC.1 q)
      have h4 : c v * 32 ≤ c v * 2 ^ o := Nat.mul_le_mul_left _ (by omega)
      omega
    have h5 : sm (fun v => c v * 32) 12 ≤ sm (fun _ => K - 1) 12 := sm_le h1
    rw [sm_mulr, hC.2.2] at h5
    have h6 : sm (fun _ => K - 1) 12 = 12 * (K - 1) := by
      show 0 + (K - 1) + (K - 1) + (K - 1) + (K - 1) + (K - 1) + (K - 1) + (K - 1) + (K - 1) + (K - 1) + (K - 1) + (K - 1) + (K - 1) = _
      omega
    have := hC.1
    omega
theorem modI {a d : Nat} (ha : a < 2 ^ 31) (h0 : 0 < d) (hd : d < 2 ^ 31) : nI a - nI a / nI d * nI d = nI (a % d) := by
  rw [pk_div ha h0 hd, pk_mul, pk_sub (Nat.div_mul_le_self _ _)]
  congr 1
  have := Nat.div_add_mod a d
  rw [Nat.mul_comm] at this
  omega
theorem pointsX {N o K : Nat} (hN : 70 ≤ N) (ho : o = 5 ∨ o = 6) {c : Nat → Nat} (hC : Cts K c) {x2 : Nat → Int32} (hx2 : ∀ v, v < 12 → x2 v = nI (c v)) {xq xo xt xb xr xs xn xw : Nat → Int32} : ∀ (d v z : Nat) (xp xc : Nat → Int32), 12 = v + d → d < z → (∀ w, w < v → xp w = nI (u0 o K (c w)) - 1) → (∀ w, w < v → xc w = nI (c w * 2 ^ o % K)) →
    ∃ xp' xc', f_Share_byCounts_b8 N 12 x2 (nI o) (nI K) z (nI v) (nI o) xp xc xq xo xt xb xr xs xn xw = f_Share_byCounts_b77 N 12 x2 (nI o) (nI K) (nI o) xp' xc' xq xo xt xb xr xs xn xw ∧ Pts (fun w => u0 o K (c w)) xp' ∧ ∀ w, w < 12 → xc' w = nI (c w * 2 ^ o % K) := by
  have hA := oA ho
  have hK1 := hC.1
  have hK2 := hC.2.1
  have hmx : f_JMath_max N (nI K) 1 = some (nI K) := by
    have := JMath_max_n (N := N) (a := K) (b := 1) (by omega) (by decide)
    rw [Nat.max_eq_left hK1] at this
    exact this
  have hnz : nz (nI K) = true := decide_eq_true (nI_ne0 (by omega) (by omega))
  intro d
  induction d with
  | zero =>
    intro v z xp xc h1 h2 h3 h4
    obtain ⟨z, rfl⟩ := z_succ h2
    obtain rfl : v = 12 := by omega
    refine ⟨xp, xc, ?_, h3, h4⟩
    rw [f_Share_byCounts_b8, if_pos (show (12 : Int32) ≤ nI 12 by decide)]
  | succ d ih =>
    intro v z xp xc h1 h2 h3 h4
    obtain ⟨z, rfl⟩ := z_succ h2
    have hv : v < 12 := by omega
    have hcv := hC.le hv
    have hcm : c v * 2 ^ o ≤ 255 * 64 := Nat.mul_le_mul hcv (by omega)
    obtain ⟨xp', xc', p1, p2, p3⟩ := ih (v + 1) z (upd xp v (nI (u0 o K (c v)) - 1)) (upd xc v (nI (c v * 2 ^ o % K))) (by omega) (by omega) (by
      intro w hw
      by_cases e : w = v
      · subst e; exact pk_us
      · rw [pk_un e]; exact h3 w (by omega)) (by
      intro w hw
      by_cases e : w = v
      · subst e; exact pk_us
      · rw [pk_un e]; exact h4 w (by omega))
    refine ⟨xp', xc', ?_, p2, p3⟩
    have fin : ∀ s0, s0 = nI (u0 o K (c v)) - 1 → f_Share_byCounts_b55 N 12 x2 (nI o) (nI K) (f_Share_byCounts_b8 N 12 x2 (nI o) (nI K) z) (nI v) (nI (c v * 2 ^ o)) s0 (nI v) (nI o) xp xc xq xo xt xb xr xs xn xw = f_Share_byCounts_b77 N 12 x2 (nI o) (nI K) (nI o) xp' xc' xq xo xt xb xr xs xn xw := by
      intro s0 hs0
      unfold f_Share_byCounts_b55
      rw [ck_n hv (by decide), nI_clamp (by omega), nm_q, hmx, bd1_e, ck_t hnz, ck_n hv (by decide), modI (by omega) (by omega) (by omega), nm_q, nm_q, nI_1, hs0]
      exact p1
    have hdiv : nI (c v * 2 ^ o) / nI K = nI (c v * 2 ^ o / K) := pk_div (by omega) (by omega) (by omega)
    rw [f_Share_byCounts_b8, if_neg (show ¬ (12 : Int32) ≤ nI v from nI_ge (b := 12) (by omega) (by decide)), ck_n hv (by decide), nI_clamp (by omega), hx2 v hv, shl_n (by omega) (by omega), nm_q]
    unfold f_Share_byCounts_b47
    by_cases e0 : c v = 0
    · rw [if_pos (le0 (by rw [e0, Nat.zero_mul])), hmx, bd1_e, ck_t hnz]
      refine fin _ ?_
      rw [hdiv]
      unfold u0
      rw [if_pos e0, e0, Nat.zero_mul, Nat.zero_div]
      rfl
    · have hpos : 0 < c v * 2 ^ o := Nat.mul_pos (by omega) (by omega)
      rw [if_neg (nle0 hpos (by omega))]
      by_cases e1 : c v * 2 ^ o < K
      · rw [if_neg (nI_ge e1 (by omega))]
        refine fin _ ?_
        unfold u0
        rw [if_neg e0, if_pos e1]
        exact pI_0.symm
      · rw [if_pos (nI_le (by omega) (by omega)), hmx, bd1_e, ck_t hnz]
        refine fin _ ?_
        unfold u0
        rw [if_neg e0, if_neg e1, hdiv, pI_p (Nat.le_add_left 1 _)]
        rfl
theorem countOf_loop {N K : Nat} (hK : K ≤ 256) {w : Nat → Nat} (hw : ∀ k, k < K → w k < 2 ^ 30) {yw : Nat → Int32} (hyw : ∀ k, k < K → yw k = nI (w k)) {v : Nat} (hv : v < 2 ^ 30) : ∀ (d k z : Nat), K = k + d → d < z →
    f_MM_countOf_b4 N (nI K) yw (nI v) z (nI (cc w v k)) (nI k) = some (nI (cc w v K)) := by
  intro d
  induction d with
  | zero =>
    intro k z h1 h2
    obtain ⟨z, rfl⟩ := z_succ h2
    obtain rfl : k = K := by omega
    rw [f_MM_countOf_b4, if_pos (nI_le (Nat.le_refl _) (by omega))]
    rfl
  | succ d ih =>
    intro k z h1 h2
    obtain ⟨z, rfl⟩ := z_succ h2
    have h3 := ih (k + 1) z (by omega) (by omega)
    have h4 := hw k (by omega)
    rw [cc_succ] at h3
    rw [f_MM_countOf_b4, if_neg (nI_ge (by omega) (by omega)), ck_n (by omega) (by decide), nI_clamp (by omega), hyw k (by omega)]
    unfold f_MM_countOf_b25
    by_cases e : w k = v
    · rw [if_pos (by rw [e]), nm_q, nm_q, nI_1, nI_1]
      rw [if_pos e] at h3
      exact h3
    · rw [if_neg (fun q => e ((nI_eq (by omega) (by omega)).mp q)), nm_q, nI_1]
      rw [if_neg e] at h3
      exact h3
theorem countOf_ok {N K : Nat} (hN : 300 ≤ N) (hK : K ≤ 256) {w : Nat → Nat} (hw : ∀ k, k < K → w k < 2 ^ 30) {yw : Nat → Int32} (hyw : ∀ k, k < K → yw k = nI (w k)) {v : Nat} (hv : v < 2 ^ 30) : f_MM_countOf N (nI K) yw (nI v) = some (nI (cc w v K)) :=
  countOf_loop hK hw hyw hv K 0 N (by omega) (by omega)
theorem pointsY {N o K : Nat} (hN : 300 ≤ N) (ho : o = 5 ∨ o = 6) {w : Nat → Nat} (hw : ∀ k, k < K → w k < 2 ^ 30) {yw : Nat → Int32} (hyw : ∀ k, k < K → yw k = nI (w k)) (hC : Cts K (fun v => cc w v K)) {yh yo : Nat → Int32} : ∀ (d v z : Nat) (yp yc : Nat → Int32), 12 = v + d → d < z → (∀ x, x < v → yp x = nI (u0 o K (cc w x K)) - 1) → (∀ x, x < v → yc x = nI (cc w x K * 2 ^ o % K)) →
    ∃ yp' yc', f_MM_shareByCounts_b7 N (nI K) yw (nI o) z (nI v) (nI o) yp yc yh yo = f_MM_shareByCounts_b71 N (nI K) yw (nI o) (nI o) yp' yc' yh yo ∧ Pts (fun x => u0 o K (cc w x K)) yp' ∧ ∀ x, x < 12 → yc' x = nI (cc w x K * 2 ^ o % K) := by
  have hA := oA ho
  have hK1 := hC.1
  have hK2 := hC.2.1
  have hnz : nz (nI K) = true := decide_eq_true (nI_ne0 (by omega) (by omega))
  intro d
  induction d with
  | zero =>
    intro v z yp yc h1 h2 h3 h4
    obtain ⟨z, rfl⟩ := z_succ h2
    obtain rfl : v = 12 := by omega
    refine ⟨yp, yc, ?_, h3, h4⟩
    rw [f_MM_shareByCounts_b7, if_pos (show (12 : Int32) ≤ nI 12 by decide)]
  | succ d ih =>
    intro v z yp yc h1 h2 h3 h4
    obtain ⟨z, rfl⟩ := z_succ h2
    have hv : v < 12 := by omega
    have hcv : cc w v K ≤ 255 := hC.le hv
    have hcm : cc w v K * 2 ^ o ≤ 255 * 64 := Nat.mul_le_mul hcv (by omega)
    obtain ⟨yp', yc', p1, p2, p3⟩ := ih (v + 1) z (upd yp v (nI (u0 o K (cc w v K)) - 1)) (upd yc v (nI (cc w v K * 2 ^ o % K))) (by omega) (by omega) (by
      intro x hx
      by_cases e : x = v
      · subst e; exact pk_us
      · rw [pk_un e]; exact h3 x (by omega)) (by
      intro x hx
      by_cases e : x = v
      · subst e; exact pk_us
      · rw [pk_un e]; exact h4 x (by omega))
    refine ⟨yp', yc', ?_, p2, p3⟩
    have fin : ∀ s0, s0 = nI (u0 o K (cc w v K)) - 1 → f_MM_shareByCounts_b52 N (nI K) yw (nI o) (f_MM_shareByCounts_b7 N (nI K) yw (nI o) z) (nI v) (nI (cc w v K * 2 ^ o)) s0 (nI v) (nI o) yp yc yh yo = f_MM_shareByCounts_b71 N (nI K) yw (nI o) (nI o) yp' yc' yh yo := by
      intro s0 hs0
      unfold f_MM_shareByCounts_b52
      rw [ck_n hv (by decide), nI_clamp (by omega), nm_q, ck_t hnz, ck_n hv (by decide), modI (by omega) (by omega) (by omega), nm_q, nm_q, nI_1, hs0]
      exact p1
    have hdiv : nI (cc w v K * 2 ^ o) / nI K = nI (cc w v K * 2 ^ o / K) := pk_div (by omega) (by omega) (by omega)
    rw [f_MM_shareByCounts_b7, if_neg (show ¬ (12 : Int32) ≤ nI v from nI_ge (b := 12) (by omega) (by decide)), countOf_ok hN (by omega) hw hyw (by omega), bd1_e, shl_n (by omega) (by omega), nm_q]
    by_cases e0 : cc w v K = 0
    · rw [if_pos (by rw [e0, Nat.zero_mul]; rfl)]
      refine fin _ ?_
      unfold u0
      rw [if_pos e0]
      rfl
    · have hpos : 0 < cc w v K * 2 ^ o := Nat.mul_pos (by omega) (by omega)
      rw [if_neg (nI_ne0 hpos (by omega))]
      by_cases e1 : cc w v K * 2 ^ o < K
      · rw [if_neg (nI_ge e1 (by omega))]
        refine fin _ ?_
        unfold u0
        rw [if_neg e0, if_pos e1]
        exact pI_0.symm
      · rw [if_pos (nI_le (by omega) (by omega)), ck_t hnz]
        refine fin _ ?_
        unfold u0
        rw [if_neg e0, if_neg e1, hdiv, pI_p (Nat.le_add_left 1 _)]
        rfl
