/-! ===== numbers, bits and bases of places ===== -/
def cc (own : Nat → Nat) (v n : Nat) : Nat := sm (fun p => if own p = v then 1 else 0) n
theorem cc_succ {own : Nat → Nat} {v n : Nat} : cc own v (n + 1) = cc own v n + (if own n = v then 1 else 0) := rfl
theorem cc_mono {own : Nat → Nat} {v m n : Nat} (h : m ≤ n) : cc own v m ≤ cc own v n := sm_mono h
/-- places, each weight having as many as its mass -/
def Plc (u : Nat → Nat) (o : Nat) (own : Nat → Nat) : Prop := (o = 5 ∨ o = 6) ∧ mtt u 12 = 2 ^ o ∧ (∀ p, p < 2 ^ o → own p < 12) ∧ ∀ v, v < 12 → cc own v (2 ^ o) = ms (u v)
def num (u own : Nat → Nat) (p : Nat) : Nat := ms (u (own p)) + cc own (own p) p
def tk (u : Nat → Nat) (o : Nat) (own : Nat → Nat) (p : Nat) : Nat := o - Nat.log2 (num u own p)
def bs (u : Nat → Nat) (o : Nat) (own : Nat → Nat) (p : Nat) : Nat := num u own p * 2 ^ tk u o own p - 2 ^ o
theorem cc_lt {u : Nat → Nat} {o : Nat} {own : Nat → Nat} (h : Plc u o own) {p : Nat} (hp : p < 2 ^ o) : cc own (own p) p < ms (u (own p)) := by
  have h1 := h.2.2.2 (own p) (h.2.2.1 p hp)
  have h2 : cc own (own p) (p + 1) ≤ cc own (own p) (2 ^ o) := cc_mono hp
  rw [cc_succ, if_pos rfl] at h2
  omega
theorem ms_le {u : Nat → Nat} {o : Nat} {own : Nat → Nat} (h : Plc u o own) {v : Nat} (hv : v < 12) : ms (u v) ≤ 2 ^ o := by
  have h1 : mtt u (v + 1) ≤ mtt u 12 := mt_mono hv
  rw [mt_succ, h.2.1] at h1
  omega
theorem num_pos {u : Nat → Nat} {o : Nat} {own : Nat → Nat} (h : Plc u o own) {p : Nat} (hp : p < 2 ^ o) : 1 ≤ num u own p := by
  have := cc_lt h hp
  unfold num; omega
theorem num_lt {u : Nat → Nat} {o : Nat} {own : Nat → Nat} (h : Plc u o own) {p : Nat} (hp : p < 2 ^ o) : num u own p < 2 ^ (o + 1) := by
  have h1 := cc_lt h hp
  have h2 := ms_le h (h.2.2.1 p hp)
  rw [Nat.pow_succ]
  unfold num; omega
theorem log_le {u : Nat → Nat} {o : Nat} {own : Nat → Nat} (h : Plc u o own) {p : Nat} (hp : p < 2 ^ o) : Nat.log2 (num u own p) ≤ o := by
  have h1 := num_pos h hp
  have := (Nat.log2_lt (show num u own p ≠ 0 by omega)).mpr (num_lt h hp)
  omega
theorem nb_ge {u : Nat → Nat} {o : Nat} {own : Nat → Nat} (h : Plc u o own) {p : Nat} (hp : p < 2 ^ o) : 2 ^ o ≤ num u own p * 2 ^ tk u o own p := by
  have h1 := num_pos h hp
  have h2 := log_le h hp
  have h3 := Nat.log2_self_le (show num u own p ≠ 0 by omega)
  have e : 2 ^ o = 2 ^ Nat.log2 (num u own p) * 2 ^ tk u o own p := by rw [← Nat.pow_add]; congr 1; unfold tk; omega
  conv => lhs; rw [e]
  exact Nat.mul_le_mul_right _ h3
theorem nb_le {u : Nat → Nat} {o : Nat} {own : Nat → Nat} (h : Plc u o own) {p : Nat} (hp : p < 2 ^ o) : num u own p * 2 ^ tk u o own p + 2 ^ tk u o own p ≤ 2 ^ (o + 1) := by
  have h1 := num_pos h hp
  have h2 := log_le h hp
  have h3 : num u own p < 2 ^ (Nat.log2 (num u own p) + 1) := Nat.lt_log2_self
  have e : 2 ^ (o + 1) = 2 ^ (Nat.log2 (num u own p) + 1) * 2 ^ tk u o own p := by rw [← Nat.pow_add]; congr 1; unfold tk; omega
  rw [e, ← Nat.succ_mul]
  exact Nat.mul_le_mul_right _ h3
theorem bs_le {u : Nat → Nat} {o : Nat} {own : Nat → Nat} (h : Plc u o own) {p : Nat} (hp : p < 2 ^ o) : bs u o own p + 2 ^ tk u o own p ≤ 2 ^ o := by
  have h1 := nb_ge h hp
  have h2 := nb_le h hp
  rw [Nat.pow_succ] at h2
  unfold bs; omega
theorem tk_le {u : Nat → Nat} {o : Nat} {own : Nat → Nat} (h : Plc u o own) {p : Nat} : tk u o own p ≤ o := Nat.sub_le _ _
theorem o6 {o : Nat} (ho : o = 5 ∨ o = 6) : o ≤ 6 := by omega
theorem massOf_at {N u v : Nat} {xp : Nat → Int32} (hv : v < 12) (hx : xp v = nI u - 1) (hu : u < 2 ^ 30) : f_Share_massOf N xp (nI v) = some (nI (ms u)) := by
  unfold f_Share_massOf ms
  rw [ck_n hv (by decide), nI_clamp (by omega), hx]
  by_cases e : u = 0
  · subst e; rfl
  · rw [pI_p (by omega), if_neg e, if_pos (nI_pos' (by omega)), ck_n hv (by decide)]
theorem massOf_ok {N : Nat} {u : Nat → Nat} {xp : Nat → Int32} (hp : Pts u xp) {v : Nat} (hv : v < 12) (hu : u v < 2 ^ 30) : f_Share_massOf N xp (nI v) = some (nI (ms (u v))) := massOf_at hv (hp v hv) hu
theorem mass_ok {N u : Nat} (hu : u < 2 ^ 30) : f_MM_mass N (nI u - 1) = some (nI (ms u)) := by
  unfold f_MM_mass ms
  by_cases e : u = 0
  · subst e; rfl
  · rw [pI_p (by omega), if_neg e, if_pos (nI_pos' (by omega))]
/-- the class's tables -/
def LayX (u : Nat → Nat) (o : Nat) (own : Nat → Nat) (xo xt xb xr xs : Nat → Int32) : Prop :=
  (∀ p, p < 2 ^ o → xo p = nI (own p)) ∧ (∀ p, p < 2 ^ o → xt p = nI (tk u o own p)) ∧ (∀ p, p < 2 ^ o → xb p = nI (bs u o own p)) ∧ (∀ p, p < 2 ^ o → xr (mtt u (own p) + cc own (own p) p) = nI p) ∧ ∀ v, v < 12 → xs v = nI (mtt u v)
theorem rank1 {N o : Nat} {u : Nat → Nat} (hu : ∀ v, v < 12 → u v < 2 ^ 30) {xp xo xt xb xr : Nat → Int32} (hp : Pts u xp) : ∀ (d v z : Nat) (xs xn : Nat → Int32), 12 = v + d → d < z → (∀ w, w < v → xs w = nI (mtt u w) ∧ xn w = nI (ms (u w))) →
    ∃ xs' xn', f_Share_rank_b4 N (nI o) xp xo z (nI (mtt u v)) (nI v) xt xb xr xs xn = f_Share_rank_b42 N (nI o) xp xo xt xb xr xs' xn' ∧ (∀ w, w < 12 → xs' w = nI (mtt u w) ∧ xn' w = nI (ms (u w))) := by
  intro d
  induction d with
  | zero =>
    intro v z xs xn h1 h2 h3
    obtain ⟨z, rfl⟩ := z_succ h2
    obtain rfl : v = 12 := by omega
    refine ⟨xs, xn, ?_, h3⟩
    rw [f_Share_rank_b4, if_pos (show (12 : Int32) ≤ nI 12 by decide)]
  | succ d ih =>
    intro v z xs xn h1 h2 h3
    obtain ⟨z, rfl⟩ := z_succ h2
    have hm := massOf_ok (N := N) hp (show v < 12 by omega) (hu v (by omega))
    obtain ⟨xs', xn', p1, p2⟩ := ih (v + 1) z (upd xs v (nI (mtt u v))) (upd xn v (nI (ms (u v)))) (by omega) (by omega) (by
      intro w hw
      by_cases e : w = v
      · subst e; exact ⟨pk_us, pk_us⟩
      · rw [pk_un e, pk_un e]; exact h3 w (by omega))
    refine ⟨xs', xn', ?_, p2⟩
    rw [f_Share_rank_b4, if_neg (show ¬ (12 : Int32) ≤ nI v from nI_ge (b := 12) (by omega) (by decide)), ck_n (by omega) (by decide), nI_clamp (by omega), nm_q, hm, bd1_e, ck_n (by omega) (by decide), nm_q, bd1_e, nm_q, nm_q, nI_add, nI_1]
    exact p1
theorem rk_ne {u : Nat → Nat} {o : Nat} {own : Nat → Nat} (h : Plc u o own) {p q : Nat} (hp : p < q) (hq : q < 2 ^ o) : mtt u (own p) + cc own (own p) p ≠ mtt u (own q) + cc own (own q) q := by
  have h1 := cc_lt h (show p < 2 ^ o by omega)
  have h2 := cc_lt h hq
  rcases Nat.lt_trichotomy (own p) (own q) with a | a | a
  · have : mtt u (own p + 1) ≤ mtt u (own q) := mt_mono a
    rw [mt_succ] at this
    omega
  · rw [← a]
    have h3 : cc own (own p) (p + 1) ≤ cc own (own p) q := cc_mono hp
    rw [cc_succ, if_pos rfl] at h3
    omega
  · have : mtt u (own q + 1) ≤ mtt u (own p) := mt_mono a
    rw [mt_succ] at this
    omega
theorem rank2 {N o : Nat} (hN : 32 ≤ N) {u own : Nat → Nat} (hu : ∀ v, v < 12 → u v < 2 ^ 30) (hP : Plc u o own) {xp xo xs : Nat → Int32} (hp : Pts u xp) (ho1 : ∀ p, p < 2 ^ o → xo p = nI (own p)) (hxs : ∀ v, v < 12 → xs v = nI (mtt u v)) : ∀ (d p z : Nat) (xt xb xr xn : Nat → Int32), 2 ^ o = p + d → d < z → (∀ v, v < 12 → xn v = nI (ms (u v) + cc own v p)) → (∀ q, q < p → xt q = nI (tk u o own q)) → (∀ q, q < p → xb q = nI (bs u o own q)) → (∀ q, q < p → xr (mtt u (own q) + cc own (own q) q) = nI q) →
    ∃ xt' xb' xr' xn', f_Share_rank_b51 N (nI o) xp xo z (nI (2 ^ o)) (nI p) xt xb xr xs xn = some (xt', xb', xr', xs, xn') ∧ LayX u o own xo xt' xb' xr' xs := by
  have hA := oA hP.1
  have hoo := o6 hP.1
  intro d
  induction d with
  | zero =>
    intro p z xt xb xr xn h1 h2 h3 h4 h5 h6
    obtain ⟨z, rfl⟩ := z_succ h2
    obtain rfl : p = 2 ^ o := by omega
    refine ⟨xt, xb, xr, xn, ?_, ho1, h4, h5, h6, hxs⟩
    rw [f_Share_rank_b51, if_pos (nI_le (Nat.le_refl _) (by omega))]
  | succ d ih =>
    intro p z xt xb xr xn h1 h2 h3 h4 h5 h6
    obtain ⟨z, rfl⟩ := z_succ h2
    have hpA : p < 2 ^ o := by omega
    have hv := hP.2.2.1 p hpA
    have hnp := num_pos hP hpA
    have hnl := num_lt hP hpA
    have hlg := log_le hP hpA
    have hge := nb_ge hP hpA
    have hle := nb_le hP hpA
    rw [Nat.pow_succ] at hnl hle
    have hcl := cc_lt hP hpA
    have hmm : mtt u (own p + 1) ≤ mtt u 12 := mt_mono hv
    rw [mt_succ, hP.2.1] at hmm
    have hmass := massOf_ok (N := N) hp hv (hu _ hv)
    have hxn : xn (own p) = nI (num u own p) := h3 _ hv
    have htk : o - Nat.log2 (num u own p) = tk u o own p := rfl
    have hpt : 0 < 2 ^ tk u o own p := Nat.pow_pos (by decide)
    obtain ⟨xt', xb', xr', xn', p1, p2⟩ := ih (p + 1) z (upd xt p (nI (tk u o own p))) (upd xb p (nI (bs u o own p))) (upd xr (mtt u (own p) + cc own (own p) p) (nI p)) (upd xn (own p) (nI (num u own p + 1))) (by omega) (by omega) (by
      intro w hw
      rw [cc_succ]
      by_cases e : w = own p
      · subst e; rw [pk_us, if_pos rfl]; rfl
      · rw [pk_un e, if_neg (fun q => e q.symm)]; exact h3 w hw) (by
      intro q hq
      by_cases e : q = p
      · subst e; exact pk_us
      · rw [pk_un e]; exact h4 q (by omega)) (by
      intro q hq
      by_cases e : q = p
      · subst e; exact pk_us
      · rw [pk_un e]; exact h5 q (by omega)) (by
      intro q hq
      by_cases e : q = p
      · subst e; exact pk_us
      · rw [pk_un (rk_ne hP (show q < p by omega) hpA)]; exact h6 q (by omega))
    refine ⟨xt', xb', xr', xn', ?_, p2⟩
    have eidx : nI (mtt u (own p)) + nI (num u own p) - nI (ms (u (own p))) = nI (mtt u (own p) + cc own (own p) p) := by
      rw [nI_add, pk_sub (by unfold num; omega)]
      congr 1
      unfold num; omega
    rw [f_Share_rank_b51, if_neg (nI_ge (by omega) (by omega)), ck_n (by omega) (by decide), nI_clamp (by omega), ho1 p hpA, nm_q, ck_n hv (by decide), nI_clamp (by omega), hxn, nm_q, ck_n hv (by decide), ck_n hv (by decide), nm_q, log2_ok hN (by omega), bd1_e, ck_n (by omega) (by decide), nm_q, ck_n (by omega) (by decide), ck_n (by omega) (by decide), pk_us, pk_sub hlg, htk, shl_n (by have := tk_le hP (p := p); omega) (by omega), pk_sub hge, nm_q, ck_n hv (by decide), hmass, bd1_e, hxs _ hv, eidx, ck_n (by omega) (by decide), nI_clamp (by omega), nm_q, nm_q, nI_1, nI_1]
    exact p1
theorem rank_ok {N o : Nat} (hN : 70 ≤ N) {u own : Nat → Nat} (hu : ∀ v, v < 12 → u v < 2 ^ 30) (hP : Plc u o own) {xp xo : Nat → Int32} (hp : Pts u xp) (ho1 : ∀ p, p < 2 ^ o → xo p = nI (own p)) (xt xb xr xs xn : Nat → Int32) :
    ∃ xt' xb' xr' xs' xn', f_Share_rank N (nI o) xp xo xt xb xr xs xn = some (xt', xb', xr', xs', xn') ∧ LayX u o own xo xt' xb' xr' xs' := by
  have hA := oA hP.1
  obtain ⟨xs', xn', p1, p2⟩ := rank1 (N := N) (o := o) hu (xo := xo) (xt := xt) (xb := xb) (xr := xr) hp 12 0 N xs xn (by omega) (by omega) (fun w hw => absurd hw (by omega))
  obtain ⟨xt', xb', xr', xn2, q1, q2⟩ := rank2 (N := N) (by omega) hu hP hp ho1 (fun v hv => (p2 v hv).1) (2 ^ o) 0 N xt xb xr xn' (by omega) (by omega) (fun v hv => (p2 v hv).2) (fun q hq => absurd hq (by omega)) (fun q hq => absurd hq (by omega)) (fun q hq => absurd hq (by omega))
  refine ⟨xt', xb', xr', xs', xn2, ?_, q2⟩
  unfold f_Share_rank
  have p1' : f_Share_rank_b4 N (nI o) xp xo N 0 0 xt xb xr xs xn = _ := p1
  rw [p1']
  unfold f_Share_rank_b42
  rw [sh1 (by have := o6 hP.1; omega), nm_q]
  exact q1
/-- the tables of both sides -/
theorem layOut_ok {N o : Nat} (hN : 70 ≤ N) (ho : o = 5 ∨ o = 6) {u : Nat → Nat} (hu : ∀ v, v < 12 → u v < 2 ^ 30) (hsum : mtt u 12 = 2 ^ o) {xp yp : Nat → Int32} (hxp : Pts u xp) (hyp : Pts u yp) (xo xt xb xr xs xn xw yo : Nat → Int32) :
    ∃ own xo' xt' xb' xr' xs' xn' xw' yo', f_Share_layOut N (nI o) xp xo xt xb xr xs xn xw = some (xo', xt', xb', xr', xs', xn', xw') ∧ f_MM_givePlaces N (nI o) yp yo = some yo' ∧ Plc u o own ∧ LayX u o own xo' xt' xb' xr' xs' ∧ ∀ p, p < 2 ^ o → yo' p = nI (own p) := by
  obtain ⟨xo1, xo2, xw2, p1, p2, p3⟩ := ownX (N := N) hN ho hu hsum hxp xo xw
  obtain ⟨yo2, q1, q2⟩ := ownY (N := N) hN ho hu hsum hyp yo
  have hsame := own_same ho p3 q2
  have hown : ∀ p, p < 2 ^ o → (xo2 p).toNatClampNeg < 12 ∧ xo2 p = nI ((xo2 p).toNatClampNeg) := by
    intro p hp
    obtain ⟨v, a, b, -⟩ := hsame p hp
    rw [b, nI_clamp (by omega)]
    exact ⟨a, rfl⟩
  have hP : Plc u o (fun p => (xo2 p).toNatClampNeg) := ⟨ho, hsum, fun p hp => (hown p hp).1, fun v hv => own_count ho hsum p3 (own := fun p => (xo2 p).toNatClampNeg) hown hv⟩
  obtain ⟨xt', xb', xr', xs', xn', r1, r2⟩ := rank_ok (N := N) hN hu hP hxp (fun p hp => (hown p hp).2) xt xb xr xs xn
  refine ⟨_, xo2, xt', xb', xr', xs', xn', xw2, yo2, ?_, q1, hP, r2, fun p hp => ?_⟩
  · unfold f_Share_layOut
    rw [p1, bd2_e, p2, bd2_e, r1, bd5_e]
  · obtain ⟨v, a, b, c⟩ := hsame p hp
    show yo2 p = nI (xo2 p).toNatClampNeg
    rw [c, b, nI_clamp (by omega)]
