/-! ===== the reference's numbers of places; both sides' searches ===== -/
theorem numberOf_loop {N o : Nat} {u own : Nat → Nat} (hP : Plc u o own) {yp yo : Nat → Int32} (hyo : ∀ p, p < 2 ^ o → yo p = nI (own p)) {p : Nat} (hp : p < 2 ^ o) : ∀ (d k z : Nat), p = k + d → d < z →
    f_MM_numberOf_b17 N yp yo (nI p) z (nI (ms (u (own p)) + cc own (own p) k)) (nI k) = some (nI (num u own p)) := by
  have hA := oA hP.1
  intro d
  induction d with
  | zero =>
    intro k z h1 h2
    obtain ⟨z, rfl⟩ := z_succ h2
    obtain rfl : k = p := by omega
    rw [f_MM_numberOf_b17, if_pos (nI_le (Nat.le_refl _) (by omega))]
    rfl
  | succ d ih =>
    intro k z h1 h2
    obtain ⟨z, rfl⟩ := z_succ h2
    have h3 := ih (k + 1) z (by omega) (by omega)
    have h4 := hP.2.2.1 k (by omega)
    have h5 := hP.2.2.1 p hp
    rw [f_MM_numberOf_b17, if_neg (nI_ge (by omega) (by omega)), ck_n (by omega) (by decide), ck_n (by omega) (by decide), nI_clamp (by omega), nI_clamp (by omega), hyo k (by omega), hyo p hp]
    unfold f_MM_numberOf_b40
    rw [cc_succ] at h3
    by_cases e : own k = own p
    · rw [if_pos (by rw [e]), nm_q, nm_q, nI_1, nI_1]
      rw [if_pos e] at h3
      exact h3
    · rw [if_neg (fun q => e ((nI_eq (by omega) (by omega)).mp q)), nm_q, nI_1]
      rw [if_neg e] at h3
      exact h3
theorem numberOf_ok {N o : Nat} (hN : 70 ≤ N) {u own : Nat → Nat} (hu : ∀ v, v < 12 → u v < 2 ^ 30) (hP : Plc u o own) {yp yo : Nat → Int32} (hyp : Pts u yp) (hyo : ∀ p, p < 2 ^ o → yo p = nI (own p)) {p : Nat} (hp : p < 2 ^ o) : f_MM_numberOf N yp yo (nI p) = some (nI (num u own p)) := by
  have hA := oA hP.1
  have hv := hP.2.2.1 p hp
  unfold f_MM_numberOf
  rw [ck_n (by omega) (by decide), nI_clamp (by omega), hyo p hp, ck_n hv (by decide), nI_clamp (by omega), hyp _ hv, mass_ok (hu _ hv), bd1_e]
  exact numberOf_loop hP hyo hp p 0 N (by omega) (by omega)
theorem bitsOf_loop2 {N o : Nat} (hN : 70 ≤ N) {u own : Nat → Nat} (hu : ∀ v, v < 12 → u v < 2 ^ 30) (hP : Plc u o own) {yp yo : Nat → Int32} (hyp : Pts u yp) (hyo : ∀ p, p < 2 ^ o → yo p = nI (own p)) {p : Nat} (hp : p < 2 ^ o) : ∀ (d k z : Nat), Nat.log2 (num u own p) = k + d → d < z →
    f_MM_bitsOf_b2 N (nI o) yp yo (nI p) z (nI k) = some (nI (tk u o own p)) := by
  have hA := oA hP.1
  have hoo := o6 hP.1
  have h0 := num_pos hP hp
  have hl := log_le hP hp
  have hnl := num_lt hP hp
  rw [Nat.pow_succ] at hnl
  intro d
  induction d with
  | zero =>
    intro k z h1 h2
    obtain ⟨z, rfl⟩ := z_succ h2
    have h3 : num u own p < 2 ^ (k + 1) := by rw [← Nat.log2_lt (by omega)]; omega
    have h4 : 2 ^ (k + 1) ≤ 2 ^ 7 := Nat.pow_le_pow_right (by decide) (by omega)
    rw [f_MM_bitsOf_b2, numberOf_ok hN hu hP hyp hyo hp, bd1_e, nI_1, sh1 (by omega), if_pos (nI_lt h3 (by omega))]
    unfold f_MM_bitsOf_b21
    rw [pk_sub (by omega), show o - k = tk u o own p by unfold tk; omega]
  | succ d ih =>
    intro k z h1 h2
    obtain ⟨z, rfl⟩ := z_succ h2
    have h3 : 2 ^ (k + 1) ≤ num u own p := by rw [← Nat.le_log2 (by omega)]; omega
    rw [f_MM_bitsOf_b2, numberOf_ok hN hu hP hyp hyo hp, bd1_e, nI_1, sh1 (by omega), if_neg (nI_nlt h3 (by omega)), nm_q]
    exact ih (k + 1) z (by omega) (by omega)
theorem bitsOf_ok {N o : Nat} (hN : 70 ≤ N) {u own : Nat → Nat} (hu : ∀ v, v < 12 → u v < 2 ^ 30) (hP : Plc u o own) {yp yo : Nat → Int32} (hyp : Pts u yp) (hyo : ∀ p, p < 2 ^ o → yo p = nI (own p)) {p : Nat} (hp : p < 2 ^ o) : f_MM_bitsOf N (nI o) yp yo (nI p) = some (nI (tk u o own p)) := by
  have hl := log_le hP hp
  have hoo := o6 hP.1
  exact bitsOf_loop2 hN hu hP hyp hyo hp (Nat.log2 (num u own p)) 0 N (by omega) (by omega)
theorem baseOf_ok {N o : Nat} (hN : 70 ≤ N) {u own : Nat → Nat} (hu : ∀ v, v < 12 → u v < 2 ^ 30) (hP : Plc u o own) {yp yo : Nat → Int32} (hyp : Pts u yp) (hyo : ∀ p, p < 2 ^ o → yo p = nI (own p)) {p : Nat} (hp : p < 2 ^ o) : f_MM_baseOf N (nI o) yp yo (nI p) = some (nI (bs u o own p)) := by
  have hA := oA hP.1
  have hoo := o6 hP.1
  have hge := nb_ge hP hp
  have hle := nb_le hP hp
  have htk := tk_le hP (p := p)
  have hpt : 0 < 2 ^ tk u o own p := Nat.pow_pos (by decide)
  rw [Nat.pow_succ] at hle
  unfold f_MM_baseOf
  rw [numberOf_ok hN hu hP hyp hyo hp, bd1_e, bitsOf_ok hN hu hP hyp hyo hp, bd1_e, shl_n (by omega) (by omega), sh1 (by omega), pk_sub hge]
  rfl
/-- the first place of a weight -/
theorem first_place {u : Nat → Nat} {o : Nat} {own : Nat → Nat} (hP : Plc u o own) {v : Nat} (hv : v < 12) (c : Nat) (hc : c < ms (u v)) : ∃ p, p < 2 ^ o ∧ own p = v ∧ cc own v p = c := by
  have h1 := hP.2.2.2 v hv
  rw [← h1] at hc
  have : ∀ n, c < cc own v n → ∃ p, p < n ∧ own p = v ∧ cc own v p = c := by
    intro n
    induction n with
    | zero => intro h; exact absurd h (Nat.not_lt_zero _)
    | succ n ih =>
      intro h
      by_cases e : c < cc own v n
      · obtain ⟨p, a, b⟩ := ih e
        exact ⟨p, by omega, b⟩
      · rw [cc_succ] at h
        by_cases e2 : own n = v
        · rw [if_pos e2] at h
          exact ⟨n, by omega, e2, by omega⟩
        · rw [if_neg e2] at h; omega
  exact this _ hc
theorem lowest_loop {N o : Nat} (hN : 70 ≤ N) {u own : Nat → Nat} (hu : ∀ v, v < 12 → u v < 2 ^ 30) (hP : Plc u o own) {yp yo : Nat → Int32} (hyp : Pts u yp) (hyo : ∀ p, p < 2 ^ o → yo p = nI (own p)) {v : Nat} (hv : v < 12) {p : Nat} (hp : p < 2 ^ o) (hpv : own p = v) (hpt : 0 < tk u o own p) (hno : ∀ q, q < p → own q ≠ v) : ∀ (d k z : Nat), p = k + d → d < z →
    f_MM_lowest_b2 N (nI o) yp yo (nI v) z (nI k) = some (nI p) := by
  have hA := oA hP.1
  have hoo := o6 hP.1
  intro d
  induction d with
  | zero =>
    intro k z h1 h2
    obtain ⟨z, rfl⟩ := z_succ h2
    obtain rfl : k = p := by omega
    have htk := tk_le hP (p := k)
    rw [f_MM_lowest_b2, sh1 (by omega), if_neg (nI_ge hp (by omega)), ck_n (by omega) (by decide), nI_clamp (by omega), hyo k hp, hpv, if_pos rfl, bitsOf_ok hN hu hP hyp hyo hp, bd1_e, if_neg (nle0 hpt (by omega))]
    rfl
  | succ d ih =>
    intro k z h1 h2
    obtain ⟨z, rfl⟩ := z_succ h2
    have h4 := hP.2.2.1 k (by omega)
    rw [f_MM_lowest_b2, sh1 (by omega), if_neg (nI_ge (by omega) (by omega)), ck_n (by omega) (by decide), nI_clamp (by omega), hyo k (by omega), if_neg (fun q => hno k (by omega) ((nI_eq (by omega) (by omega)).mp q))]
    unfold f_MM_lowest_b32
    rw [nm_q, nI_1]
    exact ih (k + 1) z (by omega) (by omega)
/-- a weight that has places, and not all of them -/
theorem lowest_ok {N o : Nat} (hN : 70 ≤ N) {u own : Nat → Nat} (hu : ∀ v, v < 12 → u v < 2 ^ 30) (hP : Plc u o own) {yp yo : Nat → Int32} (hyp : Pts u yp) (hyo : ∀ p, p < 2 ^ o → yo p = nI (own p)) {xo xt xb xr xs : Nat → Int32} (hX : LayX u o own xo xt xb xr xs) {v : Nat} (hv : v < 12) (h0 : 0 < ms (u v)) (h1 : ms (u v) < 2 ^ o) :
    ∃ p, p < 2 ^ o ∧ f_Share_lowestPlace N xr xs (nI v) = some (nI p) ∧ f_MM_lowest N (nI o) yp yo (nI v) = some (nI p) := by
  have hA := oA hP.1
  obtain ⟨p, p1, p2, p3⟩ := first_place hP hv 0 h0
  have hno : ∀ q, q < p → own q ≠ v := by
    intro q hq e
    have : cc own v (q + 1) ≤ cc own v p := cc_mono hq
    rw [cc_succ, if_pos e] at this
    omega
  have hnum : num u own p = ms (u v) := by unfold num; rw [p2, p3]; rfl
  have hpt : 0 < tk u o own p := by
    unfold tk
    rw [hnum]
    have := (Nat.log2_lt (show ms (u v) ≠ 0 by omega)).mpr h1
    omega
  refine ⟨p, p1, ?_, lowest_loop hN hu hP hyp hyo hv p1 p2 hpt hno p 0 N (by omega) (by omega)⟩
  have hr := hX.2.2.2.1 p p1
  rw [p2, p3, Nat.add_zero] at hr
  have hmm : mtt u (v + 1) ≤ mtt u 12 := mt_mono hv
  rw [mt_succ, hP.2.1] at hmm
  unfold f_Share_lowestPlace
  rw [ck_n hv (by decide), nI_clamp (by omega), hX.2.2.2.2 v hv, ck_n (by omega) (by decide), nI_clamp (by omega), hr]
/-- a shift that fits -/
theorem place_exists {o y m : Nat} (h1 : 2 ^ o ≤ y) (h2 : y < 2 ^ (o + 1)) (hm : 1 ≤ m) (hm2 : m ≤ 2 ^ o) : ∃ b, b ≤ o ∧ m ≤ y / 2 ^ b ∧ y / 2 ^ b < 2 * m ∧ ∀ c, c < b → 2 * m ≤ y / 2 ^ c := by
  have key : ∀ b, b ≤ o → (∀ c, c < b → 2 * m ≤ y / 2 ^ c) → (m ≤ y / 2 ^ b) := by
    intro b hb hc
    by_cases e : b = 0
    · subst e; rw [Nat.pow_zero, Nat.div_one]; omega
    · have := hc (b - 1) (by omega)
      have e2 : y / 2 ^ b = y / 2 ^ (b - 1) / 2 := by rw [Nat.div_div_eq_div_mul, ← Nat.pow_succ]; congr 2; omega
      omega
  have : ∀ n, n ≤ o → (∃ b, b ≤ n ∧ y / 2 ^ b < 2 * m ∧ ∀ c, c < b → 2 * m ≤ y / 2 ^ c) ∨ (∀ c, c ≤ n → 2 * m ≤ y / 2 ^ c) := by
    intro n
    induction n with
    | zero =>
      intro _
      by_cases e : y / 2 ^ 0 < 2 * m
      · exact Or.inl ⟨0, by omega, e, fun c hc => absurd hc (by omega)⟩
      · exact Or.inr (fun c hc => by rw [show c = 0 by omega]; omega)
    | succ n ih =>
      intro hn
      rcases ih (by omega) with ⟨b, b1, b2⟩ | h
      · exact Or.inl ⟨b, by omega, b2⟩
      · by_cases e : y / 2 ^ (n + 1) < 2 * m
        · exact Or.inl ⟨n + 1, by omega, e, fun c hc => h c (by omega)⟩
        · refine Or.inr (fun c hc => ?_)
          by_cases e2 : c = n + 1
          · rw [e2]; omega
          · exact h c (by omega)
  rcases this o (Nat.le_refl _) with ⟨b, b1, b2, b3⟩ | h
  · exact ⟨b, b1, key b b1 b3, b2, b3⟩
  · exfalso
    have h3 := h o (Nat.le_refl _)
    have h4 : y / 2 ^ o = 1 := by
      rw [Nat.div_eq_iff (Nat.pow_pos (by decide))]
      rw [Nat.pow_succ] at h2
      omega
    omega
theorem before_loop {N o : Nat} {u : Nat → Nat} (hu : ∀ v, v < 12 → u v < 2 ^ 30) (ho : o = 5 ∨ o = 6) {xp xr xs : Nat → Int32} (hp : Pts u xp) {v : Nat} (hv : v < 12) {l1 : Int32} {y b : Nat} (hy : y < 2 ^ 20) (hb : b ≤ o) (hm : ms (u v) < 2 ^ 20) (hlt : y / 2 ^ b < 2 * ms (u v)) (hge : ∀ c, c < b → 2 * ms (u v) ≤ y / 2 ^ c) : ∀ (d c z : Nat), b = c + d → d < z →
    f_Share_placeBefore_b12 N (nI o) xp xr xs l1 (nI v) z (nI (y / 2 ^ c)) (nI c) = f_Share_placeBefore_b42 N (nI o) xp xr xs l1 (nI v) (nI (y / 2 ^ b)) := by
  intro d
  induction d with
  | zero =>
    intro c z h1 h2
    obtain ⟨z, rfl⟩ := z_succ h2
    obtain rfl : c = b := by omega
    rw [f_Share_placeBefore_b12]
    by_cases e : o ≤ c
    · rw [if_pos (nI_le e (by omega))]
    · rw [if_neg (nI_ge (by omega) (by omega)), massOf_ok hp hv (hu v hv), bd1_e, show (2 : Int32) * nI (ms (u v)) = nI (2 * ms (u v)) from pk_mul 2 _, if_pos (nI_lt hlt (by omega))]
  | succ d ih =>
    intro c z h1 h2
    obtain ⟨z, rfl⟩ := z_succ h2
    have hyc : y / 2 ^ c ≤ y := Nat.div_le_self _ _
    rw [f_Share_placeBefore_b12, if_neg (nI_ge (by omega) (by omega)), massOf_ok hp hv (hu v hv), bd1_e, show (2 : Int32) * nI (ms (u v)) = nI (2 * ms (u v)) from pk_mul 2 _, if_neg (nI_nlt (hge c (by omega)) (by omega)), nm_q, nm_q, nI_1, show nI (y / 2 ^ c) >>> ((1 : Int32) &&& 31) = nI (y / 2 ^ c / 2 ^ 1) from pk_shrN (by omega) _ 1 (by decide), Nat.div_div_eq_div_mul, ← Nat.pow_add]
    exact ih (c + 1) z (by omega) (by omega)
theorem log2_div {y b o : Nat} (h1 : 2 ^ o ≤ y) (h2 : y < 2 ^ (o + 1)) (hb : b ≤ o) : Nat.log2 (y / 2 ^ b) = o - b := by
  have hp : 0 < 2 ^ b := Nat.pow_pos (by decide)
  have a1 : 2 ^ (o - b) ≤ y / 2 ^ b := by
    rw [Nat.le_div_iff_mul_le hp, ← Nat.pow_add, show o - b + b = o by omega]; exact h1
  have a2 : y / 2 ^ b < 2 ^ (o - b + 1) := by
    rw [Nat.div_lt_iff_lt_mul hp, ← Nat.pow_add, show o - b + 1 + b = o + 1 by omega]; exact h2
  have a3 : y / 2 ^ b ≠ 0 := by
    have : 0 < 2 ^ (o - b) := Nat.pow_pos (by decide)
    omega
  have a4 := (Nat.le_log2 a3).mpr a1
  have a5 := (Nat.log2_lt a3).mpr a2
  omega
/-- the place from which a state comes: what it is -/
theorem before_place {u : Nat → Nat} {o : Nat} {own : Nat → Nat} (hP : Plc u o own) {v : Nat} (hv : v < 12) (h0 : 0 < ms (u v)) {st : Nat} (hst : st < 2 ^ o) :
    ∃ b p, b ≤ o ∧ p < 2 ^ o ∧ own p = v ∧ ms (u v) + cc own v p = (st + 2 ^ o) / 2 ^ b ∧ (st + 2 ^ o) / 2 ^ b < 2 * ms (u v) ∧ (∀ c, c < b → 2 * ms (u v) ≤ (st + 2 ^ o) / 2 ^ c) ∧ tk u o own p = b ∧ bs u o own p ≤ st ∧ st < bs u o own p + 2 ^ b ∧
      ∀ q, q < 2 ^ o → own q = v → bs u o own q ≤ st → st < bs u o own q + 2 ^ tk u o own q → q = p := by
  have hA := oA hP.1
  have hm := ms_le hP hv
  have hpw : (2 : Nat) ^ (o + 1) = 2 ^ o * 2 := Nat.pow_succ 2 o
  have hy1 : 2 ^ o ≤ st + 2 ^ o := by omega
  have hy2 : st + 2 ^ o < 2 ^ (o + 1) := by omega
  obtain ⟨b, b1, b2, b3, b4⟩ := place_exists hy1 hy2 h0 hm
  obtain ⟨p, p1, p2, p3⟩ := first_place hP hv ((st + 2 ^ o) / 2 ^ b - ms (u v)) (by omega)
  have hnum : num u own p = (st + 2 ^ o) / 2 ^ b := by unfold num; rw [p2, p3]; omega
  have htk : tk u o own p = b := by
    unfold tk
    rw [hnum, log2_div hy1 hy2 b1]
    omega
  have hb2 : 0 < 2 ^ b := Nat.pow_pos (by decide)
  have hdm := Nat.div_add_mod (st + 2 ^ o) (2 ^ b)
  have hml := Nat.mod_lt (st + 2 ^ o) hb2
  have hge := nb_ge hP p1
  rw [hnum, htk, Nat.mul_comm] at hge
  have hbs : bs u o own p = 2 ^ b * ((st + 2 ^ o) / 2 ^ b) - 2 ^ o := by unfold bs; rw [hnum, htk, Nat.mul_comm]
  refine ⟨b, p, b1, p1, p2, by omega, b3, b4, htk, by omega, by omega, ?_⟩
  intro q q1 q2 q3 q4
  have hgeq := nb_ge hP q1
  have hbq : bs u o own q = num u own q * 2 ^ tk u o own q - 2 ^ o := rfl
  have hq2 : 0 < 2 ^ tk u o own q := Nat.pow_pos (by decide)
  have hnq : num u own q = (st + 2 ^ o) / 2 ^ tk u o own q := by
    symm
    rw [Nat.div_eq_iff hq2]
    omega
  have hc := cc_lt hP q1
  have hnq2 : num u own q = ms (u v) + cc own v q := by unfold num; rw [q2]
  rw [q2] at hc
  have half : ∀ a c, a < c → 2 * ((st + 2 ^ o) / 2 ^ c) ≤ (st + 2 ^ o) / 2 ^ a := by
    intro a c hac
    have e : (st + 2 ^ o) / 2 ^ c = (st + 2 ^ o) / 2 ^ a / 2 ^ (c - a) := by rw [Nat.div_div_eq_div_mul, ← Nat.pow_add]; congr 2; omega
    have h2 : 2 ^ 1 ≤ 2 ^ (c - a) := Nat.pow_le_pow_right (by decide) (by omega)
    rw [e]
    have h3 : (st + 2 ^ o) / 2 ^ a / 2 ^ (c - a) ≤ (st + 2 ^ o) / 2 ^ a / 2 := Nat.div_le_div_left h2 (by decide)
    omega
  have htb : tk u o own q = b := by
    rcases Nat.lt_trichotomy (tk u o own q) b with h | h | h
    · have := half _ _ h; omega
    · exact h
    · have := half _ _ h; omega
  have hcc : cc own v q = cc own v p := by
    rw [htb] at hnq
    omega
  rcases Nat.lt_trichotomy q p with h | h | h
  · have : cc own v (q + 1) ≤ cc own v p := cc_mono h
    rw [cc_succ, if_pos q2] at this
    omega
  · exact h
  · have : cc own v (p + 1) ≤ cc own v q := cc_mono h
    rw [cc_succ, if_pos p2] at this
    omega
theorem placeFor_loop {N o : Nat} (hN : 70 ≤ N) {u own : Nat → Nat} (hu : ∀ v, v < 12 → u v < 2 ^ 30) (hP : Plc u o own) {yp yo : Nat → Int32} (hyp : Pts u yp) (hyo : ∀ p, p < 2 ^ o → yo p = nI (own p)) {v : Nat} (hv : v < 12) {st p : Nat} (hst : st < 2 ^ o) (hp : p < 2 ^ o) (hpv : own p = v) (h3 : bs u o own p ≤ st) (h4 : st < bs u o own p + 2 ^ tk u o own p) (huq : ∀ q, q < 2 ^ o → own q = v → bs u o own q ≤ st → st < bs u o own q + 2 ^ tk u o own q → q = p) : ∀ (d k z : Nat), p = k + d → d < z →
    f_MM_placeFor_b2 N (nI o) yp yo (nI v) (nI st) z (nI k) = some (nI p) := by
  have hA := oA hP.1
  have hoo := o6 hP.1
  intro d
  induction d with
  | zero =>
    intro k z h1 h2
    obtain ⟨z, rfl⟩ := z_succ h2
    obtain rfl : k = p := by omega
    have hb := bs_le hP hp
    have htk := tk_le hP (p := k)
    rw [f_MM_placeFor_b2, sh1 (by omega), if_neg (nI_ge hp (by omega)), ck_n (by omega) (by decide), nI_clamp (by omega), hyo k hp, hpv, if_pos rfl, baseOf_ok hN hu hP hyp hyo hp, bd1_e, if_neg (nI_nlt h3 (by omega)), bd1_e, bitsOf_ok hN hu hP hyp hyo hp, bd1_e, sh1 (by omega), nI_add, if_neg (nI_ge h4 (by omega))]
    rfl
  | succ d ih =>
    intro k z h1 h2
    obtain ⟨z, rfl⟩ := z_succ h2
    have hk : k < 2 ^ o := by omega
    have h5 := hP.2.2.1 k hk
    have hb := bs_le hP hk
    have htk := tk_le hP (p := k)
    have hpt : 0 < 2 ^ tk u o own k := Nat.pow_pos (by decide)
    have hrec := ih (k + 1) z (by omega) (by omega)
    rw [f_MM_placeFor_b2, sh1 (by omega), if_neg (nI_ge (by omega) (by omega)), ck_n (by omega) (by decide), nI_clamp (by omega), hyo k hk]
    unfold f_MM_placeFor_b50
    by_cases e : own k = v
    · rw [e, if_pos rfl, baseOf_ok hN hu hP hyp hyo hk, bd1_e]
      by_cases e2 : st < bs u o own k
      · rw [if_pos (nI_lt e2 (by omega)), nm_q, nI_1]
        exact hrec
      · rw [if_neg (nI_nlt (by omega) (by omega)), bd1_e, bitsOf_ok hN hu hP hyp hyo hk, bd1_e, sh1 (by omega), nI_add]
        by_cases e3 : bs u o own k + 2 ^ tk u o own k ≤ st
        · rw [if_pos (nI_le e3 (by omega)), nm_q, nI_1]
          exact hrec
        · have := huq k hk e (by omega) (by omega)
          omega
    · rw [if_neg (fun q => e ((nI_eq (by omega) (by omega)).mp q)), nm_q, nI_1]
      exact hrec
/-- the place before a state, on both sides -/
theorem before_ok {N o : Nat} (hN : 70 ≤ N) {u own : Nat → Nat} (hu : ∀ v, v < 12 → u v < 2 ^ 30) (hP : Plc u o own) {xp yp yo : Nat → Int32} (hxp : Pts u xp) (hyp : Pts u yp) (hyo : ∀ p, p < 2 ^ o → yo p = nI (own p)) {xo xt xb xr xs : Nat → Int32} (hX : LayX u o own xo xt xb xr xs) {v : Nat} (hv : v < 12) (h0 : 0 < ms (u v)) {st : Nat} (hst : st < 2 ^ o) :
    ∃ p, p < 2 ^ o ∧ f_Share_placeBefore N (nI o) xp xr xs (nI st) (nI v) = some (nI p) ∧ f_MM_placeFor N (nI o) yp yo (nI v) (nI st) = some (nI p) ∧ bs u o own p ≤ st ∧ st < bs u o own p + 2 ^ tk u o own p := by
  have hA := oA hP.1
  have hoo := o6 hP.1
  obtain ⟨b, p, b1, p1, p2, p3, p4, p5, p6, p7, p8, p9⟩ := before_place hP hv h0 hst
  have hm := ms_le hP hv
  refine ⟨p, p1, ?_, ?_, p7, by rw [p6]; exact p8⟩
  · unfold f_Share_placeBefore
    rw [sh1 (by omega), nI_add, nm_q]
    have hl := before_loop (N := N) hu hP.1 (xr := xr) (xs := xs) hxp hv (l1 := nI st) (y := st + 2 ^ o) (b := b) (by omega) b1 (by omega) p4 p5 b 0 N (by omega) (by omega)
    rw [Nat.pow_zero, Nat.div_one] at hl
    have hl' : f_Share_placeBefore_b12 N (nI o) xp xr xs (nI st) (nI v) N (nI (st + 2 ^ o)) 0 = _ := hl
    rw [hl']
    have hmm : mtt u (v + 1) ≤ mtt u 12 := mt_mono hv
    rw [mt_succ, hP.2.1] at hmm
    have hc := cc_lt hP p1
    rw [p2] at hc
    have hr := hX.2.2.2.1 p p1
    rw [p2] at hr
    unfold f_Share_placeBefore_b42
    rw [ck_n hv (by decide), massOf_ok hxp hv (hu v hv), bd1_e, nI_clamp (by omega), hX.2.2.2.2 v hv, nI_add, pk_sub (by omega), show mtt u v + (st + 2 ^ o) / 2 ^ b - ms (u v) = mtt u v + cc own v p by omega, ck_n (by omega) (by decide), nI_clamp (by omega), hr]
  · exact placeFor_loop hN hu hP hyp hyo hv hst p1 p2 p7 (by rw [p6]; exact p8) p9 p 0 N (by omega) (by omega)
