theorem takeShare_ok {N n fr to : Nat} (hN : 60000 ≤ N) (hn : n ≤ 6000) (hto : to ≤ n) (hfr : fr ≤ to) {vx : Nat → Int64} {vy : Nat → Int32} (hs : Same vx vy n) (oi nx yi : Int32) (xp xo xt xb xr xs xn xw yp yo : Nat → Int32) :
    ∃ o, (o = 5 ∨ o = 6) ∧ ShareOk n to o (f_Share_take N (nI n) 751 vx (nI fr) (nI to) oi nx xp xo xt xb xr xs xn xw) (f_MM_takeShare N (nI (8 * to)) vy yi (nI (8 * fr)) yp yo) := by
  obtain ⟨xp0, a1, a2, -⟩ := JArr_fill_ok (N := N) (n := 12) (by decide) (by omega) (a := 0) (v := xp)
  have hx : iv vx n / 2 ^ (8 * fr) % 2 ^ 4 < 16 := Nat.mod_lt _ (by decide)
  have t : f_Share_takeBits N (nI n) 751 vx 4 (nI (8 * fr)) = _ := takeBits_ok (N := N) (by omega) (vx := vx) hn (p := 8 * fr) (m := 4) (by omega) (by decide)
  have tY : 8 * fr + 4 ≤ 8 * to → f_MM_take N (nI (8 * to)) vy 4 (nI (8 * fr)) = some (nI (iv vx n / 2 ^ (8 * fr) % 2 ^ 4), nI (8 * fr + 4)) := fun h => take_ok (N := N) (m := 4) (by omega) hn hs (by omega) (by decide) h
  unfold f_Share_take f_MM_takeShare
  rw [a1, bd1_e, nI_8mul, nm_q, t, bd2_e]
  generalize iv vx n / 2 ^ (8 * fr) % 2 ^ 4 = r at *
  rw [show (5 : Int32) + nI r = nI (5 + r) from nI_add 5 r, nm_q]
  by_cases h4 : 8 * fr + 4 ≤ 8 * to
  · rw [tY h4, bd2_e, if_neg (m1_ne (by omega))]
    by_cases hr : r ≤ 1
    · have ho : 5 + r = 5 ∨ 5 + r = 6 := by omega
      refine ⟨5 + r, ho, ?_⟩
      have hA := oA ho
      rw [if_pos (le_lit (b := 6) (by omega) (by decide)), sh1 (by omega), nm_q, if_pos (le_lit (b := 1) hr (by decide)), show nI r + (5 : Int32) = nI (5 + r) from by rw [Nat.add_comm]; exact nI_add r 5, nm_q]
      have zl : ∀ (d v z : Nat) (yp : Nat → Int32), 12 = v + d → d < z → (∀ x, x < v → yp x = 0) → ∃ yp', f_MM_takeShare_b27 N (nI (8 * to)) vy z (nI v) (nI (5 + r)) (nI (8 * fr + 4)) yp yo = f_MM_takeShare_b46 N (nI (8 * to)) vy (nI (5 + r)) (nI (8 * fr + 4)) yp' yo ∧ ∀ x, x < 12 → yp' x = 0 := by
        intro d
        induction d with
        | zero =>
          intro v z yp h1 h2 h3
          obtain ⟨z, rfl⟩ := z_succ h2
          obtain rfl : v = 12 := by omega
          refine ⟨yp, ?_, h3⟩
          rw [f_MM_takeShare_b27, if_pos (show (12 : Int32) ≤ nI 12 by decide)]
        | succ d ih =>
          intro v z yp h1 h2 h3
          obtain ⟨z, rfl⟩ := z_succ h2
          rw [f_MM_takeShare_b27, if_neg (show ¬ (12 : Int32) ≤ nI v from nI_ge (b := 12) (by omega) (by decide)), ck_n (by omega) (by decide), nI_clamp (by omega), nm_q, nm_q, nI_1]
          exact ih (v + 1) z _ (by omega) (by omega) (fun x hx => by
            by_cases e : x = v
            · subst e; exact pk_us
            · rw [pk_un e]; exact h3 x (by omega))
      obtain ⟨yp0, b1, b2⟩ := zl 12 0 N yp (by omega) (by omega) (fun x hx => absurd hx (by omega))
      have b1' : f_MM_takeShare_b27 N (nI (8 * to)) vy N 0 (nI (5 + r)) (nI (8 * fr + 4)) yp yo = _ := b1
      rw [b1']
      unfold f_MM_takeShare_b46
      rw [sh1 (by omega), nm_q]
      exact share_loop (N := N) hN hn hto ho hs 12 0 N N (8 * fr + 4) (2 ^ (5 + r)) (fun _ => 1) xp0 yp0 (by omega) (by omega) (by omega) (by omega) (by omega) h4 (fun _ _ _ => rfl) (fun _ _ => by decide) (by show 0 + 2 ^ (5 + r) = _; omega) (fun v hv => by rw [a2 v hv]; show (0 : Int32) = nI 1 - 1; decide) (fun v hv => by rw [b2 v hv]; show (0 : Int32) = nI 1 - 1; decide)
    · rw [if_neg (nle_lit (b := 6) (by omega) (by omega)), if_neg (nle_lit (b := 1) (by omega) (by omega))]
      exact ⟨5, Or.inl rfl, Or.inl ⟨_, _, _, _, _, _, _, _, _, _, _, _, _, _, rfl, rfl⟩⟩
  · have tn : f_MM_take N (nI (8 * to)) vy 4 (nI (8 * fr)) = some (-1, nI (8 * fr)) := take_no (m := 4) (by omega) (by omega)
    rw [tn, bd2_e, if_pos rfl]
    refine ⟨5, Or.inl rfl, ?_⟩
    by_cases hr : r ≤ 1
    · have ho : 5 + r = 5 ∨ 5 + r = 6 := by omega
      have hA := oA ho
      obtain ⟨q', xp', o1⟩ := overX (N := N) (to := to) (by omega) hn hs (l2 := nI fr) (oi := nI (5 + r)) (xo := xo) (xt := xt) (xb := xb) (xr := xr) (xs := xs) (xn := xn) (xw := xw) 12 0 N (8 * fr + 4) (2 ^ (5 + r)) xp0 (by omega) (by omega) (by omega) (by omega) (by omega) (by omega) (by omega)
      have o1' : f_Share_take_b50 N (nI n) 751 vx (nI fr) (nI to) N (nI (2 ^ (5 + r))) 0 (nI (5 + r)) (nI (8 * fr + 4)) xp0 xo xt xb xr xs xn xw = _ := o1
      rw [if_pos (le_lit (b := 6) (by omega) (by decide)), sh1 (by omega), nm_q, o1']
      exact Or.inl ⟨_, _, _, _, _, _, _, _, _, _, _, _, _, _, rfl, rfl⟩
    · rw [if_neg (nle_lit (b := 6) (by omega) (by omega))]
      exact Or.inl ⟨_, _, _, _, _, _, _, _, _, _, _, _, _, _, rfl, rfl⟩
/-! ===== the row in two states, read ===== -/
theorem takeDown_loop {N n m b : Nat} (hn : n ≤ 6000) {vx : Nat → Int64} {vy : Nat → Int32} (hs : Same vx vy n) (hm : m ≤ 16) (hp : b + m ≤ 8 * n) : ∀ (d k z : Nat), m = k + d → d < z →
    f_MM_takeDown_b14 N vy (nI m) z (nI (iv vx n / 2 ^ b % 2 ^ k)) (nI k) (nI b) = some (nI (iv vx n / 2 ^ b % 2 ^ m), nI b) := by
  intro d
  induction d with
  | zero =>
    intro k z h1 h2
    obtain ⟨z, rfl⟩ := z_succ h2
    obtain rfl : k = m := by omega
    rw [f_MM_takeDown_b14, if_pos (nI_le (Nat.le_refl _) (by omega))]
    rfl
  | succ d ih =>
    intro k z h1 h2
    obtain ⟨z, rfl⟩ := z_succ h2
    rw [f_MM_takeDown_b14, if_neg (nI_ge (by omega) (by omega)), nI_add, bitAt_ok hn hs (by omega), bd1_e, nm_q, nm_q, nI_1, bits_or (by omega)]
    exact ih (k + 1) z (by omega) (by omega)
theorem takeDown_ok {N n m e : Nat} (hN : 70 ≤ N) (hn : n ≤ 6000) {vx : Nat → Int64} {vy : Nat → Int32} (hs : Same vx vy n) (hm : m ≤ 16) (he : e ≤ 8 * n) (hme : m ≤ e) :
    f_MM_takeDown N vy (nI m) (nI e) = some (nI (iv vx n / 2 ^ (e - m) % 2 ^ m), nI (e - m)) := by
  unfold f_MM_takeDown
  rw [pk_sub hme, nm_q]
  have h := takeDown_loop (N := N) (b := e - m) hn hs hm (by omega) m 0 N (by omega) (by omega)
  rw [Nat.pow_zero, Nat.mod_one] at h
  exact h
theorem Tail_take_ok {N n : Nat} (hN : 4 ≤ N) {vx : Nat → Int64} (hn : n ≤ 6000) {a left m : Nat} (hm : m ≤ 11) (hml : m ≤ left) (hb : 8 * a + left ≤ 8 * n) :
    f_Tail_take N (nI (8 * a)) (nI n) 751 vx (nI m) (nI left) = some (nI (iv vx n / 2 ^ (8 * a + left - m) % 2 ^ m), nI (left - m)) := by
  unfold f_Tail_take f_Tail_drop
  rw [Tail_look_ok hN hn hm hb, bd1_e, if_pos (nI_le hml (by omega)), nm_q, pk_sub hml, bd2_e]
  unfold cv
  rw [if_pos hml]
theorem rowTop_loop {N n : Nat} (hn : n ≤ 6000) {vx : Nat → Int64} {vy : Nat → Int32} (hs : Same vx vy n) {b : Nat} (hb : 1 ≤ b) (hb2 : b ≤ n) (h0 : wby vx (b - 1) ≠ 0) {oi bi : Int32} {yp yo : Nat → Int32} : ∀ (d z : Nat) (wn : Int32) (yw : Nat → Int32), d ≤ 7 - Nat.log2 (wby vx (b - 1)) → d < z →
    f_MM_takeRow_b40 N oi bi vy yp yo z wn (nI (8 * (b - 1) + Nat.log2 (wby vx (b - 1)) + d)) yw = f_MM_takeRow_b64 N oi bi vy yp yo wn (nI (8 * (b - 1) + Nat.log2 (wby vx (b - 1)))) yw := by
  have hw := wby_lt vx (b - 1)
  have hlog : Nat.log2 (wby vx (b - 1)) < 8 := (Nat.log2_lt h0).mpr hw
  have hbit : ∀ r, r < 8 → iv vx n / 2 ^ (8 * (b - 1) + r) % 2 = wby vx (b - 1) / 2 ^ r % 2 := by
    intro r hr
    rw [← iv_in (n := n) (show b - 1 < n by omega), Nat.pow_add, ← Nat.div_div_eq_div_mul]
    have := mod_div_mod (X := iv vx n / 2 ^ (8 * (b - 1))) (a := 8) (r := r) (m := 1) (by omega)
    exact this.symm
  intro d
  induction d with
  | zero =>
    intro z wn yw h1 h2
    obtain ⟨z, rfl⟩ := z_succ h2
    have hone : wby vx (b - 1) / 2 ^ Nat.log2 (wby vx (b - 1)) = 1 := by
      have a1 := Nat.log2_self_le h0
      have a2 : wby vx (b - 1) < 2 ^ (Nat.log2 (wby vx (b - 1)) + 1) := Nat.lt_log2_self
      rw [Nat.pow_succ] at a2
      rw [Nat.div_eq_iff (Nat.pow_pos (by decide))]
      omega
    rw [f_MM_takeRow_b40, Nat.add_zero, bitAt_ok hn hs (by omega), hbit _ hlog, hone, bd1_e, if_neg (by decide)]
  | succ d ih =>
    intro z wn yw h1 h2
    obtain ⟨z, rfl⟩ := z_succ h2
    have hz : wby vx (b - 1) / 2 ^ (Nat.log2 (wby vx (b - 1)) + (d + 1)) = 0 := by
      apply Nat.div_eq_of_lt
      exact Nat.lt_of_lt_of_le Nat.lt_log2_self (Nat.pow_le_pow_right (by decide) (by omega))
    rw [f_MM_takeRow_b40, bitAt_ok hn hs (by omega), Nat.add_assoc, hbit _ (by omega), hz, bd1_e, if_pos (by decide), nm_q, show 8 * (b - 1) + (Nat.log2 (wby vx (b - 1)) + (d + 1)) = 8 * (b - 1) + Nat.log2 (wby vx (b - 1)) + d + 1 by omega, nI_pred]
    exact ih z wn yw (by omega) (by omega)
/-- the same K weights below B on both sides -/
def SameW (K B : Nat) (xw yw : Nat → Int32) : Prop := ∀ k, k < K → ∃ c, c < B ∧ xw k = nI c ∧ yw k = nI c
theorem SameW_put {K B : Nat} {xw yw : Nat → Int32} (h : SameW K B xw yw) {c : Nat} (hc : c < B) : SameW (K + 1) B (upd xw K (nI c)) (upd yw K (nI c)) := by
  intro k hk
  by_cases e : k = K
  · subst e; exact ⟨c, hc, pk_us, pk_us⟩
  · rw [pk_un e, pk_un e]; exact h k (by omega)
theorem putWeight_ok {N K : Nat} (hK : K < 255) {x : Int32} {yw : Nat → Int32} : f_MM_putWeight N x (nI K) yw = some (1, nI (K + 1), upd yw K x) := by
  unfold f_MM_putWeight
  rw [if_neg (show ¬ nI K = (255 : Int32) from fun q => by have := (nI_eq (b := 255) (by omega) (by decide)).mp q; omega), ck_n (by omega) (by decide), nI_clamp (by omega), nm_q, nm_q, nI_1]
theorem putWeight_no {N : Nat} {x : Int32} {yw : Nat → Int32} : f_MM_putWeight N x (nI 255) yw = some (0, nI 255, yw) := by
  unfold f_MM_putWeight
  rw [if_pos (show nI 255 = (255 : Int32) from rfl)]
/-- what both sides have of a row that was read -/
def RowOk (X : Option (Int32 × Int32 × Int32 × Int32 × (Nat → Int32))) (Y : Option (Int32 × Int32 × Int32 × (Nat → Int32))) : Prop :=
  (∃ a1 a2 a3 a4 b1 b2 b3, X = some (0, a1, a2, a3, a4) ∧ Y = some (0, b1, b2, b3)) ∨ ∃ K a2 a3 b2 xw yw, X = some (1, nI K, a2, a3, xw) ∧ Y = some (1, nI K, b2, yw) ∧ 1 ≤ K ∧ K ≤ 255 ∧ SameW K 12 xw yw
theorem row_loop {N n a o : Nat} (hN : 300 ≤ N) (hn : n ≤ 6000) {vx : Nat → Int64} {vy : Nat → Int32} (hs : Same vx vy n) {u own : Nat → Nat} (hu : ∀ v, v < 12 → u v < 2 ^ 30) (hP : Plc u o own) {yp yo : Nat → Int32} (hyp : Pts u yp) (hyo : ∀ p, p < 2 ^ o → yo p = nI (own p)) {xo xt xb xr xs : Nat → Int32} (hX : LayX u o own xo xt xb xr xs) {ei l2 : Int32} : ∀ (d t z y st ot left : Nat) (xw yw : Nat → Int32), 254 = t + d → d < z → d + 1 < y → st < 2 ^ o → ot < 2 ^ o → 8 * a + left ≤ 8 * n → SameW t 12 xw yw →
    RowOk (f_Reader_takeRow_b75 N ei (nI o) xo xt xb (nI n) 751 vx l2 z (nI st) (nI ot) (nI (t + 1)) (nI (8 * a)) (nI left) xw) (f_MM_takeRow_b104 N (nI o) (nI (8 * a)) vy yp yo y (nI st) (nI ot) (nI t) (nI t) (nI (8 * a + left)) yw) := by
  have hA := oA hP.1
  have hoo := o6 hP.1
  intro d
  induction d with
  | zero =>
    intro t z y st ot left xw yw h1 h2 h3 h4 h5 h6 h7
    obtain ⟨z, rfl⟩ := z_succ h2
    obtain ⟨y, rfl⟩ := z_succ h3
    obtain ⟨y, rfl⟩ : ∃ y', y = y' + 1 := ⟨y - 1, by omega⟩
    obtain rfl : t = 254 := by omega
    have htk := tk_le hP (p := st)
    rw [f_Reader_takeRow_b75, if_pos (show (255 : Int32) ≤ nI (254 + 1) by decide)]
    have hno : ∀ (p q e : Int32) (ww : Nat → Int32), f_MM_takeRow_b104 N (nI o) (nI (8 * a)) vy yp yo (y + 1) p q (nI (254 + 1)) (nI (254 + 1)) e ww = (ck (inb p 64) (some (0, nI 255, e, ww))) := by
      intro p q e ww
      rw [f_MM_takeRow_b104, if_neg (by decide), show nI (254 + 1) = nI 255 from rfl, putWeight_no, bd3_e, if_pos rfl]
      rfl
    have hyr : ∃ b1 b2 b3, f_MM_takeRow_b104 N (nI o) (nI (8 * a)) vy yp yo (y + 1 + 1) (nI st) (nI ot) (nI 254) (nI 254) (nI (8 * a + left)) yw = some (0, b1, b2, b3) := by
      rw [f_MM_takeRow_b104, if_neg (by decide), ck_n (by omega) (by decide), nI_clamp (by omega), putWeight_ok (by decide), bd3_e, if_neg (by decide), bitsOf_ok (by omega) hu hP hyp hyo h4, bd1_e, pk_sub (by omega), show 8 * a + left - 8 * a = left by omega]
      by_cases e : tk u o own st ≤ left
      · rw [if_pos (nI_le e (by omega)), baseOf_ok (by omega) hu hP hyp hyo h4, bd1_e, takeDown_ok (by omega) hn hs (by omega) h6 (by omega), bd2_e, nm_q, nm_q, nI_1, hno, ck_n (by omega) (by decide)]
        exact ⟨_, _, _, rfl⟩
      · rw [if_neg (nI_ge (by omega) (by omega))]
        unfold f_MM_takeRow_b147
        rw [ck_n (by omega) (by decide), show nI (254 + 1) = nI 255 from rfl, putWeight_no, bd3_e, ck_t (show isb 0 = true by decide)]
        exact ⟨_, _, _, rfl⟩
    obtain ⟨b1, b2, b3, hyr⟩ := hyr
    rw [hyr]
    exact Or.inl ⟨_, _, _, _, _, _, _, rfl, rfl⟩
  | succ d ih =>
    intro t z y st ot left xw yw h1 h2 h3 h4 h5 h6 h7
    obtain ⟨z, rfl⟩ := z_succ h2
    obtain ⟨y, rfl⟩ := z_succ h3
    have htk := tk_le hP (p := st)
    have hbs := bs_le hP h4
    have hos := hP.2.2.1 st h4
    have hoo2 := hP.2.2.1 ot h5
    have Kst : ∀ {β : Type} (q : Option β), ck (inb (nI st) 64) q = q := fun q => ck_n (by omega) (by decide)
    rw [f_Reader_takeRow_b75, f_MM_takeRow_b104, if_neg (show ¬ (255 : Int32) ≤ nI (t + 1) from nI_ge (b := 255) (by omega) (by decide)), if_neg (nle256 (by omega))]
    simp only [Kst]
    rw [show nI (t + 1) - (1 : Int32) = nI t from nI_pred t, ck_n (by omega) (by decide), nI_clamp (show st < 2 ^ 31 by omega), nI_clamp (show t < 2 ^ 31 by omega), hX.1 st h4, nm_q, hX.2.1 st h4]
    rw [hyo st h4, putWeight_ok (by omega), bd3_e, if_neg (show ¬ (1 : Int32) = 0 by decide), bitsOf_ok (by omega) hu hP hyp hyo h4, bd1_e, pk_sub (show 8 * a ≤ 8 * a + left by omega), show 8 * a + left - 8 * a = left by omega]
    have hput : SameW (t + 1) 12 (upd xw t (nI (own st))) (upd yw t (nI (own st))) := SameW_put h7 hos
    by_cases e : tk u o own st ≤ left
    · have hv : iv vx n / 2 ^ (8 * a + left - tk u o own st) % 2 ^ tk u o own st < 2 ^ tk u o own st := Nat.mod_lt _ (Nat.pow_pos (by decide))
      rw [if_pos (nI_le e (by omega)), if_pos (nI_le e (by omega)), Tail_take_ok (by omega) hn (by omega) e h6, bd2_e, hX.2.2.1 st h4, baseOf_ok (by omega) hu hP hyp hyo h4, bd1_e, takeDown_ok (by omega) hn hs (by omega) h6 (by omega), bd2_e, nm_q, nm_q, nm_q, nm_q, nI_1, nI_1, nI_add, show 8 * a + left - tk u o own st = 8 * a + (left - tk u o own st) by omega]
      rw [show 8 * a + left - tk u o own st = 8 * a + (left - tk u o own st) by omega] at hv
      exact ih (t + 1) z y ot _ (left - tk u o own st) _ _ (by omega) (by omega) (by omega) h5 (by omega) (by omega) hput
    · rw [if_neg (nI_ge (by omega) (by omega)), if_neg (nI_ge (by omega) (by omega))]
      unfold f_Reader_takeRow_b124 f_MM_takeRow_b147
      rw [ck_n (by omega) (by decide), ck_n (by omega) (by decide), nI_clamp (by omega), nI_clamp (by omega), hX.1 ot h5, nm_q, nm_q, nI_1, ck_n (by omega) (by decide), hyo ot h5, putWeight_ok (by omega), bd3_e, ck_t (show isb 1 = true by decide)]
      exact Or.inr ⟨t + 1 + 1, _, _, _, _, _, rfl, rfl, by omega, by omega, SameW_put hput hoo2⟩
theorem takeRow_ok {N n fr to o : Nat} (hN : 300 ≤ N) (hn : n ≤ 6000) (hto : to ≤ n) (hfr : fr ≤ to) {vx : Nat → Int64} {vy : Nat → Int32} (hs : Same vx vy n) {u own : Nat → Nat} (hu : ∀ v, v < 12 → u v < 2 ^ 30) (hP : Plc u o own) {yp yo : Nat → Int32} (hyp : Pts u yp) (hyo : ∀ p, p < 2 ^ o → yo p = nI (own p)) {xo xt xb xr xs : Nat → Int32} (hX : LayX u o own xo xt xb xr xs) (kn tf tl : Int32) (xw yw : Nat → Int32) :
    RowOk (f_Reader_takeRow N (nI to) (nI o) xo xt xb (nI n) 751 vx (nI fr) kn tf tl xw) (f_MM_takeRow N (nI o) (nI (8 * fr)) vy yp yo (nI 0) (nI (8 * to)) yw) := by
  have hA := oA hP.1
  have hoo := o6 hP.1
  unfold f_Reader_takeRow f_MM_takeRow f_Reader_takeRow_b35 f_MM_takeRow_b28
  by_cases h1 : to ≤ fr
  · rw [Tail_open_no hto hn (Or.inl h1) (by omega), bd3_e, if_pos rfl, if_pos (nI_le (by omega) (by omega))]
    exact Or.inl ⟨_, _, _, _, _, _, _, rfl, rfl⟩
  have e1 : nI (8 * to) / (8 : Int32) - 1 = nI (to - 1) := by
    rw [show nI (8 * to) / (8 : Int32) = nI (8 * to / 8) from pk_div (d := 8) (by omega) (by decide) (by decide), show 8 * to / 8 = to by omega]
    exact pk_sub (b := 1) (by omega)
  have hw := wby_lt vx (to - 1)
  rw [if_neg (nI_ge (by omega) (by omega)), e1, ck_n (by omega) (by decide), nI_clamp (by omega), hs _ (by omega)]
  by_cases h2 : wby vx (to - 1) = 0
  · rw [Tail_open_no hto hn (Or.inr h2) (by omega), bd3_e, if_pos rfl, h2, if_pos (show nI 0 = 0 from rfl)]
    exact Or.inl ⟨_, _, _, _, _, _, _, rfl, rfl⟩
  have hlog : Nat.log2 (wby vx (to - 1)) < 8 := (Nat.log2_lt h2).mpr hw
  have e8 : nI (8 * to) - 1 = nI (8 * (to - 1) + Nat.log2 (wby vx (to - 1)) + (7 - Nat.log2 (wby vx (to - 1)))) := by
    rw [show nI (8 * to) - (1 : Int32) = nI (8 * to - 1) from pk_sub (b := 1) (by omega)]
    congr 1
    omega
  rw [Tail_open_yes (by omega) hto hn (by omega) h2, bd3_e, if_neg (by decide), if_neg (nI_ne0 (by omega) (by omega)), nm_q, e8, rowTop_loop hn hs (by omega) hto h2 _ N (nI 0) yw (Nat.le_refl _) (by omega)]
  unfold f_MM_takeRow_b64
  have e2 : (2 : Int32) * nI o = nI (2 * o) := pk_mul 2 o
  rw [e2, pk_sub (by omega), show 8 * (to - 1) + Nat.log2 (wby vx (to - 1)) - 8 * fr = 8 * (to - 1 - fr) + Nat.log2 (wby vx (to - 1)) by omega]
  by_cases h3 : 2 * o ≤ 8 * (to - 1 - fr) + Nat.log2 (wby vx (to - 1))
  · rw [if_pos (nI_le h3 (by omega)), if_pos (nI_le h3 (by omega)), show 8 * (to - 1) + Nat.log2 (wby vx (to - 1)) = 8 * fr + (8 * (to - 1 - fr) + Nat.log2 (wby vx (to - 1))) by omega]
    generalize hL : 8 * (to - 1 - fr) + Nat.log2 (wby vx (to - 1)) = L at *
    have hLn : 8 * fr + L ≤ 8 * n := by omega
    rw [Tail_take_ok (by omega) hn (by omega) (by omega) hLn, bd2_e, Tail_take_ok (by omega) hn (by omega) (by omega) (by omega), bd2_e, takeDown_ok (by omega) hn hs (by omega) hLn (by omega), bd2_e, takeDown_ok (by omega) hn hs (by omega) (by omega) (by omega), bd2_e, show 8 * fr + L - o - o = 8 * fr + (L - o) - o by omega, show 8 * fr + (L - o) - o = 8 * fr + (L - o - o) by omega]
    exact row_loop (N := N) hN hn hs hu hP hyp hyo hX 254 0 N N _ _ (L - o - o) xw yw (by omega) (by omega) (by omega) (Nat.mod_lt _ (by omega)) (Nat.mod_lt _ (by omega)) (by omega) (fun k hk => absurd hk (by omega))
  · rw [if_neg (nI_ge (by omega) (by omega)), if_neg (nI_ge (by omega) (by omega))]
    exact Or.inl ⟨_, _, _, _, _, _, _, rfl, rfl⟩
