/-! ===== decode ===== -/
theorem bits16 {vx : Nat → Int64} {n k : Nat} (h : k + 1 < n) : iv vx n / 2 ^ (8 * k) % 2 ^ 16 = wby vx k + 256 * wby vx (k + 1) := by
  have h1 := iv_in (vx := vx) (n := n) (k := k) (by omega)
  have h2 := iv_in (vx := vx) (n := n) (k := k + 1) h
  rw [show 8 * (k + 1) = 8 * k + 8 by omega, Nat.pow_add, ← Nat.div_div_eq_div_mul] at h2
  generalize iv vx n / 2 ^ (8 * k) = X at *
  omega
/-- the bytes that the k-th number says -/
def bk (vx : Nat → Int64) (p k : Nat) : Nat := wby vx (p + 2 * k) + 256 * wby vx (p + 2 * k + 1)
theorem bk_lt {vx : Nat → Int64} {p k : Nat} : bk vx p k < 65536 := by
  unfold bk
  have := wby_lt vx (p + 2 * k)
  have := wby_lt vx (p + 2 * k + 1)
  omega
theorem bk_y {n p k : Nat} (hn : n ≤ 6000) (hk : k < 3) (hp : p + 6 ≤ n) {vx : Nat → Int64} {vy : Nat → Int32} (hs : Same vx vy n) :
    vy (Int32.toNatClampNeg (nI p + 2 * nI k)) + 256 * vy (Int32.toNatClampNeg (nI p + 2 * nI k + 1)) = nI (bk vx p k) := by
  have := wby_lt vx (p + 2 * k)
  have := wby_lt vx (p + 2 * k + 1)
  rw [show (2 : Int32) * nI k = nI (2 * k) from pk_mul 2 k, nI_add, nI_1, nI_clamp (by omega), nI_clamp (by omega), hs _ (by omega), hs _ (by omega), show (256 : Int32) * nI (wby vx (p + 2 * k + 1)) = nI (256 * wby vx (p + 2 * k + 1)) from pk_mul 256 _, nI_add]
  rfl
theorem bk_ck {α : Type} {n p k : Nat} (hn : n ≤ 6000) (hk : k < 3) (hp : p + 6 ≤ n) {o : Option α} : (ck (inb (nI p + 2 * nI k) 6000) (ck (inb (nI p + 2 * nI k + 1) 6000) o)) = o := by
  rw [show (2 : Int32) * nI k = nI (2 * k) from pk_mul 2 k, nI_add, nI_1, ck_n (by omega) (by decide), ck_n (by omega) (by decide)]
theorem four_end {N n p : Nat} (hn : n ≤ 6000) (hp : p + 6 ≤ n) {vx : Nat → Int64} {vy : Nat → Int32} (hs : Same vx vy n) {g m c : Int32} {yl ys : Nat → Int32} {z e k : Nat} (hk : k < 3) {l3 : Int32} {made : Nat → Int32} :
    f_MM_takeFour_b31 N (nI n) (nI p) g vy yl ys m c (z + 1) l3 (nI e) (nI k) made = f_MM_takeFour_b31 N (nI n) (nI p) g vy yl ys m c z l3 (nI (e + bk vx p k)) (nI (k + 1)) made := by
  rw [f_MM_takeFour_b31, if_neg (show ¬ (3 : Int32) ≤ nI k from nI_ge (b := 3) (by omega) (by decide)), bk_ck hn hk hp, bk_y hn hk hp hs, nm_q, nm_q, nI_add, nI_1]
theorem four_take {N n p : Nat} (hn : n ≤ 6000) (hp : p + 6 ≤ n) {vx : Nat → Int64} {vy : Nat → Int32} (hs : Same vx vy n) {g m : Int32} {yl ys : Nat → Int32} {z f k c : Nat} (hk : k < 3) {made : Nat → Int32} :
    f_MM_takeFour_b98 N (nI n) (nI p) g vy yl ys m (nI c) (z + 1) (nI f) (nI k) made = bd2 (f_MM_takeStream N g vy yl ys (nI f) (nI (f + bk vx p k)) (nI c) (nI (k * c)) made) fun r made' => if r = 0 then f_MM_takeFour_b98 N (nI n) (nI p) g vy yl ys m (nI c) z (nI (f + bk vx p k)) (nI (k + 1)) made' else some (r, made') := by
  rw [f_MM_takeFour_b98, if_neg (show ¬ (3 : Int32) ≤ nI k from nI_ge (b := 3) (by omega) (by decide)), bk_ck hn hk hp, bk_y hn hk hp hs, nm_q, pk_mul, nI_add, nI_1]
  rfl
theorem takeFour_start {N n p : Nat} (hN : 6001 ≤ N) (hn : n ≤ 6000) (hp : p + 6 ≤ n) {vx : Nat → Int64} {vy : Nat → Int32} (hs : Same vx vy n) {g m c : Int32} {yl ys made : Nat → Int32} :
    f_MM_takeFour N (nI n) (nI p) g vy yl ys m c made = if nI (p + 6 + bk vx p 0 + bk vx p 1 + bk vx p 2) ≤ nI n then f_MM_takeFour_b98 N (nI n) (nI p) g vy yl ys m c N (nI (p + 6)) (nI 0) made else some (-2, made) := by
  obtain ⟨z, hz⟩ : ∃ z, N = z + 4 := ⟨N - 4, by omega⟩
  unfold f_MM_takeFour
  rw [pk_sub (by omega), if_pos (show (6 : Int32) ≤ nI (n - p) from nI_le (a := 6) (by omega) (by omega)), nm_q, show nI p + (6 : Int32) = nI (p + 6) from nI_add p 6]
  have e : f_MM_takeFour_b31 N (nI n) (nI p) g vy yl ys m c N (nI (p + 6)) (nI (p + 6)) 0 made = f_MM_takeFour_b31 N (nI n) (nI p) g vy yl ys m c (z + 3 + 1) (nI (p + 6)) (nI (p + 6)) (nI 0) made := by
    conv => lhs; rw [hz]
    conv => rhs; rw [hz]
    rfl
  rw [e, four_end hn hp hs (by decide), four_end hn hp hs (by decide), four_end hn hp hs (by decide), f_MM_takeFour_b31, if_pos (show (3 : Int32) ≤ nI (0 + 1 + 1 + 1) by decide)]
  rfl
theorem decode_copy {N m : Nat} (hm : m ≤ 6000) {a g gg : Int32} {vy yl ys made : Nat → Int32} {l2 o : Int32} : ∀ (d i z : Nat) (v : Nat → Int32), m = i + d → d < z → (∀ k, k < i → v k = made k) →
    ∃ v', f_MM_decode_b79 N a g gg vy yl ys (nI m) l2 z (nI i) o v made = some (nI m, nI m, v', made) ∧ ∀ k, k < m → v' k = made k := by
  intro d
  induction d with
  | zero =>
    intro i z v h1 h2 h3
    obtain ⟨z, rfl⟩ := z_succ h2
    obtain rfl : i = m := by omega
    refine ⟨v, ?_, h3⟩
    rw [f_MM_decode_b79, if_pos (nI_le (by omega) (by omega))]
    rfl
  | succ d ih =>
    intro i z v h1 h2 h3
    obtain ⟨z, rfl⟩ := z_succ h2
    rw [f_MM_decode_b79, if_neg (nI_ge (by omega) (by omega)), ck_n (by omega) (by decide), ck_n (by omega) (by decide), nm_q, nm_q, nI_clamp (by omega), nI_1]
    exact ih (i + 1) z _ (by omega) (by omega) (fun k hk => by
      by_cases e : k = i
      · subst e; exact pk_us
      · rw [pk_un e]; exact h3 k (by omega))
/-- both sides' four streams -/
theorem takeFour_ok {N n p T m : Nat} (hN : 6001 ≤ N) (hn : n ≤ 6000) (hp : p ≤ n) {vx : Nat → Int64} {vy : Nat → Int32} (hs : Same vx vy n) {len : Nat → Nat} (hG : Good T len) {xl xc yl ys : Nat → Int32} (hxl : ∀ s, s < 256 → xl s = nI (len s)) (hxt : Tab T len xc) (hyl : ∀ s, s < 256 → yl s = nI (len s)) (hyt : Tab T len ys) (hm : m ≤ 6000) (h3 : 3 * ((m + 3) / 4) ≤ m) {v : Nat → Int64} {made : Nat → Int32} (su fi le : Int32) :
    ∃ r u' v' fi' le' made', f_Streams_decodeFour N (nI 6000) 751 (nI T) xl xc (nI n) 751 vx (nI p) (nI m) su v fi le = some (r, u', v', fi', le') ∧ f_MM_takeFour N (nI n) (nI p) (nI T) vy yl ys (nI m) (nI ((m + 3) / 4)) made = some (r, made') ∧ (r = 0 → u' = nI m ∧ Same v' made' m) := by
  have eX : f_Streams_decodeFour N (nI 6000) 751 (nI T) xl xc (nI n) 751 vx (nI p) (nI m) su v fi le = if nI (p + 6) ≤ nI n then
      (if nI (p + 6 + bk vx p 0 + bk vx p 1 + bk vx p 2) ≤ nI n then
        bd5 (f_Streams_takeStream N (nI 6000) 751 (nI T) xl xc (nI n) 751 vx (nI (p + 6)) (nI (p + 6 + bk vx p 0)) (nI ((m + 3) / 4)) 0 v fi le) fun r1 u1 v1 f1 l1 =>
        if r1 = 0 then
          bd5 (f_Streams_takeStream N (nI 6000) 751 (nI T) xl xc (nI n) 751 vx (nI (p + 6 + bk vx p 0)) (nI (p + 6 + bk vx p 0 + bk vx p 1)) (nI ((m + 3) / 4)) u1 v1 f1 l1) fun r2 u2 v2 f2 l2 =>
          f_Streams_decodeFour_b128 N (nI 6000) 751 (nI T) xl xc (nI n) 751 vx (nI p) (nI m) (nI (p + 6 + bk vx p 0 + bk vx p 1)) (nI (p + 6 + bk vx p 0 + bk vx p 1 + bk vx p 2)) (nI ((m + 3) / 4)) r2 u2 v2 f2 l2
        else f_Streams_decodeFour_b128 N (nI 6000) 751 (nI T) xl xc (nI n) 751 vx (nI p) (nI m) (nI (p + 6 + bk vx p 0 + bk vx p 1)) (nI (p + 6 + bk vx p 0 + bk vx p 1 + bk vx p 2)) (nI ((m + 3) / 4)) r1 u1 v1 f1 l1
      else some (-2, su, v, fi, le)) else some (-2, su, v, fi, le) := by
    unfold f_Streams_decodeFour
    rw [nm_q, show nI p + (6 : Int32) = nI (p + 6) from nI_add p 6]
    by_cases h6 : p + 6 ≤ n
    · rw [if_pos (nI_le h6 (by omega)), if_pos (nI_le h6 (by omega))]
      have b0 := bk_lt (vx := vx) (p := p) (k := 0)
      have b1 := bk_lt (vx := vx) (p := p) (k := 1)
      have b2 := bk_lt (vx := vx) (p := p) (k := 2)
      rw [nI_8mul, show (16 : Int32) = nI 16 from rfl, Row_bits_ok (by omega) (by omega) (by decide) (by omega) (by decide), bits16 (by omega), bd1_e, nm_q]
      rw [nI_add (8 * p) 16, Row_bits_ok (by omega) (by omega) (by decide) (by omega) (by decide), show 8 * p + 16 = 8 * (p + 2) by omega, bits16 (by omega), bd1_e, nm_q]
      rw [show nI (8 * p) + (32 : Int32) = nI (8 * (p + 4)) from by rw [show 8 * (p + 4) = 8 * p + 32 by omega]; exact nI_add (8 * p) 32, Row_bits_ok (by omega) (by omega) (by decide) (by omega) (by decide), bits16 (by omega), bd1_e, nm_q]
      rw [nI_add, nI_add, nI_add, quarter_n hm]
      unfold f_Row_empty
      rw [bd1_e, bd1_e]
      rfl
    · rw [if_neg (nI_ge (by omega) (by omega)), if_neg (nI_ge (by omega) (by omega))]
  rw [eX]
  by_cases h6 : p + 6 ≤ n
  case neg =>
    rw [if_neg (nI_ge (by omega) (by omega))]
    unfold f_MM_takeFour
    rw [pk_sub hp, if_neg (show ¬ (6 : Int32) ≤ nI (n - p) from nI_ge (b := 6) (by omega) (by decide))]
    exact ⟨-2, _, v, _, _, made, rfl, rfl, fun q => absurd q (by decide)⟩
  rw [if_pos (nI_le h6 (by omega)), takeFour_start hN hn h6 hs]
  have b0 := bk_lt (vx := vx) (p := p) (k := 0)
  have b1 := bk_lt (vx := vx) (p := p) (k := 1)
  have b2 := bk_lt (vx := vx) (p := p) (k := 2)
  generalize hB0 : bk vx p 0 = B0 at *
  generalize hB1 : bk vx p 1 = B1 at *
  generalize hB2 : bk vx p 2 = B2 at *
  generalize hc : (m + 3) / 4 = c at *
  by_cases h7 : p + 6 + B0 + B1 + B2 ≤ n
  case neg =>
    rw [if_neg (nI_ge (by omega) (by omega)), if_neg (nI_ge (by omega) (by omega))]
    exact ⟨-2, _, v, _, _, made, rfl, rfl, fun q => absurd q (by decide)⟩
  rw [if_pos (nI_le h7 (by omega)), if_pos (nI_le h7 (by omega))]
  obtain ⟨z, hz⟩ : ∃ z, N = z + 4 := ⟨N - 4, by omega⟩
  have e98 : f_MM_takeFour_b98 N (nI n) (nI p) (nI T) vy yl ys (nI m) (nI c) N (nI (p + 6)) (nI 0) made = f_MM_takeFour_b98 N (nI n) (nI p) (nI T) vy yl ys (nI m) (nI c) (z + 3 + 1) (nI (p + 6)) (nI 0) made := by
    conv => lhs; rw [hz]
    conv => rhs; rw [hz]
  rw [e98, four_take hn h6 hs (by decide), hB0, Nat.zero_mul]
  obtain ⟨r1, u1, v1, f1, l1, made1, p1, q1, s1⟩ := takeStream_ok (N := N) (m := c) (into := 0) hN hn hs hG hxl hxt hyl hyt (a := p + 6) (b := p + 6 + B0) (by omega) (by omega) (by omega) (v := v) (made := made) (fun k hk => absurd hk (by omega)) fi le
  rw [show nI 0 = (0 : Int32) from rfl] at p1
  rw [p1, bd5_e, q1, bd2_e]
  by_cases hr1 : r1 = 0
  case neg =>
    rw [if_neg hr1, if_neg hr1]
    unfold f_Streams_decodeFour_b128 f_Streams_decodeFour_b147 f_Streams_decodeFour_b173
    rw [if_neg hr1, if_neg hr1]
    exact ⟨r1, _, v1, _, _, made1, rfl, rfl, fun q => absurd q hr1⟩
  obtain ⟨hu1, s1⟩ := s1 hr1
  rw [Nat.zero_add] at hu1 s1
  rw [if_pos hr1, if_pos hr1, four_take hn h6 hs (by decide), hB1, show (0 + 1) * c = c by omega, hu1]
  obtain ⟨r2, u2, v2, f2, l2, made2, p2, q2, s2⟩ := takeStream_ok (N := N) (m := c) (into := c) hN hn hs hG hxl hxt hyl hyt (a := p + 6 + B0) (b := p + 6 + B0 + B1) (by omega) (by omega) (by omega) s1 f1 l1
  rw [p2, bd5_e, q2, bd2_e]
  unfold f_Streams_decodeFour_b128
  by_cases hr2 : r2 = 0
  case neg =>
    rw [if_neg hr2, if_neg hr2]
    unfold f_Streams_decodeFour_b147 f_Streams_decodeFour_b173
    rw [if_neg hr2]
    exact ⟨r2, _, v2, _, _, made2, rfl, rfl, fun q => absurd q hr2⟩
  obtain ⟨hu2, s2⟩ := s2 hr2
  rw [if_pos hr2, if_pos hr2, four_take hn h6 hs (by decide), hB2, show (0 + 1 + 1) * c = c + c by omega, hu2]
  obtain ⟨r3, u3, v3, f3, l3, made3, p3, q3, s3⟩ := takeStream_ok (N := N) (m := c) (into := c + c) hN hn hs hG hxl hxt hyl hyt (a := p + 6 + B0 + B1) (b := p + 6 + B0 + B1 + B2) (by omega) (by omega) (by omega) s2 f2 l2
  rw [p3, bd5_e, q3, bd2_e]
  unfold f_Streams_decodeFour_b147
  by_cases hr3 : r3 = 0
  case neg =>
    rw [if_neg hr3, if_neg hr3]
    unfold f_Streams_decodeFour_b173
    exact ⟨r3, _, v3, _, _, made3, rfl, rfl, fun q => absurd q hr3⟩
  obtain ⟨hu3, s3⟩ := s3 hr3
  have e3 : (3 : Int32) * nI c = nI (3 * c) := pk_mul 3 c
  rw [if_pos hr3, if_pos hr3, f_MM_takeFour_b98, if_pos (show (3 : Int32) ≤ nI (0 + 1 + 1 + 1) by decide)]
  unfold f_MM_takeFour_b176
  rw [e3, pk_sub h3, hu3, show c + c + c = 3 * c by omega]
  rw [show c + c + c = 3 * c by omega] at s3
  obtain ⟨r4, u4, v4, f4, l4, made4, p4, q4, s4⟩ := takeStream_ok (N := N) (m := m - 3 * c) (into := 3 * c) hN hn hs hG hxl hxt hyl hyt (a := p + 6 + B0 + B1 + B2) (b := n) (by omega) (by omega) (by omega) s3 f3 l3
  rw [p4, bd5_e, q4, bd2_e]
  unfold f_Streams_decodeFour_b173
  refine ⟨r4, _, v4, _, _, made4, rfl, rfl, fun q => ?_⟩
  have := s4 q
  rw [show 3 * c + (m - 3 * c) = m by omega] at this
  exact this
theorem sim_decode {N n p : Nat} (hN : 6001 ≤ N) (hn : n ≤ 6000) (hp : p ≤ n) {vx : Nat → Int64} {vy : Nat → Int32} (hs : Same vx vy n) {T : Nat} {len : Nat → Nat} {gx kn hi gy : Int32} {xl xv xc yl ys : Nat → Int32} (hX : CodX T len gx kn hi xl xv xc) (hY : CodY T len gy yl ys) {no : Nat} (hno : no ≤ 6000) {ox : Nat → Int64} {oy made : Nat → Int32} (ho : Same ox oy no) {sv : Nat → Int64} {su tf tl : Int32} (w f : Int32) :
    ∃ r no' ox' oy' su' sv' tf' tl' made', f_PM_decode N (nI p) (nI n) 751 vx (nI 6000) 751 gx xl xc (nI 6000) 751 w f (nI no) ox su sv tf tl = some (r, nI no', ox', su', sv', tf', tl') ∧ f_MM_decode N (nI n) (nI p) gy vy yl ys w f (nI no) oy made = some (r, nI no', oy', made') ∧ no' ≤ 6000 ∧ Same ox' oy' no' := by
  obtain ⟨rfl, hX⟩ := hX
  obtain ⟨rfl, hY⟩ := hY
  unfold f_PM_decode f_MM_decode f_PM_decode_b32 f_MM_decode_b18
  rcases hX with h0 | ⟨hG, hkn, -, hxl, hxt, -⟩
  · subst h0
    rw [areThere_n (by decide), if_pos (show nI 0 = 0 from rfl)]
    exact ⟨-1, no, ox, oy, su, sv, tf, tl, made, rfl, rfl, hno, ho⟩
  have hT0 : T ≠ 0 := by have := hG.1; omega
  have hT1 := hG.2.1
  rcases hY with h0 | ⟨-, hyl, hyt⟩
  · exact absurd h0 hT0
  rw [areThere_n (by omega), if_neg hT0, if_neg (nI_ne0 (by omega) (by omega)), bd1_e, if_neg (by decide)]
  by_cases h1 : w < 0
  · rw [if_pos h1, if_pos h1]
    exact ⟨-1, no, ox, oy, su, sv, tf, tl, made, rfl, rfl, hno, ho⟩
  obtain ⟨m, hm0, rfl⟩ := nonneg_nI h1
  rw [if_neg h1, if_neg h1]
  by_cases h2 : m ≤ 6000
  case neg =>
    rw [if_pos (show (6000 : Int32) < nI m from nI_lt (a := 6000) (by omega) hm0), if_neg (nle_lit (b := 6000) (by omega) hm0)]
    exact ⟨-1, no, ox, oy, su, sv, tf, tl, made, rfl, rfl, hno, ho⟩
  rw [if_neg (show ¬ (6000 : Int32) < nI m from nI_nlt (a := 6000) h2 (by decide)), if_pos (le_lit (b := 6000) h2 (by decide)), nm_q]
  have e1 : (nI m + 3) / (4 : Int32) = nI ((m + 3) / 4) := by
    rw [show nI m + (3 : Int32) = nI (m + 3) from nI_add _ 3]
    exact pk_div (d := 4) (by omega) (by decide) (by decide)
  have e2 : (3 : Int32) * nI ((m + 3) / 4) = nI (3 * ((m + 3) / 4)) := pk_mul 3 _
  rw [e1, e2]
  have fin : ∀ (r u' : Int32) (v' : Nat → Int64) (fi' le' : Int32) (made' : Nat → Int32), (r = 0 → u' = nI m ∧ Same v' made' m) →
      ∃ r' no' ox' oy' su' sv' tf' tl' made'', f_PM_decode_b81 N (nI p) (nI n) 751 vx (nI 6000) 751 (nI T) xl xc (nI 6000) 751 (nI m) f r (nI no) ox u' v' fi' le' = some (r', nI no', ox', su', sv', tf', tl') ∧ f_MM_decode_b66 N (nI n) (nI p) (nI T) vy yl ys (nI m) f r (nI no) oy made' = some (r', nI no', oy', made'') ∧ no' ≤ 6000 ∧ Same ox' oy' no' := by
    intro r u' v' fi' le' made' hr
    unfold f_PM_decode_b81 f_MM_decode_b66
    by_cases h : r = 0
    · obtain ⟨hu, hsm⟩ := hr h
      obtain ⟨v2, c1, c2⟩ := Row_copy_ok (N := N) h2 (ox := v') (v := ox) (u := nI no)
      obtain ⟨oy2, d1, d2⟩ := decode_copy (N := N) h2 (a := nI n) (g := nI p) (gg := nI T) (vy := vy) (yl := yl) (ys := ys) (made := made') (l2 := f) (o := nI no) m 0 N oy (by omega) (by omega) (fun k hk => absurd hk (by omega))
      rw [if_pos h, if_pos h, hu, c1, bd2_e]
      refine ⟨nI m, m, v2, oy2, _, _, _, _, _, rfl, d1, h2, fun k hk => ?_⟩
      rw [d2 k hk, c2 k (by omega)]
      exact hsm k hk
    · rw [if_neg h, if_neg h]
      exact ⟨r, no, ox, oy, _, _, _, _, _, rfl, rfl, hno, ho⟩
  by_cases h3 : f = 0
  · rw [if_pos h3, if_pos h3]
    unfold f_PM_decode_b34 f_MM_decode_b39
    rw [if_pos h3, if_pos h3]
    obtain ⟨r1, u1, v1, f1, l1, made1, p1, q1, s1⟩ := takeStream_ok (N := N) (m := m) (into := 0) hN hn hs hG hxl hxt hyl hyt (a := p) (b := n) hp (Nat.le_refl _) (by omega) (v := sv) (made := made) (fun k hk => absurd hk (by omega)) tf tl
    rw [Nat.zero_add] at s1
    rw [show nI 0 = (0 : Int32) from rfl] at p1 q1
    unfold f_Streams_decodeOne f_Row_empty
    rw [bd1_e, p1, bd5_e, q1, bd2_e, bd5_e]
    exact fin r1 u1 v1 f1 l1 made1 s1
  · rw [if_neg h3, if_neg h3, areFour_n h2, bd1_e]
    by_cases h4 : 3 * ((m + 3) / 4) ≤ m
    · rw [if_pos h4, if_neg (by decide), if_pos (nI_le h4 (by omega))]
      unfold f_PM_decode_b34 f_MM_decode_b39
      rw [if_neg h3, if_neg h3]
      obtain ⟨r1, u1, v1, f1, l1, made1, p1, q1, s1⟩ := takeFour_ok (N := N) hN hn hp hs hG hxl hxt hyl hyt h2 h4 (v := sv) (made := made) su tf tl
      rw [p1, bd5_e, q1, bd2_e]
      exact fin r1 u1 v1 f1 l1 made1 s1
    · rw [if_neg h4, if_pos rfl, if_neg (nI_ge (by omega) (by omega))]
      exact ⟨-1, no, ox, oy, su, sv, tf, tl, made, rfl, rfl, hno, ho⟩
