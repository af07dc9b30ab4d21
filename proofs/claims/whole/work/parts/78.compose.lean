/-! ===== a description by states, both ways to write it ===== -/
theorem sm_two {f : Nat → Nat} {a b n : Nat} (hab : a ≠ b) (ha : a < n) (hb : b < n) : f a + f b ≤ sm f n := by
  rcases Nat.lt_or_ge a b with h | h
  · have h1 := sm_term (f := f) h
    have h2 := sm_term (f := f) hb
    omega
  · have h1 := sm_term (f := f) (show b < a by omega)
    have h2 := sm_term (f := f) ha
    omega
theorem other_count {c : Nat → Nat} {v n : Nat} (hv : v < n) (h : c v < sm c n) : ∃ x, x < n ∧ x ≠ v ∧ c x ≠ 0 := by
  by_cases hx : ∃ x, x < n ∧ x ≠ v ∧ c x ≠ 0
  · exact hx
  · exfalso
    have e : sm c n = sm (fun i => if i = v then c v else 0) n := sm_congr (fun i hi => by
      by_cases q : i = v
      · rw [if_pos q, q]
      · rw [if_neg q]
        by_cases q2 : c i = 0
        · exact q2
        · exact absurd ⟨i, hi, q, q2⟩ hx)
    rw [e, sm_one, if_pos hv] at h
    omega
/-- weights of which no one is all -/
def Mix (K : Nat) (w : Nat → Nat) : Prop := 2 ≤ K ∧ K ≤ 255 ∧ (∀ k, k < K → w k < 12) ∧ Cts K (fun v => cc w v K) ∧ ∀ v, v < 12 → cc w v K < K
theorem cc_pos {w : Nat → Nat} {k K : Nat} (h : k < K) : cc w (w k) K ≠ 0 := by
  have : cc w (w k) (k + 1) ≤ cc w (w k) K := cc_mono h
  rw [cc_succ, if_pos rfl] at this
  omega
theorem ms_pos {u : Nat} (h : u ≠ 1) : 0 < ms u := by unfold ms; split <;> omega
theorem mix_ms {K o : Nat} {w u own : Nat → Nat} (hM : Mix K w) (hk : Keep (fun v => cc w v K) u) (hP : Plc u o own) {k : Nat} (h : k < K) : 0 < ms (u (w k)) ∧ ms (u (w k)) < 2 ^ o := by
  have hw := hM.2.2.1 k h
  have h1 : 0 < ms (u (w k)) := ms_pos ((hk _ hw).2 (cc_pos h))
  refine ⟨h1, ?_⟩
  obtain ⟨x, x1, x2, x3⟩ := other_count (c := fun v => cc w v K) hw (by rw [hM.2.2.2.1.2.2]; exact hM.2.2.2.2 _ hw)
  have h2 : 0 < ms (u x) := ms_pos ((hk _ x1).2 x3)
  have h3 := sm_two (f := fun v => ms (u v)) x2 x1 hw
  have h4 : sm (fun v => ms (u v)) 12 = 2 ^ o := hP.2.1
  omega
theorem compose_ok {N o K : Nat} (hN : 6001 ≤ N) (ho : o = 5 ∨ o = 6) {w : Nat → Nat} (hM : Mix K w) {x1 x3 yw : Nat → Int32} (hx1 : ∀ k, k < K → x1 k = nI (w k)) (hyw : ∀ k, k < K → yw k = nI (w k)) (hx3 : ∀ v, v < 12 → x3 v = nI (cc w v K)) (used : Int32) (v : Nat → Int64) (so yi bm : Int32) (xp xc xq xo xt xb xr xs xn xw yp yc yh yo made : Nat → Int32) :
    ∃ n v' xp' xc' xq' xo' xt' xb' xr' xs' xn' xw' yp' yc' yh' yo' made', f_Draft_compose N (nI o) (nI 256) 33 256 x1 12 x3 (nI K) used 0 0 v so xp xc xq xo xt xb xr xs xn xw = some (nI n, 0, 0, v', nI o, xp', xc', xq', xo', xt', xb', xr', xs', xn', xw') ∧ f_MM_putStates N (nI K) yw (nI o) bm yi made yp yc yh yo = some (nI (n + 1), nI (8 * (n + 1)), nI o, made', yp', yc', yh', yo') ∧ n ≤ 255 ∧ made' 0 = nI n ∧ ∀ k, k < n → made' (k + 1) = nI (wby v' k) := by
  have hA := oA ho
  obtain ⟨hK2, hK5, hw12, hC, hmix⟩ := hM
  have hM : Mix K w := ⟨hK2, hK5, hw12, hC, hmix⟩
  obtain ⟨u, own, xp', xc', xq', xo', xt', xb', xr', xs', xn', xw', yp', yc', yh', yo', a1, a2, a3, a4, a5, a6, a7, a8⟩ := byCounts_ok (N := N) (by omega) ho (fun k hk => by have := hw12 k hk; omega) hyw hC hx3 so yi xp xc xq xo xt xb xr xs xn xw yp yc yh yo
  have hu : ∀ v, v < 12 → u v < 2 ^ 30 := fun v hv => by have := (a3 v hv).1; omega
  obtain ⟨ma1, g1, g2⟩ := MM_begin_ok (N := N) hN bm made
  obtain ⟨ma2, g3, g4⟩ := MM_put_ok (N := N) (x := 0) (n := 8) (by omega) (by decide) (by decide) (by omega) g2
  have hB0 : B2 0 0 0 v (nI (0 + 8)) ma2 0 0 := ⟨BX_start v, g4⟩
  obtain ⟨u1, he1, m1, v1, b1, ma3, L1, V1, p1, p2, p3, p4⟩ := putShare_ok (N := N) (by omega) ho hu a6.2.1 a4 a5 hB0
  have hw' : ∀ k, k < K → w k < 12 ∧ 0 < ms (u (w k)) := fun k hk => ⟨hw12 k hk, (mix_ms hM a3 a6 hk).1⟩
  obtain ⟨q1, q1l, q1x, q1y⟩ := lowest_ok (N := N) (by omega) hu a6 a5 a8 a7 (hw12 (K - 1) (by omega)) (mix_ms hM a3 a6 (show K - 1 < K by omega)).1 (mix_ms hM a3 a6 (show K - 1 < K by omega)).2
  obtain ⟨q2, q2l, q2x, q2y⟩ := lowest_ok (N := N) (by omega) hu a6 a5 a8 a7 (hw12 (K - 2) (by omega)) (mix_ms hM a3 a6 (show K - 2 < K by omega)).1 (mix_ms hM a3 a6 (show K - 2 < K by omega)).2
  obtain ⟨u2, he2, m2, v2, b2, ma4, L2, V2, r1, r2, r3, r4⟩ := putRow_loop (N := N) (K := K) (by omega) hK5 hu a6 a4 a5 a8 a7 hw' hx1 hyw (x3 := x3) (xc := xc') (xq := xq') (xn := xn') (xw := xw') (l2 := nI K) (n3 := 12) (K - 2) N N q1 q2 u1 he1 m1 b1 v1 ma3 _ _ (by omega) (by omega) (by omega) q1l q2l p3 (by unfold up8; omega)
  have e3 : nI (K - 2) - 1 = nI K - 3 := by
    rw [show nI (K - 2) = nI K - 2 from (pk_sub (b := 2) hK2).symm, Int32.sub_sub]
    rfl
  rw [e3] at r1 r2
  have hend := BX_end r3.1
  have hbm := r3.2.1
  obtain ⟨n, hn⟩ : ∃ n, up8 L2 / 8 = n := ⟨_, rfl⟩
  have hn8 : up8 L2 = 8 * n := by unfold up8 at hn ⊢; omega
  have hn255 : n ≤ 255 := by unfold up8 at hn; omega
  have en : nI (8 * n + 8) / (8 : Int32) = nI (n + 1) := by
    rw [show (8 : Int32) = nI 8 from rfl, pk_div (by omega) (by decide) (by decide), show (8 * n + 8) / 8 = n + 1 by omega]
  refine ⟨n, v2, xp', xc', xq', xo', xt', xb', xr', xs', xn', xw', yp', yc', yh', yo', upd ma4 0 (nI n), ?_, ?_, hn255, pk_us, ?_⟩
  · unfold f_Draft_compose f_Row_empty
    rw [bd1_e, a1]
    show bd4 _ _ = _
    rw [p1, bd4_e, show nI K - (1 : Int32) = nI (K - 1) from pk_sub (b := 1) (by omega), ck_n (by omega) (by decide), nI_clamp (by omega), hx1 _ (by omega), q1x, bd1_e, show nI K - (2 : Int32) = nI (K - 2) from pk_sub (b := 2) (by omega), ck_n (by omega) (by decide), nI_clamp (by omega), hx1 _ (by omega), q2x, bd1_e, nm_q, r1, hend.1, hend.2.1, hend.2.2, hn]
  · have hrow : f_MM_putRow N (nI K) (nI o) yw yp' yo' b1 ma3 = some (b2, ma4) := by
      unfold f_MM_putRow
      rw [show nI K - (1 : Int32) = nI (K - 1) from pk_sub (b := 1) (by omega), ck_n (by omega) (by decide), nI_clamp (by omega), hyw _ (by omega), q1y, bd1_e, show nI K - (2 : Int32) = nI (K - 2) from pk_sub (b := 2) (by omega), ck_n (by omega) (by decide), nI_clamp (by omega), hyw _ (by omega), q2y, bd1_e, nm_q, r2]
    have g3' : f_MM_put N 0 8 0 ma1 = some (nI (0 + 8), ma2) := g3
    unfold f_MM_putStates
    rw [g1, bd2_e, g3', bd2_e, a2, bd5_e, p2, bd2_e, hrow, bd2_e, hbm, hn8, en, ck_t (show inb 0 6000 = true by decide), nI_pred, nm_q]
    rfl
  · intro k hk
    rw [pk_un (by omega), r3.2.2.2 (k + 1) (by omega), r3.1.2.2.2.2 k (by omega)]
    congr 1
    rw [show 8 * (k + 1) = 8 + 8 * k by omega, Nat.pow_add, ← Nat.div_div_eq_div_mul, Nat.mul_div_cancel _ (Nat.pow_pos (by decide))]
/-- the class's way from a draft into OUT -/
theorem states_loop {N a : Nat} (ha : a ≤ 255) {fv : Nat → Int64} : ∀ (d i z : Nat) (ox : Nat → Int64), a = i + d → d < z → (wby ox 0 = a) → (∀ k, k < i → wby ox (k + 1) = wby fv k) →
    ∃ ox', f_Writer_putStates_b10 N (nI 6000) 751 (nI a) 33 fv z (nI i) (nI (1 + i)) ox = some (nI (1 + a), ox') ∧ (wby ox' 0 = a) ∧ ∀ k, k < a → wby ox' (k + 1) = wby fv k := by
  intro d
  induction d with
  | zero =>
    intro i z ox h1 h2 h3 h4
    obtain ⟨z, rfl⟩ := z_succ h2
    obtain rfl : i = a := by omega
    refine ⟨ox, ?_, h3, h4⟩
    rw [f_Writer_putStates_b10, if_pos (nI_le (Nat.le_refl _) (by omega))]
  | succ d ih =>
    intro i z ox h1 h2 h3 h4
    obtain ⟨z, rfl⟩ := z_succ h2
    obtain ⟨ox1, p1, p2, p3⟩ := Row_add_ok (N := N) (n_words := 751) (room := 6000) (n := 1 + i) (x := wby fv i) (v := ox) (by omega) (by decide) (by decide) (wby_lt _ _)
    obtain ⟨ox2, q1, q2, q3⟩ := ih (i + 1) z ox1 (by omega) (by omega) (by rw [p3 0 (by omega)]; exact h3) (fun k hk => by
      by_cases e : k = i
      · rw [e, show i + 1 = 1 + i by omega]; exact p2
      · rw [p3 (k + 1) (by omega)]; exact h4 k (by omega))
    refine ⟨ox2, ?_, q2, q3⟩
    rw [f_Writer_putStates_b10, if_neg (nI_ge (by omega) (by omega)), Row_get_in (by omega) (by omega) (by decide), bd1_e, p1, bd2_e, nm_q, nI_1, show 1 + i + 1 = 1 + (i + 1) by omega]
    exact q1
theorem statesX_ok {N a : Nat} (hN : 300 ≤ N) (ha : a ≤ 255) {fv : Nat → Int64} (ox : Nat → Int64) : ∃ ox', f_Writer_putStates N (nI 6000) 751 (nI a) 33 fv 0 ox = some (nI (1 + a), ox') ∧ (wby ox' 0 = a) ∧ ∀ k, k < a → wby ox' (k + 1) = wby fv k := by
  obtain ⟨ox1, p1, p2, p3⟩ := Row_add_ok (N := N) (n_words := 751) (room := 6000) (n := 0) (x := a) (v := ox) (by omega) (by decide) (by decide) (by omega)
  obtain ⟨ox2, q1, q2, q3⟩ := states_loop (N := N) ha (fv := fv) a 0 N ox1 (by omega) (by omega) p2 (fun k hk => absurd hk (by omega))
  refine ⟨ox2, ?_, q2, q3⟩
  unfold f_Writer_putStates
  have p1' : f_Row_add N (nI 6000) 751 (nI a) 0 ox = _ := p1
  rw [p1', bd2_e]
  exact q1
/-- the direct way, both sides -/
theorem direct_loop {N K : Nat} (hN : 300 ≤ N) (hK : K ≤ 128) {w : Nat → Nat} (hw : ∀ k, k < K → w k < 16) {x1 yw : Nat → Int32} (hx1 : ∀ k, k < K → x1 k = nI (w k)) (hyw : ∀ k, k < K → yw k = nI (w k)) : ∀ (d j z y : Nat) (ox : Nat → Int64) (made : Nat → Int32) (V : Nat), (K + 1) / 2 = j + d → d < z → d < y → PX ox (1 + j) V → BY (nI (8 * (1 + j))) made (8 * (1 + j)) V →
    ∃ ox' made' V', f_Writer_putDirect_b10 N x1 (nI 6000) 751 (nI K) z (nI (2 * j)) (nI (1 + j)) ox = some (nI (1 + (K + 1) / 2), ox') ∧ f_MM_putDirect_b19 N (nI K) yw y (nI (2 * j)) (nI (8 * (1 + j))) made = some (nI (8 * (1 + (K + 1) / 2)), made') ∧ PX ox' (1 + (K + 1) / 2) V' ∧ BY (nI (8 * (1 + (K + 1) / 2))) made' (8 * (1 + (K + 1) / 2)) V' := by
  intro d
  induction d with
  | zero =>
    intro j z y ox made V h1 h2 h3 hP hB
    obtain ⟨z, rfl⟩ := z_succ h2
    obtain ⟨y, rfl⟩ := z_succ h3
    obtain rfl : j = (K + 1) / 2 := by omega
    refine ⟨ox, made, V, ?_, ?_, hP, hB⟩
    · rw [f_Writer_putDirect_b10, if_pos (nI_le (by omega) (by omega))]
    · rw [f_MM_putDirect_b19, if_pos (nI_le (by omega) (by omega))]
  | succ d ih =>
    intro j z y ox made V h1 h2 h3 hP hB
    obtain ⟨z, rfl⟩ := z_succ h2
    obtain ⟨y, rfl⟩ := z_succ h3
    have hj : 2 * j < K := by omega
    have hwj := hw (2 * j) hj
    have e2 : nI (2 * j) + (2 : Int32) = nI (2 * (j + 1)) := by rw [show 2 * (j + 1) = 2 * j + 2 by omega]; exact nI_add _ 2
    have core : ∀ s, s < 16 → ∃ ox' made' V', f_Writer_putDirect_b34 N x1 (nI 6000) 751 (nI K) (f_Writer_putDirect_b10 N x1 (nI 6000) 751 (nI K) z) (nI (2 * j)) (nI s) (nI (1 + j)) ox = some (nI (1 + (K + 1) / 2), ox') ∧ f_MM_putDirect_b50 N (nI K) yw (f_MM_putDirect_b19 N (nI K) yw y) (nI (2 * j)) (nI s) (nI (8 * (1 + j))) made = some (nI (8 * (1 + (K + 1) / 2)), made') ∧ PX ox' (1 + (K + 1) / 2) V' ∧ BY (nI (8 * (1 + (K + 1) / 2))) made' (8 * (1 + (K + 1) / 2)) V' := by
      intro s hs
      obtain ⟨ox1, p1, p2, p3⟩ := Row_add_ok (N := N) (n_words := 751) (room := 6000) (n := 1 + j) (x := s + w (2 * j) * 16) (v := ox) (by omega) (by decide) (by decide) (by omega)
      obtain ⟨ma1, q1, q2⟩ := MM_put_ok (N := N) (x := s) (n := 4) (by omega) (by decide) hs (by omega) hB
      obtain ⟨ma2, r1, r2⟩ := MM_put_ok (N := N) (x := w (2 * j)) (n := 4) (by omega) (by decide) hwj (by omega) q2
      have eV : V + s * 2 ^ (8 * (1 + j)) + w (2 * j) * 2 ^ (8 * (1 + j) + 4) = V + (s + w (2 * j) * 16) * 2 ^ (8 * (1 + j)) := by
        rw [Nat.pow_add, Nat.add_mul]
        generalize 2 ^ (8 * (1 + j)) = P
        rw [show (2 : Nat) ^ 4 = 16 from rfl, Nat.mul_assoc, Nat.mul_comm 16 P]
        omega
      rw [eV, show 8 * (1 + j) + 4 + 4 = 8 * (1 + (j + 1)) by omega] at r2
      rw [show 8 * (1 + j) + 4 + 4 = 8 * (1 + (j + 1)) by omega] at r1
      have hP1 : PX ox1 (1 + (j + 1)) (V + (s + w (2 * j) * 16) * 2 ^ (8 * (1 + j))) := by
        intro k hk
        by_cases e : k = 1 + j
        · rw [e, p2, div_add_pow (Nat.le_refl _), Nat.sub_self, Nat.div_eq_of_lt hB.2.1]
          omega
        · rw [p3 k e, hP k (by omega), div_add_pow (show 8 * k ≤ 8 * (1 + j) by omega), show 8 * (1 + j) - 8 * k = 8 + (8 * (1 + j) - 8 * k - 8) by omega, Nat.pow_add, Nat.mul_left_comm, show (2 : Nat) ^ 8 = 256 from rfl, Nat.add_mul_mod_self_left]
      obtain ⟨ox2, ma3, V3, t1, t2, t3, t4⟩ := ih (j + 1) z y ox1 ma2 _ (by omega) (by omega) (by omega) hP1 r2
      refine ⟨ox2, ma3, V3, ?_, ?_, t3, t4⟩
      · have e4 : nI (w (2 * j)) <<< ((4 : Int32) &&& 31) = nI (w (2 * j) * 2 ^ 4) := pk_shlN _ 4 (by decide) (by omega)
        unfold f_Writer_putDirect_b34
        rw [ck_n (by omega) (by decide), nI_clamp (by omega), hx1 _ hj, e4, nI_or (by omega) (by omega), Nat.or_comm, or_add (k := 4) hs, show w (2 * j) * 2 ^ 4 = w (2 * j) * 16 from rfl, p1, bd2_e, nm_q, e2, show 1 + j + 1 = 1 + (j + 1) by omega]
        exact t1
      · unfold f_MM_putDirect_b50
        rw [show (4 : Int32) = nI 4 from rfl, q1, bd2_e, ck_n (by omega) (by decide), nI_clamp (by omega), hyw _ hj, r1, bd2_e, nm_q, e2]
        exact t2
    rw [f_Writer_putDirect_b10, f_MM_putDirect_b19, if_neg (nI_ge hj (by omega)), if_neg (nI_ge hj (by omega)), nI_1]
    by_cases e : K ≤ 2 * j + 1
    · rw [if_pos (nI_le e (by omega)), if_pos (nI_le e (by omega))]
      exact core 0 (by decide)
    · rw [if_neg (nI_ge (by omega) (by omega)), if_neg (nI_ge (by omega) (by omega)), ck_n (by omega) (by decide), ck_n (by omega) (by decide), nI_clamp (by omega), hx1 _ (by omega), hyw _ (by omega)]
      exact core _ (hw _ (by omega))
theorem direct_ok {N K : Nat} (hN : 6001 ≤ N) (hK : K ≤ 128) {w : Nat → Nat} (hw : ∀ k, k < K → w k < 16) {x1 yw : Nat → Int32} (hx1 : ∀ k, k < K → x1 k = nI (w k)) (hyw : ∀ k, k < K → yw k = nI (w k)) (ox : Nat → Int64) (made : Nat → Int32) (bm : Int32) :
    ∃ ox' made', f_Writer_putDirect N x1 (nI 6000) 751 (nI K) 0 ox = some (nI (1 + (K + 1) / 2), ox') ∧ f_MM_putDirect N (nI K) yw bm made = some (nI (8 * (1 + (K + 1) / 2)), made') ∧ ∀ k, k < 1 + (K + 1) / 2 → made' k = nI (wby ox' k) := by
  obtain ⟨ox1, p1, p2, p3⟩ := Row_add_ok (N := N) (n_words := 751) (room := 6000) (n := 0) (x := 127 + K) (v := ox) (by omega) (by decide) (by decide) (by omega)
  obtain ⟨ma1, g1, g2⟩ := MM_begin_ok (N := N) hN bm made
  obtain ⟨ma2, q1, q2⟩ := MM_put_ok (N := N) (x := 127 + K) (n := 8) (by omega) (by decide) (by show _ < 256; omega) (by omega) g2
  rw [Nat.zero_add, Nat.pow_zero, Nat.mul_one, Nat.zero_add] at q2
  have hP : PX ox1 (1 + 0) (127 + K) := by
    intro k hk
    rw [show k = 0 by omega, p2, Nat.mul_zero, Nat.pow_zero, Nat.div_one]
    omega
  obtain ⟨ox2, ma3, V3, t1, t2, t3, t4⟩ := direct_loop (N := N) (by omega) hK hw hx1 hyw ((K + 1) / 2) 0 N N ox1 ma2 (127 + K) (by omega) (by omega) (by omega) hP q2
  refine ⟨ox2, ma3, ?_, ?_, fun k hk => ?_⟩
  · unfold f_Writer_putDirect
    have p1' : f_Row_add N (nI 6000) 751 (nI (127 + K)) 0 ox = _ := p1
    rw [show (127 : Int32) + nI K = nI (127 + K) from nI_add 127 K, p1', bd2_e]
    exact t1
  · unfold f_MM_putDirect
    have q1' : f_MM_put N (nI (127 + K)) 8 0 ma1 = _ := q1
    rw [g1, bd2_e, show (127 : Int32) + nI K = nI (127 + K) from nI_add 127 K, q1', bd2_e]
    exact t2
  · rw [t3 k hk, t4.2.2 k (by omega)]
