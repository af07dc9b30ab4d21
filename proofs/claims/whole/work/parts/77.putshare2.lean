theorem pI_a1 {u : Nat} : nI u - 1 + 1 = nI u := Int32.sub_add_cancel _ _
theorem mt_none {u : Nat → Nat} {a e : Nat} (h : ∀ x, a ≤ x → x < e → u x = 1) : ∀ d x, e = x + d → a ≤ x → mtt u x = mtt u e := by
  intro d
  induction d with
  | zero => intro x h1 h2; rw [show x = e by omega]
  | succ d ih =>
    intro x h1 h2
    rw [← ih (x + 1) (by omega) (by omega), mt_succ, h x h2 (by omega)]
    rfl
theorem putShare_loop {N o : Nat} (hN : 70 ≤ N) (ho : o = 5 ∨ o = 6) {u : Nat → Nat} (hu : ∀ v, v < 12 → u v < 2 ^ 30) (hsum : mtt u 12 = 2 ^ o) {xp yp : Nat → Int32} (hxp : Pts u xp) (hyp : Pts u yp) : ∀ (n v z y : Nat) (used held many bm : Int32) (w : Nat → Int64) (made : Nat → Int32) (L V : Nat), 12 - v ≤ n → v ≤ 12 → n < z → n < y → B2 used held many w bm made L V → L ≤ 4 + 9 * v →
    ∃ used' held' many' w' bm' made' L' V', f_Share_put_b20 N (nI o) xp (nI 256) 33 z (nI (2 ^ o - mtt u v)) (nI v) used held many w = some (used', held', many', w') ∧ f_MM_putShare_b20 N (nI o) yp y (nI (2 ^ o - mtt u v)) (nI v) bm made = some (bm', made') ∧ B2 used' held' many' w' bm' made' (up8 L') V' ∧ L' ≤ 112 := by
  have hA := oA ho
  intro n
  induction n with
  | zero =>
    intro v z y used held many bm w made L V h1 h2 h3 h4 hB hL
    obtain ⟨z, rfl⟩ := z_succ h3
    obtain ⟨y, rfl⟩ := z_succ h4
    obtain rfl : v = 12 := by omega
    obtain ⟨u1, he1, m1, w1, b1, p1, p2, p3⟩ := pad2 (N := N) hN hB (by omega)
    refine ⟨u1, he1, m1, w1, b1, made, L, V, ?_, ?_, p3, by omega⟩
    · rw [f_Share_put_b20, if_pos (show (12 : Int32) ≤ nI 12 by decide)]
      unfold f_Share_put_b78
      rw [p1, bd4_e]
    · rw [f_MM_putShare_b20, if_pos (le0 (by omega))]
      unfold f_MM_putShare_b191
      rw [p2, bd1_e]
  | succ n ih =>
    intro v z y used held many bm w made L V h1 h2 h3 h4 hB hL
    obtain ⟨z, rfl⟩ := z_succ h3
    obtain ⟨y, rfl⟩ := z_succ h4
    have hmv : mtt u v ≤ 2 ^ o := by rw [← hsum]; exact mt_mono h2
    by_cases h0 : 2 ^ o - mtt u v = 0
    · obtain ⟨u1, he1, m1, w1, b1, p1, p2, p3⟩ := pad2 (N := N) hN hB (by omega)
      refine ⟨u1, he1, m1, w1, b1, made, L, V, ?_, ?_, p3, by omega⟩
      · rw [f_Share_put_b20]
        unfold f_Share_put_b78
        by_cases e12 : v = 12
        · rw [if_pos (show (12 : Int32) ≤ nI v by rw [e12]; decide), p1, bd4_e]
        · rw [if_neg (show ¬ (12 : Int32) ≤ nI v from nI_ge (b := 12) (by omega) (by decide)), if_pos (le0 h0), p1, bd4_e]
      · rw [f_MM_putShare_b20, if_pos (le0 h0)]
        unfold f_MM_putShare_b191
        rw [p2, bd1_e]
    · have hv : v < 12 := by
        rcases Nat.lt_or_ge v 12 with q | q
        · exact q
        · rw [show v = 12 by omega] at h0; omega
      have huv := hu v hv
      have hmv1 : mtt u (v + 1) ≤ 2 ^ o := by rw [← hsum]; exact mt_mono hv
      rw [mt_succ] at hmv1
      have hul : u v ≤ 2 ^ o - mtt u v + 1 := by
        unfold ms at hmv1
        by_cases e : u v = 0
        · omega
        · rw [if_neg e] at hmv1; omega
      have emt : 2 ^ o - mtt u v - ms (u v) = 2 ^ o - mtt u (v + 1) := by rw [mt_succ]; omega
      obtain ⟨u1, he1, m1, w1, b1, ma1, L1, V1, x, nn, p1, p2, p3, p4, p5⟩ := points_put (N := N) hN (yp := yp) (v0 := v) (show 1 ≤ 2 ^ o - mtt u v by omega) (by omega) hul (oi := nI o) (l1 := nI (2 ^ o - mtt u v)) (k20 := f_MM_putShare_b20 N (nI o) yp y) hB (by omega)
      have hY : f_MM_putShare_b20 N (nI o) yp (y + 1) (nI (2 ^ o - mtt u v)) (nI v) bm made = f_MM_putShare_b93 N (nI o) yp (f_MM_putShare_b20 N (nI o) yp y) (nI (2 ^ o - mtt u v)) (nI v) (nI (u v)) nn x bm made := by
        rw [f_MM_putShare_b20, if_neg (nle0 (by omega) (by omega)), nI_clamp (by omega), hyp v hv, pI_a1]
        simp only [ck_n hv (show 12 < 2 ^ 31 by decide), nm_q]
        exact p5
      have hX : ∀ R, (f_Share_put_b20 N (nI o) xp (nI 256) 33 (z + 1) (nI (2 ^ o - mtt u v)) (nI v) used held many w = R ↔ (if nI (u v) - 1 = 0 then bd5 (f_Share_putNone N xp (nI 256) 33 (nI (v + 1)) u1 he1 m1 w1) fun r a b c d => f_Share_put_b20 N (nI o) xp (nI 256) 33 z (nI (2 ^ o - mtt u (v + 1))) r a b c d else f_Share_put_b20 N (nI o) xp (nI 256) 33 z (nI (2 ^ o - mtt u (v + 1))) (nI (v + 1)) u1 he1 m1 w1) = R) := by
        intro R
        rw [f_Share_put_b20, if_neg (show ¬ (12 : Int32) ≤ nI v from nI_ge (b := 12) (by omega) (by decide)), if_neg (nle0 (by omega) (by omega)), ck_n hv (by decide), nI_clamp (by omega), hxp v hv, pI_a1, p1, bd4_e, massOf_ok hxp hv huv, bd1_e, nm_q, pk_sub (by omega), emt, ck_n hv (by decide), nI_1]
        rfl
      have hY2 : f_MM_putShare_b93 N (nI o) yp (f_MM_putShare_b20 N (nI o) yp y) (nI (2 ^ o - mtt u v)) (nI v) (nI (u v)) nn x bm made = if nI (u v) = 1 then f_MM_putShare_b117 N (nI o) yp (f_MM_putShare_b20 N (nI o) yp y) N (nI (2 ^ o - mtt u (v + 1))) (nI v) 0 b1 ma1 else f_MM_putShare_b181 N (nI o) yp (f_MM_putShare_b20 N (nI o) yp y) (nI (2 ^ o - mtt u (v + 1))) (nI v) 0 b1 ma1 := by
        unfold f_MM_putShare_b93
        rw [p2, bd2_e, ck_n hv (by decide), nI_clamp (by omega), hyp v hv, mass_ok huv, bd1_e, nm_q, pk_sub (by omega), emt]
      by_cases e1 : u v = 1
      · obtain ⟨e, a1, a2, a3, a4⟩ := none_end u (v + 1) (by omega)
        have hxe := noneX_end (N := N) hu hxp a2 a3 a4 (r := nI 256) (n := nI (v + 1)) (nw := 33) (used := u1) (held := he1) (many := m1) (v := w1) (e - (v + 1)) (v + 1) N (by omega) (by omega) (Nat.le_refl _)
        have hye := noneY_end (N := N) hu hyp (v0 := v) a2 a3 a4 (oi := nI o) (l1 := nI (2 ^ o - mtt u (v + 1))) (bm := b1) (made := ma1) (k20 := f_MM_putShare_b20 N (nI o) yp y) (e - (v + 1)) 0 N (by omega) (by omega)
        obtain ⟨u2, he2, m2, w2, b2, ma2, V2, q1, q2, q3⟩ := none_put (N := N) hN (xp := xp) (yp := yp) (a := v + 1) (e := e) (v0 := v) a1 a2 (oi := nI o) (l1 := nI (2 ^ o - mtt u (v + 1))) (k20 := f_MM_putShare_b20 N (nI o) yp y) ((e - (v + 1)) / 3) 0 N N u1 he1 m1 b1 w1 ma1 L1 V1 (by omega) (by omega) (by omega) p3 (by omega)
        have eme : mtt u (v + 1) = mtt u e := mt_none a3 (e - (v + 1)) (v + 1) (by omega) (Nat.le_refl _)
        obtain ⟨u3, he3, m3, w3, b3, ma3, L3, V3, r1, r2, r3, r4⟩ := ih e z y u2 he2 m2 b2 w2 ma2 _ _ (by omega) a2 (by omega) (by omega) q3 (by omega)
        refine ⟨u3, he3, m3, w3, b3, ma3, L3, V3, ?_, ?_, r3, r4⟩
        · rw [hX, if_pos ((pI_eq0 huv).mpr e1)]
          unfold f_Share_putNone
          rw [hxe]
          unfold f_Share_putNone_b23
          have q1' : f_Share_putNone_b26 N xp (nI 256) 33 (nI (v + 1)) N (nI e) (nI (v + 1)) u1 he1 m1 w1 = _ := q1
          rw [q1', bd5_e, eme]
          exact r1
        · rw [hY, hY2, if_pos (by rw [e1]; rfl)]
          have hye' : f_MM_putShare_b117 N (nI o) yp (f_MM_putShare_b20 N (nI o) yp y) N (nI (2 ^ o - mtt u (v + 1))) (nI v) 0 b1 ma1 = _ := hye
          rw [hye']
          unfold f_MM_putShare_b148
          have q2' : f_MM_putShare_b151 N (nI o) yp (f_MM_putShare_b20 N (nI o) yp y) N (nI (2 ^ o - mtt u (v + 1))) (nI v) (nI (e - (v + 1))) 0 b1 ma1 = _ := q2
          rw [q2']
          unfold f_MM_putShare_b181
          rw [show (1 : Int32) + nI (e - (v + 1)) = nI (1 + (e - (v + 1))) from nI_add 1 _, nI_add, nm_q, show v + (1 + (e - (v + 1))) = e by omega, eme]
          exact r2
      · obtain ⟨u3, he3, m3, w3, b3, ma3, L3, V3, r1, r2, r3, r4⟩ := ih (v + 1) z y u1 he1 m1 b1 w1 ma1 _ _ (by omega) (by omega) (by omega) (by omega) p3 (by omega)
        refine ⟨u3, he3, m3, w3, b3, ma3, L3, V3, ?_, ?_, r3, r4⟩
        · rw [hX, if_neg (fun q => e1 ((pI_eq0 huv).mp q))]
          exact r1
        · rw [hY, hY2, if_neg (show ¬ nI (u v) = (1 : Int32) from fun q => e1 ((nI_eq (b := 1) (by omega) (by decide)).mp q))]
          unfold f_MM_putShare_b181
          rw [show (1 : Int32) + 0 = 1 by decide, nI_1, nm_q]
          exact r2
theorem putShare_ok {N o : Nat} (hN : 70 ≤ N) (ho : o = 5 ∨ o = 6) {u : Nat → Nat} (hu : ∀ v, v < 12 → u v < 2 ^ 30) (hsum : mtt u 12 = 2 ^ o) {xp yp : Nat → Int32} (hxp : Pts u xp) (hyp : Pts u yp) {used held many bm : Int32} {w : Nat → Int64} {made : Nat → Int32} {V : Nat} (hB : B2 used held many w bm made 0 V) :
    ∃ used' held' many' w' bm' made' L' V', f_Share_put N (nI o) xp (nI 256) 33 used held many w = some (used', held', many', w') ∧ f_MM_putShare N (nI o) yp bm made = some (bm', made') ∧ B2 used' held' many' w' bm' made' (up8 L') V' ∧ L' ≤ 112 := by
  have hA := oA ho
  obtain ⟨u1, he1, m1, w1, b1, ma1, V1, p1, p2, p3⟩ := put2 (N := N) hN hB (x := o - 5) (n := 4) (by decide) (by show _ < 16; omega) (by omega)
  obtain ⟨u3, he3, m3, w3, b3, ma3, L3, V3, r1, r2, r3, r4⟩ := putShare_loop (N := N) hN ho hu hsum hxp hyp 12 0 N N u1 he1 m1 b1 w1 ma1 _ _ (by omega) (by omega) (by omega) (by omega) p3 (by omega)
  have e5 : nI o - (5 : Int32) = nI (o - 5) := pk_sub (b := 5) (by omega)
  refine ⟨u3, he3, m3, w3, b3, ma3, L3, V3, ?_, ?_, r3, r4⟩
  · unfold f_Share_put
    rw [e5, show (4 : Int32) = nI 4 from rfl, p1, bd4_e, sh1 (by omega), nm_q]
    exact r1
  · unfold f_MM_putShare
    rw [e5, show (4 : Int32) = nI 4 from rfl, p2, bd2_e, sh1 (by omega), nm_q]
    exact r2
/-! ===== the row in two states, written ===== -/
theorem putRow_loop {N o K : Nat} (hN : 300 ≤ N) (hK : K ≤ 255) {u own : Nat → Nat} (hu : ∀ v, v < 12 → u v < 2 ^ 30) (hP : Plc u o own) {xp yp yo : Nat → Int32} (hxp : Pts u xp) (hyp : Pts u yp) (hyo : ∀ p, p < 2 ^ o → yo p = nI (own p)) {xo xt xb xr xs : Nat → Int32} (hX : LayX u o own xo xt xb xr xs) {w : Nat → Nat} (hw : ∀ k, k < K → w k < 12 ∧ 0 < ms (u (w k))) {x1 yw : Nat → Int32} (hx1 : ∀ k, k < K → x1 k = nI (w k)) (hyw : ∀ k, k < K → yw k = nI (w k)) {x3 xc xq xn xw : Nat → Int32} {l2 : Int32} {n3 : Nat} : ∀ (d z y : Nat) (st ot : Nat) (used held many bm : Int32) (v : Nat → Int64) (made : Nat → Int32) (L V : Nat), d ≤ K → d < z → d < y → st < 2 ^ o → ot < 2 ^ o → B2 used held many v bm made L V → L + 6 * d ≤ 1900 →
    ∃ used' held' many' v' bm' made' L' V', f_Draft_compose_b64 N (nI o) (nI 256) 33 256 x1 n3 x3 l2 z (nI st) (nI ot) (nI d - 1) used held many v (nI o) xp xc xq xo xt xb xr xs xn xw = some (used', held', many', v', nI o, xp, xc, xq, xo, xt, xb, xr, xs, xn, xw) ∧ f_MM_putRow_b39 N (nI K) (nI o) yw yp yo y (nI st) (nI ot) (nI d - 1) bm made = some (bm', made') ∧ B2 used' held' many' v' bm' made' (up8 L') V' ∧ L' ≤ 1913 := by
  have hA := oA hP.1
  have hoo := o6 hP.1
  intro d
  induction d with
  | zero =>
    intro z y st ot used held many bm v made L V h1 h2 h3 h4 h5 hB hL
    obtain ⟨z, rfl⟩ := z_succ h2
    obtain ⟨y, rfl⟩ := z_succ h3
    obtain ⟨u1, he1, m1, v1, b1, ma1, V1, p1, p2, p3⟩ := put2 (N := N) (by omega) hB (x := st) (n := o) (by omega) h4 (by omega)
    obtain ⟨u2, he2, m2, v2, b2, ma2, V2, q1, q2, q3⟩ := put2 (N := N) (by omega) p3 (x := ot) (n := o) (by omega) h5 (by omega)
    obtain ⟨u3, he3, m3, v3, b3, b4, ma3, V3, r1, r2, r3, r4⟩ := finish2 (N := N) (by omega) q3 (by omega)
    refine ⟨u3, he3, m3, v3, b4, ma3, _, V3, ?_, ?_, r4, by omega⟩
    · rw [f_Draft_compose_b64, if_pos (show nI 0 - 1 < (0 : Int32) by decide)]
      unfold f_Draft_compose_b128
      rw [p1, bd4_e, q1, bd4_e, r1, bd4_e]
    · rw [f_MM_putRow_b39, if_pos (show nI 0 - 1 < (0 : Int32) by decide)]
      unfold f_MM_putRow_b85
      rw [p2, bd2_e, q2, bd2_e, r2, bd2_e, r3, bd1_e]
  | succ d ih =>
    intro z y st ot used held many bm v made L V h1 h2 h3 h4 h5 hB hL
    obtain ⟨z, rfl⟩ := z_succ h2
    obtain ⟨y, rfl⟩ := z_succ h3
    have hwd := hw d (by omega)
    have hwd1 := hwd.1
    obtain ⟨p, a1, a2, a3, a4, a5⟩ := before_ok (N := N) (by omega) hu hP hxp hyp hyo hX hwd.1 hwd.2 h4
    have htk := tk_le hP (p := p)
    have hbs := bs_le hP a1
    obtain ⟨u1, he1, m1, v1, b1, ma1, V1, p1, p2, p3⟩ := put2 (N := N) (by omega) hB (x := st - bs u o own p) (n := tk u o own p) (by omega) (by omega) (by omega)
    obtain ⟨u2, he2, m2, v2, b2, ma2, L2, V2, q1, q2, q3⟩ := ih z y ot p u1 he1 m1 b1 v1 ma1 _ _ (by omega) (by omega) (by omega) h5 a1 p3 (by omega)
    have ed : nI (d + 1) - 1 = nI d := nI_pred d
    refine ⟨u2, he2, m2, v2, b2, ma2, L2, V2, ?_, ?_, q3⟩
    · rw [f_Draft_compose_b64, ed, if_neg (nI_pos (by omega)), ck_n (by omega) (by decide), nI_clamp (by omega), hx1 d (by omega), a2, bd1_e, ck_n (by omega) (by decide), ck_n (by omega) (by decide), nI_clamp (by omega), hX.2.2.1 p a1, hX.2.1 p a1, pk_sub a4, p1, bd4_e, nm_q, i_m1]
      exact q1
    · rw [f_MM_putRow_b39, ed, if_neg (nI_pos (by omega)), ck_n (by omega) (by decide), nI_clamp (by omega), hyw d (by omega), a3, bd1_e, baseOf_ok (by omega) hu hP hyp hyo a1, bd1_e, bitsOf_ok (by omega) hu hP hyp hyo a1, bd1_e, pk_sub a4, p2, bd2_e, nm_q, i_m1]
      exact q2
