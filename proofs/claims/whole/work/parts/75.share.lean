/-! ===== a share by counts ===== -/
theorem pI_inc {u : Nat} (h : 1 ≤ u) : nI u - 1 + 1 = nI (u + 1) - 1 := by
  rw [pI_p h, nI_1, pI_p (by omega)]
  congr 1
  omega
theorem Qu_congr {E F : Nat → Prop} {ct : Nat → Nat} {m n : Nat} {Q : Nat → Nat} (h : Qu E ct m n Q) (hE : ∀ v, v < m → (E v ↔ F v)) : Qu F ct m n Q :=
  ⟨h.1, fun j hj => ⟨(h.2.1 j hj).1, (hE _ (h.2.1 j hj).1).mp (h.2.1 j hj).2⟩, h.2.2.1, fun w hw hF => h.2.2.2 w hw ((hE w hw).mpr hF)⟩
theorem neg_not_le {a b : Nat} (h : a < b) (hb : b < 2 ^ 30) : nI a - nI b ≤ 0 := by
  rw [Int32.le_iff_toInt_le, pk_sub_toInt (by omega) hb]
  have e : (0 : Int32).toInt = 0 := rfl
  omega
theorem give_step {N o : Nat} (hN : 70 ≤ N) (ho : o = 5 ∨ o = 6) {ct : Nat → Nat} (hct : ∀ v, v < 12 → ct v < 2 ^ 30) {yc yw yo : Nat → Int32} (hyc : ∀ v, v < 12 → yc v = nI (ct v)) {K l1 : Int32} {n : Nat} {Q : Nat → Nat} {y : Nat} {u : Nat → Nat} (hu : ∀ v, v < 12 → u v < 2 ^ 30) {yp yh : Nat → Int32} (hyp : Pts u yp) {h : Nat} (hh : h ≤ n) (hn : 1 ≤ n) (hQ : Qu (fun v => 2 ≤ u v) ct 12 n Q) (hH : Had Q h yh) (hlack : mtt u 12 < 2 ^ o) {i : Nat} (hi : h % n = i % n) :
    ∃ yh', f_MM_shareByCounts_b75 N K yw l1 (y + 1) (nI o) yp yc yh yo = f_MM_shareByCounts_b75 N K yw l1 y (nI o) (upd yp (Q (i % n)) (nI (u (Q (i % n)) + 1) - 1)) yc yh' yo ∧ Had Q (i % n + 1) yh' := by
  have hA := oA ho
  have hoo := o6 ho
  have him : i % n < n := Nat.mod_lt _ (by omega)
  have core : ∀ yh1, Had Q (i % n) yh1 → ∃ yh', f_MM_shareByCounts_b94 N K yw l1 (f_MM_shareByCounts_b75 N K yw l1 y) (nI o) yp yc yh1 yo = f_MM_shareByCounts_b75 N K yw l1 y (nI o) (upd yp (Q (i % n)) (nI (u (Q (i % n)) + 1) - 1)) yc yh' yo ∧ Had Q (i % n + 1) yh' := by
    intro yh1 hH1
    have hq := hQ.2.1 _ him
    have hq1 : 2 ≤ u (Q (i % n)) := hq.2
    have hq0 := hq.1
    refine ⟨upd yh1 (Q (i % n)) 1, ?_, ?_⟩
    · unfold f_MM_shareByCounts_b94
      rw [next_some hN hu hyp hct hyc hQ hH1 him, bd1_e, ck_n hq.1 (by decide), ck_n hq.1 (by decide), nI_clamp (by omega), hyp _ hq.1, pI_inc (by omega), nm_q, ck_n hq.1 (by decide), vn1, nm_q]
    · intro v hv
      by_cases e : v = Q (i % n)
      · subst e
        refine ⟨fun _ => pk_us, fun q => absurd ⟨i % n, by omega, rfl⟩ q⟩
      · rw [pk_un e]
        refine ⟨fun ⟨j, j1, j2⟩ => (hH1 v hv).1 ⟨j, ?_, j2⟩, fun q => (hH1 v hv).2 (fun ⟨j, j1, j2⟩ => q ⟨j, by omega, j2⟩)⟩
        have : j ≠ i % n := fun a => e (by rw [← j2, a])
        omega
  have hlk : ¬ nI (2 ^ o) - nI (mtt u 12) ≤ 0 := by
    rw [pk_sub (by omega)]
    exact nle0 (by omega) (by omega)
  by_cases e : h = n
  · subst e
    rw [Nat.mod_self] at hi
    obtain ⟨yh1, q1, q2⟩ := newRound_ok (N := N) hN Q yh
    rw [← hi] at core ⊢
    obtain ⟨yh', r1, r2⟩ := core yh1 q2
    refine ⟨yh', ?_, r2⟩
    rw [f_MM_shareByCounts_b75, lackY hN hoo hu hyp, bd1_e, if_neg hlk, next_none hN hu hyp hct hyc hQ hH, bd1_e, if_pos rfl, q1, bd1_e]
    exact r1
  · have e1 : h = i % n := by rw [← hi, Nat.mod_eq_of_lt (by omega)]
    rw [e1] at hH
    obtain ⟨yh', r1, r2⟩ := core yh hH
    refine ⟨yh', ?_, r2⟩
    have hq := (hQ.2.1 _ him).1
    have hne : ¬ nI (Q (i % n)) = (-1 : Int32) := fun q => by
      have q2 := congrArg Int32.toInt q
      rw [nI_toInt (by omega)] at q2
      have e : (-1 : Int32).toInt = -1 := rfl
      omega
    rw [f_MM_shareByCounts_b75, lackY hN hoo hu hyp, bd1_e, if_neg hlk, next_some hN hu hyp hct hyc hQ hH him, bd1_e, if_neg hne]
    exact r1
theorem give_loop {N o : Nat} (hN : 70 ≤ N) (ho : o = 5 ∨ o = 6) {c ct : Nat → Nat} (hct : ∀ v, v < 12 → ct v < 2 ^ 30) {xc yc yw yo qa : Nat → Int32} (hyc : ∀ v, v < 12 → yc v = nI (ct v)) {K l1 : Int32} {n M : Nat} {Q : Nat → Nat} (hn : 1 ≤ n) (hqa : ∀ j, j < n → qa j = nI (Q j)) (hM : M ≤ 64) : ∀ (d i z y h : Nat) (u : Nat → Nat) (xp yp yh : Nat → Int32), M = i + d → d < z → d < y → Keep c u → (∀ v, v < 12 → u v ≤ 100000 + i) → Pts u xp → Pts u yp → Qu (fun v => 2 ≤ u v) ct 12 n Q → h ≤ n → h % n = i % n → Had Q h yh → mtt u 12 + d = 2 ^ o →
    ∃ u' xp' yp' yh', f_Share_give_b7 N xc (nI M) z (nI n) (nI i) xp qa = some (xp', qa) ∧ f_MM_shareByCounts_b75 N K yw l1 y (nI o) yp yc yh yo = f_MM_shareByCounts_b119 N K yw l1 N (nI o) yp' yc yh' yo ∧ Keep c u' ∧ Pts u' xp' ∧ Pts u' yp' ∧ mtt u' 12 = 2 ^ o := by
  have hA := oA ho
  have hoo := o6 ho
  intro d
  induction d with
  | zero =>
    intro i z y h u xp yp yh h1 h2 h2' hk hb hxp hyp hQ hh hi hH hmt
    obtain ⟨z, rfl⟩ := z_succ h2
    obtain ⟨y, rfl⟩ := z_succ h2'
    have hu : ∀ v, v < 12 → u v < 2 ^ 30 := fun v hv => by have := hb v hv; omega
    refine ⟨u, xp, yp, yh, ?_, ?_, hk, hxp, hyp, by omega⟩
    · rw [f_Share_give_b7, if_pos (nI_le (by omega) (by omega))]
    · rw [f_MM_shareByCounts_b75, lackY hN hoo hu hyp, bd1_e, if_pos (by rw [pk_sub (by omega)]; exact le0 (by omega))]
  | succ d ih =>
    intro i z y h u xp yp yh h1 h2 h2' hk hb hxp hyp hQ hh hi hH hmt
    obtain ⟨z, rfl⟩ := z_succ h2
    obtain ⟨y, rfl⟩ := z_succ h2'
    have hu : ∀ v, v < 12 → u v < 2 ^ 30 := fun v hv => by have := hb v hv; omega
    have him : i % n < n := Nat.mod_lt _ (by omega)
    have hn12 := hQ.1
    have hq := hQ.2.1 _ him
    have hq0 := hq.1
    have hq1 : 2 ≤ u (Q (i % n)) := hq.2
    obtain ⟨yh', r1, r2⟩ := give_step (N := N) (K := K) (yw := yw) (yo := yo) (l1 := l1) (y := y) hN ho hct hyc hu hyp hh hn hQ hH (by omega) hi
    have hms : mtt (uN u (Q (i % n)) (u (Q (i % n)) + 1)) 12 + ms (u (Q (i % n))) = mtt u 12 + ms (u (Q (i % n)) + 1) := sm_uN (g := ms) hq0
    have e1 : ms (u (Q (i % n))) = u (Q (i % n)) - 1 := by unfold ms; rw [if_neg (by omega)]
    have e2 : ms (u (Q (i % n)) + 1) = u (Q (i % n)) + 1 - 1 := by unfold ms; rw [if_neg (by omega)]
    obtain ⟨u', xp', yp', yh2, p1, p2, p3⟩ := ih (i + 1) z y (i % n + 1) (uN u (Q (i % n)) (u (Q (i % n)) + 1)) (upd xp (Q (i % n)) (nI (u (Q (i % n)) + 1) - 1)) (upd yp (Q (i % n)) (nI (u (Q (i % n)) + 1) - 1)) yh' (by omega) (by omega) (by omega) (by
      intro v hv
      by_cases e : v = Q (i % n)
      · rw [e, uN_s]; have := hb _ hq0; exact ⟨by omega, fun _ => by omega⟩
      · rw [uN_n e]; exact hk v hv) (by
      intro v hv
      by_cases e : v = Q (i % n)
      · rw [e, uN_s]; have := hb _ hq0; omega
      · rw [uN_n e]; have := hb v hv; omega) (Pts_uN hxp rfl) (Pts_uN hyp rfl) (Qu_congr hQ (by
      intro v hv
      by_cases e : v = Q (i % n)
      · rw [e, uN_s]; exact ⟨fun _ => by omega, fun _ => hq1⟩
      · rw [uN_n e])) (by omega) (by rw [Nat.mod_add_mod]) r2 (by omega)
    refine ⟨u', xp', yp', yh2, ?_, ?_, p3⟩
    · have hnz : nz (nI n) = true := decide_eq_true (nI_ne0 (by omega) (by omega))
      rw [f_Share_give_b7, if_neg (nI_ge (by omega) (by omega)), if_neg (nle0 (by omega) (by omega)), ck_t hnz, modI (by omega) (by omega) (by omega), ck_n (by omega) (by decide), nI_clamp (by omega), hqa _ him, ck_n hq0 (by decide), ck_n hq0 (by decide), nI_clamp (by omega), hxp _ hq0, pI_inc (by omega), nm_q, nm_q, nI_1]
      exact p1
    · rw [r1]
      exact p2
theorem byCounts_ok {N o K : Nat} (hN : 300 ≤ N) (ho : o = 5 ∨ o = 6) {w : Nat → Nat} (hw : ∀ k, k < K → w k < 2 ^ 30) {yw x2 : Nat → Int32} (hyw : ∀ k, k < K → yw k = nI (w k)) (hC : Cts K (fun v => cc w v K)) (hx2 : ∀ v, v < 12 → x2 v = nI (cc w v K)) (so yi : Int32) (xp xc xq xo xt xb xr xs xn xw yp yc yh yo : Nat → Int32) :
    ∃ u own xp' xc' xq' xo' xt' xb' xr' xs' xn' xw' yp' yc' yh' yo', f_Share_byCounts N 12 x2 (nI o) (nI K) so xp xc xq xo xt xb xr xs xn xw = some (nI o, xp', xc', xq', xo', xt', xb', xr', xs', xn', xw') ∧ f_MM_shareByCounts N (nI K) yw (nI o) yi yp yc yh yo = some (nI o, yp', yc', yh', yo') ∧ Keep (fun v => cc w v K) u ∧ Pts u xp' ∧ Pts u yp' ∧ Plc u o own ∧ LayX u o own xo' xt' xb' xr' xs' ∧ ∀ p, p < 2 ^ o → yo' p = nI (own p) := by
  have hA := oA ho
  have hoo := o6 ho
  have hK1 := hC.1
  have hK2 := hC.2.1
  obtain ⟨xp1, xc1, a1, a2, a3⟩ := pointsX (N := N) (by omega) ho hC hx2 (xq := xq) (xo := xo) (xt := xt) (xb := xb) (xr := xr) (xs := xs) (xn := xn) (xw := xw) 12 0 N xp xc (by omega) (by omega) (fun x hx => absurd hx (by omega)) (fun x hx => absurd hx (by omega))
  obtain ⟨yp1, yc1, b1, b2, b3⟩ := pointsY (N := N) hN ho hw hyw hC (yh := yh) (yo := yo) 12 0 N yp yc (by omega) (by omega) (fun x hx => absurd hx (by omega)) (fun x hx => absurd hx (by omega))
  have hu0 : ∀ v, v < 12 → u0 o K (cc w v K) < 2 ^ 30 := fun v hv => u0_lt ho (hC.le hv)
  have hub : ∀ v, v < 12 → u0 o K (cc w v K) ≤ 100000 := by
    intro v hv
    have h1 : cc w v K ≤ 255 := hC.le hv
    have h2 : cc w v K * 2 ^ o ≤ 255 * 64 := Nat.mul_le_mul h1 (by omega)
    have h3 := u0_sub (o := o) (c := cc w v K) hK1
    have h4 : cc w v K * 2 ^ o / K ≤ cc w v K * 2 ^ o := Nat.div_le_self _ _
    omega
  have hkeep : Keep (fun v => cc w v K) (fun v => u0 o K (cc w v K)) := fun v hv => ⟨by have := hub v hv; show u0 o K (cc w v K) < _; omega, fun q => u0_ne1 hK1 q⟩
  have hmu := mt_u0 ho hC
  have a1' : f_Share_byCounts N 12 x2 (nI o) (nI K) so xp xc xq xo xt xb xr xs xn xw = _ := a1
  have b1' : f_MM_shareByCounts N (nI K) yw (nI o) yi yp yc yh yo = _ := b1
  rw [a1', b1']
  unfold f_Share_byCounts_b77 f_MM_shareByCounts_b71
  rw [lackX (by omega) hoo hu0 a2, bd1_e]
  -- from the points of both sides to the end
  have fin : ∀ (u : Nat → Nat) (xp2 yp2 xq2 yh2 : Nat → Int32), Keep (fun v => cc w v K) u → Pts u xp2 → Pts u yp2 → mtt u 12 = 2 ^ o →
      ∃ u own xp' xc' xq' xo' xt' xb' xr' xs' xn' xw' yp' yc' yh' yo', f_Share_byCounts_b104 N 12 x2 (nI o) (nI K) (nI o) xp2 xc1 xq2 xo xt xb xr xs xn xw = some (nI o, xp', xc', xq', xo', xt', xb', xr', xs', xn', xw') ∧ f_MM_shareByCounts_b172 N (nI K) yw (nI o) (nI o) yp2 yc1 yh2 yo = some (nI o, yp', yc', yh', yo') ∧ Keep (fun v => cc w v K) u ∧ Pts u xp' ∧ Pts u yp' ∧ Plc u o own ∧ LayX u o own xo' xt' xb' xr' xs' ∧ ∀ p, p < 2 ^ o → yo' p = nI (own p) := by
    intro u xp2 yp2 xq2 yh2 k1 k2 k3 k4
    obtain ⟨own, xo', xt', xb', xr', xs', xn', xw', yo', q1, q2, q3, q4, q5⟩ := layOut_ok (N := N) (by omega) ho (fun v hv => by have := (k1 v hv).1; omega) k4 k2 k3 xo xt xb xr xs xn xw yo
    refine ⟨u, own, xp2, xc1, xq2, xo', xt', xb', xr', xs', xn', xw', yp2, yc1, yh2, yo', ?_, ?_, k1, k2, k3, q3, q4, q5⟩
    · unfold f_Share_byCounts_b104
      rw [q1]
      rfl
    · unfold f_MM_shareByCounts_b172
      rw [q2, bd1_e]
  by_cases hcase : 2 ^ o ≤ mtt (fun v => u0 o K (cc w v K)) 12
  · obtain ⟨yh1, r1, -⟩ := newRound_ok (N := N) (by omega) (fun j => j) yh
    have hneg : -(nI (2 ^ o) - nI (mtt (fun v => u0 o K (cc w v K)) 12)) = nI (mtt (fun v => u0 o K (cc w v K)) 12 - 2 ^ o) := by
      rw [Int32.neg_sub, pk_sub hcase]
    have hle : nI (2 ^ o) - nI (mtt (fun v => u0 o K (cc w v K)) 12) ≤ 0 := by
      rw [Int32.le_iff_toInt_le, pk_sub_toInt (by omega) (by omega)]
      have e : (0 : Int32).toInt = 0 := rfl
      omega
    obtain ⟨u', xp', yp', s1, s2, s3, s4, s5, s6⟩ := away_ok (N := N) (by omega) ho (K := nI K) (l1 := nI o) (yw := yw) (yc := yc1) (yh := yh1) (yo := yo) (m := mtt (fun v => u0 o K (cc w v K)) 12 - 2 ^ o) (by omega) (mtt (fun v => u0 o K (cc w v K)) 12 - 2 ^ o) 0 N N (fun v => u0 o K (cc w v K)) xp1 yp1 (by omega) (by omega) (by omega) hkeep a2 b2 (by omega)
    have s1' : f_Share_takeAway N (nI (mtt (fun v => u0 o K (cc w v K)) 12 - 2 ^ o)) xp1 = some xp' := s1
    obtain ⟨z, hz⟩ : ∃ z, N = z + 1 := ⟨N - 1, by omega⟩
    have e75 : f_MM_shareByCounts_b75 N (nI K) yw (nI o) N (nI o) yp1 yc1 yh1 yo = f_MM_shareByCounts_b119 N (nI K) yw (nI o) N (nI o) yp1 yc1 yh1 yo := by
      have : f_MM_shareByCounts_b75 N (nI K) yw (nI o) (z + 1) (nI o) yp1 yc1 yh1 yo = f_MM_shareByCounts_b119 N (nI K) yw (nI o) N (nI o) yp1 yc1 yh1 yo := by
        rw [f_MM_shareByCounts_b75, lackY (by omega) hoo hu0 b2, bd1_e, if_pos hle]
      rw [← hz] at this
      exact this
    rw [if_pos hle, hneg, s1', bd1_e, r1, bd1_e, e75, s2]
    exact fin u' xp' yp' xq yh1 s3 s4 s5 s6
  · have hnl : ¬ nI (2 ^ o) - nI (mtt (fun v => u0 o K (cc w v K)) 12) ≤ 0 := by
      rw [pk_sub (by omega)]
      exact nle0 (by omega) (by omega)
    have hctb : ∀ v, v < 12 → cc w v K * 2 ^ o % K < 2 ^ 30 := fun v hv => by
      have := Nat.mod_lt (cc w v K * 2 ^ o) (show K > 0 by omega)
      omega
    obtain ⟨n, Q, qa, q1, q2, q3⟩ := queue_loop (N := N) (by omega) hu0 a2 hctb a3 12 0 N 0 (fun j => j) xq (by omega) (by omega) ⟨Nat.le_refl _, fun j hj => absurd hj (by omega), fun i j _ hj => absurd hj (by omega), fun x hx => absurd hx (by omega)⟩ (fun j hj => absurd hj (by omega))
    have hn1 : 1 ≤ n := by
      obtain ⟨v, v1, v2⟩ := some_points ho hC
      obtain ⟨j, j1, -⟩ := q2.2.2.2 v v1 v2
      omega
    obtain ⟨yh1, r1, r2⟩ := newRound_ok (N := N) (by omega) Q yh
    obtain ⟨u', xp', yp', yh', s1, s2, s3, s4, s5, s6⟩ := give_loop (N := N) (by omega) ho hctb (xc := xc1) (yc := yc1) (yw := yw) (yo := yo) b3 (K := nI K) (l1 := nI o) (M := 2 ^ o - mtt (fun v => u0 o K (cc w v K)) 12) hn1 q3 (by omega) (2 ^ o - mtt (fun v => u0 o K (cc w v K)) 12) 0 N N 0 (fun v => u0 o K (cc w v K)) xp1 yp1 yh1 (by omega) (by omega) (by omega) hkeep (fun v hv => by have := hub v hv; show u0 o K (cc w v K) ≤ _; omega) a2 b2 q2 (by omega) rfl r2 (by omega)
    obtain ⟨u2, xp2, yp2, -, t2, -, -, -, -⟩ := away_ok (N := N) (by omega) ho (K := nI K) (l1 := nI o) (yw := yw) (yc := yc1) (yh := yh') (yo := yo) (m := 0) (by omega) 0 0 N N u' xp' yp' (by omega) (by omega) (by omega) s3 s4 s5 (by omega)
    have e119 : f_MM_shareByCounts_b119 N (nI K) yw (nI o) N (nI o) yp' yc1 yh' yo = f_MM_shareByCounts_b172 N (nI K) yw (nI o) (nI o) yp' yc1 yh' yo := by
      obtain ⟨z, hz⟩ : ∃ z, N = z + 1 := ⟨N - 1, by omega⟩
      have : f_MM_shareByCounts_b119 N (nI K) yw (nI o) (z + 1) (nI o) yp' yc1 yh' yo = f_MM_shareByCounts_b172 N (nI K) yw (nI o) (nI o) yp' yc1 yh' yo := by
        rw [f_MM_shareByCounts_b119, lackY (by omega) hoo (fun v hv => by have := (s3 v hv).1; omega) s5, bd1_e, s6, if_pos (by rw [pk_sub (by omega)]; exact nI_pos' (by omega))]
      rw [← hz] at this
      exact this
    have q1' : f_Share_queueByCuts N xp1 xc1 xq = some (nI n, qa) := q1
    have s1' : f_Share_give_b7 N xc1 (nI (2 ^ o - mtt (fun v => u0 o K (cc w v K)) 12)) N (nI n) 0 xp1 qa = some (xp', qa) := s1
    rw [if_neg hnl]
    unfold f_Share_give
    rw [q1', bd2_e, pk_sub (by omega), s1', bd2_e, r1, bd1_e, s2, e119]
    exact fin u' xp' yp' qa yh' s3 s4 s5 s6
