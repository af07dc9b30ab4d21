/-! ===== lengths ===== -/
theorem plant_loop {N : Nat} {c : Nat → Nat} (hc : ∀ s, s < 256 → c s < 2 ^ 30) {xc : Nat → Int32} (hxc : ∀ s, s < 256 → xc s = nI (c s)) : ∀ (d s z : Nat) (th : Nat → Int32), 256 = s + d → d < z → (∀ k, k < s → th k = nI (c k)) →
    ∃ th', f_Tree_plant_b7 N 256 xc z (nI s) (nI (cn c s)) th = some (nI (cn c 256), nI (cn c 256), th') ∧ ∀ k, k < 256 → th' k = nI (c k) := by
  intro d
  induction d with
  | zero =>
    intro s z th h1 h2 h3
    obtain ⟨z, rfl⟩ := z_succ h2
    obtain rfl : s = 256 := by omega
    refine ⟨th, ?_, h3⟩
    rw [f_Tree_plant_b7, if_pos (le256 (by omega) (by omega))]
    rfl
  | succ d ih =>
    intro s z th h1 h2 h3
    obtain ⟨z, rfl⟩ := z_succ h2
    have hs : s < 256 := by omega
    have hcs := hc s hs
    obtain ⟨th', q1, q2⟩ := ih (s + 1) z (upd th s (nI (c s))) (by omega) (by omega) (fun k hk => by
      by_cases e : k = s
      · rw [e, pk_us]
      · rw [pk_un e]; exact h3 k (by omega))
    refine ⟨th', ?_, q2⟩
    rw [cn_succ] at q1
    rw [f_Tree_plant_b7, if_neg (nle256 hs), ck_n hs (by decide), ck_n hs (by decide), nI_clamp (by omega), hxc s hs, nm_q, ck_n hs (by decide)]
    unfold f_Tree_plant_b39
    by_cases e : c s = 0
    · rw [if_pos (le0 e), nm_q, nI_1]
      rw [if_pos e] at q1
      exact q1
    · rw [if_neg (nle0 (by omega) (by omega)), nm_q, nm_q, nI_1, nI_1]
      rw [if_neg e] at q1
      exact q1
theorem plantY_loop {N : Nat} {c : Nat → Nat} (hc : ∀ s, s < 256 → c s < 2 ^ 30) {yc : Nat → Int32} (hyc : ∀ s, s < 256 → yc s = nI (c s)) {l1 gr kn : Int32} {yl ys yd yk yi : Nat → Int32} : ∀ (d s z : Nat) (yh : Nat → Int32), 256 = s + d → d < z → (∀ k, k < s → yh k = nI (c k)) →
    ∃ yh', f_MM_lengths_b17 N yc l1 z (nI (cn c s)) (nI s) gr kn yl ys yd yk yi yh = f_MM_lengths_b54 N yc l1 (nI (cn c 256)) gr kn yl ys yd yk yi yh' ∧ ∀ k, k < 256 → yh' k = nI (c k) := by
  intro d
  induction d with
  | zero =>
    intro s z yh h1 h2 h3
    obtain ⟨z, rfl⟩ := z_succ h2
    obtain rfl : s = 256 := by omega
    refine ⟨yh, ?_, h3⟩
    rw [f_MM_lengths_b17, if_pos (le256 (by omega) (by omega))]
  | succ d ih =>
    intro s z yh h1 h2 h3
    obtain ⟨z, rfl⟩ := z_succ h2
    have hs : s < 256 := by omega
    have hcs := hc s hs
    obtain ⟨yh', q1, q2⟩ := ih (s + 1) z (upd yh s (nI (c s))) (by omega) (by omega) (fun k hk => by
      by_cases e : k = s
      · rw [e, pk_us]
      · rw [pk_un e]; exact h3 k (by omega))
    refine ⟨yh', ?_, q2⟩
    rw [cn_succ] at q1
    rw [f_MM_lengths_b17, if_neg (nle256 hs), ck_n hs (by decide), ck_n hs (by decide), nI_clamp (by omega), hyc s hs, nm_q, ck_n hs (by decide)]
    unfold f_MM_lengths_b48
    by_cases e : c s = 0
    · rw [if_pos (le0 e), nm_q, nI_1]
      rw [if_pos e] at q1
      exact q1
    · rw [if_neg (nle0 (by omega) (by omega)), nm_q, nm_q, nI_1, nI_1]
      rw [if_neg e] at q1
      exact q1
theorem half_n {a : Nat} (ha : a < 2 ^ 30) : (nI a + 1) / (2 : Int32) = nI ((a + 1) / 2) := by
  rw [nI_1]
  exact pk_div (d := 2) (by omega) (by decide) (by decide)
theorem halve_loop {N : Nat} {h : Nat → Nat} (hh : ∀ s, s < 256 → h s < 2 ^ 30) : ∀ (d s z : Nat) (xh : Nat → Int32), 256 = s + d → d < z → (∀ k, k < s → xh k = nI ((h k + 1) / 2)) → (∀ k, s ≤ k → k < 256 → xh k = nI (h k)) →
    ∃ xh', f_Tree_halve_b2 N z (nI s) xh = some xh' ∧ ∀ k, k < 256 → xh' k = nI ((h k + 1) / 2) := by
  intro d
  induction d with
  | zero =>
    intro s z xh h1 h2 h3 h4
    obtain ⟨z, rfl⟩ := z_succ h2
    obtain rfl : s = 256 := by omega
    refine ⟨xh, ?_, h3⟩
    rw [f_Tree_halve_b2, if_pos (le256 (by omega) (by omega))]
  | succ d ih =>
    intro s z xh h1 h2 h3 h4
    obtain ⟨z, rfl⟩ := z_succ h2
    have hs : s < 256 := by omega
    obtain ⟨xh', q1, q2⟩ := ih (s + 1) z (upd xh s (nI ((h s + 1) / 2))) (by omega) (by omega) (fun k hk => by
      by_cases e : k = s
      · rw [e, pk_us]
      · rw [pk_un e]; exact h3 k (by omega)) (fun k k1 k2 => by rw [pk_un (by omega)]; exact h4 k (by omega) k2)
    refine ⟨xh', ?_, q2⟩
    rw [f_Tree_halve_b2, if_neg (nle256 hs), ck_n hs (by decide), ck_n hs (by decide), nI_clamp (by omega), h4 s (Nat.le_refl _) hs, half_n (hh s hs), nm_q, nm_q, nI_1]
    exact q1
theorem halveY_loop {N : Nat} {h : Nat → Nat} (hh : ∀ s, s < 256 → h s < 2 ^ 30) {yc : Nat → Int32} {l1 l3 gr kn : Int32} {yl ys yd yk yi : Nat → Int32} {k75 : Int32 → Int32 → Int32 → (Nat → Int32) → (Nat → Int32) → (Nat → Int32) → (Nat → Int32) → (Nat → Int32) → (Nat → Int32) → Option (Int32 × Int32 × Int32 × (Nat → Int32) × (Nat → Int32) × (Nat → Int32) × (Nat → Int32) × (Nat → Int32) × (Nat → Int32))} : ∀ (d s z : Nat) (yh : Nat → Int32), 256 = s + d → d < z → (∀ k, k < s → yh k = nI ((h k + 1) / 2)) → (∀ k, s ≤ k → k < 256 → yh k = nI (h k)) →
    ∃ yh', f_MM_lengths_b92 N yc l1 k75 z l3 (nI s) gr kn yl ys yd yk yi yh = f_MM_lengths_b124 N yc l1 k75 l3 gr kn yl ys yd yk yi yh' ∧ ∀ k, k < 256 → yh' k = nI ((h k + 1) / 2) := by
  intro d
  induction d with
  | zero =>
    intro s z yh h1 h2 h3 h4
    obtain ⟨z, rfl⟩ := z_succ h2
    obtain rfl : s = 256 := by omega
    refine ⟨yh, ?_, h3⟩
    rw [f_MM_lengths_b92, if_pos (le256 (by omega) (by omega))]
  | succ d ih =>
    intro s z yh h1 h2 h3 h4
    obtain ⟨z, rfl⟩ := z_succ h2
    have hs : s < 256 := by omega
    obtain ⟨yh', q1, q2⟩ := ih (s + 1) z (upd yh s (nI ((h s + 1) / 2))) (by omega) (by omega) (fun k hk => by
      by_cases e : k = s
      · rw [e, pk_us]
      · rw [pk_un e]; exact h3 k (by omega)) (fun k k1 k2 => by rw [pk_un (by omega)]; exact h4 k (by omega) k2)
    refine ⟨yh', ?_, q2⟩
    rw [f_MM_lengths_b92, if_neg (nle256 hs), ck_n hs (by decide), ck_n hs (by decide), nI_clamp (by omega), h4 s (Nat.le_refl _) hs, half_n (hh s hs), nm_q, nm_q, nI_1]
    exact q1
theorem grow_loop {N M most : Nat} (hN : 2049 ≤ N) (hM2 : 2 ≤ M) (hm1 : 1 ≤ most) (hm : most ≤ 11) (hMm : M ≤ 2 ^ most) {yc : Nat → Int32} {gr : Int32} {yl ys : Nat → Int32} : ∀ (d r z y : Nat) (h : Nat → Nat) (xh yh xl xsd xst xs xa xlen xd yd yk yi : Nat → Int32) (nl ns kn : Int32), 16 = r + d → d < z → d < y → (∀ s, s < 256 → h s ≤ 2 ^ d ∧ h s < 65536) → cn h 256 = M → (∀ s, s < 256 → xh s = nI (h s)) → (∀ s, s < 256 → yh s = nI (h s)) →
    ∃ (len : Nat → Nat) (xh' xl' xsd' xst' xs' xa' xlen' xd' yd' yk' yi' yh' : Nat → Int32) (nl' ns' kn' : Int32), f_Tree_grow_b2 N (nI M) (nI most) z (nI r) nl ns xlen xh xl xsd xst xs xa xd = some (nl', ns', xlen', xh', xl', xsd', xst', xs', xa', xd') ∧ (bd4 (f_MM_sums N yh kn yd yk yi) fun k d e f => f_MM_lengths_b75 N yc (nI most) y (nI r) gr k yl ys d e f yh) = f_MM_lengths_b134 N yc (nI most) gr kn' yl ys yd' yk' yi' yh' ∧ (∀ s, s < 256 → xlen' s = nI (len s)) ∧ (∀ s, s < 256 → yd' s = nI (len s)) ∧ Good (mx len 256) len := by
  intro d
  induction d with
  | zero =>
    intro r z y h xh yh xl xsd xst xs xa xlen xd yd yk yi nl ns kn h1 h2 h3 h4 h5 h6 h7
    obtain ⟨z, rfl⟩ := z_succ h2
    obtain ⟨y, rfl⟩ := z_succ h3
    obtain ⟨len, xl', xsd', xst', xs', xa', xlen', xd', yd', yk', yi', nl', ns', kn', a1, a2, a3, a4, a5, a6, a7, a8, a9, a10⟩ := round_ok (N := N) (by omega) (fun s hs => (h4 s hs).2) (by omega) h6 h7 xl xsd xst xs xa xlen xd yd yk yi nl ns kn
    rw [h5] at a1 a2 a3 a10
    have hT := a10 (fun s hs => by have := (h4 s hs).1; rw [Nat.pow_zero] at this; exact this) most hMm
    have hld := longestDraft_ok (N := N) (by omega) a6 (fun s hs => by have := mx_ge (f := len) hs; omega)
    refine ⟨len, xh, xl', xsd', xst', xs', xa', xlen', xd', yd', yk', yi', yh, nl', ns', kn', ?_, ?_, a5, a6, ⟨a8, by omega, rfl, a9⟩⟩
    · rw [f_Tree_grow_b2, if_neg (show ¬ (16 : Int32) < nI r from nI_nlt (a := 16) (by omega) (by decide)), a1, bd3_e, a2, bd4_e, a3, bd3_e, if_neg (nI_nlt hT (by omega))]
    · rw [a4, bd4_e, f_MM_lengths_b75, if_neg (show ¬ (40 : Int32) ≤ nI r from nI_ge (b := 40) (by omega) (by decide)), hld, bd1_e, if_pos (nI_le hT (by omega))]
  | succ d ih =>
    intro r z y h xh yh xl xsd xst xs xa xlen xd yd yk yi nl ns kn h1 h2 h3 h4 h5 h6 h7
    obtain ⟨z, rfl⟩ := z_succ h2
    obtain ⟨y, rfl⟩ := z_succ h3
    obtain ⟨len, xl', xsd', xst', xs', xa', xlen', xd', yd', yk', yi', nl', ns', kn', a1, a2, a3, a4, a5, a6, a7, a8, a9, a10⟩ := round_ok (N := N) (by omega) (fun s hs => (h4 s hs).2) (by omega) h6 h7 xl xsd xst xs xa xlen xd yd yk yi nl ns kn
    rw [h5] at a1 a2 a3 a10
    have hld := longestDraft_ok (N := N) (by omega) a6 (fun s hs => by have := mx_ge (f := len) hs; omega)
    by_cases hT : mx len 256 ≤ most
    · refine ⟨len, xh, xl', xsd', xst', xs', xa', xlen', xd', yd', yk', yi', yh, nl', ns', kn', ?_, ?_, a5, a6, ⟨a8, by omega, rfl, a9⟩⟩
      · rw [f_Tree_grow_b2, if_neg (show ¬ (16 : Int32) < nI r from nI_nlt (a := 16) (by omega) (by decide)), a1, bd3_e, a2, bd4_e, a3, bd3_e, if_neg (nI_nlt hT (by omega))]
      · rw [a4, bd4_e, f_MM_lengths_b75, if_neg (show ¬ (40 : Int32) ≤ nI r from nI_ge (b := 40) (by omega) (by decide)), hld, bd1_e, if_pos (nI_le hT (by omega))]
    · have hh30 : ∀ s, s < 256 → h s < 2 ^ 30 := fun s hs => by have := (h4 s hs).2; omega
      obtain ⟨xh1, b1, b2⟩ := halve_loop (N := N) hh30 256 0 N xh (by omega) (by omega) (fun k hk => absurd hk (by omega)) (fun k _ hk => h6 k hk)
      obtain ⟨yh1, c1, c2⟩ := halveY_loop (N := N) hh30 (yc := yc) (l1 := nI most) (l3 := nI r) (gr := gr) (kn := kn') (yl := yl) (ys := ys) (yd := yd') (yk := yk') (yi := yi') (k75 := f_MM_lengths_b75 N yc (nI most) y) 256 0 N yh (by omega) (by omega) (fun k hk => absurd hk (by omega)) (fun k _ hk => h7 k hk)
      have hp : (2 : Nat) ^ (d + 1) = 2 ^ d * 2 := Nat.pow_succ 2 d
      have hcn : cn (fun s => (h s + 1) / 2) 256 = M := by
        rw [← h5]
        unfold cn
        apply sm_congr
        intro s _
        show (if (h s + 1) / 2 = 0 then 0 else 1) = if h s = 0 then 0 else 1
        by_cases e : h s = 0
        · rw [if_pos e, if_pos (by omega)]
        · rw [if_neg e, if_neg (by omega)]
      obtain ⟨len2, xh2, xl2, xsd2, xst2, xs2, xa2, xlen2, xd2, yd2, yk2, yi2, yh2, nl2, ns2, kn2, q1, q2, q3⟩ := ih (r + 1) z y (fun s => (h s + 1) / 2) xh1 yh1 xl' xsd' xst' xs' xa' xlen' xd' yd' yk' yi' nl' ns' kn' (by omega) (by omega) (by omega) (fun s hs => by
        have h8 := h4 s hs
        show (h s + 1) / 2 ≤ 2 ^ d ∧ (h s + 1) / 2 < 65536
        omega) hcn b2 c2
      refine ⟨len2, xh2, xl2, xsd2, xst2, xs2, xa2, xlen2, xd2, yd2, yk2, yi2, yh2, nl2, ns2, kn2, ?_, ?_, q3⟩
      · have b1' : f_Tree_halve N xh = some xh1 := b1
        rw [f_Tree_grow_b2, if_neg (show ¬ (16 : Int32) < nI r from nI_nlt (a := 16) (by omega) (by decide)), a1, bd3_e, a2, bd4_e, a3, bd3_e, if_pos (nI_lt (by omega) (by omega)), b1', bd1_e, nm_q, nI_1]
        exact q1
      · have c1' : f_MM_lengths_b92 N yc (nI most) (f_MM_lengths_b75 N yc (nI most) y) N (nI r) 0 gr kn' yl ys yd' yk' yi' yh = _ := c1
        rw [a4, bd4_e, f_MM_lengths_b75, if_neg (show ¬ (40 : Int32) ≤ nI r from nI_ge (b := 40) (by omega) (by decide)), hld, bd1_e, if_neg (nI_ge (by omega) (by omega)), c1']
        unfold f_MM_lengths_b124
        rw [nI_1]
        simp only [nm_q]
        exact q2
theorem sim_lengths {N : Nat} (hN : 2049 ≤ N) {cx cy : Nat → Int32} {c : Nat → Nat} (hc : Cnt cx cy c) (hb : ∀ s, s < 256 → c s ≤ 65535) {T : Nat} {len : Nat → Nat} {gx kn hi gy : Int32} {xl xv xc yl ys : Nat → Int32} (hX : CodX T len gx kn hi xl xv xc) (hY : CodY T len gy yl ys) {tk nl ns yn : Int32} {tlen th tl tsd tst ts ta td yd yk yi yh : Nat → Int32} (l1 : Int32) :
    ∃ (r : Int32) (T' : Nat) (len' : Nat → Nat) (gx' kn' hi' gy' tk' nl' ns' yn' : Int32) (xl' xv' xc' yl' ys' tlen' th' tl' tsd' tst' ts' ta' td' yd' yk' yi' yh' : Nat → Int32), f_PM_lengths N cx l1 gx kn hi xl xv xc tk nl ns tlen th tl tsd tst ts ta td = some (r, gx', kn', hi', xl', xv', xc', tk', nl', ns', tlen', th', tl', tsd', tst', ts', ta', td') ∧ f_MM_lengths N cy l1 gy yn yl ys yd yk yi yh = some (r, gy', yn', yl', ys', yd', yk', yi', yh') ∧ CodX T' len' gx' kn' hi' xl' xv' xc' ∧ CodY T' len' gy' yl' ys' := by
  have hcx : ∀ s, s < 256 → cx s = nI (c s) := fun s h => (hc s h).1
  have hcy : ∀ s, s < 256 → cy s = nI (c s) := fun s h => (hc s h).2
  have hc30 : ∀ s, s < 256 → c s < 2 ^ 30 := fun s h => by have := hb s h; omega
  unfold f_PM_lengths f_MM_lengths f_PM_lengths_b11 f_MM_lengths_b11
  by_cases h1 : l1 < 1
  · rw [if_pos h1, if_pos h1]
    exact ⟨-1, T, len, gx, kn, hi, gy, tk, nl, ns, yn, xl, xv, xc, yl, ys, tlen, th, tl, tsd, tst, ts, ta, td, yd, yk, yi, yh, rfl, rfl, hX, hY⟩
  rw [if_neg h1, if_neg h1]
  by_cases h2 : l1 ≤ 11
  case neg =>
    rw [if_neg h2, if_neg h2]
    exact ⟨-1, T, len, gx, kn, hi, gy, tk, nl, ns, yn, xl, xv, xc, yl, ys, tlen, th, tl, tsd, tst, ts, ta, td, yd, yk, yi, yh, rfl, rfl, hX, hY⟩
  rw [if_pos h2, if_pos h2]
  obtain ⟨most, hm1, hm, rfl⟩ : ∃ k : Nat, 1 ≤ k ∧ k ≤ 11 ∧ l1 = nI k := by
    have a1 : ¬ l1.toInt < 1 := fun q => h1 (Int32.lt_iff_toInt_lt.mpr q)
    have a2 : l1.toInt ≤ 11 := Int32.le_iff_toInt_le.mp h2
    refine ⟨l1.toInt.toNat, by omega, by omega, Int32.toInt_inj.mp ?_⟩
    rw [nI_toInt (by omega)]
    omega
  obtain ⟨th1, a1, a2⟩ := plant_loop (N := N) hc30 hcx 256 0 N th (by omega) (by omega) (fun k hk => absurd hk (by omega))
  obtain ⟨yh1, b1, b2⟩ := plantY_loop (N := N) hc30 hcy (l1 := nI most) (gr := gy) (kn := yn) (yl := yl) (ys := ys) (yd := yd) (yk := yk) (yi := yi) 256 0 N yh (by omega) (by omega) (fun k hk => absurd hk (by omega))
  have a1' : f_Tree_plant N 256 cx tk th = _ := a1
  have b1' : f_MM_lengths_b17 N cy (nI most) N 0 0 gy yn yl ys yd yk yi yh = _ := b1
  rw [a1', bd3_e, b1']
  unfold f_MM_lengths_b54 f_PM_lengths_b37 f_MM_lengths_b66
  have hM : cn c 256 ≤ 256 := cn_le
  have hp2 : 2 ^ most ≤ 2 ^ 11 := Nat.pow_le_pow_right (by decide) hm
  by_cases h3 : cn c 256 < 2
  · rw [if_pos (show nI (cn c 256) < (2 : Int32) from nI_lt (b := 2) h3 (by decide)), if_pos (show nI (cn c 256) < (2 : Int32) from nI_lt (b := 2) h3 (by decide))]
    exact ⟨-2, T, len, gx, kn, hi, gy, _, nl, ns, yn, xl, xv, xc, yl, ys, tlen, th1, tl, tsd, tst, ts, ta, td, yd, yk, yi, yh1, rfl, rfl, hX, hY⟩
  rw [if_neg (show ¬ nI (cn c 256) < (2 : Int32) from nI_nlt (b := 2) (by omega) (by omega)), if_neg (show ¬ nI (cn c 256) < (2 : Int32) from nI_nlt (b := 2) (by omega) (by omega)), sh1 (by omega)]
  by_cases h4 : cn c 256 ≤ 2 ^ most
  case neg =>
    rw [if_neg (nI_ge (by omega) (by omega)), if_neg (nI_ge (by omega) (by omega))]
    exact ⟨-2, T, len, gx, kn, hi, gy, _, nl, ns, yn, xl, xv, xc, yl, ys, tlen, th1, tl, tsd, tst, ts, ta, td, yd, yk, yi, yh1, rfl, rfl, hX, hY⟩
  rw [if_pos (nI_le h4 (by omega)), if_pos (nI_le h4 (by omega))]
  obtain ⟨len2, xh2, xl2, xsd2, xst2, xs2, xa2, xlen2, xd2, yd2, yk2, yi2, yh2, nl2, ns2, kn2, q1, q2, q3, q4, q5⟩ := grow_loop (N := N) hN (show 2 ≤ cn c 256 by omega) hm1 hm h4 (yc := cy) (gr := gy) (yl := yl) (ys := ys) 16 0 N N c th1 yh1 tl tsd tst ts ta tlen td yd yk yi nl ns yn (by omega) (by omega) (by omega) (fun s hs => by
    have := hb s hs
    rw [show (2 : Nat) ^ 16 = 65536 from rfl]
    omega) rfl a2 b2
  have q1' : f_Tree_grow N (nI (cn c 256)) (nI most) nl ns tlen th1 tl tsd tst ts ta td = _ := q1
  have q2' : (bd4 (f_MM_sums N yh1 yn yd yk yi) fun k d e f => f_MM_lengths_b75 N cy (nI most) N 0 gy k yl ys d e f yh1) = _ := q2
  rw [q1', bd10_e, q2']
  obtain ⟨vl', vv', vc', r1, r2, r3, r4⟩ := become_ok (N := N) hN (n1 := 256) (by decide) (by decide) q3 q5 gx kn hi xl xv xc
  obtain ⟨yl', ys', s1, s2, s3⟩ := settle_ok (N := N) hN q5 q4 gy yl ys
  have hld := longestDraft_ok (N := N) (by omega) q4 (fun s hs => by have := q5.le s hs; have := q5.2.1; omega)
  unfold f_MM_lengths_b134
  rw [r1, bd7_e, hld, bd1_e, s1, bd4_e]
  exact ⟨nI (mx len2 256), mx len2 256, len2, nI (mx len2 256), _, _, nI (mx len2 256), _, nl2, ns2, kn2, vl', vv', vc', yl', ys', xlen2, xh2, xl2, xsd2, xst2, xs2, xa2, xd2, yd2, yk2, yi2, yh2, rfl, rfl, ⟨rfl, Or.inr ⟨q5, rfl, rfl, r2, r3, r4⟩⟩, ⟨rfl, Or.inr ⟨q5, s2, s3⟩⟩⟩
