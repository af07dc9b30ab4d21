/-! ===== describe ===== -/
def wt (T : Nat) (len : Nat → Nat) (s : Nat) : Nat := if len s = 0 then 0 else T + 1 - len s
theorem wt_lt {T : Nat} {len : Nat → Nat} (hT1 : T ≤ 11) {s : Nat} : wt T len s < 12 := by
  unfold wt
  split <;> omega
theorem top_spec {len : Nat → Nat} {n : Nat} (h : ∃ s, s < n ∧ len s ≠ 0) : top len n < n ∧ len (top len n) ≠ 0 ∧ ∀ s, top len n < s → s < n → len s = 0 := by
  induction n with
  | zero => obtain ⟨s, h1, -⟩ := h; omega
  | succ n ih =>
    show (if len n = 0 then top len n else n) < n + 1 ∧ len (if len n = 0 then top len n else n) ≠ 0 ∧ ∀ s, (if len n = 0 then top len n else n) < s → s < n + 1 → len s = 0
    by_cases e : len n = 0
    · rw [if_pos e]
      obtain ⟨a, b, c⟩ := ih (by
        obtain ⟨s, h1, h2⟩ := h
        refine ⟨s, ?_, h2⟩
        rcases Nat.lt_or_ge s n with q | q
        · exact q
        · rw [show s = n by omega] at h2; exact absurd e h2)
      refine ⟨by omega, b, fun s h1 h2 => ?_⟩
      by_cases q : s = n
      · rw [q]; exact e
      · exact c s h1 (by omega)
    · rw [if_neg e]
      exact ⟨by omega, e, fun s h1 h2 => by omega⟩
theorem top_good {T : Nat} {len : Nat → Nat} (hG : Good T len) : 1 ≤ top len 256 ∧ top len 256 ≤ 255 ∧ len (top len 256) ≠ 0 ∧ ∀ s, top len 256 < s → s < 256 → len s = 0 := by
  obtain ⟨i, i1, i2⟩ := mx_at (f := len) (n := 256) (by rw [hG.2.2.1]; exact hG.1)
  obtain ⟨a, b, c⟩ := top_spec (len := len) (n := 256) ⟨i, i1, by rw [i2, hG.2.2.1]; have := hG.1; omega⟩
  refine ⟨?_, by omega, b, c⟩
  rcases Nat.eq_zero_or_pos (top len 256) with q | q
  · exfalso
    rw [q] at b c
    have hk := hG.2.2.2
    have e : kraft T len = sm (fun i => if i = 0 then 2 ^ (T - len 0) else 0) 256 := by
      unfold kraft
      apply sm_congr
      intro s hs
      by_cases q : s = 0
      · rw [q, if_neg b, if_pos rfl]
      · rw [if_neg q, if_pos (c s (by omega) hs)]
    rw [e, sm_one, if_pos (by decide)] at hk
    have h1 : T - len 0 < T := by have := hG.1; omega
    have h2 : 2 ^ (T - len 0) < 2 ^ T := Nat.pow_lt_pow_right (by decide) h1
    omega
  · exact q
theorem cts_wt {K : Nat} {w : Nat → Nat} (h1 : 1 ≤ K) (h2 : K ≤ 255) (hw : ∀ k, k < K → w k < 12) : Cts K (fun v => cc w v K) := by
  refine ⟨h1, h2, ?_⟩
  show sm (fun v => sm (fun p => if w p = v then 1 else 0) K) 12 = K
  rw [sm_swap, sm_congr (g := fun _ => 1) (fun k hk => ?_)]
  · clear h1 h2 hw
    induction K with
    | zero => rfl
    | succ K ih => show sm _ K + 1 = K + 1; rw [ih]
  · rw [sm_congr (g := fun v => if v = w k then 1 else 0) (fun v _ => ?_), sm_one, if_pos (hw k hk)]
    by_cases q : w k = v
    · rw [if_pos q, if_pos q.symm]
    · rw [if_neg q, if_neg (fun a => q a.symm)]
theorem takeW_loop {N T K : Nat} (hT1 : T ≤ 11) (hK : K ≤ 255) {len : Nat → Nat} (hT : ∀ s, s < 256 → len s ≤ T) {xl : Nat → Int32} (hxl : ∀ s, s < 256 → xl s = nI (len s)) : ∀ (d s z : Nat) (xw xc : Nat → Int32), K = s + d → d < z → (∀ k, k < s → xw k = nI (wt T len k)) → (∀ v, v < 12 → xc v = nI (cc (wt T len) v s)) →
    ∃ xw' xc', f_Writer_takeWeights_b10 N (nI T) xl (nI K) z (nI s) xw xc = some (xw', xc') ∧ (∀ k, k < K → xw' k = nI (wt T len k)) ∧ ∀ v, v < 12 → xc' v = nI (cc (wt T len) v K) := by
  intro d
  induction d with
  | zero =>
    intro s z xw xc h1 h2 h3 h4
    obtain ⟨z, rfl⟩ := z_succ h2
    obtain rfl : s = K := by omega
    refine ⟨xw, xc, ?_, h3, h4⟩
    rw [f_Writer_takeWeights_b10, if_pos (nI_le (Nat.le_refl _) (by omega))]
  | succ d ih =>
    intro s z xw xc h1 h2 h3 h4
    obtain ⟨z, rfl⟩ := z_succ h2
    have hs : s < 256 := by omega
    have hls := hT s hs
    have hww : wt T len s < 12 := wt_lt hT1
    have hwo : f_Codes_weightOf N (nI T) xl (nI s) = some (nI (wt T len s)) := by
      unfold f_Codes_weightOf wt
      rw [ck_n hs (by decide), nI_clamp (by omega), hxl s hs]
      by_cases e : len s = 0
      · rw [e, if_pos (show nI 0 = 0 from rfl), if_pos rfl]; rfl
      · rw [if_neg (nI_ne0 (by omega) (by omega)), if_neg e, ck_n hs (by decide), nI_1, pk_sub (by omega)]
    obtain ⟨xw', xc', p1, p2, p3⟩ := ih (s + 1) z (upd xw s (nI (wt T len s))) (upd xc (wt T len s) (nI (cc (wt T len) (wt T len s) s + 1))) (by omega) (by omega) (by
      intro k hk
      by_cases e : k = s
      · rw [e, pk_us]
      · rw [pk_un e]; exact h3 k (by omega)) (by
      intro v hv
      rw [cc_succ]
      by_cases e : v = wt T len s
      · rw [e, pk_us, if_pos rfl]
      · rw [pk_un e, if_neg (fun q => e q.symm)]; exact h4 v hv)
    refine ⟨xw', xc', ?_, p2, p3⟩
    rw [f_Writer_takeWeights_b10, if_neg (nI_ge (by omega) (by omega)), hwo, bd1_e, ck_n hs (by decide), nI_clamp (by omega), nm_q, ck_n hs (by decide), pk_us, ck_n hww (by decide), ck_n hww (by decide), nI_clamp (by omega), h4 _ hww, nI_1, nm_q, nm_q, nI_1]
    exact p1
theorem takeW_ok {N T K : Nat} (hN : 300 ≤ N) (hT1 : T ≤ 11) (hK : K ≤ 255) {len : Nat → Nat} (hT : ∀ s, s < 256 → len s ≤ T) {xl : Nat → Int32} (hxl : ∀ s, s < 256 → xl s = nI (len s)) (xw xc : Nat → Int32) :
    ∃ xw' xc', f_Writer_takeWeights N (nI T) xl (nI K) xw xc = some (xw', xc') ∧ (∀ k, k < K → xw' k = nI (wt T len k)) ∧ ∀ v, v < 12 → xc' v = nI (cc (wt T len) v K) := by
  obtain ⟨xc1, a1, a2, -⟩ := JArr_fill_ok (N := N) (n := 12) (by decide) (by omega) (a := 0) (v := xc)
  obtain ⟨xw', xc', p1, p2, p3⟩ := takeW_loop (N := N) hT1 hK hT hxl K 0 N xw xc1 (by omega) (by omega) (fun k hk => absurd hk (by omega)) (fun v hv => a2 v hv)
  refine ⟨xw', xc', ?_, p2, p3⟩
  unfold f_Writer_takeWeights
  rw [a1, bd1_e]
  exact p1
/-- how many weights are different -/
def df (w : Nat → Nat) (K n : Nat) : Nat := sm (fun v => if cc w v K = 0 then 0 else 1) n
theorem different_loop {N K : Nat} (hN : 300 ≤ N) (hK : K ≤ 255) {w : Nat → Nat} (hw : ∀ k, k < K → w k < 12) {yw : Nat → Int32} (hyw : ∀ k, k < K → yw k = nI (w k)) (hC : Cts K (fun v => cc w v K)) : ∀ (d v z : Nat), 12 = v + d → d < z →
    f_MM_different_b4 N (nI K) yw z (nI (df w K v)) (nI v) = some (nI (df w K 12)) := by
  intro d
  induction d with
  | zero =>
    intro v z h1 h2
    obtain ⟨z, rfl⟩ := z_succ h2
    obtain rfl : v = 12 := by omega
    rw [f_MM_different_b4, if_pos (show (12 : Int32) ≤ nI 12 by decide)]
    rfl
  | succ d ih =>
    intro v z h1 h2
    obtain ⟨z, rfl⟩ := z_succ h2
    have h3 := ih (v + 1) z (by omega) (by omega)
    have hcv : cc w v K ≤ 255 := hC.le (show v < 12 by omega)
    have e : df w K (v + 1) = df w K v + (if cc w v K = 0 then 0 else 1) := rfl
    rw [e] at h3
    rw [f_MM_different_b4, if_neg (show ¬ (12 : Int32) ≤ nI v from nI_ge (b := 12) (by omega) (by decide)), countOf_ok hN (by omega) (fun k hk => by have := hw k hk; omega) hyw (by omega), bd1_e]
    unfold f_MM_different_b21
    by_cases e0 : cc w v K = 0
    · rw [if_pos (le0 e0), nm_q, nI_1]
      rw [if_pos e0] at h3
      exact h3
    · rw [if_neg (nle0 (by omega) (by omega)), nm_q, nm_q, nI_1, nI_1]
      rw [if_neg e0] at h3
      exact h3
theorem different_ok {N K : Nat} (hN : 300 ≤ N) (hK : K ≤ 255) {w : Nat → Nat} (hw : ∀ k, k < K → w k < 12) {yw : Nat → Int32} (hyw : ∀ k, k < K → yw k = nI (w k)) (hC : Cts K (fun v => cc w v K)) : f_MM_different N (nI K) yw = some (nI (df w K 12)) :=
  different_loop hN hK hw hyw hC 12 0 N (by omega) (by omega)
theorem df_le {w : Nat → Nat} {K : Nat} : df w K 12 ≤ 12 := by
  have h : df w K 12 ≤ sm (fun _ => 1) 12 := sm_le (fun v _ => by split <;> omega)
  exact h
theorem df_mix {w : Nat → Nat} {K : Nat} (hw : ∀ k, k < K → w k < 12) (hC : Cts K (fun v => cc w v K)) : (2 ≤ df w K 12 ↔ cc w (w 0) K < K) := by
  have h0 : w 0 < 12 := hw 0 (by have := hC.1; omega)
  have h00 : cc w (w 0) K ≠ 0 := cc_pos (by have := hC.1; omega)
  constructor
  · intro h
    rcases Nat.lt_or_ge (cc w (w 0) K) K with q | q
    · exact q
    · exfalso
      have hz : ∀ v, v < 12 → v ≠ w 0 → cc w v K = 0 := by
        intro v hv hne
        have h1 := sm_two (f := fun v => cc w v K) hne hv h0
        rw [hC.2.2] at h1
        have h2 : (fun v => cc w v K) v = cc w v K := rfl
        have h3 : (fun v => cc w v K) (w 0) = cc w (w 0) K := rfl
        omega
      have e : df w K 12 = sm (fun i => if i = w 0 then 1 else 0) 12 := sm_congr (fun v hv => by
        by_cases q2 : v = w 0
        · rw [if_pos q2, q2, if_neg h00]
        · rw [if_neg q2, if_pos (hz v hv q2)])
      rw [e, sm_one, if_pos h0] at h
      omega
  · intro h
    obtain ⟨x, x1, x2, x3⟩ := other_count (c := fun v => cc w v K) h0 (by rw [hC.2.2]; exact h)
    have h1 := sm_two (f := fun v => if cc w v K = 0 then 0 else 1) x2 x1 h0
    have x3' : cc w x K ≠ 0 := x3
    rw [if_neg x3', if_neg h00] at h1
    exact h1
theorem mix_of {w : Nat → Nat} {K : Nat} (hK : K ≤ 255) (hw : ∀ k, k < K → w k < 12) (hC : Cts K (fun v => cc w v K)) (h : cc w (w 0) K < K) (h2 : 2 ≤ K) : Mix K w := by
  refine ⟨h2, hK, hw, hC, fun v hv => ?_⟩
  rcases Nat.lt_or_ge (cc w v K) K with q | q
  · exact q
  · exfalso
    have h0 : w 0 < 12 := hw 0 (by omega)
    have h00 : cc w (w 0) K ≠ 0 := cc_pos (by omega)
    by_cases e : v = w 0
    · rw [e] at q; omega
    · have h1 := sm_two (f := fun v => cc w v K) e hv h0
      rw [hC.2.2] at h1
      have h2 : (fun v => cc w v K) v = cc w v K := rfl
      have h3 : (fun v => cc w v K) (w 0) = cc w (w 0) K := rfl
      omega
theorem give_n {N m : Nat} (hN : 6001 ≤ N) (hm : m ≤ 6000) {made : Nat → Int32} (o : Int32) (v : Nat → Int32) : ∃ v', f_MM_give N (nI (8 * m)) made o v = some (nI m, nI m, v') ∧ ∀ k, k < m → v' k = made k := by
  obtain ⟨v', p1, p2⟩ := MM_give_loop (N := N) (n := m) hm (bm := nI (8 * m)) (made := made) m 0 N v (by omega) (by omega) (fun k hk => absurd hk (by omega))
  refine ⟨v', ?_, p2⟩
  unfold f_MM_give
  rw [show nI (8 * m) / (8 : Int32) = nI (8 * m / 8) from pk_div (d := 8) (by omega) (by decide) (by decide), show 8 * m / 8 = m by omega]
  simp only [nm]
  exact p1
theorem dir_n {K : Nat} (hK : K ≤ 255) : (1 : Int32) + (nI K + 1) / 2 = nI (1 + (K + 1) / 2) := by
  rw [nI_1, show nI (K + 1) / (2 : Int32) = nI ((K + 1) / 2) from pk_div (d := 2) (by omega) (by decide) (by decide)]
  exact nI_add 1 _
theorem d75_no0 {N K : Nat} {g : Int32} {xl : Nat → Int32} {fu : Int32} {fv : Nat → Int64} {fo : Int32} {fp fc fq fw ft fb fr fs fn fk : Nat → Int32} {su : Int32} {sv : Nat → Int64} {so : Int32} {sp sc sq sw st sb sr ss sn sk : Nat → Int32} {xw xc : Nat → Int32} {u2 : Int32} {v2 : Nat → Int64} (hK : 128 < K) (hK2 : K ≤ 255) : f_Writer_describeCodes_b75 N (nI 5) (nI 256) 33 (nI 6) (nI 256) 33 g (nI K) xl (nI 6000) 751 (nI K) 0 fu 0 0 fv fo fp fc fq fw ft fb fr fs fn fk su 0 0 sv so sp sc sq sw st sb sr ss sn sk xw xc u2 v2 = some (-2, fu, 0, 0, fv, fo, fp, fc, fq, fw, ft, fb, fr, fs, fn, fk, su, 0, 0, sv, so, sp, sc, sq, sw, st, sb, sr, ss, sn, sk, xw, xc, u2, v2) := by
  have h1 : (128 : Int32) < nI K := nI_lt (a := 128) hK (by omega)
  unfold f_Writer_describeCodes_b75
  by_cases h : fu ≤ su
  · rw [if_pos h, if_pos h1, if_pos rfl, if_pos rfl, if_pos rfl]
  · rw [if_neg h, if_pos h1, if_pos rfl, if_pos rfl, if_pos rfl]
theorem d75_dir0 {N K : Nat} {g : Int32} {xl : Nat → Int32} {fu : Int32} {fv : Nat → Int64} {fo : Int32} {fp fc fq fw ft fb fr fs fn fk : Nat → Int32} {su : Int32} {sv : Nat → Int64} {so : Int32} {sp sc sq sw st sb sr ss sn sk : Nat → Int32} {xw xc : Nat → Int32} {u2 : Int32} {v2 : Nat → Int64} (hK : K ≤ 128) {v3 : Nat → Int64} (hd : f_Writer_putDirect N xw (nI 6000) 751 (nI K) 0 v2 = some (nI (1 + (K + 1) / 2), v3)) : f_Writer_describeCodes_b75 N (nI 5) (nI 256) 33 (nI 6) (nI 256) 33 g (nI K) xl (nI 6000) 751 (nI K) 0 fu 0 0 fv fo fp fc fq fw ft fb fr fs fn fk su 0 0 sv so sp sc sq sw st sb sr ss sn sk xw xc u2 v2 = some (nI (1 + (K + 1) / 2), fu, 0, 0, fv, fo, fp, fc, fq, fw, ft, fb, fr, fs, fn, fk, su, 0, 0, sv, so, sp, sc, sq, sw, st, sb, sr, ss, sn, sk, xw, xc, nI (1 + (K + 1) / 2), v3) := by
  have h1 : ¬ (128 : Int32) < nI K := nI_nlt (a := 128) hK (by decide)
  have h2 : ¬ nI (1 + (K + 1) / 2) = (1000 : Int32) := fun q => by have := (nI_eq (b := 1000) (by omega) (by decide)).mp q; omega
  have h3 : ¬ (1000 : Int32) < nI (1 + (K + 1) / 2) := nI_nlt (a := 1000) (by omega) (by decide)
  unfold f_Writer_describeCodes_b75
  rw [dir_n (by omega)]
  by_cases h : fu ≤ su
  · rw [if_pos h, if_neg h1, nm_q, if_pos rfl, if_neg h2]
    unfold f_Row_empty f_Writer_describeCodes_b215
    rw [bd1_e, if_neg h3, hd, bd2_e]
  · rw [if_neg h, if_neg h1, nm_q, if_pos rfl, if_neg h2]
    unfold f_Row_empty f_Writer_describeCodes_b215
    rw [bd1_e, if_neg h3, hd, bd2_e]
theorem d75_nof {N K a b : Nat} {g : Int32} {xl : Nat → Int32}  {fv : Nat → Int64} {fo : Int32} {fp fc fq fw ft fb fr fs fn fk : Nat → Int32}  {sv : Nat → Int64} {so : Int32} {sp sc sq sw st sb sr ss sn sk : Nat → Int32} {xw xc : Nat → Int32} {u2 : Int32} {v2 : Nat → Int64} (ha : a ≤ 255) (hb : b ≤ 255) (hab : a ≤ b) (hK : 128 < K) (hK2 : K ≤ 255) (h : 128 ≤ a) : f_Writer_describeCodes_b75 N (nI 5) (nI 256) 33 (nI 6) (nI 256) 33 g (nI K) xl (nI 6000) 751 (nI K) 1 (nI a) 0 0 fv fo fp fc fq fw ft fb fr fs fn fk (nI b) 0 0 sv so sp sc sq sw st sb sr ss sn sk xw xc u2 v2 = some (-2, nI a, 0, 0, fv, fo, fp, fc, fq, fw, ft, fb, fr, fs, fn, fk, nI b, 0, 0, sv, so, sp, sc, sq, sw, st, sb, sr, ss, sn, sk, xw, xc, u2, v2) := by
  have h1 : (128 : Int32) < nI K := nI_lt (a := 128) hK (by omega)
  unfold f_Writer_describeCodes_b75
  rw [if_pos (nI_le hab (by omega)), if_pos h1, if_neg (by decide), if_pos (show (128 : Int32) ≤ nI a from nI_le (a := 128) h (by omega)), if_pos rfl, if_pos rfl]
theorem d75_dirf {N K a b : Nat} {g : Int32} {xl : Nat → Int32}  {fv : Nat → Int64} {fo : Int32} {fp fc fq fw ft fb fr fs fn fk : Nat → Int32}  {sv : Nat → Int64} {so : Int32} {sp sc sq sw st sb sr ss sn sk : Nat → Int32} {xw xc : Nat → Int32} {u2 : Int32} {v2 : Nat → Int64} (ha : a ≤ 255) (hb : b ≤ 255) (hab : a ≤ b) (hK : K ≤ 128) (h : 128 ≤ a ∨ 1 + (K + 1) / 2 ≤ 1 + a) {v3 : Nat → Int64} (hd : f_Writer_putDirect N xw (nI 6000) 751 (nI K) 0 v2 = some (nI (1 + (K + 1) / 2), v3)) : f_Writer_describeCodes_b75 N (nI 5) (nI 256) 33 (nI 6) (nI 256) 33 g (nI K) xl (nI 6000) 751 (nI K) 1 (nI a) 0 0 fv fo fp fc fq fw ft fb fr fs fn fk (nI b) 0 0 sv so sp sc sq sw st sb sr ss sn sk xw xc u2 v2 = some (nI (1 + (K + 1) / 2), nI a, 0, 0, fv, fo, fp, fc, fq, fw, ft, fb, fr, fs, fn, fk, nI b, 0, 0, sv, so, sp, sc, sq, sw, st, sb, sr, ss, sn, sk, xw, xc, nI (1 + (K + 1) / 2), v3) := by
  have h1 : ¬ (128 : Int32) < nI K := nI_nlt (a := 128) hK (by decide)
  have h2 : ¬ nI (1 + (K + 1) / 2) = (1000 : Int32) := fun q => by have := (nI_eq (b := 1000) (by omega) (by decide)).mp q; omega
  have h3 : ¬ (1000 : Int32) < nI (1 + (K + 1) / 2) := nI_nlt (a := 1000) (by omega) (by decide)
  unfold f_Writer_describeCodes_b75
  rw [dir_n (by omega), if_pos (nI_le hab (by omega)), if_neg h1, nm_q, if_neg (by decide)]
  unfold f_Row_empty f_Writer_describeCodes_b215
  by_cases h4 : 128 ≤ a
  · rw [if_pos (show (128 : Int32) ≤ nI a from nI_le (a := 128) h4 (by omega)), if_neg h2, bd1_e, if_neg h3, hd, bd2_e]
  · rw [if_neg (show ¬ (128 : Int32) ≤ nI a from nI_ge (b := 128) (by omega) (by decide)), nm_q, if_neg h2, bd1_e, show (1 : Int32) + nI a = nI (1 + a) from nI_add 1 _, if_neg (nI_nlt (by omega) (by omega)), hd, bd2_e]
theorem d75_stf {N K a b : Nat} {g : Int32} {xl : Nat → Int32}  {fv : Nat → Int64} {fo : Int32} {fp fc fq fw ft fb fr fs fn fk : Nat → Int32}  {sv : Nat → Int64} {so : Int32} {sp sc sq sw st sb sr ss sn sk : Nat → Int32} {xw xc : Nat → Int32} {u2 : Int32} {v2 : Nat → Int64} (ha : a ≤ 255) (hb : b ≤ 255) (hab : a ≤ b) (hK2 : K ≤ 255) (h : a < 128) (hd : 128 < K ∨ 1 + a < 1 + (K + 1) / 2) {v3 : Nat → Int64} (hs : f_Writer_putStates N (nI 6000) 751 (nI a) 33 fv 0 v2 = some (nI (1 + a), v3)) : f_Writer_describeCodes_b75 N (nI 5) (nI 256) 33 (nI 6) (nI 256) 33 g (nI K) xl (nI 6000) 751 (nI K) 1 (nI a) 0 0 fv fo fp fc fq fw ft fb fr fs fn fk (nI b) 0 0 sv so sp sc sq sw st sb sr ss sn sk xw xc u2 v2 = some (nI (1 + a), nI a, 0, 0, fv, fo, fp, fc, fq, fw, ft, fb, fr, fs, fn, fk, nI b, 0, 0, sv, so, sp, sc, sq, sw, st, sb, sr, ss, sn, sk, xw, xc, nI (1 + a), v3) := by
  unfold f_Writer_describeCodes_b75
  rw [dir_n (by omega), if_pos (nI_le hab (by omega))]
  unfold f_Row_empty f_Writer_describeCodes_b215
  have h4 : ¬ (128 : Int32) ≤ nI a := nI_ge (b := 128) (by omega) (by decide)
  have e1 : (1 : Int32) + nI a = nI (1 + a) := nI_add 1 _
  have h5 : ¬ nI (1 + a) = (1000 : Int32) := fun q => by have := (nI_eq (b := 1000) (by omega) (by decide)).mp q; omega
  have h2 : ¬ nI (1 + (K + 1) / 2) = (1000 : Int32) := fun q => by have := (nI_eq (b := 1000) (by omega) (by decide)).mp q; omega
  by_cases h1 : 128 < K
  · rw [if_pos (show (128 : Int32) < nI K from nI_lt (a := 128) h1 (by omega)), if_neg (by decide), if_neg h4, e1, nm_q, if_pos rfl, if_neg h5, bd1_e, if_pos (show nI (1 + a) < (1000 : Int32) from nI_lt (b := 1000) (by omega) (by decide)), hs, bd2_e]
  · rw [if_neg (show ¬ (128 : Int32) < nI K from nI_nlt (a := 128) (by omega) (by decide)), nm_q, if_neg (by decide), if_neg h4, e1, nm_q, if_neg h2, bd1_e, if_pos (nI_lt (by omega) (by omega)), hs, bd2_e]
theorem d75_nos {N K a b : Nat} {g : Int32} {xl : Nat → Int32}  {fv : Nat → Int64} {fo : Int32} {fp fc fq fw ft fb fr fs fn fk : Nat → Int32}  {sv : Nat → Int64} {so : Int32} {sp sc sq sw st sb sr ss sn sk : Nat → Int32} {xw xc : Nat → Int32} {u2 : Int32} {v2 : Nat → Int64} (ha : a ≤ 255) (hb : b ≤ 255) (hab : b < a) (hK : 128 < K) (hK2 : K ≤ 255) (h : 128 ≤ b) : f_Writer_describeCodes_b75 N (nI 5) (nI 256) 33 (nI 6) (nI 256) 33 g (nI K) xl (nI 6000) 751 (nI K) 1 (nI a) 0 0 fv fo fp fc fq fw ft fb fr fs fn fk (nI b) 0 0 sv so sp sc sq sw st sb sr ss sn sk xw xc u2 v2 = some (-2, nI a, 0, 0, fv, fo, fp, fc, fq, fw, ft, fb, fr, fs, fn, fk, nI b, 0, 0, sv, so, sp, sc, sq, sw, st, sb, sr, ss, sn, sk, xw, xc, u2, v2) := by
  have h1 : (128 : Int32) < nI K := nI_lt (a := 128) hK (by omega)
  unfold f_Writer_describeCodes_b75
  rw [if_neg (nI_ge hab (by omega)), if_pos h1, if_neg (by decide), if_pos (show (128 : Int32) ≤ nI b from nI_le (a := 128) h (by omega)), if_pos rfl, if_pos rfl]
theorem d75_dirs {N K a b : Nat} {g : Int32} {xl : Nat → Int32}  {fv : Nat → Int64} {fo : Int32} {fp fc fq fw ft fb fr fs fn fk : Nat → Int32}  {sv : Nat → Int64} {so : Int32} {sp sc sq sw st sb sr ss sn sk : Nat → Int32} {xw xc : Nat → Int32} {u2 : Int32} {v2 : Nat → Int64} (ha : a ≤ 255) (hb : b ≤ 255) (hab : b < a) (hK : K ≤ 128) (h : 128 ≤ b ∨ 1 + (K + 1) / 2 ≤ 1 + b) {v3 : Nat → Int64} (hd : f_Writer_putDirect N xw (nI 6000) 751 (nI K) 0 v2 = some (nI (1 + (K + 1) / 2), v3)) : f_Writer_describeCodes_b75 N (nI 5) (nI 256) 33 (nI 6) (nI 256) 33 g (nI K) xl (nI 6000) 751 (nI K) 1 (nI a) 0 0 fv fo fp fc fq fw ft fb fr fs fn fk (nI b) 0 0 sv so sp sc sq sw st sb sr ss sn sk xw xc u2 v2 = some (nI (1 + (K + 1) / 2), nI a, 0, 0, fv, fo, fp, fc, fq, fw, ft, fb, fr, fs, fn, fk, nI b, 0, 0, sv, so, sp, sc, sq, sw, st, sb, sr, ss, sn, sk, xw, xc, nI (1 + (K + 1) / 2), v3) := by
  have h1 : ¬ (128 : Int32) < nI K := nI_nlt (a := 128) hK (by decide)
  have h2 : ¬ nI (1 + (K + 1) / 2) = (1000 : Int32) := fun q => by have := (nI_eq (b := 1000) (by omega) (by decide)).mp q; omega
  have h3 : ¬ (1000 : Int32) < nI (1 + (K + 1) / 2) := nI_nlt (a := 1000) (by omega) (by decide)
  unfold f_Writer_describeCodes_b75
  rw [dir_n (by omega), if_neg (nI_ge hab (by omega)), if_neg h1, nm_q, if_neg (by decide)]
  unfold f_Row_empty f_Writer_describeCodes_b215
  by_cases h4 : 128 ≤ b
  · rw [if_pos (show (128 : Int32) ≤ nI b from nI_le (a := 128) h4 (by omega)), if_neg h2, bd1_e, if_neg h3, hd, bd2_e]
  · rw [if_neg (show ¬ (128 : Int32) ≤ nI b from nI_ge (b := 128) (by omega) (by decide)), nm_q, if_neg h2, bd1_e, show (1 : Int32) + nI b = nI (1 + b) from nI_add 1 _, if_neg (nI_nlt (by omega) (by omega)), hd, bd2_e]
theorem d75_sts {N K a b : Nat} {g : Int32} {xl : Nat → Int32}  {fv : Nat → Int64} {fo : Int32} {fp fc fq fw ft fb fr fs fn fk : Nat → Int32}  {sv : Nat → Int64} {so : Int32} {sp sc sq sw st sb sr ss sn sk : Nat → Int32} {xw xc : Nat → Int32} {u2 : Int32} {v2 : Nat → Int64} (ha : a ≤ 255) (hb : b ≤ 255) (hab : b < a) (hK2 : K ≤ 255) (h : b < 128) (hd : 128 < K ∨ 1 + b < 1 + (K + 1) / 2) {v3 : Nat → Int64} (hs : f_Writer_putStates N (nI 6000) 751 (nI b) 33 sv 0 v2 = some (nI (1 + b), v3)) : f_Writer_describeCodes_b75 N (nI 5) (nI 256) 33 (nI 6) (nI 256) 33 g (nI K) xl (nI 6000) 751 (nI K) 1 (nI a) 0 0 fv fo fp fc fq fw ft fb fr fs fn fk (nI b) 0 0 sv so sp sc sq sw st sb sr ss sn sk xw xc u2 v2 = some (nI (1 + b), nI a, 0, 0, fv, fo, fp, fc, fq, fw, ft, fb, fr, fs, fn, fk, nI b, 0, 0, sv, so, sp, sc, sq, sw, st, sb, sr, ss, sn, sk, xw, xc, nI (1 + b), v3) := by
  unfold f_Writer_describeCodes_b75
  rw [dir_n (by omega), if_neg (nI_ge hab (by omega))]
  unfold f_Row_empty f_Writer_describeCodes_b215
  have h4 : ¬ (128 : Int32) ≤ nI b := nI_ge (b := 128) (by omega) (by decide)
  have e1 : (1 : Int32) + nI b = nI (1 + b) := nI_add 1 _
  have h5 : ¬ nI (1 + b) = (1000 : Int32) := fun q => by have := (nI_eq (b := 1000) (by omega) (by decide)).mp q; omega
  have h2 : ¬ nI (1 + (K + 1) / 2) = (1000 : Int32) := fun q => by have := (nI_eq (b := 1000) (by omega) (by decide)).mp q; omega
  by_cases h1 : 128 < K
  · rw [if_pos (show (128 : Int32) < nI K from nI_lt (a := 128) h1 (by omega)), if_neg (by decide), if_neg h4, e1, nm_q, if_pos rfl, if_neg h5, bd1_e, if_pos (show nI (1 + b) < (1000 : Int32) from nI_lt (b := 1000) (by omega) (by decide)), hs, bd2_e]
  · rw [if_neg (show ¬ (128 : Int32) < nI K from nI_nlt (a := 128) (by omega) (by decide)), nm_q, if_neg (by decide), if_neg h4, e1, nm_q, if_neg h2, bd1_e, if_pos (nI_lt (by omega) (by omega)), hs, bd2_e]
