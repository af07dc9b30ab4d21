theorem bd6_e {α1 α2 α3 α4 α5 α6 β : Type} {a1 : α1} {a2 : α2} {a3 : α3} {a4 : α4} {a5 : α5} {a6 : α6} {k : α1 → α2 → α3 → α4 → α5 → α6 → Option β} : bd6 (some (a1, a2, a3, a4, a5, a6)) k = k a1 a2 a3 a4 a5 a6 := rfl
theorem bd7_e {α1 α2 α3 α4 α5 α6 α7 β : Type} {a1 : α1} {a2 : α2} {a3 : α3} {a4 : α4} {a5 : α5} {a6 : α6} {a7 : α7} {k : α1 → α2 → α3 → α4 → α5 → α6 → α7 → Option β} : bd7 (some (a1, a2, a3, a4, a5, a6, a7)) k = k a1 a2 a3 a4 a5 a6 a7 := rfl
theorem bd8_e {α1 α2 α3 α4 α5 α6 α7 α8 β : Type} {a1 : α1} {a2 : α2} {a3 : α3} {a4 : α4} {a5 : α5} {a6 : α6} {a7 : α7} {a8 : α8} {k : α1 → α2 → α3 → α4 → α5 → α6 → α7 → α8 → Option β} : bd8 (some (a1, a2, a3, a4, a5, a6, a7, a8)) k = k a1 a2 a3 a4 a5 a6 a7 a8 := rfl
theorem bd9_e {α1 α2 α3 α4 α5 α6 α7 α8 α9 β : Type} {a1 : α1} {a2 : α2} {a3 : α3} {a4 : α4} {a5 : α5} {a6 : α6} {a7 : α7} {a8 : α8} {a9 : α9} {k : α1 → α2 → α3 → α4 → α5 → α6 → α7 → α8 → α9 → Option β} : bd9 (some (a1, a2, a3, a4, a5, a6, a7, a8, a9)) k = k a1 a2 a3 a4 a5 a6 a7 a8 a9 := rfl
theorem bd10_e {α1 α2 α3 α4 α5 α6 α7 α8 α9 α10 β : Type} {a1 : α1} {a2 : α2} {a3 : α3} {a4 : α4} {a5 : α5} {a6 : α6} {a7 : α7} {a8 : α8} {a9 : α9} {a10 : α10} {k : α1 → α2 → α3 → α4 → α5 → α6 → α7 → α8 → α9 → α10 → Option β} : bd10 (some (a1, a2, a3, a4, a5, a6, a7, a8, a9, a10)) k = k a1 a2 a3 a4 a5 a6 a7 a8 a9 a10 := rfl
theorem bd11_e {α1 α2 α3 α4 α5 α6 α7 α8 α9 α10 α11 β : Type} {a1 : α1} {a2 : α2} {a3 : α3} {a4 : α4} {a5 : α5} {a6 : α6} {a7 : α7} {a8 : α8} {a9 : α9} {a10 : α10} {a11 : α11} {k : α1 → α2 → α3 → α4 → α5 → α6 → α7 → α8 → α9 → α10 → α11 → Option β} : bd11 (some (a1, a2, a3, a4, a5, a6, a7, a8, a9, a10, a11)) k = k a1 a2 a3 a4 a5 a6 a7 a8 a9 a10 a11 := rfl
theorem bd12_e {α1 α2 α3 α4 α5 α6 α7 α8 α9 α10 α11 α12 β : Type} {a1 : α1} {a2 : α2} {a3 : α3} {a4 : α4} {a5 : α5} {a6 : α6} {a7 : α7} {a8 : α8} {a9 : α9} {a10 : α10} {a11 : α11} {a12 : α12} {k : α1 → α2 → α3 → α4 → α5 → α6 → α7 → α8 → α9 → α10 → α11 → α12 → Option β} : bd12 (some (a1, a2, a3, a4, a5, a6, a7, a8, a9, a10, a11, a12)) k = k a1 a2 a3 a4 a5 a6 a7 a8 a9 a10 a11 a12 := rfl
theorem bd13_e {α1 α2 α3 α4 α5 α6 α7 α8 α9 α10 α11 α12 α13 β : Type} {a1 : α1} {a2 : α2} {a3 : α3} {a4 : α4} {a5 : α5} {a6 : α6} {a7 : α7} {a8 : α8} {a9 : α9} {a10 : α10} {a11 : α11} {a12 : α12} {a13 : α13} {k : α1 → α2 → α3 → α4 → α5 → α6 → α7 → α8 → α9 → α10 → α11 → α12 → α13 → Option β} : bd13 (some (a1, a2, a3, a4, a5, a6, a7, a8, a9, a10, a11, a12, a13)) k = k a1 a2 a3 a4 a5 a6 a7 a8 a9 a10 a11 a12 a13 := rfl
theorem bd15_e {α1 α2 α3 α4 α5 α6 α7 α8 α9 α10 α11 α12 α13 α14 α15 β : Type} {a1 : α1} {a2 : α2} {a3 : α3} {a4 : α4} {a5 : α5} {a6 : α6} {a7 : α7} {a8 : α8} {a9 : α9} {a10 : α10} {a11 : α11} {a12 : α12} {a13 : α13} {a14 : α14} {a15 : α15} {k : α1 → α2 → α3 → α4 → α5 → α6 → α7 → α8 → α9 → α10 → α11 → α12 → α13 → α14 → α15 → Option β} : bd15 (some (a1, a2, a3, a4, a5, a6, a7, a8, a9, a10, a11, a12, a13, a14, a15)) k = k a1 a2 a3 a4 a5 a6 a7 a8 a9 a10 a11 a12 a13 a14 a15 := rfl
theorem bd35_e {α1 α2 α3 α4 α5 α6 α7 α8 α9 α10 α11 α12 α13 α14 α15 α16 α17 α18 α19 α20 α21 α22 α23 α24 α25 α26 α27 α28 α29 α30 α31 α32 α33 α34 α35 β : Type} {a1 : α1} {a2 : α2} {a3 : α3} {a4 : α4} {a5 : α5} {a6 : α6} {a7 : α7} {a8 : α8} {a9 : α9} {a10 : α10} {a11 : α11} {a12 : α12} {a13 : α13} {a14 : α14} {a15 : α15} {a16 : α16} {a17 : α17} {a18 : α18} {a19 : α19} {a20 : α20} {a21 : α21} {a22 : α22} {a23 : α23} {a24 : α24} {a25 : α25} {a26 : α26} {a27 : α27} {a28 : α28} {a29 : α29} {a30 : α30} {a31 : α31} {a32 : α32} {a33 : α33} {a34 : α34} {a35 : α35} {k : α1 → α2 → α3 → α4 → α5 → α6 → α7 → α8 → α9 → α10 → α11 → α12 → α13 → α14 → α15 → α16 → α17 → α18 → α19 → α20 → α21 → α22 → α23 → α24 → α25 → α26 → α27 → α28 → α29 → α30 → α31 → α32 → α33 → α34 → α35 → Option β} : bd35 (some (a1, a2, a3, a4, a5, a6, a7, a8, a9, a10, a11, a12, a13, a14, a15, a16, a17, a18, a19, a20, a21, a22, a23, a24, a25, a26, a27, a28, a29, a30, a31, a32, a33, a34, a35)) k = k a1 a2 a3 a4 a5 a6 a7 a8 a9 a10 a11 a12 a13 a14 a15 a16 a17 a18 a19 a20 a21 a22 a23 a24 a25 a26 a27 a28 a29 a30 a31 a32 a33 a34 a35 := rfl
/-- the reference's end: OUT is what was made -/
theorem d207 {N m : Nat} (hN : 6001 ≤ N) (hm : m ≤ 6000) {g ol wn yi : Int32} {yl vo made yw yp yc yh yo : Nat → Int32} {ox : Nat → Int64} (h : ∀ k, k < m → made k = nI (wby ox k)) :
    ∃ vo', f_MM_describe_b207 N g yl ol (nI (8 * m)) wn yi vo made yw yp yc yh yo = some (nI m, nI m, nI (8 * m), wn, yi, vo', made, yw, yp, yc, yh, yo) ∧ Same ox vo' m := by
  obtain ⟨vo', p1, p2⟩ := give_n (N := N) hN hm (made := made) ol vo
  refine ⟨vo', ?_, fun k hk => by rw [p2 k hk]; exact h k hk⟩
  unfold f_MM_describe_b207
  rw [p1, bd3_e]
theorem n1000 {m : Nat} (h : m ≤ 999) : ¬ nI m = (1000 : Int32) := fun q => by have := (nI_eq (b := 1000) (by omega) (by decide)).mp q; omega
theorem nl1000 {m : Nat} (h : m ≤ 1000) : ¬ (1000 : Int32) < nI m := nI_nlt (a := 1000) h (by decide)
theorem l1000 {m : Nat} (h : m < 1000) : nI m < (1000 : Int32) := nI_lt (b := 1000) h (by decide)
theorem describe_plain {N T K : Nat} (hN : 6001 ≤ N) (hK1 : 1 ≤ K) (hK : K ≤ 255) {w : Nat → Nat} (hw : ∀ k, k < K → w k < 12) (hC : Cts K (fun v => cc w v K)) {xl yl xw xc yw : Nat → Int32} (hxw : ∀ k, k < K → xw k = nI (w k)) (hyw : ∀ k, k < K → yw k = nI (w k)) {no : Nat} (hno : no ≤ 6000) {ox : Nat → Int64} {oy made yp yc yh yo : Nat → Int32} (ho : Same ox oy no) {bm yi : Int32} {fu : Int32} {fv : Nat → Int64} {fo : Int32} {fp fc fq fw ft fb fr fs fn fk : Nat → Int32} {su : Int32} {sv : Nat → Int64} {so : Int32} {sp sc sq sw st sb sr ss sn sk : Nat → Int32} (hm : ¬ (2 ≤ K ∧ cc w (w 0) K < K)) :
    ∃ r no' ox' oy' fu' fv' fo' fp' fc' fq' fw' ft' fb' fr' fs' fn' fk' su' sv' so' sp' sc' sq' sw' st' sb' sr' ss' sn' sk' xw' xc' bm' wn' yi' made' yw' yp' yc' yh' yo', f_Writer_describeCodes_b36 N (nI 5) (nI 256) 33 (nI 6) (nI 256) 33 (nI T) (nI K) xl (nI 6000) 751 (nI K) 0 fu 0 0 fv fo fp fc fq fw ft fb fr fs fn fk su 0 0 sv so sp sc sq sw st sb sr ss sn sk xw xc (nI no) ox = some (r, fu', 0, 0, fv', fo', fp', fc', fq', fw', ft', fb', fr', fs', fn', fk', su', 0, 0, sv', so', sp', sc', sq', sw', st', sb', sr', ss', sn', sk', xw', xc', nI no', ox') ∧ f_MM_describe_b68 N (nI T) yl (nI no) bm (nI K) yi oy made yw yp yc yh yo = some (r, nI no', bm', wn', yi', oy', made', yw', yp', yc', yh', yo') ∧ no' ≤ 6000 ∧ Same ox' oy' no' := by
  have eY : ∀ s0, f_MM_describe_b94 N (nI T) yl s0 (nI no) bm (nI K) yi oy made yw yp yc yh yo = f_MM_describe_b172 N (nI T) yl s0 1000 5 (nI no) bm (nI K) yi oy made yw yp yc yh yo := by
    intro s0
    unfold f_MM_describe_b94
    by_cases h2 : K < 2
    · rw [if_pos (show nI K < (2 : Int32) from nI_lt (b := 2) h2 (by decide))]
    · have h3 : ¬ 2 ≤ df w K 12 := fun q => hm ⟨by omega, (df_mix hw hC).mp q⟩
      rw [if_neg (show ¬ nI K < (2 : Int32) from nI_nlt (b := 2) (by omega) (by omega)), different_ok (by omega) hK hw hyw hC, bd1_e, if_pos (show nI (df w K 12) < (2 : Int32) from nI_lt (b := 2) (by omega) (by decide))]
  unfold f_Writer_describeCodes_b36 f_MM_describe_b68
  rw [if_pos rfl, dir_n hK]
  by_cases h : 128 < K
  · rw [d75_no0 h hK, if_pos (show (128 : Int32) < nI K from nI_lt (a := 128) h (by omega)), eY]
    unfold f_MM_describe_b172
    rw [if_pos rfl, if_pos rfl]
    exact ⟨-2, no, ox, oy, fu, fv, fo, fp, fc, fq, fw, ft, fb, fr, fs, fn, fk, su, sv, so, sp, sc, sq, sw, st, sb, sr, ss, sn, sk, xw, xc, bm, nI K, yi, made, yw, yp, yc, yh, yo,  rfl, rfl, hno, ho⟩
  · obtain ⟨ox', made', d1, d2, d3⟩ := direct_ok (N := N) hN (by omega) (fun k hk => by have := hw k hk; omega) hxw hyw ox made bm
    rw [d75_dir0 (by omega) d1, if_neg (show ¬ (128 : Int32) < nI K from nI_nlt (a := 128) (by omega) (by decide)), eY]
    unfold f_MM_describe_b172 f_MM_describe_b189
    rw [if_neg (n1000 (by omega)), if_neg (nl1000 (by omega)), d2, bd2_e]
    obtain ⟨vo', g1, g2⟩ := d207 (N := N) (m := 1 + (K + 1) / 2) hN (by omega) (g := nI T) (ol := nI no) (wn := nI K) (yi := yi) (yl := yl) (vo := oy) (yw := yw) (yp := yp) (yc := yc) (yh := yh) (yo := yo) d3
    rw [g1]
    exact ⟨nI (1 + (K + 1) / 2), 1 + (K + 1) / 2, ox', vo', fu, fv, fo, fp, fc, fq, fw, ft, fb, fr, fs, fn, fk, su, sv, so, sp, sc, sq, sw, st, sb, sr, ss, sn, sk, xw, xc, _, nI K, yi, made', yw, yp, yc, yh, yo,  rfl, rfl, by omega, g2⟩
theorem describe_mixed {N T K : Nat} (hN : 6001 ≤ N) (hK1 : 1 ≤ K) (hK : K ≤ 255) {w : Nat → Nat} (hw : ∀ k, k < K → w k < 12) (hC : Cts K (fun v => cc w v K)) {xl yl xw xc yw : Nat → Int32} (hxw : ∀ k, k < K → xw k = nI (w k)) (hyw : ∀ k, k < K → yw k = nI (w k)) {no : Nat} (hno : no ≤ 6000) {ox : Nat → Int64} {oy made yp yc yh yo : Nat → Int32} (ho : Same ox oy no) {bm yi : Int32} {fu : Int32} {fv : Nat → Int64} {fo : Int32} {fp fc fq fw ft fb fr fs fn fk : Nat → Int32} {su : Int32} {sv : Nat → Int64} {so : Int32} {sp sc sq sw st sb sr ss sn sk : Nat → Int32} (hxc : ∀ v, v < 12 → xc v = nI (cc w v K)) (hm2 : 2 ≤ K) (hm : cc w (w 0) K < K) :
    ∃ r no' ox' oy' fu' fv' fo' fp' fc' fq' fw' ft' fb' fr' fs' fn' fk' su' sv' so' sp' sc' sq' sw' st' sb' sr' ss' sn' sk' xw' xc' bm' wn' yi' made' yw' yp' yc' yh' yo', f_Writer_describeCodes_b36 N (nI 5) (nI 256) 33 (nI 6) (nI 256) 33 (nI T) (nI K) xl (nI 6000) 751 (nI K) 1 fu 0 0 fv fo fp fc fq fw ft fb fr fs fn fk su 0 0 sv so sp sc sq sw st sb sr ss sn sk xw xc (nI no) ox = some (r, fu', 0, 0, fv', fo', fp', fc', fq', fw', ft', fb', fr', fs', fn', fk', su', 0, 0, sv', so', sp', sc', sq', sw', st', sb', sr', ss', sn', sk', xw', xc', nI no', ox') ∧ f_MM_describe_b68 N (nI T) yl (nI no) bm (nI K) yi oy made yw yp yc yh yo = some (r, nI no', bm', wn', yi', oy', made', yw', yp', yc', yh', yo') ∧ no' ≤ 6000 ∧ Same ox' oy' no' := by
  have hM : Mix K w := mix_of hK hw hC hm hm2
  have h3 : 2 ≤ df w K 12 := (df_mix hw hC).mpr hm
  have h12 := df_le (w := w) (K := K)
  obtain ⟨a, fv2, fp2, fc2, fq2, fw2, ft2, fb2, fr2, fs2, fn2, fk2, yp1, yc1, yh1, yo1, made1, a1, a2, a3, a4, a5⟩ := compose_ok (N := N) hN (o := 5) (Or.inl rfl) hM hxw hyw hxc fu fv fo yi bm fp fc fq fw ft fb fr fs fn fk yp yc yh yo made
  obtain ⟨b, sv2, sp2, sc2, sq2, sw2, st2, sb2, sr2, ss2, sn2, sk2, yp2, yc2, yh2, yo2, made2, b1, b2, b3, b4, b5⟩ := compose_ok (N := N) hN (o := 6) (Or.inr rfl) hM hxw hyw hxc su sv so (nI 5) (nI (8 * (a + 1))) sp sc sq sw st sb sr ss sn sk yp1 yc1 yh1 yo1 made1
  -- the chosen one, written once more by the reference
  obtain ⟨a', fv3, fp3, fc3, fq3, fw3, ft3, fb3, fr3, fs3, fn3, fk3, yp3, yc3, yh3, yo3, made3, c1, c2, c3, c4, c5⟩ := compose_ok (N := N) hN (o := 5) (Or.inl rfl) hM hxw hyw hxc fu fv fo (nI 6) (nI (8 * (b + 1))) fp fc fq fw ft fb fr fs fn fk yp2 yc2 yh2 yo2 made2
  obtain ⟨b', sv3, sp3, sc3, sq3, sw3, st3, sb3, sr3, ss3, sn3, sk3, yp4, yc4, yh4, yo4, made4, e1, e2, e3, e4, e5⟩ := compose_ok (N := N) hN (o := 6) (Or.inr rfl) hM hxw hyw hxc su sv so (nI 6) (nI (8 * (b + 1))) sp sc sq sw st sb sr ss sn sk yp2 yc2 yh2 yo2 made2
  have haa : a' = a ∧ fv3 = fv2 := by
    rw [a1] at c1
    have := Option.some.inj c1
    exact ⟨((nI_eq (by omega) (by omega)).mp (congrArg (fun t => t.1) this)).symm, (congrArg (fun t => t.2.2.2.1) this).symm⟩
  have hbb : b' = b ∧ sv3 = sv2 := by
    rw [b1] at e1
    have := Option.some.inj e1
    exact ⟨((nI_eq (by omega) (by omega)).mp (congrArg (fun t => t.1) this)).symm, (congrArg (fun t => t.2.2.2.1) this).symm⟩
  obtain ⟨rfl, rfl⟩ := haa
  obtain ⟨rfl, rfl⟩ := hbb
  have eX : f_Writer_describeCodes_b36 N (nI 5) (nI 256) 33 (nI 6) (nI 256) 33 (nI T) (nI K) xl (nI 6000) 751 (nI K) 1 fu 0 0 fv fo fp fc fq fw ft fb fr fs fn fk su 0 0 sv so sp sc sq sw st sb sr ss sn sk xw xc (nI no) ox = f_Writer_describeCodes_b75 N (nI 5) (nI 256) 33 (nI 6) (nI 256) 33 (nI T) (nI K) xl (nI 6000) 751 (nI K) 1 (nI a') 0 0 fv3 (nI 5) fp2 fc2 fq2 fw2 ft2 fb2 fr2 fs2 fn2 fk2 (nI b') 0 0 sv3 (nI 6) sp2 sc2 sq2 sw2 st2 sb2 sr2 ss2 sn2 sk2 xw xc (nI no) ox := by
    unfold f_Writer_describeCodes_b36
    rw [if_neg (by decide), a1, bd15_e, b1, bd15_e]
  obtain ⟨D, hD, hD2⟩ : ∃ D, f_MM_describe_b68 N (nI T) yl (nI no) bm (nI K) yi oy made yw yp yc yh yo = f_MM_describe_b94 N (nI T) yl D (nI no) bm (nI K) yi oy made yw yp yc yh yo ∧ ((128 < K ∧ D = 1000) ∨ (K ≤ 128 ∧ D = nI (1 + (K + 1) / 2))) := by
    unfold f_MM_describe_b68
    by_cases h : 128 < K
    · exact ⟨1000, by rw [if_pos (show (128 : Int32) < nI K from nI_lt (a := 128) h (by omega))], Or.inl ⟨h, rfl⟩⟩
    · exact ⟨nI (1 + (K + 1) / 2), by rw [if_neg (show ¬ (128 : Int32) < nI K from nI_nlt (a := 128) (by omega) (by decide)), dir_n hK], Or.inr ⟨by omega, rfl⟩⟩
  have eY : f_MM_describe_b94 N (nI T) yl D (nI no) bm (nI K) yi oy made yw yp yc yh yo = if nI (a' + 1) ≤ nI (b' + 1) then f_MM_describe_b145 N (nI T) yl D (nI (a' + 1)) (nI (b' + 1)) 5 (nI no) (nI (8 * (b' + 1))) (nI K) (nI 6) oy made2 yw yp2 yc2 yh2 yo2 else f_MM_describe_b145 N (nI T) yl D (nI (a' + 1)) (nI (b' + 1)) 6 (nI no) (nI (8 * (b' + 1))) (nI K) (nI 6) oy made2 yw yp2 yc2 yh2 yo2 := by
    have a2' : f_MM_putStates N (nI K) yw 5 bm yi made yp yc yh yo = _ := a2
    have b2' : f_MM_putStates N (nI K) yw 6 (nI (8 * (a' + 1))) (nI 5) made1 yp1 yc1 yh1 yo1 = _ := b2
    unfold f_MM_describe_b94
    rw [if_neg (show ¬ nI K < (2 : Int32) from nI_nlt (b := 2) (by omega) (by omega)), different_ok (by omega) hK hw hyw hC, bd1_e, if_neg (show ¬ nI (df w K 12) < (2 : Int32) from nI_nlt (b := 2) (by omega) (by omega)), a2', bd8_e, b2', bd8_e]
  have c2' : f_MM_putStates N (nI K) yw 5 (nI (8 * (b' + 1))) (nI 6) made2 yp2 yc2 yh2 yo2 = _ := c2
  have e2' : f_MM_putStates N (nI K) yw 6 (nI (8 * (b' + 1))) (nI 6) made2 yp2 yc2 yh2 yo2 = _ := e2
  obtain ⟨oxf, sf1, sf2, sf3⟩ := statesX_ok (N := N) (a := a') (by omega) a3 (fv := fv3) ox
  obtain ⟨oxs, ss1, ss2', ss3'⟩ := statesX_ok (N := N) (a := b') (by omega) b3 (fv := sv3) ox
  have hmf : ∀ k, k < a' + 1 → made3 k = nI (wby oxf k) := by
    intro k hk
    rcases Nat.eq_zero_or_pos k with q | q
    · rw [q, sf2]; exact c4
    · obtain ⟨j, rfl⟩ : ∃ j, k = j + 1 := ⟨k - 1, by omega⟩
      rw [sf3 j (by omega)]; exact c5 j (by omega)
  have hms : ∀ k, k < b' + 1 → made4 k = nI (wby oxs k) := by
    intro k hk
    rcases Nat.eq_zero_or_pos k with q | q
    · rw [q, ss2']; exact e4
    · obtain ⟨j, rfl⟩ : ∃ j, k = j + 1 := ⟨k - 1, by omega⟩
      rw [ss3' j (by omega)]; exact e5 j (by omega)
  obtain ⟨vof, gf1, gf2⟩ := d207 (N := N) (m := a' + 1) hN (by omega) (g := nI T) (ol := nI no) (wn := nI K) (yi := nI 5) (yl := yl) (vo := oy) (yw := yw) (yp := yp3) (yc := yc3) (yh := yh3) (yo := yo3) hmf
  obtain ⟨vos, gs1, gs2⟩ := d207 (N := N) (m := b' + 1) hN (by omega) (g := nI T) (ol := nI no) (wn := nI K) (yi := nI 6) (yl := yl) (vo := oy) (yw := yw) (yp := yp4) (yc := yc4) (yh := yh4) (yo := yo4) hms
  have dirY : K ≤ 128 → ∃ ox' vo' bm' made', f_Writer_putDirect N xw (nI 6000) 751 (nI K) 0 ox = some (nI (1 + (K + 1) / 2), ox') ∧ (bd2 (f_MM_putDirect N (nI K) yw (nI (8 * (b' + 1))) made2) fun i_bitsMade_11 v_made_12 => f_MM_describe_b207 N (nI T) yl (nI no) i_bitsMade_11 (nI K) (nI 6) oy v_made_12 yw yp2 yc2 yh2 yo2) = some (nI (1 + (K + 1) / 2), nI (1 + (K + 1) / 2), bm', nI K, nI 6, vo', made', yw, yp2, yc2, yh2, yo2) ∧ Same ox' vo' (1 + (K + 1) / 2) := by
    intro hK8
    obtain ⟨ox', made', d1, d2, d3⟩ := direct_ok (N := N) hN hK8 (fun k hk => by have := hw k hk; omega) hxw hyw ox made2 (nI (8 * (b' + 1)))
    obtain ⟨vo', g1, g2⟩ := d207 (N := N) (m := 1 + (K + 1) / 2) hN (by omega) (g := nI T) (ol := nI no) (wn := nI K) (yi := nI 6) (yl := yl) (vo := oy) (yw := yw) (yp := yp2) (yc := yc2) (yh := yh2) (yo := yo2) d3
    exact ⟨ox', vo', _, made', d1, by rw [d2, bd2_e, g1], g2⟩
  rw [eX, hD, eY]
  by_cases hab : a' ≤ b'
  · rw [if_pos (nI_le (by omega) (by omega))]
    unfold f_MM_describe_b145
    rw [if_pos (nI_le (by omega) (by omega))]
    unfold f_MM_describe_b160
    by_cases h8 : 128 ≤ a'
    · rw [if_neg (show ¬ nI (a' + 1) ≤ (128 : Int32) from nle_lit (b := 128) (by omega) (by omega))]
      unfold f_MM_describe_b172 f_MM_describe_b189
      rcases hD2 with ⟨k1, rfl⟩ | ⟨k1, rfl⟩
      · rw [if_pos rfl, if_pos rfl, d75_nof a3 b3 hab k1 hK h8]
        exact ⟨-2, no, ox, oy, nI a', fv3, nI 5, fp2, fc2, fq2, fw2, ft2, fb2, fr2, fs2, fn2, fk2, nI b', sv3, nI 6, sp2, sc2, sq2, sw2, st2, sb2, sr2, ss2, sn2, sk2, xw, xc, _, nI K, _, _, yw, _, _, _, _,  rfl, rfl, hno, ho⟩
      · obtain ⟨ox', vo', bm', made', d1, d2, d3⟩ := dirY k1
        rw [if_neg (n1000 (by omega)), if_neg (nl1000 (by omega)), d75_dirf a3 b3 hab k1 (Or.inl h8) d1, d2]
        exact ⟨nI (1 + (K + 1) / 2), 1 + (K + 1) / 2, ox', vo', nI a', fv3, nI 5, fp2, fc2, fq2, fw2, ft2, fb2, fr2, fs2, fn2, fk2, nI b', sv3, nI 6, sp2, sc2, sq2, sw2, st2, sb2, sr2, ss2, sn2, sk2, xw, xc, _, nI K, _, _, yw, _, _, _, _,  rfl, rfl, by omega, d3⟩
    · rw [if_pos (le_lit (b := 128) (by omega) (by decide))]
      unfold f_MM_describe_b172 f_MM_describe_b189
      rcases hD2 with ⟨k1, rfl⟩ | ⟨k1, rfl⟩
      · rw [if_pos rfl, if_neg (n1000 (by omega)), if_pos (l1000 (by omega)), c2', bd8_e]
        rw [gf1, d75_stf a3 b3 hab hK (by omega) (Or.inl k1) sf1]
        exact ⟨nI (a' + 1), a' + 1, oxf, vof, nI a', fv3, nI 5, fp2, fc2, fq2, fw2, ft2, fb2, fr2, fs2, fn2, fk2, nI b', sv3, nI 6, sp2, sc2, sq2, sw2, st2, sb2, sr2, ss2, sn2, sk2, xw, xc, _, nI K, _, _, yw, _, _, _, _,  by rw [show 1 + a' = a' + 1 by omega], rfl, by omega, gf2⟩
      · rw [if_neg (n1000 (by omega))]
        by_cases h9 : a' + 1 < 1 + (K + 1) / 2
        · rw [if_pos (nI_lt h9 (by omega)), c2', bd8_e]
          rw [gf1, d75_stf a3 b3 hab hK (by omega) (Or.inr (by omega)) sf1]
          exact ⟨nI (a' + 1), a' + 1, oxf, vof, nI a', fv3, nI 5, fp2, fc2, fq2, fw2, ft2, fb2, fr2, fs2, fn2, fk2, nI b', sv3, nI 6, sp2, sc2, sq2, sw2, st2, sb2, sr2, ss2, sn2, sk2, xw, xc, _, nI K, _, _, yw, _, _, _, _,  by rw [show 1 + a' = a' + 1 by omega], rfl, by omega, gf2⟩
        · obtain ⟨ox', vo', bm', made', d1, d2, d3⟩ := dirY k1
          rw [if_neg (nI_nlt (by omega) (by omega)), d75_dirf a3 b3 hab k1 (Or.inr (by omega)) d1, d2]
          exact ⟨nI (1 + (K + 1) / 2), 1 + (K + 1) / 2, ox', vo', nI a', fv3, nI 5, fp2, fc2, fq2, fw2, ft2, fb2, fr2, fs2, fn2, fk2, nI b', sv3, nI 6, sp2, sc2, sq2, sw2, st2, sb2, sr2, ss2, sn2, sk2, xw, xc, _, nI K, _, _, yw, _, _, _, _,  rfl, rfl, by omega, d3⟩
  · rw [if_neg (nI_ge (by omega) (by omega))]
    unfold f_MM_describe_b145
    rw [if_neg (nI_ge (by omega) (by omega))]
    unfold f_MM_describe_b160
    by_cases h8 : 128 ≤ b'
    · rw [if_neg (show ¬ nI (b' + 1) ≤ (128 : Int32) from nle_lit (b := 128) (by omega) (by omega))]
      unfold f_MM_describe_b172 f_MM_describe_b189
      rcases hD2 with ⟨k1, rfl⟩ | ⟨k1, rfl⟩
      · rw [if_pos rfl, if_pos rfl, d75_nos a3 b3 (Nat.lt_of_not_le hab) k1 hK h8]
        exact ⟨-2, no, ox, oy, nI a', fv3, nI 5, fp2, fc2, fq2, fw2, ft2, fb2, fr2, fs2, fn2, fk2, nI b', sv3, nI 6, sp2, sc2, sq2, sw2, st2, sb2, sr2, ss2, sn2, sk2, xw, xc, _, nI K, _, _, yw, _, _, _, _,  rfl, rfl, hno, ho⟩
      · obtain ⟨ox', vo', bm', made', d1, d2, d3⟩ := dirY k1
        rw [if_neg (n1000 (by omega)), if_neg (nl1000 (by omega)), d75_dirs a3 b3 (Nat.lt_of_not_le hab) k1 (Or.inl h8) d1, d2]
        exact ⟨nI (1 + (K + 1) / 2), 1 + (K + 1) / 2, ox', vo', nI a', fv3, nI 5, fp2, fc2, fq2, fw2, ft2, fb2, fr2, fs2, fn2, fk2, nI b', sv3, nI 6, sp2, sc2, sq2, sw2, st2, sb2, sr2, ss2, sn2, sk2, xw, xc, _, nI K, _, _, yw, _, _, _, _,  rfl, rfl, by omega, d3⟩
    · rw [if_pos (le_lit (b := 128) (by omega) (by decide))]
      unfold f_MM_describe_b172 f_MM_describe_b189
      rcases hD2 with ⟨k1, rfl⟩ | ⟨k1, rfl⟩
      · rw [if_pos rfl, if_neg (n1000 (by omega)), if_pos (l1000 (by omega)), e2', bd8_e]
        rw [gs1, d75_sts a3 b3 (Nat.lt_of_not_le hab) hK (by omega) (Or.inl k1) ss1]
        exact ⟨nI (b' + 1), b' + 1, oxs, vos, nI a', fv3, nI 5, fp2, fc2, fq2, fw2, ft2, fb2, fr2, fs2, fn2, fk2, nI b', sv3, nI 6, sp2, sc2, sq2, sw2, st2, sb2, sr2, ss2, sn2, sk2, xw, xc, _, nI K, _, _, yw, _, _, _, _,  by rw [show 1 + b' = b' + 1 by omega], rfl, by omega, gs2⟩
      · rw [if_neg (n1000 (by omega))]
        by_cases h9 : b' + 1 < 1 + (K + 1) / 2
        · rw [if_pos (nI_lt h9 (by omega)), e2', bd8_e]
          rw [gs1, d75_sts a3 b3 (Nat.lt_of_not_le hab) hK (by omega) (Or.inr (by omega)) ss1]
          exact ⟨nI (b' + 1), b' + 1, oxs, vos, nI a', fv3, nI 5, fp2, fc2, fq2, fw2, ft2, fb2, fr2, fs2, fn2, fk2, nI b', sv3, nI 6, sp2, sc2, sq2, sw2, st2, sb2, sr2, ss2, sn2, sk2, xw, xc, _, nI K, _, _, yw, _, _, _, _,  by rw [show 1 + b' = b' + 1 by omega], rfl, by omega, gs2⟩
        · obtain ⟨ox', vo', bm', made', d1, d2, d3⟩ := dirY k1
          rw [if_neg (nI_nlt (by omega) (by omega)), d75_dirs a3 b3 (Nat.lt_of_not_le hab) k1 (Or.inr (by omega)) d1, d2]
          exact ⟨nI (1 + (K + 1) / 2), 1 + (K + 1) / 2, ox', vo', nI a', fv3, nI 5, fp2, fc2, fq2, fw2, ft2, fb2, fr2, fs2, fn2, fk2, nI b', sv3, nI 6, sp2, sc2, sq2, sw2, st2, sb2, sr2, ss2, sn2, sk2, xw, xc, _, nI K, _, _, yw, _, _, _, _,  rfl, rfl, by omega, d3⟩
theorem top_loopY {N : Nat} {len : Nat → Nat} {yl : Nat → Int32} (hyl : ∀ s, s < 256 → yl s = nI (len s)) (hb : ∀ s, s < 256 → len s < 2 ^ 30) {K : Nat} (hK : K ≤ 255) (hK0 : len K ≠ 0) (hab : ∀ s, K < s → s < 256 → len s = 0) {g ol bm yi : Int32} {vo made yw yp yc yh yo : Nat → Int32} : ∀ (d z : Nat), K + d ≤ 255 → d < z →
    f_MM_describe_b16 N g yl z ol bm (nI (K + d)) yi vo made yw yp yc yh yo = f_MM_describe_b41 N g yl ol bm (nI K) yi vo made yw yp yc yh yo := by
  intro d
  induction d with
  | zero =>
    intro z h1 h2
    obtain ⟨z, rfl⟩ := z_succ h2
    have := hb K (by omega)
    rw [f_MM_describe_b16, Nat.add_zero, ck_n (by omega) (by decide), nI_clamp (by omega), hyl K (by omega), if_neg (nI_ne0 (by omega) (by omega))]
  | succ d ih =>
    intro z h1 h2
    obtain ⟨z, rfl⟩ := z_succ h2
    rw [f_MM_describe_b16, ck_n (by omega) (by decide), nI_clamp (by omega), hyl _ (by omega), hab (K + (d + 1)) (by omega) (by omega), if_pos (show nI 0 = 0 from rfl), nm_q, show nI (K + (d + 1)) - (1 : Int32) = nI (K + d) from nI_pred _]
    exact ih z (by omega) (by omega)
theorem weightsY {N T K : Nat} (hT1 : T ≤ 11) (hK : K ≤ 255) {len : Nat → Nat} (hT : ∀ s, s < 256 → len s ≤ T) {yl : Nat → Int32} (hyl : ∀ s, s < 256 → yl s = nI (len s)) {ol bm yi : Int32} {vo made yp yc yh yo : Nat → Int32} : ∀ (d s z : Nat) (yw : Nat → Int32), K = s + d → d < z → (∀ k, k < s → yw k = nI (wt T len k)) →
    ∃ yw', f_MM_describe_b43 N (nI T) yl z (nI s) ol bm (nI K) yi vo made yw yp yc yh yo = f_MM_describe_b68 N (nI T) yl ol bm (nI K) yi vo made yw' yp yc yh yo ∧ ∀ k, k < K → yw' k = nI (wt T len k) := by
  intro d
  induction d with
  | zero =>
    intro s z yw h1 h2 h3
    obtain ⟨z, rfl⟩ := z_succ h2
    obtain rfl : s = K := by omega
    refine ⟨yw, ?_, h3⟩
    rw [f_MM_describe_b43, if_pos (nI_le (Nat.le_refl _) (by omega))]
  | succ d ih =>
    intro s z yw h1 h2 h3
    obtain ⟨z, rfl⟩ := z_succ h2
    obtain ⟨yw', p1, p2⟩ := ih (s + 1) z (upd yw s (nI (wt T len s))) (by omega) (by omega) (by
      intro k hk
      by_cases e : k = s
      · rw [e, pk_us]
      · rw [pk_un e]; exact h3 k (by omega))
    refine ⟨yw', ?_, p2⟩
    rw [f_MM_describe_b43, if_neg (nI_ge (by omega) (by omega)), weightOf_n hyl (by omega) (by omega) (hT s (by omega)), bd1_e, ck_n (by omega) (by decide), nI_clamp (by omega), nm_q, nm_q, nI_1]
    exact p1
theorem sim_describe {N : Nat} (hN : 6001 ≤ N) {T : Nat} {len : Nat → Nat} {gx kn hi gy : Int32} {xl xv xcl yl ys : Nat → Int32} (hX : CodX T len gx kn hi xl xv xcl) (hY : CodY T len gy yl ys) {no : Nat} (hno : no ≤ 6000) {ox : Nat → Int64} {oy made yw yp yc yh yo : Nat → Int32} (ho : Same ox oy no) {bm wn yi : Int32} {xw xc : Nat → Int32} {fu : Int32} {fv : Nat → Int64} {fo : Int32} {fp fc fq fw ft fb fr fs fn fk : Nat → Int32} {su : Int32} {sv : Nat → Int64} {so : Int32} {sp sc sq sw st sb sr ss sn sk : Nat → Int32} :
    ∃ r no' ox' oy' fu' fv' fo' fp' fc' fq' fw' ft' fb' fr' fs' fn' fk' su' sv' so' sp' sc' sq' sw' st' sb' sr' ss' sn' sk' xw' xc' bm' wn' yi' made' yw' yp' yc' yh' yo', f_PM_describe N (nI 6000) 751 gx hi xl (nI 5) (nI 256) 33 (nI 6) (nI 256) 33 (nI no) ox fu 0 0 fv fo fp fc fq fw ft fb fr fs fn fk su 0 0 sv so sp sc sq sw st sb sr ss sn sk xw xc = some (r, nI no', ox', fu', 0, 0, fv', fo', fp', fc', fq', fw', ft', fb', fr', fs', fn', fk', su', 0, 0, sv', so', sp', sc', sq', sw', st', sb', sr', ss', sn', sk', xw', xc') ∧ f_MM_describe N gy yl (nI no) bm wn yi oy made yw yp yc yh yo = some (r, nI no', bm', wn', yi', oy', made', yw', yp', yc', yh', yo') ∧ no' ≤ 6000 ∧ Same ox' oy' no' := by
  obtain ⟨rfl, hX⟩ := hX
  obtain ⟨rfl, hY⟩ := hY
  unfold f_PM_describe f_MM_describe
  rcases hX with h0 | ⟨hG, -, rfl, hxl, -, -⟩
  · subst h0
    rw [areThere_n (by decide), if_pos (show nI 0 = 0 from rfl)]
    exact ⟨-1, no, ox, oy, fu, fv, fo, fp, fc, fq, fw, ft, fb, fr, fs, fn, fk, su, sv, so, sp, sc, sq, sw, st, sb, sr, ss, sn, sk, xw, xc, bm, wn, yi, made, yw, yp, yc, yh, yo, rfl, rfl, hno, ho⟩
  have hT0 : T ≠ 0 := by have := hG.1; omega
  have hT1 := hG.2.1
  rcases hY with h0 | ⟨-, hyl, hyt⟩
  · exact absurd h0 hT0
  rw [areThere_n (by omega), if_neg hT0, if_neg (nI_ne0 (by omega) (by omega)), bd1_e, if_neg (by decide)]
  obtain ⟨hK1, hK, hK0, hab⟩ := top_good hG
  generalize hKK : top len 256 = K at *
  have hT := hG.le
  obtain ⟨xw1, xc1, a1, a2, a3⟩ := takeW_ok (N := N) (by omega) hT1 hK hT hxl xw xc
  have b1 := top_loopY (N := N) hyl (fun s hs => by have := hT s hs; omega) hK hK0 hab (g := nI T) (ol := nI no) (bm := bm) (yi := yi) (vo := oy) (made := made) (yw := yw) (yp := yp) (yc := yc) (yh := yh) (yo := yo) (255 - K) N (by omega) (by omega)
  rw [show K + (255 - K) = 255 by omega] at b1
  have b1' : f_MM_describe_b16 N (nI T) yl N (nI no) bm 255 yi oy made yw yp yc yh yo = _ := b1
  obtain ⟨yw1, c1, c2⟩ := weightsY (N := N) hT1 hK hT hyl (ol := nI no) (bm := bm) (yi := yi) (vo := oy) (made := made) (yp := yp) (yc := yc) (yh := yh) (yo := yo) K 0 N yw (by omega) (by omega) (fun k hk => absurd hk (by omega))
  have c1' : f_MM_describe_b41 N (nI T) yl (nI no) bm (nI K) yi oy made yw yp yc yh yo = _ := c1
  rw [b1', c1']
  have hw : ∀ k, k < K → wt T len k < 12 := fun k _ => wt_lt hT1
  have hC : Cts K (fun v => cc (wt T len) v K) := cts_wt hK1 hK hw
  have hcw0 := hw 0 (by omega)
  have hc0 : cc (wt T len) (wt T len 0) K ≤ 255 := hC.le hcw0
  by_cases hm : 2 ≤ K ∧ cc (wt T len) (wt T len 0) K < K
  · have eX : f_Writer_describeCodes N (nI 5) (nI 256) 33 (nI 6) (nI 256) 33 (nI T) (nI K) xl (nI 6000) 751 fu 0 0 fv fo fp fc fq fw ft fb fr fs fn fk su 0 0 sv so sp sc sq sw st sb sr ss sn sk xw xc (nI no) ox = f_Writer_describeCodes_b36 N (nI 5) (nI 256) 33 (nI 6) (nI 256) 33 (nI T) (nI K) xl (nI 6000) 751 (nI K) 1 fu 0 0 fv fo fp fc fq fw ft fb fr fs fn fk su 0 0 sv so sp sc sq sw st sb sr ss sn sk xw1 xc1 (nI no) ox := by
      unfold f_Writer_describeCodes
      rw [a1, bd2_e, if_neg (show ¬ nI K < (2 : Int32) from nI_nlt (b := 2) hm.1 (by omega)), ck_t (show inb 0 256 = true by decide), show Int32.toNatClampNeg 0 = 0 from rfl, a2 0 (by omega), ck_n hcw0 (by decide), nI_clamp (by omega), a3 _ hcw0, if_neg (nI_ge hm.2 (by omega))]
    rw [eX]
    obtain ⟨r, no', ox', oy', fu', fv', fo', fp', fc', fq', fw', ft', fb', fr', fs', fn', fk', su', sv', so', sp', sc', sq', sw', st', sb', sr', ss', sn', sk', xw', xc', bm', wn', yi', made', yw', yp', yc', yh', yo', p1, p2, p3, p4⟩ := describe_mixed (N := N) hN hK1 hK hw hC (xl := xl) (yl := yl) a2 c2 hno (made := made) (yp := yp) (yc := yc) (yh := yh) (yo := yo) ho (T := T) (bm := bm) (yi := yi) (fu := fu) (fv := fv) (fo := fo) (fp := fp) (fc := fc) (fq := fq) (fw := fw) (ft := ft) (fb := fb) (fr := fr) (fs := fs) (fn := fn) (fk := fk) (su := su) (sv := sv) (so := so) (sp := sp) (sc := sc) (sq := sq) (sw := sw) (st := st) (sb := sb) (sr := sr) (ss := ss) (sn := sn) (sk := sk) a3 hm.1 hm.2
    rw [p1, p2]
    exact ⟨r, no', ox', oy', fu', fv', fo', fp', fc', fq', fw', ft', fb', fr', fs', fn', fk', su', sv', so', sp', sc', sq', sw', st', sb', sr', ss', sn', sk', xw', xc', bm', wn', yi', made', yw', yp', yc', yh', yo', rfl, rfl, p3, p4⟩
  · have eX : f_Writer_describeCodes N (nI 5) (nI 256) 33 (nI 6) (nI 256) 33 (nI T) (nI K) xl (nI 6000) 751 fu 0 0 fv fo fp fc fq fw ft fb fr fs fn fk su 0 0 sv so sp sc sq sw st sb sr ss sn sk xw xc (nI no) ox = f_Writer_describeCodes_b36 N (nI 5) (nI 256) 33 (nI 6) (nI 256) 33 (nI T) (nI K) xl (nI 6000) 751 (nI K) 0 fu 0 0 fv fo fp fc fq fw ft fb fr fs fn fk su 0 0 sv so sp sc sq sw st sb sr ss sn sk xw1 xc1 (nI no) ox := by
      unfold f_Writer_describeCodes f_Writer_describeCodes_b35
      rw [a1, bd2_e]
      by_cases h2 : K < 2
      · rw [if_pos (show nI K < (2 : Int32) from nI_lt (b := 2) h2 (by decide))]
      · rw [if_neg (show ¬ nI K < (2 : Int32) from nI_nlt (b := 2) (by omega) (by omega)), ck_t (show inb 0 256 = true by decide), show Int32.toNatClampNeg 0 = 0 from rfl, a2 0 (by omega), ck_n hcw0 (by decide), nI_clamp (by omega), a3 _ hcw0, if_pos (nI_le (by omega) (by omega))]
    rw [eX]
    obtain ⟨r, no', ox', oy', fu', fv', fo', fp', fc', fq', fw', ft', fb', fr', fs', fn', fk', su', sv', so', sp', sc', sq', sw', st', sb', sr', ss', sn', sk', xw', xc', bm', wn', yi', made', yw', yp', yc', yh', yo', p1, p2, p3, p4⟩ := describe_plain (N := N) hN hK1 hK hw hC (xl := xl) (yl := yl) (xc := xc1) a2 c2 hno (made := made) (yp := yp) (yc := yc) (yh := yh) (yo := yo) ho (T := T) (bm := bm) (yi := yi) (fu := fu) (fv := fv) (fo := fo) (fp := fp) (fc := fc) (fq := fq) (fw := fw) (ft := ft) (fb := fb) (fr := fr) (fs := fs) (fn := fn) (fk := fk) (su := su) (sv := sv) (so := so) (sp := sp) (sc := sc) (sq := sq) (sw := sw) (st := st) (sb := sb) (sr := sr) (ss := ss) (sn := sn) (sk := sk) hm
    rw [p1, p2]
    exact ⟨r, no', ox', oy', fu', fv', fo', fp', fc', fq', fw', ft', fb', fr', fs', fn', fk', su', sv', so', sp', sc', sq', sw', st', sb', sr', ss', sn', sk', xw', xc', bm', wn', yi', made', yw', yp', yc', yh', yo', rfl, rfl, p3, p4⟩
