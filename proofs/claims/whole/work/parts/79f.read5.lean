theorem pow2_test : ∀ R, R < 2049 → 0 < R → ((nI R &&& (nI R - 1) = 0) ↔ 2 ^ Nat.log2 R = R) := by decide +kernel
theorem ceil_ex {R : Nat} (h1 : 1 ≤ R) (h2 : R < 2 ^ 24) : ∃ c, c ≤ 24 ∧ R ≤ 2 ^ c ∧ (∀ j, j < c → 2 ^ j < R) ∧ (2 ^ Nat.log2 R = R → c = Nat.log2 R) := by
  have h3 := Nat.log2_self_le (show R ≠ 0 by omega)
  have h4 : R < 2 ^ (Nat.log2 R + 1) := Nat.lt_log2_self
  have h5 := (Nat.log2_lt (show R ≠ 0 by omega)).mpr h2
  by_cases e : 2 ^ Nat.log2 R = R
  · refine ⟨Nat.log2 R, by omega, by omega, fun j hj => ?_, fun _ => rfl⟩
    have : 2 ^ j < 2 ^ Nat.log2 R := Nat.pow_lt_pow_right (by decide) hj
    omega
  · refine ⟨Nat.log2 R + 1, by omega, by omega, fun j hj => ?_, fun q => absurd q e⟩
    have : 2 ^ j ≤ 2 ^ Nat.log2 R := Nat.pow_le_pow_right (by decide) (by omega)
    omega
theorem uN_arr {w : Nat → Nat} {K x : Nat} {xw : Nat → Int32} (h : ∀ k, k < K → xw k = nI (w k)) : ∀ k, k < K + 1 → upd xw K (nI x) k = nI (uN w K x k) := by
  intro k hk
  by_cases e : k = K
  · rw [e, pk_us, uN_s]
  · rw [pk_un e, uN_n e]; exact h k (by omega)
theorem ws_uN {w : Nat → Nat} {K x : Nat} : ws (uN w K x) (K + 1) = ws w K + (if x = 0 then 0 else 2 ^ (x - 1)) := by
  show ws (uN w K x) K + (if uN w K x K = 0 then 0 else 2 ^ (uN w K x K - 1)) = _
  rw [uN_s]
  congr 1
  exact sm_congr (fun k hk => by rw [uN_n (by omega)])
/-- what both sides have of weights -/
def LensOk (N : Nat) (n go gr K oi bi be : Int32) (vy yl ys yp yo : Nat → Int32) (X : Option (Int32 × (Nat → Int32) × (Nat → Int32))) (Y : Option (Int32 × Int32 × Int32 × Int32 × Int32 × Int32 × Int32 × (Nat → Int32) × (Nat → Int32) × (Nat → Int32) × (Nat → Int32) × (Nat → Int32) × (Nat → Int32))) : Prop :=
  (∃ a1 a2 b1 b2, X = some (0, a1, a2) ∧ Y = some (-4, go, gr, K, oi, bi, be, yl, ys, b1, b2, yp, yo)) ∨ ∃ t len a1 xl yd yw, X = some (1, a1, xl) ∧ Y = f_MM_read_b228 N n vy (nI t) go gr K oi bi be yl ys yd yw yp yo ∧ Good t len ∧ (∀ s, s < 256 → xl s = nI (len s)) ∧ ∀ s, s < 256 → yd s = nI (len s)
theorem lens_both {N K : Nat} (hN : 300 ≤ N) (hK : K ≤ 255) {w : Nat → Nat} (hw : ∀ k, k < K → w k < 16) {xw xl yw : Nat → Int32} (hx : ∀ k, k < K → xw k = nI (w k)) (hy : ∀ k, k < K → yw k = nI (w k)) {n go gr oi bi be : Int32} {vy yl ys yd yp yo : Nat → Int32} :
    LensOk N n go gr (nI K) oi bi be vy yl ys yp yo (f_Reader_takeLengths N (nI K) xw xl) (f_MM_read_b16 N n vy N 0 0 go gr (nI K) oi bi be yl ys yd yw yp yo) := by
  have hS := ws_le hw
  have sX := sumX (N := N) hK hw (xl := xl) hx K 0 N (by omega) (by omega)
  have sY := sumY (N := N) hK hw hy (n := n) (go := go) (gr := gr) (oi := oi) (bi := bi) (be := be) (vy := vy) (yl := yl) (ys := ys) (yd := yd) (yp := yp) (yo := yo) K 0 N (by omega) (by omega)
  have sX' : f_Reader_takeLengths N (nI K) xw xl = _ := sX
  have sY' : f_MM_read_b16 N n vy N 0 0 go gr (nI K) oi bi be yl ys yd yw yp yo = _ := sY
  rw [sX', sY']
  unfold f_Reader_takeLengths_b44 f_MM_read_b52 f_Reader_takeLengths_b75
  -- the reference, up to its test
  have upto : ∀ t R c, t ≤ 24 → ws w K < 2 ^ t → (∀ j, j < t → 2 ^ j ≤ ws w K) → R = 2 ^ t - ws w K → c ≤ 24 → R ≤ 2 ^ c → (∀ j, j < c → 2 ^ j < R) →
      f_MM_read_b54 N n vy N (nI (ws w K)) 0 go gr (nI K) oi bi be yl ys yd yw yp yo = f_MM_read_b140 N n vy (nI (ws w K)) (nI t) (nI R) (nI (c + 1)) (nI (on1 (uN w K (c + 1)) (K + 1))) go gr (nI K) oi bi be yl ys yd (upd yw K (nI (c + 1))) yp yo := by
    intro t R c h1 h2 h3 h4 h5 h6 h7
    have hpt : 2 ^ t ≤ 2 ^ 24 := Nat.pow_le_pow_right (by decide) h1
    have p := powY (N := N) (t := t) (by omega) h2 h3 (by omega) (n := n) (go := go) (gr := gr) (wn := nI K) (oi := oi) (bi := bi) (be := be) (vy := vy) (yl := yl) (ys := ys) (yd := yd) (yw := yw) (yp := yp) (yo := yo) t 0 N (by omega) (by omega)
    have p' : f_MM_read_b54 N n vy N (nI (ws w K)) 0 go gr (nI K) oi bi be yl ys yd yw yp yo = _ := p
    rw [p']
    unfold f_MM_read_b67
    rw [sh1 (by omega), pk_sub (by omega), nm_q, ← h4]
    have r := restY (N := N) (R := R) (c := c) (by omega) h6 h7 (by omega) (n := n) (l2 := nI (ws w K)) (l3 := nI t) (go := go) (gr := gr) (wn := nI K) (oi := oi) (bi := bi) (be := be) (vy := vy) (yl := yl) (ys := ys) (yd := yd) (yw := yw) (yp := yp) (yo := yo) c 0 N (by omega) (by omega)
    have r' : f_MM_read_b77 N n vy N (nI (ws w K)) (nI t) (nI R) 1 go gr (nI K) oi bi be yl ys yd yw yp yo = _ := r
    rw [r']
    unfold f_MM_read_b94
    rw [ck_n (by omega) (by decide), nI_clamp (by omega), nm_q]
    have q := onesY (N := N) (K := K) hK (w := uN w K (c + 1)) (fun k hk => by
      by_cases e : k = K
      · rw [e, uN_s]; omega
      · rw [uN_n e]; have := hw k (by omega); omega) (uN_arr hy) (n := n) (l2 := nI (ws w K)) (l3 := nI t) (l4 := nI R) (l5 := nI (c + 1)) (go := go) (gr := gr) (oi := oi) (bi := bi) (be := be) (vy := vy) (yl := yl) (ys := ys) (yd := yd) (yp := yp) (yo := yo) (K + 1) 0 N (by omega) (by omega)
    exact q
  by_cases h0 : ws w K = 0
  · have u := upto 0 1 0 (by decide) (by rw [h0]; decide) (fun j hj => by omega) (by rw [h0]) (by decide) (by decide) (fun j hj => by omega)
    rw [u, log2_ok (by omega) (by omega), bd1_e, nm_q, nm_q, if_pos (by rw [h0]; rfl)]
    unfold f_MM_read_b140
    rw [if_pos (by rw [h0]; rfl)]
    exact Or.inl ⟨_, _, _, _, rfl, rfl⟩
  have g1 := Nat.log2_self_le h0
  have g2 : ws w K < 2 ^ (Nat.log2 (ws w K) + 1) := Nat.lt_log2_self
  have g3 : Nat.log2 (ws w K) < 22 := (Nat.log2_lt h0).mpr (show ws w K < 2 ^ 22 by omega)
  have glog := log2_ok (N := N) (x := ws w K) (by omega) (by omega)
  have gj : ∀ j, j < Nat.log2 (ws w K) + 1 → 2 ^ j ≤ ws w K := fun j hj => Nat.le_trans (Nat.pow_le_pow_right (by decide) (by omega)) g1
  have gp : (2 : Nat) ^ (Nat.log2 (ws w K) + 1) = 2 ^ Nat.log2 (ws w K) * 2 := Nat.pow_succ 2 _
  generalize hlg : Nat.log2 (ws w K) = lg at *
  have hp24 : 2 ^ (lg + 1) ≤ 2 ^ 22 := Nat.pow_le_pow_right (by decide) (by omega)
  obtain ⟨c, c1, c2, c3, c4⟩ := ceil_ex (R := 2 ^ (lg + 1) - ws w K) (by omega) (by omega)
  have u := upto (lg + 1) (2 ^ (lg + 1) - ws w K) c (by omega) g2 gj rfl c1 c2 c3
  rw [u, glog, bd1_e, nI_1, nm_q, sh1 (by omega), pk_sub (by omega), nm_q, if_neg (nI_ne0 (by omega) (by omega))]
  unfold f_MM_read_b140 f_MM_read_b167
  rw [if_neg (nI_ne0 (by omega) (by omega))]
  by_cases h11 : 11 < lg + 1
  · rw [if_pos (show (11 : Int32) < nI (lg + 1) from nI_lt (a := 11) h11 (by omega)), if_pos (show (11 : Int32) < nI (lg + 1) from nI_lt (a := 11) h11 (by omega))]
    exact Or.inl ⟨_, _, _, _, rfl, rfl⟩
  rw [if_neg (show ¬ (11 : Int32) < nI (lg + 1) from nI_nlt (a := 11) (by omega) (by decide)), if_neg (show ¬ (11 : Int32) < nI (lg + 1) from nI_nlt (a := 11) (by omega) (by decide))]
  have hp11 : 2 ^ (lg + 1) ≤ 2 ^ 11 := Nat.pow_le_pow_right (by decide) (by omega)
  have test := pow2_test (2 ^ (lg + 1) - ws w K) (by omega) (by omega)
  have hpc : 2 ^ c ≤ 2 ^ 24 := Nat.pow_le_pow_right (by decide) c1
  rw [show nI (c + 1) - (1 : Int32) = nI c from nI_pred c, sh1 (by omega)]
  by_cases ht : 2 ^ Nat.log2 (2 ^ (lg + 1) - ws w K) = 2 ^ (lg + 1) - ws w K
  · have hc := c4 ht
    rw [← hc] at ht
    have hcl : c ≤ lg := by
      have : 2 ^ c ≤ 2 ^ lg := by omega
      exact (Nat.pow_le_pow_iff_right (by decide)).mp this
    rw [if_pos (test.mpr (by rw [← hc]; exact ht)), log2_ok (by omega) (by omega), ← hc, bd1_e, ck_n (by omega) (by decide), nI_clamp (by omega), nI_1, nm_q, if_pos (by rw [ht])]
    obtain ⟨xl0, f1, f2, -⟩ := JArr_fill_ok (N := N) (n := 256) (by decide) (by omega) (a := 0) (v := xl)
    rw [f1, bd1_e]
    have hwt : ∀ k, k < K + 1 → uN w K (c + 1) k ≤ lg + 1 := by
      intro k hk
      by_cases e : k = K
      · rw [e, uN_s]; omega
      · rw [uN_n e]
        by_cases ez : w k = 0
        · omega
        · have h1 := sm_term (f := fun k => if w k = 0 then 0 else 2 ^ (w k - 1)) (show k < K by omega)
          rw [if_neg ez] at h1
          have h3 : sm (fun k => if w k = 0 then 0 else 2 ^ (w k - 1)) K = ws w K := rfl
          have h4 : 2 ^ (w k - 1) < 2 ^ (lg + 1) := by omega
          have := (Nat.pow_lt_pow_iff_right (show 1 < 2 by decide)).mp h4
          omega
    have hxx := uN_arr (x := c + 1) hx
    obtain ⟨xl', q1, q2⟩ := lensX (N := N) (t := lg + 1) hK (by omega) hwt hxx (K + 1) 0 N xl0 (by omega) (by omega) (fun s hs => ⟨fun q => by omega, fun _ => f2 s hs⟩)
    have q1' : f_Reader_takeLengths_b106 N (nI K) N (nI (lg + 1)) 0 0 (upd xw K (nI (c + 1))) xl0 = _ := q1
    rw [q1']
    have hon := on1_le (w := uN w K (c + 1)) (k := K + 1)
    by_cases e : on1 (uN w K (c + 1)) (K + 1) < 2
    · rw [if_pos e, if_neg (show ¬ (2 : Int32) ≤ nI (on1 (uN w K (c + 1)) (K + 1)) from nI_ge (b := 2) e (by decide))]
      exact Or.inl ⟨_, _, _, _, rfl, rfl⟩
    · rw [if_neg e, if_pos (show (2 : Int32) ≤ nI (on1 (uN w K (c + 1)) (K + 1)) from nI_le (a := 2) (by omega) (by omega))]
      obtain ⟨yd', r1, r2⟩ := lensY (N := N) (t := lg + 1) hK (by omega) hwt (uN_arr (x := c + 1) hy) (n := n) (go := go) (gr := gr) (oi := oi) (bi := bi) (be := be) (vy := vy) (yl := yl) (ys := ys) (yp := yp) (yo := yo) 256 0 N yd (by omega) (by omega) (fun i hi => absurd hi (by omega))
      have r1' : f_MM_read_b173 N n vy N (nI (lg + 1)) 0 go gr (nI K) oi bi be yl ys yd (upd yw K (nI (c + 1))) yp yo = _ := r1
      rw [r1']
      refine Or.inr ⟨lg + 1, ln (lg + 1) K (uN w K (c + 1)), _, xl', yd', _, rfl, rfl, ln_good hK (by omega) (by omega) hwt ?_ (by omega), q2, r2⟩
      rw [ws_uN, if_neg (by omega), show c + 1 - 1 = c by omega, ht]
      omega
  · rw [if_neg (fun q => ht (test.mp q)), if_neg (fun q => ht (by
      have h1 : 2 ^ c = 2 ^ (lg + 1) - ws w K := (nI_eq (by omega) (by omega)).mp q
      rw [← h1, Nat.log2_two_pow]))]
    exact Or.inl ⟨_, _, _, _, rfl, rfl⟩
theorem bd17_e {α1 α2 α3 α4 α5 α6 α7 α8 α9 α10 α11 α12 α13 α14 α15 α16 α17 β : Type} {a1 : α1} {a2 : α2} {a3 : α3} {a4 : α4} {a5 : α5} {a6 : α6} {a7 : α7} {a8 : α8} {a9 : α9} {a10 : α10} {a11 : α11} {a12 : α12} {a13 : α13} {a14 : α14} {a15 : α15} {a16 : α16} {a17 : α17} {k : α1 → α2 → α3 → α4 → α5 → α6 → α7 → α8 → α9 → α10 → α11 → α12 → α13 → α14 → α15 → α16 → α17 → Option β} : bd17 (some (a1, a2, a3, a4, a5, a6, a7, a8, a9, a10, a11, a12, a13, a14, a15, a16, a17)) k = k a1 a2 a3 a4 a5 a6 a7 a8 a9 a10 a11 a12 a13 a14 a15 a16 a17 := rfl
theorem sameW_fn {K B : Nat} {xw yw : Nat → Int32} (hB : B < 2 ^ 30) (h : SameW K B xw yw) : ∃ w : Nat → Nat, (∀ k, k < K → w k < B) ∧ (∀ k, k < K → xw k = nI (w k)) ∧ ∀ k, k < K → yw k = nI (w k) := by
  refine ⟨fun k => (xw k).toNatClampNeg, fun k hk => ?_, fun k hk => ?_, fun k hk => ?_⟩ <;> obtain ⟨c, c1, c2, c3⟩ := h k hk
  · show (xw k).toNatClampNeg < B
    rw [c2, nI_clamp (by omega)]; exact c1
  · show xw k = nI (xw k).toNatClampNeg
    rw [c2, nI_clamp (by omega)]
  · show yw k = nI (xw k).toNatClampNeg
    rw [c3, c2, nI_clamp (by omega)]
/-- from the weights on -/
theorem read_end {N n p : Nat} (hN : 60000 ≤ N) (hn : n ≤ 6000) (hp : p ≤ n) {vx : Nat → Int64} {vy : Nat → Int32} (hs : Same vx vy n) {gy : Int32} {yl ys : Nat → Int32} {rk re tf tl so sn : Int32} {xp xo xt xb xr xs xnn xwk xw xlen : Nat → Int32} {wn oi bi be : Int32} {yd yw yp yo : Nat → Int32} {K x e : Nat} (hK : K ≤ 255) (hpn : p < n) (hx : wby vx p = x) (he : e = p + 1 + (if x ≤ 127 then x else (x - 126) / 2)) (hen : e ≤ n) (hrk : rk = nI K) (hre : re = nI e) (hW : SameW K 16 xw yw) :
    (∃ f rk' re' tf' tl' so' sn' xp' xo' xt' xb' xr' xs' xnn' xwk' xw' xlen' wn' oi' bi' be' yd' yw' yp' yo', f_Reader_readCodes_b114 N (nI n) 751 vx (nI p) rk re tf tl so sn xp xo xt xb xr xs xnn xwk xw xlen = some (f, rk', re', tf', tl', so', sn', xp', xo', xt', xb', xr', xs', xnn', xwk', xw', xlen') ∧ ¬ f = 0 ∧ f_MM_read_b16 N (nI n) vy N 0 0 (nI p) gy (nI K) oi bi be yl ys yd yw yp yo = some (-f, nI p, gy, wn', oi', bi', be', yl, ys, yd', yw', yp', yo')) ∨
    ∃ t len e rk' re' tf' tl' so' sn' xp' xo' xt' xb' xr' xs' xnn' xwk' xw' xlen' wn' oi' bi' be' yd' yw' yp' yo', f_Reader_readCodes_b114 N (nI n) 751 vx (nI p) rk re tf tl so sn xp xo xt xb xr xs xnn xwk xw xlen = some (0, rk', re', tf', tl', so', sn', xp', xo', xt', xb', xr', xs', xnn', xwk', xw', xlen') ∧ re' = nI e ∧ e ≤ n ∧ Good t len ∧ (∀ s, s < 256 → xlen' s = nI (len s)) ∧ (∀ s, s < 256 → yd' s = nI (len s)) ∧ f_MM_read_b16 N (nI n) vy N 0 0 (nI p) gy (nI K) oi bi be yl ys yd yw yp yo = bd4 (f_MM_settle N yd' (nI t) gy yl ys) fun r g l s => some (r, nI e, g, wn', oi', bi', be', l, s, yd', yw', yp', yo') := by
  subst hrk hre
  obtain ⟨w, w1, w2, w3⟩ := sameW_fn (by decide) hW
  have h := lens_both (N := N) (by omega) hK w1 (xl := xlen) w2 w3 (n := nI n) (go := nI p) (gr := gy) (oi := oi) (bi := bi) (be := be) (vy := vy) (yl := yl) (ys := ys) (yd := yd) (yp := yp) (yo := yo)
  unfold f_Reader_readCodes_b114
  rcases h with ⟨a1, a2, b1, b2, q1, q2⟩ | ⟨t, len, a1, xl', yd', yw', q1, q2, q3, q4, q5⟩
  · rw [q1, bd3_e, if_pos rfl, q2]
    exact Or.inl ⟨4, _, _, _, _, _, _, _, _, _, _, _, _, _, _, _, _, _, _, _, _, _, _, _, _, rfl, by decide, rfl⟩
  · rw [q1, bd3_e, if_neg (by decide), q2]
    refine Or.inr ⟨t, len, e, _, _, _, _, _, _, _, _, _, _, _, _, _, _, _, xl', nI K, oi, bi, be, yd', yw', yp, yo, rfl, rfl, hen, q3, q4, q5, ?_⟩
    have hxl := wby_lt vx p
    unfold f_MM_read_b228 f_MM_read_b264
    rw [ck_n (by omega) (by decide), nI_clamp (by omega), hs p hpn, hx, nm_q]
    by_cases h1 : x ≤ 127
    · rw [if_pos (le_lit (b := 127) h1 (by decide)), show (1 : Int32) + nI x = nI (1 + x) from nI_add 1 x, nI_add, nm_q, he, if_pos h1, show p + (1 + x) = p + 1 + x by omega]
    · have e126 : (nI x - 126) / (2 : Int32) = nI ((x - 126) / 2) := by
        rw [show nI x - (126 : Int32) = nI (x - 126) from pk_sub (b := 126) (by omega)]
        exact pk_div (d := 2) (by omega) (by decide) (by decide)
      rw [if_neg (nle_lit (b := 127) (by omega) (by omega)), e126, show (1 : Int32) + nI ((x - 126) / 2) = nI (1 + (x - 126) / 2) from nI_add 1 _, nI_add, nm_q, he, if_neg h1, show p + (1 + (x - 126) / 2) = p + 1 + (x - 126) / 2 by omega]
theorem readCodes_ok {N n p : Nat} (hN : 60000 ≤ N) (hn : n ≤ 6000) (hp : p ≤ n) {vx : Nat → Int64} {vy : Nat → Int32} (hs : Same vx vy n) {gy : Int32} {yl ys : Nat → Int32} {rk re tf tl so sn : Int32} {xp xo xt xb xr xs xnn xwk xw xlen : Nat → Int32} {wn oi bi be : Int32} {yd yw yp yo : Nat → Int32} :
    (∃ f rk' re' tf' tl' so' sn' xp' xo' xt' xb' xr' xs' xnn' xwk' xw' xlen' wn' oi' bi' be' yd' yw' yp' yo', f_Reader_readCodes N (nI n) 751 vx (nI p) rk re tf tl so sn xp xo xt xb xr xs xnn xwk xw xlen = some (f, rk', re', tf', tl', so', sn', xp', xo', xt', xb', xr', xs', xnn', xwk', xw', xlen') ∧ ¬ f = 0 ∧ f_MM_read N (nI n) vy (nI p) gy wn oi bi be yl ys yd yw yp yo = some (-f, nI p, gy, wn', oi', bi', be', yl, ys, yd', yw', yp', yo')) ∨
    ∃ t len e rk' re' tf' tl' so' sn' xp' xo' xt' xb' xr' xs' xnn' xwk' xw' xlen' wn' oi' bi' be' yd' yw' yp' yo', f_Reader_readCodes N (nI n) 751 vx (nI p) rk re tf tl so sn xp xo xt xb xr xs xnn xwk xw xlen = some (0, rk', re', tf', tl', so', sn', xp', xo', xt', xb', xr', xs', xnn', xwk', xw', xlen') ∧ re' = nI e ∧ e ≤ n ∧ Good t len ∧ (∀ s, s < 256 → xlen' s = nI (len s)) ∧ (∀ s, s < 256 → yd' s = nI (len s)) ∧ f_MM_read N (nI n) vy (nI p) gy wn oi bi be yl ys yd yw yp yo = bd4 (f_MM_settle N yd' (nI t) gy yl ys) fun r g l s => some (r, nI e, g, wn', oi', bi', be', l, s, yd', yw', yp', yo') := by
  unfold f_Reader_readCodes f_MM_read f_MM_takeWeights
  by_cases hpn : p = n
  · subst hpn
    rw [Row_get_out (Nat.le_refl _) (by omega), bd1_e, nm_q, if_neg (by decide), if_pos rfl, bd8_e, if_neg (by decide)]
    unfold f_Reader_readCodes_b34 f_Reader_readCodes_b53
    rw [nm_q, if_pos (by decide)]
    exact Or.inl ⟨1, _, _, _, _, _, _, _, _, _, _, _, _, _, _, _, _, _, _, _, _, _, _, _, _, rfl, by decide, rfl⟩
  have hpl : p < n := by omega
  have hx := wby_lt vx p
  rw [Row_get_in hpl (by omega) (by decide), bd1_e, nI_1, nm_q, if_neg (show ¬ nI p = nI n from fun q => hpn ((nI_eq (by omega) (by omega)).mp q)), ck_n (by omega) (by decide), nI_clamp (by omega), hs p hpl, nm_q]
  generalize hxx : wby vx p = x at *
  unfold f_Reader_readCodes_b34 f_Reader_readCodes_b53 f_MM_takeWeights_b44
  rw [nI_1]
  by_cases h1 : x ≤ 127
  · rw [if_neg (show ¬ (128 : Int32) ≤ nI x from nI_ge (b := 128) (by omega) (by decide)), if_pos (le_lit (b := 127) h1 (by decide)), nI_add, nm_q, if_neg (nI_pos (by omega)), if_pos (show nI x < (128 : Int32) from nI_lt (b := 128) (by omega) (by decide)), if_pos (le_lit (b := 127) h1 (by decide)), nI_8mul, nI_8mul, nm_q, nm_q]
    by_cases h2 : p + 1 + x ≤ n
    · rw [if_pos (nI_le h2 (by omega)), if_pos (nI_le h2 (by omega))]
      obtain ⟨o, ho, hsh⟩ := takeShare_ok (N := N) hN hn h2 (show p + 1 ≤ p + 1 + x by omega) hs so sn oi xp xo xt xb xr xs xnn xwk yp yo
      rcases hsh with ⟨a1, a2, a3, a4, a5, a6, a7, a8, a9, a10, b1, b2, b3, b4, q1, q2⟩ | ⟨u, own, q, xp1, xo1, xt1, xb1, xr1, xs1, xn1, xw1, yp1, yo1, q1, q2, q3, q4, q5, q6, q7, q8⟩
      · rw [q1, bd11_e, if_neg (by decide), q2, bd5_e, if_pos rfl, bd8_e, if_neg (by decide)]
        exact Or.inl ⟨2, _, _, _, _, _, _, _, _, _, _, _, _, _, _, _, _, _, _, _, _, _, _, _, _, rfl, by decide, rfl⟩
      · rw [q1, bd11_e, if_pos (nI_pos' (by omega)), q2, bd5_e, if_neg (by decide)]
        have hrow := takeRow_ok (N := N) (by omega) hn h2 (show (q + 7) / 8 ≤ p + 1 + x by omega) hs q4 q6 q5 q8 q7 rk tf tl xw yw
        rcases hrow with ⟨a1, a2, a3, a4, b1, b2, b3, r1, r2⟩ | ⟨K, a2, a3, b2, xw2, yw2, r1, r2, r3, r4, r5⟩
        · have r2' : f_MM_takeRow N (nI o) (nI (8 * ((q + 7) / 8))) vy yp1 yo1 0 (nI (8 * (p + 1 + x))) yw = _ := r2
          rw [r1, bd5_e, if_pos rfl, r2', bd4_e, if_pos rfl, bd8_e, if_neg (by decide)]
          exact Or.inl ⟨3, _, _, _, _, _, _, _, _, _, _, _, _, _, _, _, _, _, _, _, _, _, _, _, _, rfl, by decide, rfl⟩
        · have r2' : f_MM_takeRow N (nI o) (nI (8 * ((q + 7) / 8))) vy yp1 yo1 0 (nI (8 * (p + 1 + x))) yw = _ := r2
          rw [r1, bd5_e, if_neg (by decide), r2', bd4_e, if_neg (by decide), bd8_e, if_pos rfl]
          have hW16 : SameW K 16 xw2 yw2 := fun k hk => by
            obtain ⟨c, c1, c2⟩ := r5 k hk
            exact ⟨c, by omega, c2⟩
          exact read_end (N := N) hN hn hp hs (wn := wn) (rk := nI K) (re := nI (p + 1 + x)) r4 hpl hxx (by rw [if_pos h1]) h2 rfl rfl hW16
    · rw [if_neg (nI_ge (by omega) (by omega)), if_neg (nI_ge (by omega) (by omega)), bd8_e, if_neg (by decide)]
      exact Or.inl ⟨1, _, _, _, _, _, _, _, _, _, _, _, _, _, _, _, _, _, _, _, _, _, _, _, _, rfl, by decide, rfl⟩
  · have e126 : (nI x - 126) / (2 : Int32) = nI ((x - 126) / 2) := by
      rw [show nI x - (126 : Int32) = nI (x - 126) from pk_sub (b := 126) (by omega)]
      exact pk_div (d := 2) (by omega) (by decide) (by decide)
    have e128 : (nI x - 128 + 2) / (2 : Int32) = nI ((x - 126) / 2) := by
      rw [show nI x - (128 : Int32) = nI (x - 128) from pk_sub (b := 128) (by omega), show nI (x - 128) + (2 : Int32) = nI (x - 126) from by rw [show x - 126 = x - 128 + 2 by omega]; exact nI_add _ 2]
      exact pk_div (d := 2) (by omega) (by decide) (by decide)
    have eK : nI x - 128 + 1 = nI (x - 127) := by
      rw [show nI x - (128 : Int32) = nI (x - 128) from pk_sub (b := 128) (by omega), nI_1, show x - 128 + 1 = x - 127 by omega]
    rw [if_pos (show (128 : Int32) ≤ nI x from nI_le (a := 128) (by omega) (by omega)), if_neg (nle_lit (b := 127) (by omega) (by omega)), e126, e128, nI_add, nm_q, if_neg (nI_pos (by omega)), if_neg (show ¬ nI x < (128 : Int32) from nI_nlt (b := 128) (by omega) (by omega)), if_neg (nle_lit (b := 127) (by omega) (by omega)), eK]
    by_cases h2 : p + 1 + (x - 126) / 2 ≤ n
    · rw [if_pos (nI_le h2 (by omega)), if_pos (nI_le h2 (by omega))]
      obtain ⟨xw', yw', d1, d2, d3⟩ := direct_read (N := N) (p := p) (K := x - 127) hn hs (by omega) (by omega) (oi := oi) (bi := bi) (be := be) (kn := nI (x - 127)) (yp := yp) (yo := yo) (x - 127) 0 N N xw yw (by omega) (by omega) (by omega) (fun k hk => absurd hk (by omega))
      rw [show x - 127 + 127 = x by omega] at d2
      have d1' : f_Reader_takeDirect N (nI n) 751 vx (nI (p + 1)) (nI (x - 127)) rk xw = some (nI (x - 127), xw') := d1
      have d2' : f_MM_takeWeights_b70 N (nI n) (nI p) vy N (nI x) 0 0 oi bi be yw yp yo = _ := d2
      rw [d1', bd2_e, d2', bd8_e, if_pos rfl]
      exact read_end (N := N) hN hn hp hs (wn := wn) (rk := nI (x - 127)) (re := nI (p + 1 + (x - 126) / 2)) (by omega) hpl hxx (by rw [if_neg h1]) h2 rfl rfl d3
    · rw [if_neg (nI_ge (by omega) (by omega)), if_neg (nI_ge (by omega) (by omega)), bd8_e, if_neg (by decide)]
      exact Or.inl ⟨1, _, _, _, _, _, _, _, _, _, _, _, _, _, _, _, _, _, _, _, _, _, _, _, _, rfl, by decide, rfl⟩
theorem sim_read {N n p : Nat} (hN : 60000 ≤ N) (hn : n ≤ 6000) (hp : p ≤ n) {vx : Nat → Int64} {vy : Nat → Int32} (hs : Same vx vy n) {gy : Int32} {yl ys : Nat → Int32} {rk re tf tl so sn : Int32} {xp xo xt xb xr xs xnn xwk xw xlen : Nat → Int32} {wn oi bi be : Int32} {yd yw yp yo : Nat → Int32} {T : Nat} {len : Nat → Nat} {gx kn hi : Int32} {xl xv xc : Nat → Int32} (hX : CodX T len gx kn hi xl xv xc) (hY : CodY T len gy yl ys) :
    ∃ r p' T' len' gy' yl' ys' gx' kn' hi' xl' xv' xc' rk' re' tf' tl' so' sn' xp' xo' xt' xb' xr' xs' xnn' xwk' xw' xlen' wn' oi' bi' be' yd' yw' yp' yo', f_PM_read N (nI n) 751 vx (nI p) gx kn hi xl xv xc rk re tf tl so sn xp xo xt xb xr xs xnn xwk xw xlen = some (r, nI p', gx', kn', hi', xl', xv', xc', rk', re', tf', tl', so', sn', xp', xo', xt', xb', xr', xs', xnn', xwk', xw', xlen') ∧ f_MM_read N (nI n) vy (nI p) gy wn oi bi be yl ys yd yw yp yo = some (r, nI p', gy', wn', oi', bi', be', yl', ys', yd', yw', yp', yo') ∧ p' ≤ n ∧ CodX T' len' gx' kn' hi' xl' xv' xc' ∧ CodY T' len' gy' yl' ys' := by
  have h := readCodes_ok (N := N) hN hn hp hs (gy := gy) (yl := yl) (ys := ys) (rk := rk) (re := re) (tf := tf) (tl := tl) (so := so) (sn := sn) (xp := xp) (xo := xo) (xt := xt) (xb := xb) (xr := xr) (xs := xs) (xnn := xnn) (xwk := xwk) (xw := xw) (xlen := xlen) (wn := wn) (oi := oi) (bi := bi) (be := be) (yd := yd) (yw := yw) (yp := yp) (yo := yo)
  unfold f_PM_read
  rcases h with ⟨f, rk', re', tf', tl', so', sn', xp', xo', xt', xb', xr', xs', xnn', xwk', xw', xlen', wn', oi', bi', be', yd', yw', yp', yo', q1, q2, q3⟩ | ⟨t, ln', e, rk', re', tf', tl', so', sn', xp', xo', xt', xb', xr', xs', xnn', xwk', xw', xlen', wn', oi', bi', be', yd', yw', yp', yo', q1, q2, q3, q4, q5, q6, q7⟩
  · rw [q1, bd17_e, if_neg q2, q3]
    exact ⟨-f, p, T, len, gy, yl, ys, gx, kn, hi, xl, xv, xc, rk', re', tf', tl', so', sn', xp', xo', xt', xb', xr', xs', xnn', xwk', xw', xlen', wn', oi', bi', be', yd', yw', yp', yo', rfl, rfl, hp, hX, hY⟩
  · obtain ⟨vl', vv', vc', b1, b2, b3, b4⟩ := become_ok (N := N) (by omega) (n1 := 256) (by decide) (by decide) q5 q4 gx kn hi xl xv xc
    obtain ⟨yl', ys', c1, c2, c3⟩ := settle_ok (N := N) (by omega) q4 q6 gy yl ys
    rw [q1, bd17_e, if_pos rfl, b1, bd7_e, q7, c1, bd4_e, q2]
    exact ⟨nI t, e, t, ln', nI t, yl', ys', nI t, _, _, vl', vv', vc', _, _, _, _, _, _, _, _, _, _, _, _, _, _, _, _, wn', oi', bi', be', yd', yw', yp', yo', rfl, rfl, q3, ⟨rfl, Or.inr ⟨q4, rfl, rfl, b2, b3, b4⟩⟩, ⟨rfl, Or.inr ⟨q4, c2, c3⟩⟩⟩
