/-! ===== a round: lengths out of counts ===== -/
theorem sum_L {h L : Nat → Nat} {M : Nat} (hS : Srt h M L) {f : Nat → Nat} (hf : ∀ s, s < 256 → h s = 0 → f s = 0) : sm f 256 = sm (fun i => f (L i)) M := by
  have e1 : sm (fun i => f (L i)) M = sm (fun i => sm (fun s => if s = L i then f (L i) else 0) 256) M := sm_congr (fun i hi => by rw [sm_one, if_pos (hS.1 i hi).1])
  rw [e1, sm_swap]
  apply sm_congr
  intro s hs
  by_cases h0 : h s = 0
  · rw [hf s hs h0, sm_congr (g := fun _ => 0) (fun i hi => if_neg (fun q => (hS.1 i hi).2 (by rw [← q]; exact h0))), sm_zero]
  · obtain ⟨i0, i1, i2⟩ := hS.2.2 s hs h0
    rw [sm_congr (g := fun i => if i = i0 then f s else 0) (fun i hi => ?_), sm_one, if_pos i1]
    by_cases e : i = i0
    · rw [if_pos e, e, i2, if_pos rfl]
    · rw [if_neg e, if_neg (fun q => e ?_)]
      have : ph L M i = ph L M i0 := by unfold ph; rw [if_pos hi, if_pos i1, ← q, i2]
      exact ph_inj hS this
theorem join_start {N M : Nat} (hM : M ≤ 256) {h L : Nat → Nat} (hS : Srt h M L) {xh xl : Nat → Int32} (hxh : ∀ s, s < 256 → xh s = nI (h s)) (hxl : ∀ i, i < M → xl i = nI (L i)) {nl ns : Int32} {xa : Nat → Int32} : ∀ (d i z : Nat) (xs : Nat → Int32), M = i + d → d < z → (∀ k, k < i → xs k = nI (h (L k))) →
    ∃ xs', f_Tree_join_b2 N (nI M) xh xl z (nI i) nl ns xs xa = f_Tree_join_b33 N (nI M) xh xl nl ns xs' xa ∧ ∀ k, k < M → xs' k = nI (h (L k)) := by
  intro d
  induction d with
  | zero =>
    intro i z xs h1 h2 h3
    obtain ⟨z, rfl⟩ := z_succ h2
    obtain rfl : i = M := by omega
    refine ⟨xs, ?_, h3⟩
    rw [f_Tree_join_b2, if_pos (nI_le (Nat.le_refl _) (by omega))]
  | succ d ih =>
    intro i z xs h1 h2 h3
    obtain ⟨z, rfl⟩ := z_succ h2
    have hL := (hS.1 i (by omega)).1
    obtain ⟨xs', q1, q2⟩ := ih (i + 1) z (upd xs i (nI (h (L i)))) (by omega) (by omega) (fun k hk => by
      by_cases e : k = i
      · rw [e, pk_us]
      · rw [pk_un e]; exact h3 k (by omega))
    refine ⟨xs', ?_, q2⟩
    rw [f_Tree_join_b2, if_neg (nI_ge (by omega) (by omega)), ck_n (by omega) (by decide), nI_clamp (by omega), hxl i (by omega), ck_n hL (by decide), ck_n (by omega) (by decide), nI_clamp (by omega), hxh _ hL, nm_q, nm_q, nI_1]
    exact q1
theorem sums_start {N : Nat} {h : Nat → Nat} {yh yd : Nat → Int32} (hyh : ∀ s, s < 256 → yh s = nI (h s)) {kn : Int32} : ∀ (d s z : Nat) (yk yi : Nat → Int32), 256 = s + d → d < z → (∀ k, k < s → yk k = nI (h k) ∧ yi k = -1) →
    ∃ yk' yi', f_MM_sums_b9 N yh z (nI s) kn yd yk yi = f_MM_sums_b41 N yh kn yd yk' yi' ∧ ∀ k, k < 256 → yk' k = nI (h k) ∧ yi' k = -1 := by
  intro d
  induction d with
  | zero =>
    intro s z yk yi h1 h2 h3
    obtain ⟨z, rfl⟩ := z_succ h2
    obtain rfl : s = 256 := by omega
    refine ⟨yk, yi, ?_, h3⟩
    rw [f_MM_sums_b9, if_pos (le256 (by omega) (by omega))]
  | succ d ih =>
    intro s z yk yi h1 h2 h3
    obtain ⟨z, rfl⟩ := z_succ h2
    obtain ⟨yk', yi', q1, q2⟩ := ih (s + 1) z (upd yk s (nI (h s))) (upd yi s (-1)) (by omega) (by omega) (fun k hk => by
      by_cases e : k = s
      · rw [e, pk_us, pk_us]; exact ⟨rfl, rfl⟩
      · rw [pk_un e, pk_un e]; exact h3 k (by omega))
    refine ⟨yk', yi', ?_, q2⟩
    rw [f_MM_sums_b9, if_neg (nle256 (by omega)), ck_n (by omega) (by decide), ck_n (by omega) (by decide), nI_clamp (by omega), hyh s (by omega), nm_q, ck_n (by omega) (by decide), nm_q, nm_q, nI_1]
    exact q1
theorem lens_loop {N M : Nat} (hM : M ≤ 256) {h L D : Nat → Nat} (hS : Srt h M L) {xl xa xd : Nat → Int32} (hxl : ∀ i, i < M → xl i = nI (L i)) (hxd : ∀ i, i < M → xd i = nI (D i)) : ∀ (d i z : Nat) (xlen : Nat → Int32), M = i + d → d < z → (∀ k, k < i → xlen (L k) = nI (D k)) → (∀ s, s < 256 → h s = 0 → xlen s = 0) →
    ∃ xlen', f_Tree_measure_b59 N (nI M) xl xa z (nI i) xlen xd = f_Tree_measure_b90 N (nI M) xl xa xlen' xd ∧ (∀ k, k < M → xlen' (L k) = nI (D k)) ∧ ∀ s, s < 256 → h s = 0 → xlen' s = 0 := by
  intro d
  induction d with
  | zero =>
    intro i z xlen h1 h2 h3 h4
    obtain ⟨z, rfl⟩ := z_succ h2
    obtain rfl : i = M := by omega
    refine ⟨xlen, ?_, h3, h4⟩
    rw [f_Tree_measure_b59, if_pos (nI_le (Nat.le_refl _) (by omega))]
  | succ d ih =>
    intro i z xlen h1 h2 h3 h4
    obtain ⟨z, rfl⟩ := z_succ h2
    obtain ⟨hL, hL0⟩ := hS.1 i (by omega)
    obtain ⟨xlen', q1, q2⟩ := ih (i + 1) z (upd xlen (L i) (nI (D i))) (by omega) (by omega) (fun k hk => by
      by_cases e : k = i
      · rw [e, pk_us]
      · rw [pk_un (fun q => e (ph_inj hS (by unfold ph; rw [if_pos (show k < M by omega), if_pos (show i < M by omega)]; exact q)))]
        exact h3 k (by omega)) (fun s hs hs0 => by
      rw [pk_un (fun q => hL0 (by rw [← q]; exact hs0))]
      exact h4 s hs hs0)
    refine ⟨xlen', ?_, q2⟩
    rw [f_Tree_measure_b59, if_neg (nI_ge (by omega) (by omega)), ck_n (by omega) (by decide), ck_n (by omega) (by decide), nI_clamp (by omega), hxl i (by omega), ck_n hL (by decide), nI_clamp (by omega), hxd i (by omega), nm_q, nm_q, nI_1]
    exact q1
theorem draft_loop {N M : Nat} (hN : 600 ≤ N) (hM2 : 2 ≤ M) (hM : M ≤ 256) {h L up D len : Nat → Nat} (hS : Srt h M L) (hup : ∀ i, i < 2 * M - 2 → i < up i ∧ up i ≤ 2 * M - 2) (hD0 : D (2 * M - 2) = 0) (hD : ∀ i, i < 2 * M - 2 → D i = D (up i) + 1) (hl1 : ∀ i, i < M → len (L i) = D i) (hl0 : ∀ s, s < 256 → h s = 0 → len s = 0) {yh yk yi : Nat → Int32} (hyi : ∀ i, i < 2 * M - 2 → yi (ph L M i) = nI (ph L M (up i))) (hyr : yi (ph L M (2 * M - 2)) = -1) (hy0 : ∀ s, s < 256 → h s = 0 → yi s = -1) {kn : Int32} : ∀ (d s z : Nat) (yd : Nat → Int32), 256 = s + d → d < z → (∀ k, k < s → yd k = nI (len k)) →
    ∃ yd', f_MM_sums_b137 N yh z (nI s) kn yd yk yi = some (kn, yd', yk, yi) ∧ ∀ k, k < 256 → yd' k = nI (len k) := by
  intro d
  induction d with
  | zero =>
    intro s z yd h1 h2 h3
    obtain ⟨z, rfl⟩ := z_succ h2
    obtain rfl : s = 256 := by omega
    refine ⟨yd, ?_, h3⟩
    rw [f_MM_sums_b137, if_pos (le256 (by omega) (by omega))]
  | succ d ih =>
    intro s z yd h1 h2 h3
    obtain ⟨z, rfl⟩ := z_succ h2
    have hs : s < 256 := by omega
    rw [f_MM_sums_b137, if_neg (nle256 hs), ck_n hs (by decide), nI_clamp (by omega), nm_q, ck_n (by omega) (by decide), nm_q]
    by_cases h0 : h s = 0
    · obtain ⟨N', hN'⟩ : ∃ N', N = N' + 1 := ⟨N - 1, by omega⟩
      have e : ∀ k137, f_MM_sums_b159 N yh k137 (N' + 1) (nI s) (-1) kn (upd yd s 0) yk yi = k137 (nI (s + 1)) kn (upd yd s 0) yk yi := by
        intro k137
        rw [f_MM_sums_b159, if_pos rfl]
        unfold f_MM_sums_b187
        rw [nm_q, nI_1]
      rw [← hN'] at e
      rw [hy0 s hs h0, e]
      refine ih (s + 1) z (upd yd s 0) (by omega) (by omega) (fun k hk => ?_)
      by_cases ek : k = s
      · rw [ek, pk_us, hl0 s hs h0]; rfl
      · rw [pk_un ek]; exact h3 k (by omega)
    · obtain ⟨i, i1, i2⟩ := hS.2.2 s hs h0
      obtain ⟨u1, u2⟩ := hup i (by omega)
      have hpi : ph L M i = s := by unfold ph; rw [if_pos i1]; exact i2
      have hyis := hyi i (by omega)
      rw [hpi] at hyis
      obtain ⟨yd1, q1, q2, q3⟩ := walk_up (N := N) hM2 hM hS hup hD0 hD hyi hyr (yh := yh) (yk := yk) hs (kn := kn) (k137 := f_MM_sums_b137 N yh z) (2 * M - 2 - up i) (up i) N 0 (upd yd s 0) (by omega) (by omega) (by rw [pk_us]; rfl)
      rw [hyis, q1]
      refine ih (s + 1) z yd1 (by omega) (by omega) (fun k hk => ?_)
      by_cases ek : k = s
      · rw [ek, q2, ← i2, hl1 i i1, hD i (by omega)]
        congr 1
        omega
      · rw [q3 k ek, pk_un ek]; exact h3 k (by omega)
theorem one_root {M : Nat} (hM2 : 2 ≤ M) {W : Nat} {lv val up ht : Nat → Nat} (hJ : JI M W lv (M - 1) M (M - 2) val up ht) (hW : W = sm lv M) (hone : ∀ i, i < M → lv i = 1) {most : Nat} (hm : M ≤ 2 ^ most) : ht (2 * M - 2) ≤ most := by
  obtain ⟨-, -, -, -, gW, -, -, gO⟩ := hJ
  have e1 : sm (fun i => val (M + i)) (M - 1) = sm (fun i => val (M + i)) (M - 2) + val (M + (M - 2)) := by
    rw [show M - 1 = M - 2 + 1 by omega]
    rfl
  have e2 : sm lv M = M := by
    rw [sm_congr (g := fun _ => 1) hone]
    clear gW gO hW hone hm e1 hM2
    induction M with
    | zero => rfl
    | succ M ih => show sm _ M + 1 = M + 1; rw [ih]
  have hv : val (M + (M - 2)) = M := by omega
  rw [show 2 * M - 2 = M + (M - 2) by omega]
  rcases gO hone with ⟨q, -, -⟩ | ⟨-, k, x, k1, k2, k3, -, ⟨k5, k6, k7, k8⟩, -⟩
  · omega
  · rw [show x = M - 2 by omega] at k5 k6 k7 k8
    rw [hv] at k5 k6 k8
    by_cases e : M = 2 ^ k
    · have h1 := k8 e
      have h2 : 2 ^ k ≤ 2 ^ most := by omega
      have h3 := (Nat.pow_le_pow_iff_right (show 1 < 2 by decide)).mp h2
      omega
    · have h2 : 2 ^ k < 2 ^ most := by omega
      have h3 := (Nat.pow_lt_pow_iff_right (show 1 < 2 by decide)).mp h2
      omega
theorem round_ok {N : Nat} (hN : 600 ≤ N) {h : Nat → Nat} (hh : ∀ s, s < 256 → h s < 65536) (hM2 : 2 ≤ cn h 256) {xh yh : Nat → Int32} (hxh : ∀ s, s < 256 → xh s = nI (h s)) (hyh : ∀ s, s < 256 → yh s = nI (h s)) (xl xsd xst xs xa xlen xd yd yk yi : Nat → Int32) (nl ns kn : Int32) :
    ∃ (len : Nat → Nat) (xl' xsd' xst' xs' xa' xlen' xd' yd' yk' yi' : Nat → Int32) (nl' ns' kn' : Int32), f_Tree_sortLeaves N (nI (cn h 256)) xh xl xsd xst = some (xl', xsd', xst') ∧ f_Tree_join N (nI (cn h 256)) xh xl' nl ns xs xa = some (nl', ns', xs', xa') ∧ f_Tree_measure N (nI (cn h 256)) xl' xa' xlen xd = some (nI (mx len 256), xlen', xd') ∧ f_MM_sums N yh kn yd yk yi = some (kn', yd', yk', yi') ∧ (∀ s, s < 256 → xlen' s = nI (len s)) ∧ (∀ s, s < 256 → yd' s = nI (len s)) ∧ mx len 256 < 600 ∧ 1 ≤ mx len 256 ∧ kraft (mx len 256) len = 2 ^ mx len 256 ∧ ((∀ s, s < 256 → h s ≤ 1) → ∀ most, cn h 256 ≤ 2 ^ most → mx len 256 ≤ most) := by
  have hM : cn h 256 ≤ 256 := cn_le
  obtain ⟨L, xl', xsd', xst', a1, hS, a3⟩ := sortLeaves_ok (N := N) hN hh hxh xl xsd xst
  generalize hMM : cn h 256 = M at *
  have hlvm : ∀ i k, i ≤ k → k < M → h (L i) ≤ h (L k) := fun i k h1 h2 => by
    by_cases e : i = k
    · rw [e]; exact Nat.le_refl _
    · have := hS.2.1 i k (by omega) h2
      omega
  have hWb : sm (fun i => h (L i)) M < 2 ^ 30 := by
    have h1 : sm (fun i => h (L i)) M ≤ sm (fun _ => 65535) M := sm_le (fun i hi => by have := hh _ (hS.1 i hi).1; omega)
    have h2 : sm (fun _ => 65535) M = M * 65535 := by
      clear h1 hlvm hS a1 a3 hMM hM2 hM
      induction M with
      | zero => rfl
      | succ M ih => show sm _ M + 65535 = (M + 1) * 65535; omega
    omega
  obtain ⟨xs1, b1, b2⟩ := join_start (N := N) hM hS hxh a3 (nl := nl) (ns := ns) (xa := xa) M 0 N xs (by omega) (by omega) (fun k hk => absurd hk (by omega))
  obtain ⟨yk1, yi1, c1, c2⟩ := sums_start (N := N) (yd := yd) hyh (kn := 256) 256 0 N yk yi (by omega) (by omega) (fun k hk => absurd hk (by omega))
  have hRY : RY h L M 0 0 0 (fun i => h (L i)) (fun _ => 0) yk1 yi1 := by
    refine ⟨fun i hi => ?_, fun k hk hk0 => ?_, fun i hi => ?_, fun i hi => ?_⟩
    · unfold ph
      rw [if_pos (by omega)]
      exact (c2 _ (hS.1 i (by omega)).1).1
    · rw [(c2 k hk).1, (c2 k hk).2, hk0]; exact ⟨rfl, rfl⟩
    · have hi2 : i < M := by unfold liv at hi; omega
      unfold ph
      rw [if_pos hi2]
      exact (c2 _ (hS.1 i hi2).1).2
    · unfold tkn at hi; omega
  obtain ⟨val', up', ht', al, be, xs2, xa2, yk2, yi2, d1, d2, d3, d4, d5⟩ := join_loop (N := N) (W := sm (fun i => h (L i)) M) hN hM2 hM hS (lv := fun i => h (L i)) (fun _ _ => rfl) hWb (xh := xh) (xl := xl') (yh := yh) (yd := yd) (M - 1) 0 N N 0 0 (fun i => h (L i)) (fun _ => 0) (fun _ => 0) xs1 xa yk1 yi1 (by omega) (by omega) (by omega) (JI_start hM2 hlvm) (fun i hi => Nat.pos_of_ne_zero (hS.1 i (by omega)).2) (fun i hi => b2 i (by omega)) (fun i hi => by unfold tkn at hi; omega) hRY
  have hup : ∀ i, i < 2 * M - 2 → i < up' i ∧ up' i ≤ 2 * M - 2 := fun i hi => by
    have := d3.2.2.2.1 i (by unfold tkn; omega)
    omega
  have hxa2 : ∀ i, i < 2 * M - 2 → xa2 i = nI (up' i) := fun i hi => d4 i (by unfold tkn; omega)
  obtain ⟨D, xd2, e1, e2, e3, e4⟩ := measure_loop (N := N) hM2 hM hup (xl := xl') hxa2 (2 * M - 2) N (fun _ => 0) xlen (upd xd (2 * M - 2) 0) (Nat.le_refl _) (by omega) rfl (fun i h1 h2 => by omega) (fun i h1 h2 => by rw [show i = 2 * M - 2 by omega, pk_us]; rfl)
  obtain ⟨xlen0, f1, f2, -⟩ := JArr_fill_ok (N := N) (n := 256) (by decide) (by omega) (a := 0) (v := xlen)
  obtain ⟨xlen1, g1, g2, g3⟩ := lens_loop (N := N) hM hS (xa := xa2) a3 (fun i hi => e4 i (by omega)) M 0 N xlen0 (by omega) (by omega) (fun k hk => absurd hk (by omega)) (fun s hs _ => f2 s hs)
  have hDb := D_bound (R := 2 * M - 2) (up := up') (D := D) (ht := ht') hup e2 e3 (fun i hi => d3.2.2.2.2.2.2.1.2 i (by unfold tkn; omega))
  have hDlt : ∀ i, i ≤ 2 * M - 2 → D i ≤ 2 * M - 2 := fun i hi => by have := (hDb (2 * M - 2 - i) i (by omega)).1; omega
  -- the lengths
  obtain ⟨len, hlen⟩ : ∃ len : Nat → Nat, len = fun s => (xlen1 s).toNatClampNeg := ⟨_, rfl⟩
  have hl1 : ∀ i, i < M → len (L i) = D i := fun i hi => by
    rw [hlen]
    show (xlen1 (L i)).toNatClampNeg = D i
    rw [g2 i hi, nI_clamp (by have := hDlt i (by omega); omega)]
  have hl0 : ∀ s, s < 256 → h s = 0 → len s = 0 := fun s hs hs0 => by
    rw [hlen]
    show (xlen1 s).toNatClampNeg = 0
    rw [g3 s hs hs0]
    rfl
  have hlx : ∀ s, s < 256 → xlen1 s = nI (len s) := fun s hs => by
    by_cases h0 : h s = 0
    · rw [hl0 s hs h0, g3 s hs h0]; rfl
    · obtain ⟨i, i1, i2⟩ := hS.2.2 s hs h0
      rw [← i2, hl1 i i1, g2 i i1]
  have hlb : ∀ s, s < 256 → len s ≤ 2 * M - 2 := fun s hs => by
    by_cases h0 : h s = 0
    · rw [hl0 s hs h0]; omega
    · obtain ⟨i, i1, i2⟩ := hS.2.2 s hs h0
      rw [← i2, hl1 i i1]; exact hDlt i (by omega)
  have hyi2 : ∀ i, i < 2 * M - 2 → yi2 (ph L M i) = nI (ph L M (up' i)) := fun i hi => d5.2.2.2 i (by unfold tkn; omega)
  have hyr : yi2 (ph L M (2 * M - 2)) = -1 := d5.2.2.1 _ (by unfold liv; omega)
  obtain ⟨yd2, k1, k2⟩ := draft_loop (N := N) hN hM2 hM hS hup e2 e3 hl1 hl0 (yh := yh) (yk := yk2) hyi2 hyr (fun s hs hs0 => (d5.2.1 s hs hs0).2) (kn := nI (256 + (M - 1))) 256 0 N yd (by omega) (by omega) (fun k hk => absurd hk (by omega))
  have hgr := greatestOf_ok (N := N) (n1 := 256) (by omega) (by decide) (by decide) hlx (fun s hs => by have := hlb s hs; omega)
  have hDpos : ∀ i, i < M → 1 ≤ D i := fun i hi => by rw [e3 i (by omega)]; omega
  have hT1 : 1 ≤ mx len 256 := by
    have h1 := mx_ge (f := len) (hS.1 0 (by omega)).1
    rw [hl1 0 (by omega)] at h1
    have := hDpos 0 (by omega)
    omega
  have hTD : ∀ i, i < M → D i ≤ mx len 256 := fun i hi => by
    have h1 := mx_ge (f := len) (hS.1 i hi).1
    rw [hl1 i hi] at h1
    exact h1
  have hTb : mx len 256 ≤ 2 * M - 2 := by
    have := mx_lt (f := len) (n := 256) (b := 2 * M - 1) (by omega) (fun s hs => by have := hlb s hs; omega)
    omega
  refine ⟨len, xl', xsd', xst', xs2, xa2, xlen1, xd2, yd2, yk2, yi2, al, be, nI (256 + (M - 1)), a1, ?_, ?_, ?_, hlx, k2, by omega, hT1, ?_, ?_⟩
  · unfold f_Tree_join
    have b1' : f_Tree_join_b2 N (nI M) xh xl' N 0 nl ns xs xa = _ := b1
    rw [b1']
    exact d1
  · unfold f_Tree_measure
    have e1' : f_Tree_measure_b20 N (nI M) xl' xa2 N (nI (2 * M - 2) - 1) xlen (upd xd (2 * M - 2) 0) = _ := e1
    rw [show (2 : Int32) * nI M = nI (2 * M) from pk_mul 2 M, show nI (2 * M) - (2 : Int32) = nI (2 * M - 2) from pk_sub (b := 2) (by omega), nm_q, ck_n (by omega) (by decide), nI_clamp (by omega), nm_q, nm_q, e1']
    unfold f_Tree_measure_b49
    have g1' : f_Tree_measure_b59 N (nI M) xl' xa2 N 0 xlen0 xd2 = _ := g1
    rw [f1, bd1_e, g1']
    unfold f_Tree_measure_b90
    rw [hgr, bd1_e]
  · unfold f_MM_sums
    have c1' : f_MM_sums_b9 N yh N 0 256 yd yk yi = _ := c1
    rw [c1']
    unfold f_MM_sums_b41
    have d2' : (bd1 (f_MM_least N 256 yk1 yi1 (-1)) fun r1 => bd1 (f_MM_least N 256 yk1 yi1 r1) fun r2 => f_MM_sums_b53 N yh N r1 r2 256 yd yk1 yi1) = _ := d2
    rw [d2']
    exact k1
  · -- the sum of the cells
    clear hgr
    generalize mx len 256 = T at *
    have hq := d3.2.2.2.2.2.1 (fun i => 2 ^ (2 * M - D i)) (fun i hi => by
      have hi2 : i < 2 * M - 2 := by unfold tkn at hi; omega
      have h1 := e3 i hi2
      have h2 := hDlt i (by omega)
      show 2 * 2 ^ (2 * M - D i) = 2 ^ (2 * M - D (up' i))
      rw [show 2 * M - D (up' i) = 2 * M - D i + 1 by omega, Nat.pow_succ, Nat.mul_comm])
    have e5 : sm (fun i => 2 ^ (2 * M - D (M + i))) (M - 1) = sm (fun i => 2 ^ (2 * M - D (M + i))) (M - 2) + 2 ^ (2 * M - D (M + (M - 2))) := by
      rw [show M - 1 = M - 2 + 1 by omega]
      rfl
    rw [show M + (M - 2) = 2 * M - 2 by omega, e2, Nat.sub_zero] at e5
    have hsum : sm (fun i => 2 ^ (2 * M - D i)) M = 2 ^ (2 * M) := by
      have hq' : sm (fun i => 2 ^ (2 * M - D i)) M + sm (fun i => 2 ^ (2 * M - D (M + i))) (M - 2) = sm (fun i => 2 ^ (2 * M - D (M + i))) (M - 1) := hq
      omega
    have ek : kraft (T) len = sm (fun i => 2 ^ (T - D i)) M := by
      unfold kraft
      rw [sum_L hS (f := fun s => if len s = 0 then 0 else 2 ^ (T - len s)) (fun s hs hs0 => if_pos (hl0 s hs hs0))]
      apply sm_congr
      intro i hi
      have h1 := hDpos i hi
      show (if len (L i) = 0 then 0 else 2 ^ (T - len (L i))) = _
      rw [hl1 i hi, if_neg (by omega)]
    have ep : sm (fun i => 2 ^ (2 * M - D i)) M = sm (fun i => 2 ^ (T - D i)) M * 2 ^ (2 * M - T) := by
      rw [← sm_mulr]
      apply sm_congr
      intro i hi
      have h1 := hTD i hi
      rw [← Nat.pow_add]
      congr 1
      omega
    rw [ek]
    rw [ep, show 2 ^ (2 * M) = 2 ^ T * 2 ^ (2 * M - T) by rw [← Nat.pow_add]; congr 1; omega] at hsum
    exact Nat.eq_of_mul_eq_mul_right (Nat.pow_pos (by decide)) hsum
  · intro hone most hm
    have hone2 : ∀ i, i < M → (fun i => h (L i)) i = 1 := fun i hi => by
      have h1 := hone _ (hS.1 i hi).1
      have h2 := (hS.1 i hi).2
      show h (L i) = 1
      omega
    have hr := one_root hM2 d3 rfl hone2 hm
    have h1 := mx_lt (f := len) (n := 256) (b := most + 1) (by omega) (fun s hs => by
      by_cases h0 : h s = 0
      · rw [hl0 s hs h0]; omega
      · obtain ⟨i, i1, i2⟩ := hS.2.2 s hs h0
        have h3 := (hDb (2 * M - 2 - i) i (by omega)).2
        rw [← i2, hl1 i i1]
        omega)
    omega
