theorem JI_start {M : Nat} {lv : Nat → Nat} (hM : 2 ≤ M) (hmono : ∀ i k, i ≤ k → k < M → lv i ≤ lv k) : JI M (sm lv M) lv 0 0 0 lv (fun _ => 0) (fun _ => 0) := by
  refine ⟨⟨rfl, by omega, by omega, fun h => absurd h (by omega)⟩, ⟨fun _ _ => rfl, hmono, fun i k _ h => absurd h (by omega)⟩, ⟨0, fun _ => Nat.zero_le _, fun h => absurd h (by omega), fun h => absurd h (by omega)⟩, fun i hi => ?_, rfl, fun q _ => rfl, ⟨fun _ _ => rfl, fun i hi => ?_⟩, fun _ => Or.inl ⟨by omega, rfl, fun i h => absurd h (by omega)⟩⟩
  · unfold tkn at hi; omega
  · unfold tkn at hi; omega
theorem join_loop {N M W : Nat} (hN : 600 ≤ N) (hM2 : 2 ≤ M) (hM : M ≤ 256) {h L lv : Nat → Nat} (hS : Srt h M L) (hlv : ∀ i, i < M → lv i = h (L i)) (hW : W < 2 ^ 30) {xh xl yh yd : Nat → Int32} : ∀ (d j z y a b : Nat) (val up ht : Nat → Nat) (xs xa yk yi : Nat → Int32), M - 1 = j + d → d < z → d < y → JI M W lv j a b val up ht → (∀ i, i < M + j → 0 < val i) → (∀ i, i < M + j → xs i = nI (val i)) → (∀ i, tkn M a b i → xa i = nI (up i)) → RY h L M j a b val up yk yi →
    ∃ val' up' ht' al be xs' xa' yk' yi', f_Tree_join_b51 N (nI M) xh xl z (nI (M + j)) (nI a) (nI (M + b)) xs xa = some (al, be, xs', xa') ∧ (bd1 (f_MM_least N (nI (256 + j)) yk yi (-1)) fun r1 => bd1 (f_MM_least N (nI (256 + j)) yk yi r1) fun r2 => f_MM_sums_b53 N yh y r1 r2 (nI (256 + j)) yd yk yi) = f_MM_sums_b135 N yh (nI (256 + (M - 1))) yd yk' yi' ∧ JI M W lv (M - 1) M (M - 2) val' up' ht' ∧ (∀ i, tkn M M (M - 2) i → xa' i = nI (up' i)) ∧ RY h L M (M - 1) M (M - 2) val' up' yk' yi' := by
  intro d
  induction d with
  | zero =>
    intro j z y a b val up ht xs xa yk yi h1 h2 h3 hJ hpos hxs hxa hR
    obtain ⟨z, rfl⟩ := z_succ h2
    obtain ⟨y, rfl⟩ := z_succ h3
    obtain rfl : j = M - 1 := by omega
    have g := hJ.1
    have g4 := g.2.2.2 (by omega)
    have hb : M - 2 = b := by omega
    have ha : M = a := by omega
    subst hb
    have ha' : a = M := ha.symm
    rw [ha'] at hJ hR hxa ⊢
    have hp : PickR M (M - 1) val M (M - 2) (M + (M - 2)) M (M - 2 + 1) := Or.inr ⟨by omega, fun q => absurd q (by omega), rfl, rfl, rfl⟩
    have l1 := leastY_pick hN hM (by omega) hS hlv hJ hW hpos hR (e := -1) (Nat.le_refl _) (by omega) hp (fun i hi => ⟨hi, m1_ne (by
      have : i < M + (M - 1) := by unfold liv at hi; omega
      have := ph_lt hS this
      omega)⟩) (fun i h4 h5 => Or.inl (by unfold liv at h5; unfold tkn; omega))
    obtain ⟨r, p1, p2⟩ := leastY (a' := M) (b' := M - 1) hN hM (by omega) hS hlv hJ hW hpos hR (e := nI (ph L M (M + (M - 2)))) (fun i hi => by unfold liv at hi; omega) (fun i h4 h5 => by
      by_cases e : i = M + (M - 2)
      · exact Or.inr (by rw [e])
      · exact Or.inl (by unfold tkn; omega))
    have hr : r = -1 := by
      rcases p2 with ⟨q, -⟩ | ⟨i, i1, -⟩
      · exact q
      · unfold liv at i1; omega
    refine ⟨val, up, ht, nI M, nI (M + (M - 2)), xs, xa, yk, yi, ?_, ?_, hJ, hxa, hR⟩
    · rw [f_Tree_join_b51, show (2 : Int32) * nI M = nI (2 * M) from pk_mul 2 M, show nI (2 * M) - (1 : Int32) = nI (2 * M - 1) from pk_sub (b := 1) (by omega), if_pos (nI_le (by omega) (by omega))]
    · rw [l1, bd1_e, p1, bd1_e, hr, f_MM_sums_b53, if_pos rfl]
  | succ d ih =>
    intro j z y a b val up ht xs xa yk yi h1 h2 h3 hJ hpos hxs hxa hR
    obtain ⟨z, rfl⟩ := z_succ h2
    obtain ⟨y, rfl⟩ := z_succ h3
    obtain ⟨g1, g2, g3, g4⟩ := hJ.1
    obtain ⟨c1, a1, b1, p1⟩ := pick_ex (M := M) (j := j) (a := a) (b := b) (val := val) g3 (by omega)
    obtain ⟨l1, l2, l3, l4, l5, l6⟩ := pick_liv g2 g3 p1
    obtain ⟨c2, a2, b2, p2⟩ := pick_ex (M := M) (j := j) (a := a1) (b := b1) (val := val) l4 (by omega)
    obtain ⟨n1, n2, n3, n4, n5, n6⟩ := pick_liv l3 l4 p2
    have hc1 : c1 < M + j := by unfold liv at l1; omega
    have hc2 : c2 < M + j := by unfold liv at n1; omega
    have hne : c2 ≠ c1 := ((l2 c2).mp n1).2
    have hlt : ∀ i, liv M j a b i → i < M + j := fun i q => by unfold liv at q; omega
    have hJ' := JI_step (by omega) hJ p1 p2
    have f1 := ph_lt hS hc1
    have f2 := ph_lt hS hc2
    have fne : ph L M c2 ≠ ph L M c1 := fun q => hne (ph_inj hS q)
    have fm : ph L M (M + j) = 256 + j := by unfold ph; rw [if_neg (by omega)]; omega
    have Y1 := leastY_pick hN hM (by omega) hS hlv hJ hW hpos hR (e := -1) g2 g3 p1 (fun i hi => ⟨hi, m1_ne (by have := ph_lt hS (hlt i hi); omega)⟩) (fun i h4 h5 => Or.inl (by unfold liv at h5; unfold tkn; omega))
    have Y2 := leastY_pick hN hM (by omega) hS hlv hJ hW hpos hR (e := nI (ph L M c1)) l3 l4 p2 (fun i hi => by
      obtain ⟨q1, q2⟩ := (l2 i).mp hi
      refine ⟨q1, fun q => q2 (ph_inj hS ((nI_eq ?_ (by omega)).mp q))⟩
      have := ph_lt hS (hlt i q1)
      omega) (fun i h4 h5 => by
      by_cases e : i = c1
      · exact Or.inr (by rw [e])
      · refine Or.inl ?_
        have : ¬ liv M j a b i := fun q => h5 ((l2 i).mpr ⟨q, e⟩)
        unfold liv at this
        unfold tkn
        omega)
    have X1 := leastX (N := N) hM (show j < M by omega) g2 g3 hxs (fun i hi => JI_le hJ hi) hW p1
    have X2 := leastX (N := N) hM (show j < M by omega) l3 l4 hxs (fun i hi => JI_le hJ ((l2 i).mp hi).1) hW p2
    have htk2 : ∀ i, tkn M a2 b2 i ↔ (tkn M a b i ∨ i = c1 ∨ i = c2) := fun i => by rw [n6, l6, or_assoc]
    have hntk : ∀ i, tkn M a b i → i ≠ c1 ∧ i ≠ c2 ∧ i < M + j := fun i hi => by
      have q1 := l1
      have q2 := ((l2 c2).mp n1).1
      unfold liv at q1 q2
      unfold tkn at hi
      omega
    obtain ⟨R1, R2, R3, R4⟩ := hR
    have hR' : RY h L M (j + 1) a2 b2 (uN val (M + j) (val c1 + val c2)) (uN (uN up c1 (M + j)) c2 (M + j)) (upd yk (256 + j) (nI (val c1 + val c2))) (upd (upd (upd yi (256 + j) (-1)) (ph L M c1) (nI (256 + j))) (ph L M c2) (nI (256 + j))) := by
      refine ⟨fun i hi => ?_, fun k hk hk0 => ?_, fun i hi => ?_, fun i hi => ?_⟩
      · by_cases e : i = M + j
        · rw [e, fm, pk_us, uN_s]
        · have := ph_lt hS (show i < M + j by omega)
          rw [pk_un (by omega), uN_n e]; exact R1 i (by omega)
      · have nk : ∀ c, c < M + j → k ≠ ph L M c := by
          intro c hc q
          unfold ph at q
          by_cases e : c < M
          · rw [if_pos e] at q
            rw [q] at hk0
            exact (hS.1 c e).2 hk0
          · rw [if_neg e] at q; omega
        obtain ⟨q1, q2⟩ := R2 k hk hk0
        rw [pk_un (by omega), pk_un (nk c2 hc2), pk_un (nk c1 hc1), pk_un (by omega)]
        exact ⟨q1, q2⟩
      · by_cases e : i = M + j
        · rw [e, fm, pk_un (by omega), pk_un (by omega), pk_us]
        · have hl : liv M j a2 b2 i := by unfold liv at hi ⊢; omega
          have q := (n2 i).mp hl
          have q' := (l2 i).mp q.1
          have := ph_lt hS (hlt i q'.1)
          rw [pk_un (fun w => q.2 (ph_inj hS w)), pk_un (fun w => q'.2 (ph_inj hS w)), pk_un (by omega)]
          exact R3 i q'.1
      · rcases (htk2 i).mp hi with q | q | q
        · obtain ⟨q1, q2, q3⟩ := hntk i q
          have := ph_lt hS q3
          rw [pk_un (fun w => q2 (ph_inj hS w)), pk_un (fun w => q1 (ph_inj hS w)), pk_un (by omega), uN_n q2, uN_n q1]
          exact R4 i q
        · rw [q, pk_un (fun w => fne w.symm), pk_us, uN_n (fun w => hne w.symm), uN_s, fm]
        · rw [q, pk_us, uN_s, fm]
    obtain ⟨val', up', ht', al, be, xs', xa', yk', yi', q1, q2, q3⟩ := ih (j + 1) z y a2 b2 _ _ _ (upd xs (M + j) (nI (val c1 + val c2))) (upd (upd xa c1 (nI (M + j))) c2 (nI (M + j))) _ _ (by omega) (by omega) (by omega) hJ' (by
      intro i hi
      by_cases e : i = M + j
      · rw [e, uN_s]; have := hpos c1 hc1; omega
      · rw [uN_n e]; exact hpos i (by omega)) (by
      intro i hi
      by_cases e : i = M + j
      · rw [e, pk_us, uN_s]
      · rw [pk_un e, uN_n e]; exact hxs i (by omega)) (by
      intro i hi
      rcases (htk2 i).mp hi with q | q | q
      · obtain ⟨q1, q2, -⟩ := hntk i q
        rw [pk_un q2, pk_un q1, uN_n q2, uN_n q1]; exact hxa i q
      · rw [q, pk_un (fun w => hne w.symm), pk_us, uN_n (fun w => hne w.symm), uN_s]
      · rw [q, pk_us, uN_s]) hR'
    refine ⟨val', up', ht', al, be, xs', xa', yk', yi', ?_, ?_, q3⟩
    · rw [f_Tree_join_b51, show (2 : Int32) * nI M = nI (2 * M) from pk_mul 2 M, show nI (2 * M) - (1 : Int32) = nI (2 * M - 1) from pk_sub (b := 1) (by omega), if_neg (nI_ge (by omega) (by omega)), X1, bd3_e, X2, bd3_e]
      have K1 : ∀ {β : Type} (q : Option β), ck (inb (nI c1) 512) q = q := fun q => ck_n (by omega) (by decide)
      have K2 : ∀ {β : Type} (q : Option β), ck (inb (nI c2) 512) q = q := fun q => ck_n (by omega) (by decide)
      simp only [K1, K2]
      rw [ck_n (by omega) (by decide), nI_clamp (show c1 < 2 ^ 31 by omega), nI_clamp (show c2 < 2 ^ 31 by omega), nI_clamp (show M + j < 2 ^ 31 by omega), hxs c1 hc1, hxs c2 hc2, nI_add, nm_q, nm_q, nm_q, nm_q, nI_1]
      exact q1
    · rw [Y1, bd1_e, Y2, bd1_e, f_MM_sums_b53, if_neg (m1_ne (by omega))]
      have K1 : ∀ {β : Type} (q : Option β), ck (inb (nI (ph L M c1)) 512) q = q := fun q => ck_n (by omega) (by decide)
      have K2 : ∀ {β : Type} (q : Option β), ck (inb (nI (ph L M c2)) 512) q = q := fun q => ck_n (by omega) (by decide)
      have K3 : ∀ {β : Type} (q : Option β), ck (inb (nI (256 + j)) 512) q = q := fun q => ck_n (by omega) (by decide)
      simp only [K1, K2, K3]
      rw [nI_clamp (show ph L M c1 < 2 ^ 31 by omega), nI_clamp (show ph L M c2 < 2 ^ 31 by omega), nI_clamp (show 256 + j < 2 ^ 31 by omega), R1 c1 hc1, R1 c2 hc2, nI_add, nm_q, nm_q, nm_q, nm_q, nm_q, nI_1]
      exact q2
/-! ===== depths ===== -/
theorem measure_loop {N M : Nat} (hM2 : 2 ≤ M) (hM : M ≤ 256) {up : Nat → Nat} (hup : ∀ i, i < 2 * M - 2 → i < up i ∧ up i ≤ 2 * M - 2) {xl xa : Nat → Int32} (hxa : ∀ i, i < 2 * M - 2 → xa i = nI (up i)) : ∀ (k z : Nat) (D : Nat → Nat) (xlen xd : Nat → Int32), k ≤ 2 * M - 2 → k < z → D (2 * M - 2) = 0 → (∀ i, k ≤ i → i < 2 * M - 2 → D i = D (up i) + 1) → (∀ i, k ≤ i → i ≤ 2 * M - 2 → xd i = nI (D i)) →
    ∃ (D' : Nat → Nat) (xd' : Nat → Int32), f_Tree_measure_b20 N (nI M) xl xa z (nI k - 1) xlen xd = f_Tree_measure_b49 N (nI M) xl xa xlen xd' ∧ D' (2 * M - 2) = 0 ∧ (∀ i, i < 2 * M - 2 → D' i = D' (up i) + 1) ∧ ∀ i, i ≤ 2 * M - 2 → xd' i = nI (D' i) := by
  intro k
  induction k with
  | zero =>
    intro z D xlen xd h1 h2 h3 h4 h5
    obtain ⟨z, rfl⟩ := z_succ h2
    refine ⟨D, xd, ?_, h3, fun i hi => h4 i (by omega) hi, fun i hi => h5 i (by omega) hi⟩
    rw [f_Tree_measure_b20, if_pos (show nI 0 - 1 < (0 : Int32) by decide)]
  | succ k ih =>
    intro z D xlen xd h1 h2 h3 h4 h5
    obtain ⟨z, rfl⟩ := z_succ h2
    obtain ⟨u1, u2⟩ := hup k (by omega)
    obtain ⟨D', xd', q1, q2, q3, q4⟩ := ih z (uN D k (D (up k) + 1)) xlen (upd xd k (nI (D (up k) + 1))) (by omega) (by omega) (by rw [uN_n (by omega)]; exact h3) (by
      intro i i1 i2
      obtain ⟨v1, v2⟩ := hup i i2
      by_cases e : i = k
      · rw [e, uN_s, uN_n (by omega)]
      · rw [uN_n e, uN_n (by omega)]; exact h4 i (by omega) i2) (by
      intro i i1 i2
      by_cases e : i = k
      · rw [e, uN_s, pk_us]
      · rw [uN_n e, pk_un e]; exact h5 i (by omega) i2)
    refine ⟨D', xd', ?_, q2, q3, q4⟩
    rw [f_Tree_measure_b20, nI_pred, if_neg (nI_pos (by omega)), ck_n (by omega) (by decide), nI_clamp (by omega), hxa k (by omega), ck_n (by omega) (by decide), ck_n (by omega) (by decide), nI_clamp (by omega), h5 _ (by omega) u2, nI_1, nm_q, nm_q, i_m1]
    exact q1
theorem D_bound {R : Nat} {up D ht : Nat → Nat} (hup : ∀ i, i < R → i < up i ∧ up i ≤ R) (hD0 : D R = 0) (hD : ∀ i, i < R → D i = D (up i) + 1) (hht : ∀ i, i < R → ht i + 1 ≤ ht (up i)) : ∀ d i, i + d = R → D i ≤ d ∧ D i + ht i ≤ ht R := by
  intro d
  induction d using Nat.strongRecOn with
  | _ d ih =>
    intro i hi
    by_cases e : d = 0
    · subst e
      rw [show i = R by omega, hD0]
      exact ⟨Nat.le_refl _, by omega⟩
    · obtain ⟨u1, u2⟩ := hup i (by omega)
      have h1 := ih (R - up i) (by omega) (up i) (by omega)
      have h2 := hD i (by omega)
      have h3 := hht i (by omega)
      omega
/-- the reference's way up from a knot -/
theorem walk_up {N M : Nat} (hM2 : 2 ≤ M) (hM : M ≤ 256) {h L up D : Nat → Nat} (hS : Srt h M L) (hup : ∀ i, i < 2 * M - 2 → i < up i ∧ up i ≤ 2 * M - 2) (hD0 : D (2 * M - 2) = 0) (hD : ∀ i, i < 2 * M - 2 → D i = D (up i) + 1) {yh yk yi : Nat → Int32} (hyi : ∀ i, i < 2 * M - 2 → yi (ph L M i) = nI (ph L M (up i))) (hyr : yi (ph L M (2 * M - 2)) = -1) {s : Nat} (hs : s < 256) {kn : Int32} {k137 : Int32 → Int32 → (Nat → Int32) → (Nat → Int32) → (Nat → Int32) → Option (Int32 × (Nat → Int32) × (Nat → Int32) × (Nat → Int32))} : ∀ (d i z c : Nat) (yd : Nat → Int32), i + d = 2 * M - 2 → d + 1 < z → yd s = nI c →
    ∃ yd', f_MM_sums_b159 N yh k137 z (nI s) (nI (ph L M i)) kn yd yk yi = k137 (nI (s + 1)) kn yd' yk yi ∧ yd' s = nI (c + D i + 1) ∧ ∀ k, k ≠ s → yd' k = yd k := by
  intro d
  induction d using Nat.strongRecOn with
  | _ d ih =>
    intro i z c yd h1 h2 h3
    obtain ⟨z, rfl⟩ := z_succ (show d < z by omega)
    have hp := ph_lt (j := M - 1) hS (show i < M + (M - 1) by omega)
    rw [f_MM_sums_b159, if_neg (m1_ne (by omega)), ck_n hs (by decide), ck_n hs (by decide), nI_clamp (by omega), h3, nI_1, nm_q, ck_n (by omega) (by decide), nI_clamp (by omega), nm_q]
    by_cases e : d = 0
    · subst e
      obtain ⟨z, rfl⟩ : ∃ z', z = z' + 1 := ⟨z - 1, by omega⟩
      rw [show i = 2 * M - 2 by omega, hyr, hD0, f_MM_sums_b159, if_pos rfl]
      unfold f_MM_sums_b187
      refine ⟨upd yd s (nI (c + 1)), by rw [nm_q, nI_1], pk_us, fun k hk => pk_un hk⟩
    · obtain ⟨u1, u2⟩ := hup i (by omega)
      obtain ⟨yd', q1, q2, q3⟩ := ih (2 * M - 2 - up i) (by omega) (up i) z (c + 1) (upd yd s (nI (c + 1))) (by omega) (by omega) pk_us
      refine ⟨yd', ?_, ?_, fun k hk => by rw [q3 k hk, pk_un hk]⟩
      · rw [hyi i (by omega)]
        exact q1
      · rw [q2, hD i (by omega)]
        congr 1
        omega
