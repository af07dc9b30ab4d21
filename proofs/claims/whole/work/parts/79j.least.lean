/-! ===== joining on both sides ===== -/
theorem JI_le {M W j a b : Nat} {lv val up ht : Nat → Nat} (hJ : JI M W lv j a b val up ht) {i : Nat} (hi : liv M j a b i) : val i ≤ W := by
  obtain ⟨⟨g1, g2, g3, g4⟩, ⟨r1, r2, r3⟩, -, -, gW, -⟩ := hJ
  have m1 : sm lv a ≤ sm lv M := sm_mono g2
  have m2 : sm (fun i => val (M + i)) b ≤ sm (fun i => val (M + i)) j := sm_mono g3
  rcases hi with ⟨h1, h2⟩ | ⟨h1, h2⟩
  · have h3 := sm_term (f := lv) h2
    have h4 : sm lv a ≤ sm lv i := sm_mono h1
    rw [r1 i h2]
    omega
  · have h3 := sm_term (f := fun i => val (M + i)) (show i - M < j by omega)
    have h4 : sm (fun i => val (M + i)) b ≤ sm (fun i => val (M + i)) (i - M) := sm_mono (by omega)
    rw [show M + (i - M) = i by omega] at h3
    omega
theorem leastX {N M W j a b c a' b' : Nat} {val : Nat → Nat} {xs : Nat → Int32} (hM : M ≤ 256) (hj : j < M) (ha : a ≤ M) (hb : b ≤ j) (hxs : ∀ i, i < M + j → xs i = nI (val i)) (hv : ∀ i, liv M j a b i → val i ≤ W) (hW : W < 2 ^ 30) (h : PickR M j val a b c a' b') :
    f_Tree_least N (nI M) xs (nI (M + j)) (nI a) (nI (M + b)) = some (nI c, nI a', nI (M + b')) := by
  unfold f_Tree_least f_Tree_least_b57 f_Tree_least_b40
  rcases h with ⟨h1, h2, rfl, rfl, rfl⟩ | ⟨h1, h2, rfl, rfl, rfl⟩
  · rw [if_neg (nI_ge h1 (by omega))]
    by_cases e : b' = j
    · rw [if_pos (nI_le (by omega) (by omega)), nm_q, nI_1, nI_pred]
    · have v1 := hv c (Or.inl ⟨Nat.le_refl _, h1⟩)
      have v2 := hv (M + b') (Or.inr ⟨Nat.le_refl _, by omega⟩)
      rw [if_neg (nI_ge (by omega) (by omega)), ck_n (by omega) (by decide), ck_n (by omega) (by decide), nI_clamp (by omega), nI_clamp (by omega), hxs _ (by omega), hxs _ (by omega), if_neg (nI_nlt (by omega) (by omega)), nm_q, nI_1, nI_pred]
  · by_cases e : M ≤ a'
    · rw [if_pos (nI_le e (by omega)), nm_q, nI_1, nI_pred]
      rfl
    · have v1 := hv a' (Or.inl ⟨Nat.le_refl _, by omega⟩)
      have v2 := hv (M + b) (Or.inr ⟨Nat.le_refl _, by omega⟩)
      have h3 := h2 (by omega)
      rw [if_neg (nI_ge (by omega) (by omega)), if_neg (nI_ge (by omega) (by omega)), ck_n (by omega) (by decide), ck_n (by omega) (by decide), nI_clamp (by omega), nI_clamp (by omega), hxs _ (by omega), hxs _ (by omega), if_pos (nI_lt h3 (by omega)), nm_q, nI_1, nI_pred]
      rfl
theorem least_loop {N n : Nat} (hn : n ≤ 512) {yk yi : Nat → Int32} {e : Int32} {Lv : Nat → Prop} {V : Nat → Nat} (hL1 : ∀ k, k < n → Lv k → ¬ nI k = e ∧ yi k = -1 ∧ yk k = nI (V k) ∧ 0 < V k ∧ V k < 2 ^ 30) (hL0 : ∀ k, k < n → ¬ Lv k → nI k = e ∨ ¬ yi k = -1 ∨ yk k ≤ 0) : ∀ (d m z : Nat) (best : Int32), n = m + d → d < z → ((best = -1 ∧ ∀ x, x < m → ¬ Lv x) ∨ ∃ b, b < m ∧ best = nI b ∧ Lv b ∧ ∀ x, x < m → Lv x → x = b ∨ V b < V x ∨ (V b = V x ∧ b < x)) →
    ∃ r, f_MM_least_b4 N (nI n) yk yi e z best (nI m) = some r ∧ ((r = -1 ∧ ∀ x, x < n → ¬ Lv x) ∨ ∃ b, b < n ∧ r = nI b ∧ Lv b ∧ ∀ x, x < n → Lv x → x = b ∨ V b < V x ∨ (V b = V x ∧ b < x)) := by
  intro d
  induction d with
  | zero =>
    intro m z best h1 h2 h3
    obtain ⟨z, rfl⟩ := z_succ h2
    obtain rfl : m = n := by omega
    refine ⟨best, ?_, h3⟩
    rw [f_MM_least_b4, if_pos (nI_le (Nat.le_refl _) (by omega))]
    rfl
  | succ d ih =>
    intro m z best h1 h2 h3
    obtain ⟨z, rfl⟩ := z_succ h2
    have hm : m < n := by omega
    have K : ∀ {β : Type} (q : Option β), ck (inb (nI m) 512) q = q := fun q => ck_n (by omega) (by decide)
    rw [f_MM_least_b4, if_neg (nI_ge hm (by omega))]
    simp only [K]
    rw [nI_clamp (by omega)]
    unfold f_MM_least_b56 f_MM_least_b58
    simp only [nm_q]
    rw [nI_1]
    by_cases hl : Lv m
    · obtain ⟨l1, l2, l3, l4, l5⟩ := hL1 m hm hl
      rw [if_neg l1, if_pos l2, l3, if_neg (nle0 l4 (by omega))]
      rcases h3 with ⟨a, b⟩ | ⟨b, b1, b2, b3, b4⟩
      · rw [if_pos a]
        refine ih (m + 1) z (nI m) (by omega) (by omega) (Or.inr ⟨m, by omega, rfl, hl, fun x hx hx2 => ?_⟩)
        by_cases ex : x = m
        · exact Or.inl ex
        · exact absurd hx2 (b x (by omega))
      · obtain ⟨c1, c2, c3, c4, c5⟩ := hL1 b (by omega) b3
        rw [b2, if_neg (m1_ne (by omega)), ck_n (by omega) (by decide), nI_clamp (by omega), c3]
        by_cases ec : V b ≤ V m
        · rw [if_pos (nI_le ec (by omega))]
          refine ih (m + 1) z (nI b) (by omega) (by omega) (Or.inr ⟨b, by omega, rfl, b3, fun x hx hx2 => ?_⟩)
          by_cases ex : x = m
          · rw [ex]; omega
          · exact b4 x (by omega) hx2
        · rw [if_neg (nI_ge (by omega) (by omega))]
          refine ih (m + 1) z (nI m) (by omega) (by omega) (Or.inr ⟨m, by omega, rfl, hl, fun x hx hx2 => ?_⟩)
          by_cases ex : x = m
          · exact Or.inl ex
          · rcases b4 x (by omega) hx2 with q | q | q
            · rw [q]; omega
            · omega
            · omega
    · have skip : ∃ r, f_MM_least_b4 N (nI n) yk yi e z best (nI (m + 1)) = some r ∧ ((r = -1 ∧ ∀ x, x < n → ¬ Lv x) ∨ ∃ b, b < n ∧ r = nI b ∧ Lv b ∧ ∀ x, x < n → Lv x → x = b ∨ V b < V x ∨ (V b = V x ∧ b < x)) := by
        refine ih (m + 1) z best (by omega) (by omega) ?_
        rcases h3 with ⟨a, b⟩ | ⟨b, b1, b2, b3, b4⟩
        · refine Or.inl ⟨a, fun x hx => ?_⟩
          by_cases ex : x = m
          · rw [ex]; exact hl
          · exact b x (by omega)
        · refine Or.inr ⟨b, by omega, b2, b3, fun x hx hx2 => ?_⟩
          by_cases ex : x = m
          · rw [ex] at hx2; exact absurd hx2 hl
          · exact b4 x (by omega) hx2
      by_cases h4 : nI m = e
      · rw [if_pos h4]; exact skip
      · rw [if_neg h4]
        by_cases h5 : yi m = -1
        · rw [if_pos h5]
          rcases hL0 m hm hl with q | q | q
          · exact absurd q h4
          · exact absurd h5 q
          · rw [if_pos q]; exact skip
        · rw [if_neg h5]; exact skip
/-- the reference's knot of a knot of the class -/
def ph (L : Nat → Nat) (M i : Nat) : Nat := if i < M then L i else 256 + (i - M)
theorem ph_lt {L : Nat → Nat} {M j i : Nat} {h : Nat → Nat} (hS : Srt h M L) (hi : i < M + j) : ph L M i < 256 + j := by
  unfold ph
  split
  · have := (hS.1 i (by assumption)).1; omega
  · omega
theorem ph_inj {L : Nat → Nat} {M i k : Nat} {h : Nat → Nat} (hS : Srt h M L) (q : ph L M i = ph L M k) : i = k := by
  have inj : ∀ a b, a < b → b < M → L a ≠ L b := fun a b h1 h2 => by
    have := hS.2.1 a b h1 h2
    intro q
    rw [q] at this
    omega
  unfold ph at q
  by_cases hi : i < M <;> by_cases hk : k < M
  · rw [if_pos hi, if_pos hk] at q
    rcases Nat.lt_trichotomy i k with a | a | a
    · exact absurd q (inj i k a hk)
    · exact a
    · exact absurd q.symm (inj k i a hi)
  · rw [if_pos hi, if_neg hk] at q
    have := (hS.1 i hi).1
    omega
  · rw [if_neg hi, if_pos hk] at q
    have := (hS.1 k hk).1
    omega
  · rw [if_neg hi, if_neg hk] at q
    omega
theorem ph_ord {L : Nat → Nat} {M i k : Nat} {h lv val : Nat → Nat} (hS : Srt h M L) (hlv : ∀ i, i < M → lv i = h (L i)) (hval : ∀ i, i < M → val i = lv i) (hik : i < k) (he : val i = val k) : ph L M i < ph L M k := by
  unfold ph
  by_cases hk : k < M
  · rw [if_pos hk, if_pos (by omega)]
    have := hS.2.1 i k hik hk
    rw [hval i (by omega), hval k hk, hlv i (by omega), hlv k hk] at he
    omega
  · rw [if_neg hk]
    by_cases hi : i < M
    · rw [if_pos hi]; have := (hS.1 i hi).1; omega
    · rw [if_neg hi]; omega
/-- the reference's knots while joining -/
def RY (h : Nat → Nat) (L : Nat → Nat) (M j a b : Nat) (val up : Nat → Nat) (yk yi : Nat → Int32) : Prop :=
  (∀ i, i < M + j → yk (ph L M i) = nI (val i)) ∧ (∀ k, k < 256 → h k = 0 → yk k = 0 ∧ yi k = -1) ∧ (∀ i, liv M j a b i → yi (ph L M i) = -1) ∧ ∀ i, tkn M a b i → yi (ph L M i) = nI (ph L M (up i))
theorem leastY {N M W j a b a' b' : Nat} {h L lv val up ht : Nat → Nat} (hN : 600 ≤ N) (hM : M ≤ 256) (hj : j < M) (hS : Srt h M L) (hlv : ∀ i, i < M → lv i = h (L i)) (hJ : JI M W lv j a b val up ht) (hW : W < 2 ^ 30) (hpos : ∀ i, i < M + j → 0 < val i) {yk yi : Nat → Int32} (hR : RY h L M j a b val up yk yi) {e : Int32} (he1 : ∀ i, liv M j a' b' i → liv M j a b i ∧ ¬ nI (ph L M i) = e) (he0 : ∀ i, i < M + j → ¬ liv M j a' b' i → tkn M a b i ∨ nI (ph L M i) = e) :
    ∃ r, f_MM_least N (nI (256 + j)) yk yi e = some r ∧ ((r = -1 ∧ ∀ i, ¬ liv M j a' b' i) ∨ ∃ i, liv M j a' b' i ∧ r = nI (ph L M i) ∧ ∀ k, liv M j a' b' k → k = i ∨ val i < val k ∨ (val i = val k ∧ ph L M i < ph L M k)) := by
  obtain ⟨R1, R2, R3, R4⟩ := hR
  have lt_of : ∀ i, liv M j a b i → i < M + j := fun i q => by unfold liv at q; omega
  have ex : ∀ k, k < 256 + j → (k < 256 ∧ h k = 0) ∨ ∃ i, i < M + j ∧ ph L M i = k := by
    intro k hk
    by_cases h1 : k < 256
    · by_cases h2 : h k = 0
      · exact Or.inl ⟨h1, h2⟩
      · obtain ⟨i, i1, i2⟩ := hS.2.2 k h1 h2
        refine Or.inr ⟨i, by omega, ?_⟩
        unfold ph
        rw [if_pos i1]; exact i2
    · refine Or.inr ⟨M + (k - 256), by omega, ?_⟩
      unfold ph
      rw [if_neg (by omega)]; omega
  -- the value of a knot of the reference
  have vex : ∀ k, ∃ v, ∀ i, i < M + j → ph L M i = k → v = val i := by
    intro k
    by_cases q : ∃ i, i < M + j ∧ ph L M i = k
    · obtain ⟨i, i1, i2⟩ := q
      exact ⟨val i, fun i' _ q2 => by rw [ph_inj hS (i2.trans q2.symm)]⟩
    · exact ⟨0, fun i h1 h2 => absurd ⟨i, h1, h2⟩ q⟩
  have hV : ∃ V : Nat → Nat, ∀ k i, i < M + j → ph L M i = k → V k = val i := ⟨fun k => (vex k).choose, fun k => (vex k).choose_spec⟩
  obtain ⟨V, hV⟩ := hV
  obtain ⟨r, p1, p2⟩ := least_loop (N := N) (n := 256 + j) (by omega) (yk := yk) (yi := yi) (e := e) (Lv := fun k => ∃ i, liv M j a' b' i ∧ ph L M i = k) (V := V) (by
    rintro k hk ⟨i, i1, rfl⟩
    obtain ⟨q1, q2⟩ := he1 i i1
    have hlt := lt_of i q1
    have hle := JI_le hJ q1
    rw [hV _ i hlt rfl]
    exact ⟨q2, R3 i q1, R1 i hlt, hpos i hlt, by omega⟩) (by
    intro k hk hno
    rcases ex k hk with ⟨h1, h2⟩ | ⟨i, i1, rfl⟩
    · exact Or.inr (Or.inr (by rw [(R2 k h1 h2).1]; decide))
    · rcases he0 i i1 (fun q => hno ⟨i, q, rfl⟩) with q | q
      · refine Or.inr (Or.inl ?_)
        rw [R4 i q]
        have hup := (hJ.2.2.2.1 i q).2
        have hp := ph_lt hS hup
        exact m1_ne (by omega)
      · exact Or.inl q) (256 + j) 0 N (-1) (by omega) (by omega) (Or.inl ⟨rfl, fun x hx => absurd hx (by omega)⟩)
  refine ⟨r, p1, ?_⟩
  rcases p2 with ⟨q1, q2⟩ | ⟨b0, b1, b2, ⟨i, i1, i2⟩, b4⟩
  · refine Or.inl ⟨q1, fun i hi => q2 (ph L M i) (ph_lt hS (lt_of i (he1 i hi).1)) ⟨i, hi, rfl⟩⟩
  · refine Or.inr ⟨i, i1, by rw [b2, i2], fun k hk => ?_⟩
    have hkl := lt_of k (he1 k hk).1
    have hil := lt_of i (he1 i i1).1
    rcases b4 (ph L M k) (ph_lt hS hkl) ⟨k, hk, rfl⟩ with q | q | q
    · exact Or.inl (ph_inj hS (by rw [i2]; exact q))
    · rw [← i2, hV _ i hil rfl, hV _ k hkl rfl] at q
      exact Or.inr (Or.inl q)
    · rw [← i2, hV _ i hil rfl, hV _ k hkl rfl] at q
      exact Or.inr (Or.inr q)
/-- what the class takes is what the reference finds -/
theorem leastY_pick {N M W j a b a0 b0 c a' b' : Nat} {h L lv val up ht : Nat → Nat} (hN : 600 ≤ N) (hM : M ≤ 256) (hj : j < M) (hS : Srt h M L) (hlv : ∀ i, i < M → lv i = h (L i)) (hJ : JI M W lv j a b val up ht) (hW : W < 2 ^ 30) (hpos : ∀ i, i < M + j → 0 < val i) {yk yi : Nat → Int32} (hR : RY h L M j a b val up yk yi) {e : Int32} (ha0 : a0 ≤ M) (hb0 : b0 ≤ j) (hp : PickR M j val a0 b0 c a' b') (he1 : ∀ i, liv M j a0 b0 i → liv M j a b i ∧ ¬ nI (ph L M i) = e) (he0 : ∀ i, i < M + j → ¬ liv M j a0 b0 i → tkn M a b i ∨ nI (ph L M i) = e) :
    f_MM_least N (nI (256 + j)) yk yi e = some (nI (ph L M c)) := by
  obtain ⟨r, p1, p2⟩ := leastY hN hM hj hS hlv hJ hW hpos hR he1 he0
  have hc := (pick_liv ha0 hb0 hp).1
  rcases p2 with ⟨-, q⟩ | ⟨i, i1, i2, i3⟩
  · exact absurd hc (q c)
  · rw [p1, i2]
    have h1 := pick_min hJ.2.1 hp i i1
    have h2 := i3 c hc
    have : i = c := by
      rcases h1 with q | q | ⟨q, q'⟩
      · exact q
      · rcases h2 with w | w | w
        · exact w.symm
        · omega
        · omega
      · have h3 := ph_ord hS hlv hJ.2.1.1 q' q
        rcases h2 with w | w | w
        · exact w.symm
        · omega
        · omega
    rw [this]
