theorem cn_succ {h : Nat → Nat} {s : Nat} : cn h (s + 1) = cn h s + (if h s = 0 then 0 else 1) := rfl
theorem cn_mono {h : Nat → Nat} {m n : Nat} (q : m ≤ n) : cn h m ≤ cn h n := sm_mono q
theorem cn_sur {h : Nat → Nat} {n i : Nat} (q : i < cn h n) : ∃ k, k < n ∧ h k ≠ 0 ∧ cn h k = i := by
  induction n with
  | zero => exact absurd q (Nat.not_lt_zero _)
  | succ n ih =>
    by_cases e : i < cn h n
    · obtain ⟨k, a, b⟩ := ih e
      exact ⟨k, by omega, b⟩
    · rw [cn_succ] at q
      by_cases e2 : h n = 0
      · rw [if_pos e2] at q; omega
      · rw [if_neg e2] at q
        exact ⟨n, by omega, e2, by omega⟩
/-- leaves in the order of their counts, of equal ones the lower symbol first -/
def Srt (h : Nat → Nat) (M : Nat) (L : Nat → Nat) : Prop :=
  (∀ i, i < M → L i < 256 ∧ h (L i) ≠ 0) ∧ (∀ i j, i < j → j < M → (h (L i) < h (L j) ∨ (h (L i) = h (L j) ∧ L i < L j))) ∧ ∀ s, s < 256 → h s ≠ 0 → ∃ i, i < M ∧ L i = s
theorem leaves_loop {N M : Nat} (hM : M ≤ 256) {h : Nat → Nat} (hh : ∀ s, s < 256 → h s < 2 ^ 30) {xh xsd xst : Nat → Int32} (hxh : ∀ s, s < 256 → xh s = nI (h s)) : ∀ (d s z : Nat) (xl : Nat → Int32), 256 = s + d → d < z → (∀ k, k < s → h k ≠ 0 → xl (cn h k) = nI k) →
    ∃ xl', f_Tree_sortLeaves_b4 N (nI M) xh z (nI (cn h s)) (nI s) xl xsd xst = f_Tree_sortLeaves_b36 N (nI M) xh xl' xsd xst ∧ ∀ k, k < 256 → h k ≠ 0 → xl' (cn h k) = nI k := by
  intro d
  induction d with
  | zero =>
    intro s z xl h1 h2 h3
    obtain ⟨z, rfl⟩ := z_succ h2
    obtain rfl : s = 256 := by omega
    refine ⟨xl, ?_, h3⟩
    rw [f_Tree_sortLeaves_b4, if_pos (le256 (by omega) (by omega))]
  | succ d ih =>
    intro s z xl h1 h2 h3
    obtain ⟨z, rfl⟩ := z_succ h2
    have hs : s < 256 := by omega
    have hhs := hh s hs
    have hcs := cn_le (len := h) (n := s)
    rw [f_Tree_sortLeaves_b4, if_neg (nle256 (by omega)), ck_n hs (by decide), nI_clamp (by omega), hxh s hs]
    unfold f_Tree_sortLeaves_b30
    by_cases e : h s = 0
    · obtain ⟨xl', q1, q2⟩ := ih (s + 1) z xl (by omega) (by omega) (fun k hk hk2 => by
        by_cases ek : k = s
        · rw [ek] at hk2; exact absurd e hk2
        · exact h3 k (by omega) hk2)
      refine ⟨xl', ?_, q2⟩
      rw [if_pos (le0 e), nm_q, nI_1, show cn h s = cn h (s + 1) by rw [cn_succ, if_pos e]; rfl]
      exact q1
    · obtain ⟨xl', q1, q2⟩ := ih (s + 1) z (upd xl (cn h s) (nI s)) (by omega) (by omega) (fun k hk hk2 => by
        by_cases ek : k = s
        · rw [ek, pk_us]
        · have h4 : cn h (k + 1) ≤ cn h s := cn_mono (by omega)
          rw [cn_succ, if_neg hk2] at h4
          rw [pk_un (by omega)]
          exact h3 k (by omega) hk2)
      refine ⟨xl', ?_, q2⟩
      rw [if_neg (nle0 (by omega) (by omega)), ck_n (by omega) (by decide), nI_clamp (by omega), nm_q, nm_q, nm_q, nI_1, nI_1, show cn h s + 1 = cn h (s + 1) by rw [cn_succ, if_neg e]]
      exact q1
theorem sortLeaves_ok {N : Nat} (hN : 600 ≤ N) {h : Nat → Nat} (hh : ∀ s, s < 256 → h s < 65536) {xh : Nat → Int32} (hxh : ∀ s, s < 256 → xh s = nI (h s)) (xl xsd xst : Nat → Int32) :
    ∃ L xl' xsd' xst', f_Tree_sortLeaves N (nI (cn h 256)) xh xl xsd xst = some (xl', xsd', xst') ∧ Srt h (cn h 256) L ∧ ∀ i, i < cn h 256 → xl' i = nI (L i) := by
  have hM : cn h 256 ≤ 256 := cn_le
  have hh30 : ∀ s, s < 256 → h s < 2 ^ 30 := fun s hs => by have := hh s hs; omega
  obtain ⟨xl1, a1, a2⟩ := leaves_loop (N := N) hM hh30 (xsd := xsd) (xst := xst) hxh 256 0 N xl (by omega) (by omega) (fun k hk => absurd hk (by omega))
  generalize hMM : cn h 256 = M at *
  -- in rising order
  have F1 : ∀ i, i < M → (xl1 i).toNatClampNeg < 256 ∧ h (xl1 i).toNatClampNeg ≠ 0 ∧ cn h (xl1 i).toNatClampNeg = i ∧ xl1 i = nI (xl1 i).toNatClampNeg := by
    intro i hi
    obtain ⟨k, k1, k2, k3⟩ := cn_sur (h := h) (n := 256) (i := i) (by omega)
    have := a2 k k1 k2
    rw [k3] at this
    rw [this, nI_clamp (by omega)]
    exact ⟨k1, k2, k3, rfl⟩
  have F1s : ∀ i j, i < j → j < M → (xl1 i).toNatClampNeg < (xl1 j).toNatClampNeg := by
    intro i j h1 h2
    rcases Nat.lt_or_ge (xl1 i).toNatClampNeg (xl1 j).toNatClampNeg with q | q
    · exact q
    · have := cn_mono (h := h) q
      rw [(F1 i (by omega)).2.2.1, (F1 j h2).2.2.1] at this
      omega
  obtain ⟨st1, xs1, b1, b2⟩ := byByte_ok (N := N) (M := M) (sh := 0) hN hM (by decide) (F := fun i => (xl1 i).toNatClampNeg) hh30 (fun i hi => (F1 i hi).1) hxh (fun i hi => (F1 i hi).2.2.2) xst xsd
  have o1 : ∀ i, i < M → (fun i => h (xl1 i).toNatClampNeg / 2 ^ 0 % 256) i < 256 := fun i _ => Nat.mod_lt _ (by decide)
  have G1 : ∀ a, a < M → ∃ i, i < M ∧ ps0 (fun i => h (xl1 i).toNatClampNeg / 2 ^ 0 % 256) M i = a ∧ (xs1 a).toNatClampNeg = (xl1 i).toNatClampNeg ∧ xs1 a = nI (xs1 a).toNatClampNeg := by
    intro a ha
    obtain ⟨i, i1, i2⟩ := ps0_sur o1 ha
    have := b2 i i1
    rw [i2] at this
    have hl := (F1 i i1).1
    refine ⟨i, i1, i2, ?_, ?_⟩
    · rw [this, nI_clamp (by omega)]
    · rw [this, nI_clamp (by omega)]
  have G256 : ∀ a, a < M → (xs1 a).toNatClampNeg < 256 := fun a ha => by
    obtain ⟨i, i1, -, i3, -⟩ := G1 a ha
    rw [i3]; exact (F1 i i1).1
  obtain ⟨st2, xl2, c1, c2⟩ := byByte_ok (N := N) (M := M) (sh := 8) hN hM (by decide) (F := fun i => (xs1 i).toNatClampNeg) hh30 G256 hxh (fun i hi => by obtain ⟨_, _, _, _, i4⟩ := G1 i hi; exact i4) st1 xl1
  have o2 : ∀ i, i < M → (fun i => h (xs1 i).toNatClampNeg / 2 ^ 8 % 256) i < 256 := fun i _ => Nat.mod_lt _ (by decide)
  have G2 : ∀ a, a < M → ∃ i, i < M ∧ ps0 (fun i => h (xs1 i).toNatClampNeg / 2 ^ 8 % 256) M i = a ∧ (xl2 a).toNatClampNeg = (xs1 i).toNatClampNeg ∧ xl2 a = nI (xl2 a).toNatClampNeg := by
    intro a ha
    obtain ⟨i, i1, i2⟩ := ps0_sur o2 ha
    have := c2 i i1
    rw [i2] at this
    have hl := G256 i i1
    refine ⟨i, i1, i2, ?_, ?_⟩
    · rw [this, nI_clamp (by omega)]
    · rw [this, nI_clamp (by omega)]
  refine ⟨fun a => (xl2 a).toNatClampNeg, xl2, xs1, st2, ?_, ⟨?_, ?_, ?_⟩, fun a ha => by obtain ⟨_, _, _, _, i4⟩ := G2 a ha; exact i4⟩
  · unfold f_Tree_sortLeaves
    have a1' : f_Tree_sortLeaves_b4 N (nI M) xh N 0 0 xl xsd xst = _ := a1
    rw [a1']
    unfold f_Tree_sortLeaves_b36
    have b1' : f_Tree_sortByByte N (nI M) xh 256 xl1 256 0 xst xsd = _ := b1
    have c1' : f_Tree_sortByByte N (nI M) xh 256 xs1 256 8 st1 xl1 = _ := c1
    rw [b1', bd2_e, c1', bd2_e]
  · intro a ha
    obtain ⟨i, i1, -, i3, -⟩ := G2 a ha
    obtain ⟨j, j1, -, j3, -⟩ := G1 i i1
    show (xl2 a).toNatClampNeg < 256 ∧ h (xl2 a).toNatClampNeg ≠ 0
    rw [i3, j3]
    exact ⟨(F1 j j1).1, (F1 j j1).2.1⟩
  · intro a b hab hb
    obtain ⟨i, i1, i2, i3, -⟩ := G2 a (by omega)
    obtain ⟨j, j1, j2, j3, -⟩ := G2 b hb
    show h (xl2 a).toNatClampNeg < h (xl2 b).toNatClampNeg ∨ (h (xl2 a).toNatClampNeg = h (xl2 b).toNatClampNeg ∧ (xl2 a).toNatClampNeg < (xl2 b).toNatClampNeg)
    rw [i3, j3]
    have q := (ps0_ord (own := fun i => h (xs1 i).toNatClampNeg / 2 ^ 8 % 256) i1 j1).mp (by rw [i2, j2]; exact hab)
    have hi := hh _ (G256 i i1)
    have hj := hh _ (G256 j j1)
    have q' : h (xs1 i).toNatClampNeg / 2 ^ 8 % 256 < h (xs1 j).toNatClampNeg / 2 ^ 8 % 256 ∨ (h (xs1 i).toNatClampNeg / 2 ^ 8 % 256 = h (xs1 j).toNatClampNeg / 2 ^ 8 % 256 ∧ i < j) := q
    rw [show (2 : Nat) ^ 8 = 256 from rfl] at q'
    rcases q' with q1 | ⟨q1, q2⟩
    · exact Or.inl (by omega)
    · obtain ⟨k, k1, k2, k3, -⟩ := G1 i i1
      obtain ⟨l, l1, l2, l3, -⟩ := G1 j j1
      have r := (ps0_ord (own := fun i => h (xl1 i).toNatClampNeg / 2 ^ 0 % 256) k1 l1).mp (by rw [k2, l2]; exact q2)
      have r' : h (xl1 k).toNatClampNeg / 2 ^ 0 % 256 < h (xl1 l).toNatClampNeg / 2 ^ 0 % 256 ∨ (h (xl1 k).toNatClampNeg / 2 ^ 0 % 256 = h (xl1 l).toNatClampNeg / 2 ^ 0 % 256 ∧ k < l) := r
      rw [Nat.pow_zero, Nat.div_one, Nat.div_one] at r'
      rw [k3] at hi
      rw [l3] at hj
      rw [k3, l3] at q1 ⊢
      rcases r' with r1 | ⟨r1, r2⟩
      · exact Or.inl (by omega)
      · exact Or.inr ⟨by omega, F1s k l r2 l1⟩
  · intro s hs hne
    have hk := a2 s hs hne
    have hck : cn h s < M := by
      have h4 : cn h (s + 1) ≤ cn h 256 := cn_mono (by omega)
      rw [cn_succ, if_neg hne] at h4
      omega
    have hb := b2 (cn h s) hck
    have hp1 := ps0_lt o1 hck
    have hc := c2 _ hp1
    refine ⟨ps0 (fun i => h (xs1 i).toNatClampNeg / 2 ^ 8 % 256) M (ps0 (fun i => h (xl1 i).toNatClampNeg / 2 ^ 0 % 256) M (cn h s)), ps0_lt o2 hp1, ?_⟩
    show (xl2 _).toNatClampNeg = s
    rw [hc]
    show (nI (xs1 _).toNatClampNeg).toNatClampNeg = s
    rw [hb]
    show (nI (nI (xl1 (cn h s)).toNatClampNeg).toNatClampNeg).toNatClampNeg = s
    rw [hk, nI_clamp (show s < 2 ^ 31 by omega), nI_clamp (show s < 2 ^ 31 by omega), nI_clamp (show s < 2 ^ 31 by omega)]
