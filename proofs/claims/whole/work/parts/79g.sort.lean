/-! ===== leaves by counts: two stable passes ===== -/
/-- how many have a key below k, of M whose keys are own -/
def lt0 (own : Nat → Nat) (M k : Nat) : Nat := sm (fun v => cc own v M) k
def ps0 (own : Nat → Nat) (M i : Nat) : Nat := lt0 own M (own i) + cc own (own i) i
theorem lt0_succ {own : Nat → Nat} {M k : Nat} : lt0 own M (k + 1) = lt0 own M k + cc own k M := rfl
theorem lt0_mono {own : Nat → Nat} {M j k : Nat} (h : j ≤ k) : lt0 own M j ≤ lt0 own M k := sm_mono h
theorem lt0_all {own : Nat → Nat} {M : Nat} (h : ∀ i, i < M → own i < 256) : lt0 own M 256 = M := by
  show sm (fun v => sm (fun p => if own p = v then 1 else 0) M) 256 = M
  rw [sm_swap, sm_congr (g := fun _ => 1) (fun k hk => ?_)]
  · clear h
    induction M with
    | zero => rfl
    | succ M ih => show sm _ M + 1 = M + 1; rw [ih]
  · rw [sm_congr (g := fun v => if v = own k then 1 else 0) (fun v _ => ?_), sm_one, if_pos (h k hk)]
    by_cases q : own k = v
    · rw [if_pos q, if_pos q.symm]
    · rw [if_neg q, if_neg (fun a => q a.symm)]
theorem cc_in {own : Nat → Nat} {M i : Nat} (hi : i < M) : cc own (own i) i < cc own (own i) M := by
  have h : cc own (own i) (i + 1) ≤ cc own (own i) M := cc_mono hi
  rw [cc_succ, if_pos rfl] at h
  omega
theorem ps0_lt {own : Nat → Nat} {M i : Nat} (h : ∀ i, i < M → own i < 256) (hi : i < M) : ps0 own M i < M := by
  have h1 := cc_in (own := own) hi
  have h2 : lt0 own M (own i + 1) ≤ lt0 own M 256 := lt0_mono (h i hi)
  rw [lt0_succ, lt0_all h] at h2
  unfold ps0
  omega
/-- the order that a pass makes -/
theorem ps0_ord {own : Nat → Nat} {M i j : Nat} (hi : i < M) (hj : j < M) : ps0 own M i < ps0 own M j ↔ (own i < own j ∨ (own i = own j ∧ i < j)) := by
  have hci := cc_in (own := own) hi
  have hcj := cc_in (own := own) hj
  unfold ps0
  rcases Nat.lt_trichotomy (own i) (own j) with h | h | h
  · have h2 : lt0 own M (own i + 1) ≤ lt0 own M (own j) := lt0_mono h
    rw [lt0_succ] at h2
    exact ⟨fun _ => Or.inl h, fun _ => by omega⟩
  · constructor
    · intro q
      refine Or.inr ⟨h, ?_⟩
      rcases Nat.lt_or_ge i j with a | a
      · exact a
      · exfalso
        have h3 : cc own (own j) j ≤ cc own (own j) i := cc_mono a
        rw [h] at q
        omega
    · rintro (q | ⟨-, q⟩)
      · omega
      · have h3 : cc own (own i) (i + 1) ≤ cc own (own i) j := cc_mono q
        rw [cc_succ, if_pos rfl] at h3
        rw [← h]
        omega
  · have h2 : lt0 own M (own j + 1) ≤ lt0 own M (own i) := lt0_mono h
    rw [lt0_succ] at h2
    exact ⟨fun q => by omega, fun q => by omega⟩
theorem ps0_inj {own : Nat → Nat} {M i j : Nat} (hi : i < M) (hj : j < M) (h : i ≠ j) : ps0 own M i ≠ ps0 own M j := by
  intro q
  have h1 := ps0_ord (own := own) hi hj
  have h2 := ps0_ord (own := own) hj hi
  have a1 : ¬ (own i < own j ∨ (own i = own j ∧ i < j)) := fun a => by have := h1.mpr a; omega
  have a2 : ¬ (own j < own i ∨ (own j = own i ∧ j < i)) := fun a => by have := h2.mpr a; omega
  omega
theorem ps0_sur {own : Nat → Nat} {M a : Nat} (h : ∀ i, i < M → own i < 256) (ha : a < M) : ∃ i, i < M ∧ ps0 own M i = a := by
  have step : ∀ n, a < lt0 own M n → ∃ k, lt0 own M k ≤ a ∧ a < lt0 own M (k + 1) := by
    intro n
    induction n with
    | zero => intro q; exact absurd q (Nat.not_lt_zero _)
    | succ n ih =>
      intro q
      by_cases e : a < lt0 own M n
      · exact ih e
      · exact ⟨n, by omega, q⟩
  obtain ⟨k, k1, k2⟩ := step 256 (by rw [lt0_all h]; exact ha)
  rw [lt0_succ] at k2
  have find : ∀ n, a - lt0 own M k < cc own k n → ∃ i, i < n ∧ own i = k ∧ cc own k i = a - lt0 own M k := by
    intro n
    induction n with
    | zero => intro q; exact absurd q (Nat.not_lt_zero _)
    | succ n ih =>
      intro q
      by_cases e : a - lt0 own M k < cc own k n
      · obtain ⟨i, i1, i2⟩ := ih e
        exact ⟨i, by omega, i2⟩
      · rw [cc_succ] at q
        by_cases e2 : own n = k
        · rw [if_pos e2] at q
          exact ⟨n, by omega, e2, by omega⟩
        · rw [if_neg e2] at q; omega
  obtain ⟨i, i1, i2, i3⟩ := find M (by omega)
  refine ⟨i, i1, ?_⟩
  unfold ps0
  rw [i2, i3]
  omega
/-- one pass of the class -/
theorem byByte_ok {N M sh : Nat} (hN : 600 ≤ N) (hM : M ≤ 256) (hsh : sh ≤ 8) {h F : Nat → Nat} (hh : ∀ s, s < 256 → h s < 2 ^ 30) (hF : ∀ i, i < M → F i < 256) {xh x1 : Nat → Int32} (hxh : ∀ s, s < 256 → xh s = nI (h s)) (hx1 : ∀ i, i < M → x1 i = nI (F i)) (xst x2 : Nat → Int32) :
    ∃ xst' x2', f_Tree_sortByByte N (nI M) xh 256 x1 256 (nI sh) xst x2 = some (xst', x2') ∧ ∀ i, i < M → x2' (ps0 (fun i => h (F i) / 2 ^ sh % 256) M i) = nI (F i) := by
  have key : ∀ i, i < M → (xh (Int32.toNatClampNeg (x1 i)) >>> (nI sh &&& 31)) &&& 255 = nI (h (F i) / 2 ^ sh % 256) := by
    intro i hi
    have h1 := hF i hi
    have h2 := hh _ h1
    rw [hx1 i hi, nI_clamp (by omega), hxh _ h1, shr_n (by omega) (by omega), nI_and255]
  have okey : ∀ i, i < M → (fun i => h (F i) / 2 ^ sh % 256) i < 256 := fun i _ => Nat.mod_lt _ (by decide)
  generalize hown : (fun i => h (F i) / 2 ^ sh % 256) = own at okey
  have key' : ∀ i, i < M → (xh (Int32.toNatClampNeg (x1 i)) >>> (nI sh &&& 31)) &&& 255 = nI (own i) := fun i hi => by rw [key i hi, ← hown]
  have ckF : ∀ {β : Type} (i : Nat), i < M → ∀ q : Option β, ck (inb (nI i) 256) q = q := fun i hi q => ck_n (by omega) (by decide)
  have ck1 : ∀ {β : Type} (i : Nat), i < M → ∀ q : Option β, ck (inb (x1 i) 256) q = q := fun i hi q => by rw [hx1 i hi]; exact ck_n (hF i hi) (by decide)
  obtain ⟨st0, a1, a2, -⟩ := JArr_fill_ok (N := N) (n := 257) (by decide) (by omega) (a := 0) (v := xst)
  -- the numbers of equal keys
  have L1 : ∀ (d i z : Nat) (st : Nat → Int32), M = i + d → d < z → (∀ k, k < 256 → st (k + 1) = nI (cc own k i)) → st 0 = 0 →
      ∃ st', f_Tree_sortByByte_b11 N (nI M) xh 256 x1 256 (nI sh) z (nI i) st x2 = f_Tree_sortByByte_b52 N (nI M) xh 256 x1 256 (nI sh) st' x2 ∧ (∀ k, k < 256 → st' (k + 1) = nI (cc own k M)) ∧ st' 0 = 0 := by
    intro d
    induction d with
    | zero =>
      intro i z st h1 h2 h3 h4
      obtain ⟨z, rfl⟩ := z_succ h2
      obtain rfl : i = M := by omega
      refine ⟨st, ?_, h3, h4⟩
      rw [f_Tree_sortByByte_b11, if_pos (nI_le (Nat.le_refl _) (by omega))]
    | succ d ih =>
      intro i z st h1 h2 h3 h4
      obtain ⟨z, rfl⟩ := z_succ h2
      have hi : i < M := by omega
      have ho := okey i hi
      obtain ⟨st', q1, q2⟩ := ih (i + 1) z (upd st (own i + 1) (nI (cc own (own i) i + 1))) (by omega) (by omega) (by
        intro k hk
        rw [cc_succ]
        by_cases e : k = own i
        · rw [e, pk_us, if_pos rfl]
        · rw [pk_un (by omega), if_neg (fun q => e q.symm)]; exact h3 k hk) (by rw [pk_un (by omega)]; exact h4)
      refine ⟨st', ?_, q2⟩
      rw [f_Tree_sortByByte_b11, if_neg (nI_ge hi (by omega)), ckF i hi, nI_clamp (by omega), ck1 i hi, key' i hi, nI_1, ck_n (by omega) (by decide), ck_n (by omega) (by decide), nI_clamp (by omega), h3 _ ho, nI_1, nm_q, nm_q, nI_1]
      exact q1
  -- where each key begins
  have L2 : ∀ (d k z : Nat) (st : Nat → Int32), 256 = k + d → d < z → (∀ j, j ≤ k → st j = nI (lt0 own M j)) → (∀ j, k ≤ j → j < 256 → st (j + 1) = nI (cc own j M)) →
      ∃ st', f_Tree_sortByByte_b55 N (nI M) xh 256 x1 256 (nI sh) z (nI k) st x2 = f_Tree_sortByByte_b88 N (nI M) xh 256 x1 256 (nI sh) st' x2 ∧ ∀ j, j ≤ 256 → st' j = nI (lt0 own M j) := by
    intro d
    induction d with
    | zero =>
      intro k z st h1 h2 h3 h4
      obtain ⟨z, rfl⟩ := z_succ h2
      obtain rfl : k = 256 := by omega
      refine ⟨st, ?_, h3⟩
      rw [f_Tree_sortByByte_b55, if_pos (le256 (by omega) (by omega))]
    | succ d ih =>
      intro k z st h1 h2 h3 h4
      obtain ⟨z, rfl⟩ := z_succ h2
      obtain ⟨st', q1, q2⟩ := ih (k + 1) z (upd st (k + 1) (nI (lt0 own M (k + 1)))) (by omega) (by omega) (by
        intro j hj
        by_cases e : j = k + 1
        · rw [e, pk_us]
        · rw [pk_un e]; exact h3 j (by omega)) (by
        intro j j1 j2
        rw [pk_un (by omega)]; exact h4 j (by omega) j2)
      refine ⟨st', ?_, q2⟩
      rw [f_Tree_sortByByte_b55, if_neg (nle256 (by omega)), nI_1, ck_n (by omega) (by decide), ck_n (by omega) (by decide), ck_n (by omega) (by decide), nI_clamp (by omega), nI_clamp (by omega), h4 k (Nat.le_refl _) (by omega), h3 k (Nat.le_refl _), nI_add, nm_q, nm_q, show cc own k M + lt0 own M k = lt0 own M (k + 1) by rw [lt0_succ]; omega]
      exact q1
  -- each to its place
  have L3 : ∀ (d i z : Nat) (st x2 : Nat → Int32), M = i + d → d < z → (∀ k, k < 256 → st k = nI (lt0 own M k + cc own k i)) → (∀ j, j < i → x2 (ps0 own M j) = nI (F j)) →
      ∃ st' x2', f_Tree_sortByByte_b91 N (nI M) xh 256 x1 256 (nI sh) z (nI i) st x2 = some (st', x2') ∧ ∀ j, j < M → x2' (ps0 own M j) = nI (F j) := by
    intro d
    induction d with
    | zero =>
      intro i z st x2 h1 h2 h3 h4
      obtain ⟨z, rfl⟩ := z_succ h2
      obtain rfl : i = M := by omega
      refine ⟨st, x2, ?_, h4⟩
      rw [f_Tree_sortByByte_b91, if_pos (nI_le (Nat.le_refl _) (by omega))]
    | succ d ih =>
      intro i z st x2 h1 h2 h3 h4
      obtain ⟨z, rfl⟩ := z_succ h2
      have hi : i < M := by omega
      have ho := okey i hi
      have hp := ps0_lt okey hi
      have hst : st (own i) = nI (ps0 own M i) := h3 _ ho
      obtain ⟨st', x2', q1, q2⟩ := ih (i + 1) z (upd st (own i) (nI (ps0 own M i + 1))) (upd x2 (ps0 own M i) (nI (F i))) (by omega) (by omega) (by
        intro k hk
        rw [cc_succ]
        by_cases e : k = own i
        · rw [e, pk_us, if_pos rfl]; rfl
        · rw [pk_un e, if_neg (fun q => e q.symm)]; exact h3 k hk) (by
        intro j hj
        by_cases e : j = i
        · rw [e, pk_us]
        · rw [pk_un (ps0_inj (by omega) hi e)]; exact h4 j (by omega))
      refine ⟨st', x2', ?_, q2⟩
      rw [f_Tree_sortByByte_b91, if_neg (nI_ge hi (by omega)), ckF i hi, nI_clamp (by omega), ck1 i hi, key' i hi, nm_q, ck_n (by omega) (by decide), ckF i hi, nI_clamp (by omega), hst, ck_n (by omega) (by decide), nI_clamp (by omega), hx1 i hi, nm_q, ck_n (by omega) (by decide), ck_n (by omega) (by decide), nI_1, nm_q, nm_q, nI_1]
      exact q1
  obtain ⟨st1, b1, b2, b3⟩ := L1 M 0 N st0 (by omega) (by omega) (fun k hk => a2 (k + 1) (by omega)) (a2 0 (by decide))
  obtain ⟨st2, c1, c2⟩ := L2 256 0 N st1 (by omega) (by omega) (fun j hj => by rw [show j = 0 by omega]; exact b3) (fun j _ hj => b2 j hj)
  obtain ⟨st3, x2', d1, d2⟩ := L3 M 0 N st2 x2 (by omega) (by omega) (fun k hk => c2 k (by omega)) (fun j hj => absurd hj (by omega))
  refine ⟨st3, x2', ?_, fun i hi => ?_⟩
  · unfold f_Tree_sortByByte
    rw [a1, bd1_e]
    have b1' : f_Tree_sortByByte_b11 N (nI M) xh 256 x1 256 (nI sh) N 0 st0 x2 = _ := b1
    rw [b1']
    unfold f_Tree_sortByByte_b52
    have c1' : f_Tree_sortByByte_b55 N (nI M) xh 256 x1 256 (nI sh) N 0 st1 x2 = _ := c1
    rw [c1']
    exact d1
  · exact d2 i hi
