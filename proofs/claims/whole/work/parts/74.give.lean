/-! ===== points given ===== -/
/-- by what was cut off; of equals the lower first -/
def bf (ct : Nat → Nat) (v w : Nat) : Prop := ct w < ct v ∨ (ct v = ct w ∧ v < w)
theorem bf_trans {ct : Nat → Nat} {a b c : Nat} (h1 : bf ct a b) (h2 : bf ct b c) : bf ct a c := by
  rcases h1 with h1 | ⟨h1, h1'⟩ <;> rcases h2 with h2 | ⟨h2, h2'⟩
  · exact Or.inl (by omega)
  · exact Or.inl (by omega)
  · exact Or.inl (by omega)
  · exact Or.inr ⟨by omega, by omega⟩
theorem bf_irr {ct : Nat → Nat} {a : Nat} : ¬ bf ct a a := by
  rintro (h | ⟨-, h⟩) <;> omega
theorem bf_asym {ct : Nat → Nat} {a b : Nat} (h1 : bf ct a b) (h2 : bf ct b a) : False := bf_irr (bf_trans h1 h2)
/-- the queue of those below m -/
def Qu (E : Nat → Prop) (ct : Nat → Nat) (m n : Nat) (Q : Nat → Nat) : Prop :=
  n ≤ m ∧ (∀ j, j < n → Q j < m ∧ E (Q j)) ∧ (∀ i j, i < j → j < n → bf ct (Q i) (Q j)) ∧ ∀ w, w < m → E w → ∃ j, j < n ∧ Q j = w
def ins (Q : Nat → Nat) (i m : Nat) : Nat → Nat := fun j => if j < i then Q j else if j = i then m else Q (j - 1)
theorem Qu_ins {E : Nat → Prop} {ct : Nat → Nat} {m n i : Nat} {Q : Nat → Nat} (h : Qu E ct m n Q) (hi : i ≤ n) (hE : E m) (h1 : ∀ j, i ≤ j → j < n → ct (Q j) < ct m) (h2 : i = 0 ∨ ct m ≤ ct (Q (i - 1))) : Qu E ct (m + 1) (n + 1) (ins Q i m) := by
  obtain ⟨a, b, c, d⟩ := h
  have lo : ∀ j, j < i → bf ct (Q j) m := by
    intro j hj
    rcases h2 with h2 | h2
    · omega
    · have hm : bf ct (Q (i - 1)) m := by
        rcases Nat.lt_or_ge (ct m) (ct (Q (i - 1))) with q | q
        · exact Or.inl q
        · exact Or.inr ⟨by omega, (b (i - 1) (by omega)).1⟩
      by_cases e : j = i - 1
      · rw [e]; exact hm
      · exact bf_trans (c j (i - 1) (by omega) (by omega)) hm
  have hi2 : ∀ j, i ≤ j → j < n → bf ct m (Q j) := fun j q1 q2 => Or.inl (h1 j q1 q2)
  refine ⟨by omega, ?_, ?_, ?_⟩
  · intro j hj
    unfold ins
    by_cases e1 : j < i
    · rw [if_pos e1]; have := b j (by omega); exact ⟨by omega, this.2⟩
    · rw [if_neg e1]
      by_cases e2 : j = i
      · rw [if_pos e2]; exact ⟨by omega, hE⟩
      · rw [if_neg e2]; have := b (j - 1) (by omega); exact ⟨by omega, this.2⟩
  · intro x y hxy hy
    unfold ins
    by_cases e1 : y < i
    · rw [if_pos e1, if_pos (by omega)]; exact c x y hxy (by omega)
    · rw [if_neg e1]
      by_cases e2 : y = i
      · rw [if_pos e2, if_pos (by omega)]; exact lo x (by omega)
      · rw [if_neg e2]
        by_cases e3 : x < i
        · rw [if_pos e3]; exact c x (y - 1) (by omega) (by omega)
        · rw [if_neg e3]
          by_cases e4 : x = i
          · rw [if_pos e4]; exact hi2 (y - 1) (by omega) (by omega)
          · rw [if_neg e4]; exact c (x - 1) (y - 1) (by omega) (by omega)
  · intro w hw hEw
    by_cases e : w = m
    · exact ⟨i, by omega, by unfold ins; rw [if_neg (by omega), if_pos rfl, e]⟩
    · obtain ⟨j, j1, j2⟩ := d w (by omega) hEw
      by_cases e1 : j < i
      · exact ⟨j, by omega, by unfold ins; rw [if_pos e1]; exact j2⟩
      · exact ⟨j + 1, by omega, by unfold ins; rw [if_neg (by omega), if_neg (by omega)]; exact j2⟩
theorem queue_ins {N : Nat} {xp xc : Nat → Int32} {ct : Nat → Nat} (hct : ∀ v, v < 12 → ct v < 2 ^ 30) (hxc : ∀ v, v < 12 → xc v = nI (ct v)) {m n : Nat} (hm : m < 12) (hn : n ≤ m) {Q : Nat → Nat} (hQ : ∀ j, j < n → Q j < 12) {k4 : Int32 → Int32 → (Nat → Int32) → Option (Int32 × (Nat → Int32))} : ∀ (i z : Nat) (qa : Nat → Int32), i ≤ n → i < z → (∀ j, j < i → qa j = nI (Q j)) → (∀ j, i < j → j ≤ n → qa j = nI (Q (j - 1))) → (∀ j, i ≤ j → j < n → ct (Q j) < ct m) →
    ∃ i' qa', f_Share_queueByCuts_b21 N xp xc k4 z (nI n) (nI m) (nI i) qa = k4 (nI (n + 1)) (nI (m + 1)) qa' ∧ i' ≤ n ∧ (∀ j, j < n + 1 → qa' j = nI (ins Q i' m j)) ∧ (∀ j, i' ≤ j → j < n → ct (Q j) < ct m) ∧ (i' = 0 ∨ ct m ≤ ct (Q (i' - 1))) := by
  have stop : ∀ (i : Nat) (qa : Nat → Int32), i ≤ n → (∀ j, j < i → qa j = nI (Q j)) → (∀ j, i < j → j ≤ n → qa j = nI (Q (j - 1))) → ∃ qa', f_Share_queueByCuts_b67 N xp xc k4 (nI n) (nI m) (nI i) qa = k4 (nI (n + 1)) (nI (m + 1)) qa' ∧ (∀ j, j < n + 1 → qa' j = nI (ins Q i m j)) := by
    intro i qa h1 h2 h3
    refine ⟨upd qa i (nI m), ?_, ?_⟩
    · unfold f_Share_queueByCuts_b67 f_Share_queueByCuts_b77
      rw [ck_n (by omega) (by decide), nI_clamp (by omega), nm_q, nm_q, nm_q, nI_1, nI_1]
    · intro j hj
      unfold ins
      by_cases e1 : j < i
      · rw [if_pos e1, pk_un (by omega)]; exact h2 j e1
      · rw [if_neg e1]
        by_cases e2 : j = i
        · rw [if_pos e2, e2, pk_us]
        · rw [if_neg e2, pk_un e2]; exact h3 j (by omega) (by omega)
  intro i
  induction i with
  | zero =>
    intro z qa h1 h2 h3 h4 h5
    obtain ⟨z, rfl⟩ := z_succ h2
    obtain ⟨qa', p1, p2⟩ := stop 0 qa h1 h3 h4
    refine ⟨0, qa', ?_, by omega, p2, h5, Or.inl rfl⟩
    rw [f_Share_queueByCuts_b21, if_pos (le0 rfl)]
    exact p1
  | succ i ih =>
    intro z qa h1 h2 h3 h4 h5
    obtain ⟨z, rfl⟩ := z_succ h2
    have hq := h3 i (by omega)
    have hQi := hQ i (by omega)
    have e1 : nI (i + 1) - (1 : Int32) = nI i := nI_pred i
    rw [f_Share_queueByCuts_b21, if_neg (nle0 (by omega) (by omega)), e1, ck_n (by omega) (by decide), nI_clamp (by omega), hq, ck_n hQi (by decide), nI_clamp (by omega), ck_n hm (by decide), nI_clamp (by omega), hxc m hm, hxc _ hQi]
    have := hct m hm
    have := hct _ hQi
    by_cases e : ct m ≤ ct (Q i)
    · obtain ⟨qa', p1, p2⟩ := stop (i + 1) qa h1 h3 h4
      refine ⟨i + 1, qa', ?_, h1, p2, h5, Or.inr e⟩
      rw [if_pos (nI_le e (by omega))]
      exact p1
    · rw [if_neg (nI_ge (by omega) (by omega)), ck_n (by omega) (by decide), ck_n (by omega) (by decide), nI_clamp (by omega), nm_q, nm_q, pk_m1]
      refine ih z (upd qa (i + 1) (nI (Q i))) (by omega) (by omega) (fun j hj => ?_) (fun j j1 j2 => ?_) (fun j j1 j2 => ?_)
      · rw [pk_un (by omega)]; exact h3 j (by omega)
      · by_cases e2 : j = i + 1
        · rw [e2, pk_us]; rfl
        · rw [pk_un e2]; exact h4 j (by omega) j2
      · by_cases e2 : j = i
        · rw [e2]; omega
        · exact h5 j (by omega) j2
theorem queue_loop {N : Nat} (hN : 70 ≤ N) {u : Nat → Nat} (hu : ∀ v, v < 12 → u v < 2 ^ 30) {xp xc : Nat → Int32} (hp : Pts u xp) {ct : Nat → Nat} (hct : ∀ v, v < 12 → ct v < 2 ^ 30) (hxc : ∀ v, v < 12 → xc v = nI (ct v)) : ∀ (d m z n : Nat) (Q : Nat → Nat) (qa : Nat → Int32), 12 = m + d → d < z → Qu (fun v => 2 ≤ u v) ct m n Q → (∀ j, j < n → qa j = nI (Q j)) →
    ∃ n' Q' qa', f_Share_queueByCuts_b4 N xp xc z (nI n) (nI m) qa = some (nI n', qa') ∧ Qu (fun v => 2 ≤ u v) ct 12 n' Q' ∧ ∀ j, j < n' → qa' j = nI (Q' j) := by
  intro d
  induction d with
  | zero =>
    intro m z n Q qa h1 h2 h3 h4
    obtain ⟨z, rfl⟩ := z_succ h2
    obtain rfl : m = 12 := by omega
    refine ⟨n, Q, qa, ?_, h3, h4⟩
    rw [f_Share_queueByCuts_b4, if_pos (show (12 : Int32) ≤ nI 12 by decide)]
    rfl
  | succ d ih =>
    intro m z n Q qa h1 h2 h3 h4
    obtain ⟨z, rfl⟩ := z_succ h2
    have hum := hu m (by omega)
    rw [f_Share_queueByCuts_b4, if_neg (show ¬ (12 : Int32) ≤ nI m from nI_ge (b := 12) (by omega) (by decide)), ck_n (by omega) (by decide), nI_clamp (by omega), hp m (by omega)]
    by_cases e : 2 ≤ u m
    · have hQ12 : ∀ j, j < n → Q j < 12 := fun j hj => by have := (h3.2.1 j hj).1; omega
      obtain ⟨i', qa', p1, p2, p3, p4, p5⟩ := queue_ins (N := N) (xp := xp) hct hxc (show m < 12 by omega) h3.1 hQ12 (k4 := f_Share_queueByCuts_b4 N xp xc z) n N qa (Nat.le_refl _) (by have := h3.1; omega) h4 (fun j a b => by omega) (fun j a b => by omega)
      rw [if_neg (show ¬ nI (u m) - 1 ≤ 0 by rw [pI_p (by omega)]; exact nle0 (by omega) (by omega)), p1]
      exact ih (m + 1) z (n + 1) (ins Q i' m) qa' (by omega) (by omega) (Qu_ins h3 p2 e p4 p5) p3
    · have hle : nI (u m) - 1 ≤ 0 := by
        by_cases e0 : u m = 0
        · rw [e0]; decide
        · rw [show u m = 1 by omega]; decide
      rw [if_pos hle]
      unfold f_Share_queueByCuts_b77
      rw [nm_q, nI_1]
      refine ih (m + 1) z n Q qa (by omega) (by omega) ?_ h4
      obtain ⟨a, b, c, dd⟩ := h3
      refine ⟨by omega, fun j hj => ?_, c, fun w hw hE => ?_⟩
      · have := b j hj; exact ⟨by omega, this.2⟩
      · by_cases ew : w = m
        · subst ew; exact absurd hE e
        · exact dd w (by omega) hE
theorem vn0 : vp_nar .boolean 0 = 0 := by rfl
theorem vn1 : vp_nar .boolean 1 = 1 := by rfl
theorem next_loop {N : Nat} {u : Nat → Nat} (hu : ∀ v, v < 12 → u v < 2 ^ 30) {yp yc yh : Nat → Int32} (hp : Pts u yp) {ct : Nat → Nat} (hct : ∀ v, v < 12 → ct v < 2 ^ 30) (hyc : ∀ v, v < 12 → yc v = nI (ct v)) {H : Nat → Prop} (hH1 : ∀ v, v < 12 → H v → yh v = 1) (hH0 : ∀ v, v < 12 → ¬ H v → yh v = 0) : ∀ (d m z : Nat) (best : Int32), 12 = m + d → d < z → ((best = -1 ∧ ∀ x, x < m → 2 ≤ u x → H x) ∨ ∃ b, b < m ∧ best = nI b ∧ 2 ≤ u b ∧ ¬ H b ∧ ∀ x, x < m → 2 ≤ u x → ¬ H x → x = b ∨ bf ct b x) →
    ∃ r, f_MM_nextToGet_b4 N yp yc yh z best (nI m) = some r ∧ ((r = -1 ∧ ∀ x, x < 12 → 2 ≤ u x → H x) ∨ ∃ b, b < 12 ∧ r = nI b ∧ 2 ≤ u b ∧ ¬ H b ∧ ∀ x, x < 12 → 2 ≤ u x → ¬ H x → x = b ∨ bf ct b x) := by
  intro d
  induction d with
  | zero =>
    intro m z best h1 h2 h3
    obtain ⟨z, rfl⟩ := z_succ h2
    obtain rfl : m = 12 := by omega
    refine ⟨best, ?_, h3⟩
    rw [f_MM_nextToGet_b4, if_pos (show (12 : Int32) ≤ nI 12 by decide)]
    rfl
  | succ d ih =>
    intro m z best h1 h2 h3
    obtain ⟨z, rfl⟩ := z_succ h2
    have hm : m < 12 := by omega
    have hum := hu m hm
    have skip : ¬ (2 ≤ u m ∧ ¬ H m) → ∃ r, f_MM_nextToGet_b51 N yp yc yh (f_MM_nextToGet_b4 N yp yc yh z) best (nI m) = some r ∧ ((r = -1 ∧ ∀ x, x < 12 → 2 ≤ u x → H x) ∨ ∃ b, b < 12 ∧ r = nI b ∧ 2 ≤ u b ∧ ¬ H b ∧ ∀ x, x < 12 → 2 ≤ u x → ¬ H x → x = b ∨ bf ct b x) := by
      intro hs
      unfold f_MM_nextToGet_b51
      rw [nm_q, nI_1]
      refine ih (m + 1) z best (by omega) (by omega) ?_
      rcases h3 with ⟨a, b⟩ | ⟨b, b1, b2, b3, b4, b5⟩
      · refine Or.inl ⟨a, fun x hx hE => ?_⟩
        by_cases e : x = m
        · subst e
          by_cases hh : H x
          · exact hh
          · exact absurd ⟨hE, hh⟩ hs
        · exact b x (by omega) hE
      · refine Or.inr ⟨b, by omega, b2, b3, b4, fun x hx hE hh => ?_⟩
        by_cases e : x = m
        · subst e; exact absurd ⟨hE, hh⟩ hs
        · exact b5 x (by omega) hE hh
    rw [f_MM_nextToGet_b4, if_neg (show ¬ (12 : Int32) ≤ nI m from nI_ge (b := 12) (by omega) (by decide)), ck_n hm (by decide), nI_clamp (by omega)]
    by_cases hh : H m
    · rw [hH1 m hm hh, if_neg (by decide)]
      exact skip (fun q => q.2 hh)
    · rw [hH0 m hm hh, if_pos rfl, ck_n hm (by decide), hp m hm]
      by_cases e : 2 ≤ u m
      · rw [if_neg (show ¬ nI (u m) - 1 < 1 by rw [pI_p (by omega)]; exact nI_nlt (b := 1) (by omega) (by omega))]
        have take : (best = -1 ∨ ∃ b, b < m ∧ ct b < ct m ∧ ∀ x, x < m → 2 ≤ u x → ¬ H x → x = b ∨ bf ct b x) → (best = -1 → ∀ x, x < m → 2 ≤ u x → H x) → ∃ r, f_MM_nextToGet_b49 N yp yc yh (f_MM_nextToGet_b4 N yp yc yh z) (nI m) = some r ∧ ((r = -1 ∧ ∀ x, x < 12 → 2 ≤ u x → H x) ∨ ∃ b, b < 12 ∧ r = nI b ∧ 2 ≤ u b ∧ ¬ H b ∧ ∀ x, x < 12 → 2 ≤ u x → ¬ H x → x = b ∨ bf ct b x) := by
          intro hb hb2
          unfold f_MM_nextToGet_b49 f_MM_nextToGet_b51
          rw [nm_q, nI_1]
          refine ih (m + 1) z (nI m) (by omega) (by omega) (Or.inr ⟨m, by omega, rfl, e, hh, fun x hx hE hx2 => ?_⟩)
          by_cases ex : x = m
          · exact Or.inl ex
          · refine Or.inr ?_
            rcases hb with hb | ⟨b, b1, b2, b3⟩
            · exact absurd (hb2 hb x (by omega) hE) hx2
            · rcases b3 x (by omega) hE hx2 with q | q
              · rw [q]; exact Or.inl b2
              · rcases q with q | ⟨q, -⟩
                · exact Or.inl (by omega)
                · exact Or.inl (by omega)
        rcases h3 with ⟨a, b⟩ | ⟨b, b1, b2, b3, b4, b5⟩
        · rw [if_pos a]
          exact take (Or.inl a) (fun _ => b)
        · have hne : ¬ best = -1 := by
            rw [b2]
            intro q
            have q2 := congrArg Int32.toInt q
            rw [nI_toInt (by omega)] at q2
            have e : (-1 : Int32).toInt = -1 := rfl
            omega
          have := hct m hm
          have := hct b (by omega)
          rw [if_neg hne, ck_n hm (by decide), b2, ck_n (by omega) (by decide), nI_clamp (by omega), hyc m hm, hyc b (by omega)]
          rw [b2] at hne take skip
          by_cases ec : ct m ≤ ct b
          · rw [if_pos (nI_le ec (by omega))]
            unfold f_MM_nextToGet_b51
            rw [nm_q, nI_1]
            refine ih (m + 1) z (nI b) (by omega) (by omega) (Or.inr ⟨b, by omega, rfl, b3, b4, fun x hx hE hx2 => ?_⟩)
            by_cases ex : x = m
            · subst ex
              refine Or.inr ?_
              rcases Nat.lt_or_ge (ct x) (ct b) with q | q
              · exact Or.inl q
              · exact Or.inr ⟨by omega, b1⟩
            · exact b5 x (by omega) hE hx2
          · rw [if_neg (nI_ge (by omega) (by omega))]
            exact take (Or.inr ⟨b, b1, by omega, b5⟩) (fun q => absurd q hne)
      · have hlt : nI (u m) - 1 < 1 := by
          by_cases e0 : u m = 0
          · rw [e0]; decide
          · rw [show u m = 1 by omega]; decide
        rw [if_pos hlt]
        exact skip (fun q => e q.1)
/-- those that had one: the first h of the queue -/
def Had (Q : Nat → Nat) (h : Nat) (yh : Nat → Int32) : Prop := ∀ v, v < 12 → ((∃ j, j < h ∧ Q j = v) → yh v = 1) ∧ ((¬ ∃ j, j < h ∧ Q j = v) → yh v = 0)
theorem next_some {N : Nat} (hN : 70 ≤ N) {u : Nat → Nat} (hu : ∀ v, v < 12 → u v < 2 ^ 30) {yp yc yh : Nat → Int32} (hp : Pts u yp) {ct : Nat → Nat} (hct : ∀ v, v < 12 → ct v < 2 ^ 30) (hyc : ∀ v, v < 12 → yc v = nI (ct v)) {n h : Nat} {Q : Nat → Nat} (hQ : Qu (fun v => 2 ≤ u v) ct 12 n Q) (hH : Had Q h yh) (hh : h < n) : f_MM_nextToGet N yp yc yh = some (nI (Q h)) := by
  obtain ⟨r, p1, p2⟩ := next_loop (N := N) hu hp hct hyc (H := fun v => ∃ j, j < h ∧ Q j = v) (fun v hv a => (hH v hv).1 a) (fun v hv a => (hH v hv).2 a) 12 0 N (-1) (by omega) (by omega) (Or.inl ⟨rfl, fun x hx => absurd hx (by omega)⟩)
  obtain ⟨qa, qb, qc, qd⟩ := hQ
  have hno : ¬ ∃ j, j < h ∧ Q j = Q h := by
    rintro ⟨j, j1, j2⟩
    have := qc j h j1 hh
    rw [j2] at this
    exact bf_irr this
  unfold f_MM_nextToGet
  have p1' : f_MM_nextToGet_b4 N yp yc yh N (-1) 0 = some r := p1
  rw [p1']
  rcases p2 with ⟨-, b⟩ | ⟨b, b1, b2, b3, b4, b5⟩
  · exact absurd (b (Q h) (qb h hh).1 (qb h hh).2) hno
  · rw [b2]
    rcases b5 (Q h) (qb h hh).1 (qb h hh).2 hno with q | q
    · rw [q]
    · exfalso
      obtain ⟨j, j1, j2⟩ := qd b b1 b3
      have jh : h < j := by
        rcases Nat.lt_trichotomy j h with a | a | a
        · exact absurd ⟨j, a, j2⟩ b4
        · subst a; rw [j2] at q; exact absurd q bf_irr
        · exact a
      have := qc h j jh j1
      rw [j2] at this
      exact bf_asym q this
theorem next_none {N : Nat} (hN : 70 ≤ N) {u : Nat → Nat} (hu : ∀ v, v < 12 → u v < 2 ^ 30) {yp yc yh : Nat → Int32} (hp : Pts u yp) {ct : Nat → Nat} (hct : ∀ v, v < 12 → ct v < 2 ^ 30) (hyc : ∀ v, v < 12 → yc v = nI (ct v)) {n : Nat} {Q : Nat → Nat} (hQ : Qu (fun v => 2 ≤ u v) ct 12 n Q) (hH : Had Q n yh) : f_MM_nextToGet N yp yc yh = some (-1) := by
  obtain ⟨r, p1, p2⟩ := next_loop (N := N) hu hp hct hyc (H := fun v => ∃ j, j < n ∧ Q j = v) (fun v hv a => (hH v hv).1 a) (fun v hv a => (hH v hv).2 a) 12 0 N (-1) (by omega) (by omega) (Or.inl ⟨rfl, fun x hx => absurd hx (by omega)⟩)
  unfold f_MM_nextToGet
  have p1' : f_MM_nextToGet_b4 N yp yc yh N (-1) 0 = some r := p1
  rw [p1']
  rcases p2 with ⟨a, -⟩ | ⟨b, b1, b2, b3, b4, b5⟩
  · rw [a]
  · exact absurd (hQ.2.2.2 b b1 b3) b4
theorem newRound_loop {N : Nat} : ∀ (d m z : Nat) (yh : Nat → Int32), 12 = m + d → d < z → (∀ v, v < m → yh v = 0) → ∃ yh', f_MM_newRound_b2 N z (nI m) yh = some yh' ∧ ∀ v, v < 12 → yh' v = 0 := by
  intro d
  induction d with
  | zero =>
    intro m z yh h1 h2 h3
    obtain ⟨z, rfl⟩ := z_succ h2
    obtain rfl : m = 12 := by omega
    refine ⟨yh, ?_, h3⟩
    rw [f_MM_newRound_b2, if_pos (show (12 : Int32) ≤ nI 12 by decide)]
  | succ d ih =>
    intro m z yh h1 h2 h3
    obtain ⟨z, rfl⟩ := z_succ h2
    rw [f_MM_newRound_b2, if_neg (show ¬ (12 : Int32) ≤ nI m from nI_ge (b := 12) (by omega) (by decide)), ck_n (by omega) (by decide), nI_clamp (by omega), nm_q, nm_q, nI_1, vn0]
    exact ih (m + 1) z _ (by omega) (by omega) (fun v hv => by
      by_cases e : v = m
      · subst e; exact pk_us
      · rw [pk_un e]; exact h3 v (by omega))
theorem newRound_ok {N : Nat} (hN : 70 ≤ N) (Q : Nat → Nat) (yh : Nat → Int32) : ∃ yh', f_MM_newRound N yh = some yh' ∧ Had Q 0 yh' := by
  obtain ⟨yh', p1, p2⟩ := newRound_loop (N := N) 12 0 N yh (by omega) (by omega) (fun v hv => absurd hv (by omega))
  exact ⟨yh', p1, fun v hv => ⟨fun ⟨j, j1, _⟩ => absurd j1 (by omega), fun _ => p2 v hv⟩⟩
