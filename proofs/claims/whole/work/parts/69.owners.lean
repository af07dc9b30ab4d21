/-! ===== whose the places are ===== -/
theorem hz_lt {u : Nat → Nat} {v w : Nat} (h : v < w) (h0 : u v = 0) : hz u v < hz u w := by
  have h1 : hz u (v + 1) ≤ hz u w := hz_mono h
  rw [hz_succ, if_pos h0] at h1
  omega
theorem hz_inj {u : Nat → Nat} {v w : Nat} (h1 : u v = 0) (h2 : u w = 0) (h : hz u v = hz u w) : v = w := by
  rcases Nat.lt_trichotomy v w with a | a | a
  · have := hz_lt a h1; omega
  · exact a
  · have := hz_lt a h2; omega
/-- what both sides know of the owners -/
def Own (u : Nat → Nat) (o : Nat) (xo : Nat → Int32) : Prop := hi_ok u (2 ^ o) 12 xo ∧ wk_ok u o (2 ^ o - hz u 12) (fun _ => True) xo
theorem own_same {u : Nat → Nat} {o : Nat} (ho : o = 5 ∨ o = 6) {xo yo : Nat → Int32} (hx : Own u o xo) (hy : Own u o yo) : ∀ p, p < 2 ^ o → ∃ v, v < 12 ∧ xo p = nI v ∧ yo p = nI v := by
  intro p hp
  by_cases h : p < 2 ^ o - hz u 12
  · obtain ⟨k, k1, rfl⟩ := pp_sur ho p hp
    obtain ⟨v, a1, a2⟩ := hx.2 k k1 h trivial
    obtain ⟨w, b1, b2⟩ := hy.2 k k1 h trivial
    obtain rfl := isw_uniq a1 b1
    exact ⟨v, a1.1, a2, b2⟩
  · obtain ⟨v, a1, a2, a3, a4⟩ := hx.1 p (by omega) hp
    obtain ⟨w, b1, b2, b3, b4⟩ := hy.1 p (by omega) hp
    obtain rfl := hz_inj a2 b2 (by omega)
    exact ⟨v, a1, a4, b4⟩
theorem own_low {u : Nat → Nat} {o fr : Nat} {own : Nat → Nat} (h : ∀ k, k < 2 ^ o → pp o k < fr → isw u (cb o fr k) (own (pp o k))) {v : Nat} (hv : v < 12) : ∀ n, n ≤ 2 ^ o →
    sm (fun k => if pp o k < fr ∧ own (pp o k) = v then 1 else 0) n = min (cb o fr n) (ps u (v + 1)) - min (cb o fr n) (ps u v) := by
  intro n
  have hm : ps u v ≤ ps u (v + 1) := ps_mono (by omega)
  induction n with
  | zero => intro _; show 0 = min 0 _ - min 0 _; omega
  | succ n ih =>
    intro hn
    show sm _ n + (if pp o n < fr ∧ own (pp o n) = v then 1 else 0) = _
    rw [ih (by omega), cb_succ]
    by_cases e : pp o n < fr
    · rw [if_pos e]
      have hi := h n (by omega) e
      by_cases e2 : own (pp o n) = v
      · rw [if_pos ⟨e, e2⟩]
        rw [e2] at hi
        have := hi.2.1
        have := hi.2.2
        omega
      · rw [if_neg (fun q => e2 q.2)]
        have : ¬ (ps u v ≤ cb o fr n ∧ cb o fr n < ps u (v + 1)) := fun q => e2 (isw_uniq hi ⟨hv, q.1, q.2⟩)
        omega
    · rw [if_neg e, if_neg (fun q => e q.1)]
      omega
/-- each weight has as many places as its mass -/
theorem own_count {u : Nat → Nat} {o : Nat} (ho : o = 5 ∨ o = 6) (hsum : mtt u 12 = 2 ^ o) {xo : Nat → Int32} (hx : Own u o xo) {own : Nat → Nat} (hown : ∀ p, p < 2 ^ o → own p < 12 ∧ xo p = nI (own p)) {v : Nat} (hv : v < 12) :
    sm (fun p => if own p = v then 1 else 0) (2 ^ o) = ms (u v) := by
  have hA := oA ho
  have hs := mt_split (u := u) (n := 12)
  have hz12 := hz_le (u := u) (n := 12)
  have hlow : ∀ k, k < 2 ^ o → pp o k < 2 ^ o - hz u 12 → isw u (cb o (2 ^ o - hz u 12) k) (own (pp o k)) := by
    intro k k1 k2
    obtain ⟨w, a1, a2⟩ := hx.2 k k1 k2 trivial
    obtain ⟨b1, b2⟩ := hown (pp o k) pp_lt
    have : own (pp o k) = w := by
      rw [b2] at a2
      have := a1.1
      exact (nI_eq (by omega) (by omega)).mp a2
    rw [this]
    exact a1
  have hhigh : ∀ p, p < 2 ^ o → ¬ p < 2 ^ o - hz u 12 → u (own p) = 0 ∧ hz u (own p) = 2 ^ o - 1 - p := by
    intro p p1 p2
    obtain ⟨w, a1, a2, a3, a4⟩ := hx.1 p (by omega) p1
    obtain ⟨b1, b2⟩ := hown p p1
    have : own p = w := by
      rw [b2] at a4
      exact (nI_eq (by omega) (by omega)).mp a4
    rw [this]
    exact ⟨a2, a3⟩
  have e1 : sm (fun p => if own p = v then 1 else 0) (2 ^ o) = sm (fun p => if p < 2 ^ o - hz u 12 ∧ own p = v then 1 else 0) (2 ^ o) + sm (fun p => if ¬ p < 2 ^ o - hz u 12 ∧ own p = v then 1 else 0) (2 ^ o) := by
    rw [← sm_add]
    apply sm_congr
    intro p _
    by_cases a : p < 2 ^ o - hz u 12 <;> by_cases b : own p = v
    · rw [if_pos b, if_pos ⟨a, b⟩, if_neg (fun q => q.1 a)]
    · rw [if_neg b, if_neg (fun q => b q.2), if_neg (fun q => b q.2)]
    · rw [if_pos b, if_neg (fun q => a q.1), if_pos ⟨a, b⟩]
    · rw [if_neg b, if_neg (fun q => b q.2), if_neg (fun q => b q.2)]
  have e2 : sm (fun p => if p < 2 ^ o - hz u 12 ∧ own p = v then 1 else 0) (2 ^ o) = u v - 1 := by
    rw [← sm_pp ho (fun p => if p < 2 ^ o - hz u 12 ∧ own p = v then 1 else 0), own_low hlow hv (2 ^ o) (Nat.le_refl _), cb_all ho (by omega)]
    have a := ps_succ (u := u) (n := v)
    have b : ps u (v + 1) ≤ ps u 12 := ps_mono (by omega)
    omega
  have e3 : sm (fun p => if ¬ p < 2 ^ o - hz u 12 ∧ own p = v then 1 else 0) (2 ^ o) = if u v = 0 then 1 else 0 := by
    by_cases h0 : u v = 0
    · have hlt := hz_lt (u := u) (show v < 12 from hv) h0
      rw [if_pos h0, sm_congr (g := fun p => if p = 2 ^ o - 1 - hz u v then 1 else 0) (fun p hp => ?_), sm_one, if_pos (by omega)]
      by_cases e : p = 2 ^ o - 1 - hz u v
      · have := hhigh p hp (by omega)
        rw [if_pos e, if_pos ⟨by omega, hz_inj this.1 h0 (by omega)⟩]
      · rw [if_neg e, if_neg (fun q => e (by
          have := hhigh p hp q.1
          rw [q.2] at this
          omega))]
    · rw [if_neg h0, sm_congr (g := fun _ => 0) (fun p hp => if_neg (fun q => h0 (by rw [← q.2]; exact (hhigh p hp q.1).1))), sm_zero]
  rw [e1, e2, e3]
  unfold ms
  by_cases h0 : u v = 0
  · rw [if_pos h0, if_pos h0, h0]
  · rw [if_neg h0, if_neg h0]; rfl
/-- the class's owners -/
theorem ownX {N o : Nat} (hN : 70 ≤ N) (ho : o = 5 ∨ o = 6) {u : Nat → Nat} (hu : ∀ v, v < 12 → u v < 2 ^ 30) (hsum : mtt u 12 = 2 ^ o) {xp : Nat → Int32} (hp : Pts u xp) (xo xw : Nat → Int32) :
    ∃ xo1 xo' xw', f_Share_giveHighest N (nI o) xp xo = some (nI (2 ^ o - hz u 12), xo1) ∧ f_Share_giveByWalk N (nI o) xp (nI (2 ^ o - hz u 12)) xo1 xw = some (xo', xw') ∧ Own u o xo' := by
  have hA := oA ho
  have hs := mt_split (u := u) (n := 12)
  have hz12 := hz_le (u := u) (n := 12)
  obtain ⟨xo1, p1, p2⟩ := hiX (N := N) ho hu hp 12 0 N xo (by omega) (by omega) (fun p a b => by
    have : hz u 0 = 0 := rfl
    omega)
  obtain ⟨xw1, q1, q2⟩ := walkX1 (N := N) (fr := 2 ^ o - hz u 12) ho (by omega) (xp := xp) (2 ^ o) 0 N xo1 xw (by omega) (by omega) (fun k hk => absurd hk (by omega))
  obtain ⟨xo2, r1, r2, r3⟩ := walkX3 (N := N) (fr := 2 ^ o - hz u 12) hN ho (by omega) hu (by omega) hp (l1 := nI (2 ^ o - hz u 12)) (xo0 := xo1) q2 12 0 N xo1 (by omega) (by omega) (fun k _ _ a => absurd (show cb o _ k < ps u 0 from a) (Nat.not_lt_zero _)) (fun _ _ => rfl)
  refine ⟨xo1, xo2, xw1, ?_, ?_, ?_, r2⟩
  · unfold f_Share_giveHighest
    rw [sh1 (by omega), nm_q]
    exact p1
  · unfold f_Share_giveByWalk
    rw [sh1 (by omega), nm_q, stp_n ho, nm_q]
    have q1' : f_Share_giveByWalk_b23 N (nI o) xp (nI (2 ^ o - hz u 12)) N (nI (2 ^ o)) (nI (stp o)) 0 0 xo1 xw = _ := q1
    rw [q1']
    exact r1
  · intro p a b
    obtain ⟨w, w1, w2, w3, w4⟩ := p2 p a b
    exact ⟨w, w1, w2, w3, by rw [r3 p a]; exact w4⟩
/-- the reference's owners -/
theorem ownY {N o : Nat} (hN : 70 ≤ N) (ho : o = 5 ∨ o = 6) {u : Nat → Nat} (hu : ∀ v, v < 12 → u v < 2 ^ 30) (hsum : mtt u 12 = 2 ^ o) {yp : Nat → Int32} (hp : Pts u yp) (yo : Nat → Int32) :
    ∃ yo', f_MM_givePlaces N (nI o) yp yo = some yo' ∧ Own u o yo' := by
  have hA := oA ho
  have hs := mt_split (u := u) (n := 12)
  have hz12 := hz_le (u := u) (n := 12)
  obtain ⟨yo1, p1, p2⟩ := hiY (N := N) ho hu hp 12 0 N yo (by omega) (by omega) (fun p a b => by
    have : hz u 0 = 0 := rfl
    omega)
  obtain ⟨yo2, r1, r2, r3⟩ := walkY2 (N := N) (fr := 2 ^ o - hz u 12) hN ho (by omega) hu (by omega) hp (yo0 := yo1) (2 ^ o) 0 N 0 0 yo1 (by omega) (by omega) (by decide) rfl (Nat.zero_le _) (fun k _ _ a => absurd (show k < 0 from a) (Nat.not_lt_zero _)) (fun _ _ => rfl)
  refine ⟨yo2, ?_, ?_, r2⟩
  · unfold f_MM_givePlaces
    rw [sh1 (by omega), nm_q]
    have p1' : f_MM_givePlaces_b11 N (nI o) yp N (nI (2 ^ o)) (nI (2 ^ o)) 0 yo = _ := p1
    rw [p1']
    exact r1
  · intro p a b
    obtain ⟨w, w1, w2, w3, w4⟩ := p2 p a b
    exact ⟨w, w1, w2, w3, by rw [r3 p a]; exact w4⟩
