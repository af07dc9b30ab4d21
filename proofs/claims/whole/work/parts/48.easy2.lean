/-! ===== clear, place, at, count ===== -/
/-- counts on both sides -/
def Cnt (cx cy : Nat → Int32) (c : Nat → Nat) : Prop := ∀ s, s < 256 → cx s = nI (c s) ∧ cy s = nI (c s)
theorem MM_clear_loop {N : Nat} {p q : Int32} : ∀ (d i z : Nat) (v : Nat → Int32), 256 = i + d → d < z →
    ∃ v', f_MM_clear_b12 N z (nI i) p q v = some (p, q, v') ∧ (∀ k, k < i → v' k = v k) ∧ ∀ k, i ≤ k → k < 256 → v' k = 0 := by
  intro d
  induction d with
  | zero =>
    intro i z v h1 h2
    obtain ⟨z, rfl⟩ := z_succ h2
    refine ⟨v, ?_, fun k _ => rfl, fun k h3 h4 => absurd h4 (by omega)⟩
    rw [f_MM_clear_b12, if_pos (le256 (by omega) (by omega))]
  | succ d ih =>
    intro i z v h1 h2
    obtain ⟨z, rfl⟩ := z_succ h2
    obtain ⟨v', e, a, b⟩ := ih (i + 1) z (upd v i 0) (by omega) (by omega)
    refine ⟨v', ?_, ?_, ?_⟩
    · rw [f_MM_clear_b12, if_neg (nle256 (by omega)), ck_n (by omega) (by decide), nI_clamp (by omega)]
      simp only [nm]
      rw [nI_1, e]
    · intro k hk; rw [a k (by omega), pk_un (by omega)]
    · intro k h3 h4
      by_cases e5 : k = i
      · subst e5; rw [a k (by omega), pk_us]
      · exact b k (by omega) h4
theorem sim_clear {N : Nat} (hN : 257 ≤ N) {px ux py uy : Int32} {cx cy : Nat → Int32} :
    ∃ cx' cy', f_PM_clear N px ux cx = some (0, 0, cx') ∧ f_MM_clear N uy py cy = some (0, 0, cy') ∧ Cnt cx' cy' (fun _ => 0) := by
  obtain ⟨cx', e1, a1, -⟩ := JArr_fill_ok (N := N) (n := 256) (a := 0) (v := cx) (by decide) (by omega)
  obtain ⟨cy', e2, -, b2⟩ := MM_clear_loop (N := N) (p := 0) (q := 0) 256 0 N cy (by omega) (by omega)
  refine ⟨cx', cy', ?_, ?_, ?_⟩
  · unfold f_PM_clear f_Row_empty; simp only [bd1]; rw [e1]
  · unfold f_MM_clear; exact e2
  · intro s hs; exact ⟨a1 s hs, b2 s (by omega) hs⟩
theorem sim_place {N n p : Nat} (hn : n ≤ 6000) (hp : p ≤ n) (a : Int32) :
    ∃ r p', f_PM_place N (nI n) a (nI p) = some (r, nI p') ∧ f_MM_place N (nI n) a (nI p) = some (r, nI p') ∧ p' ≤ n := by
  unfold f_PM_place f_MM_place
  by_cases h1 : a < 0
  · rw [if_pos h1, if_pos h1]; exact ⟨0, p, rfl, rfl, hp⟩
  rw [if_neg h1, if_neg h1]
  by_cases h2 : a ≤ nI n
  · rw [if_pos h2, if_pos h2]
    obtain ⟨k, hk, rfl⟩ := nI_of h1
    exact ⟨1, k, rfl, rfl, (nI_leI hk (by omega)).mp h2⟩
  · rw [if_neg h2, if_neg h2]; exact ⟨0, p, rfl, rfl, hp⟩
theorem sim_count {N : Nat} {cx cy : Nat → Int32} {c : Nat → Nat} (hc : Cnt cx cy c) (hb : ∀ s, s < 256 → c s ≤ 65535) (a b : Int32) :
    ∃ r cx' cy' c', f_PM_count N a b cx = some (r, cx') ∧ f_MM_count N a b cy = some (r, cy') ∧ Cnt cx' cy' c' ∧ ∀ s, s < 256 → c' s ≤ 65535 := by
  unfold f_PM_count f_MM_count f_PM_isSymbol
  by_cases h1 : a < 0
  · rw [if_pos h1, if_pos h1]; exact ⟨0, cx, cy, c, rfl, rfl, hc, hb⟩
  rw [if_neg h1, if_neg h1]
  by_cases h2 : 256 ≤ a
  · rw [if_pos h2, if_pos h2]; exact ⟨0, cx, cy, c, rfl, rfl, hc, hb⟩
  rw [if_neg h2, if_neg h2]
  simp only [bd1]
  rw [if_neg (by decide)]
  by_cases h3 : b < 0
  · rw [if_pos h3, if_pos h3]; exact ⟨0, cx, cy, c, rfl, rfl, hc, hb⟩
  rw [if_neg h3, if_neg h3]
  by_cases h4 : b ≤ 65535
  · rw [if_pos h4, if_pos h4]
    obtain ⟨j, hj, rfl⟩ := nI_of h3
    obtain ⟨k, hk, rfl⟩ := nI_of h1
    have hk2 : k < 256 := Nat.lt_of_not_le fun q => h2 (le256 q (by omega))
    have hj2 : j ≤ 65535 := le_lit_of (b := 65535) hj (by decide) h4
    rw [ck_n hk2 (by decide), ck_n hk2 (by decide), nI_clamp hk]
    refine ⟨1, _, _, fun s => if s = k then j else c s, rfl, rfl, ?_, ?_⟩
    · intro s hs
      unfold upd
      by_cases e : s = k
      · simp [e]
      · simp only [if_neg e]; exact hc s hs
    · intro s hs
      show (if s = k then j else c s) ≤ 65535
      split
      · exact hj2
      · exact hb s hs
  · rw [if_neg h4, if_neg h4]; exact ⟨0, cx, cy, c, rfl, rfl, hc, hb⟩
/-! ===== countAll ===== -/
theorem countAll_loop {N n : Nat} (hn : n ≤ 6000) {vx : Nat → Int64} {vy : Nat → Int32} (hs : Same vx vy n) {px : Int32} : ∀ (d i z : Nat) (cx cy : Nat → Int32) (c : Nat → Nat), n = i + d → d < z → Cnt cx cy c → (∀ s, s < 256 → c s ≤ i) →
    ∃ cx' cy' c', f_PM_countAll_b13 N px (nI n) 751 vx z (nI i) cx = some (nI n - px, cx') ∧ f_MM_countAll_b27 N (nI n) px vy z (nI i) cy = some (nI n - px, cy') ∧ Cnt cx' cy' c' ∧ ∀ s, s < 256 → c' s ≤ n := by
  intro d
  induction d with
  | zero =>
    intro i z cx cy c h1 h2 hc hb
    obtain ⟨z, rfl⟩ := z_succ h2
    refine ⟨cx, cy, c, ?_, ?_, hc, fun s h => by have := hb s h; omega⟩
    · rw [f_PM_countAll_b13, if_pos (nI_le (by omega) (by omega))]; rfl
    · rw [f_MM_countAll_b27, if_pos (nI_le (by omega) (by omega))]; rfl
  | succ d ih =>
    intro i z cx cy c h1 h2 hc hb
    obtain ⟨z, rfl⟩ := z_succ h2
    have hw : wby vx i < 256 := wby_lt _ _
    have hc1 : Cnt (upd cx (wby vx i) (cx (wby vx i) + 1)) (upd cy (wby vx i) (cy (wby vx i) + 1)) (fun s => if s = wby vx i then c s + 1 else c s) := by
      intro s h
      unfold upd
      by_cases e : s = wby vx i
      · simp only [if_pos e]
        rw [← e, (hc s h).1, (hc s h).2, nI_1]; exact ⟨rfl, rfl⟩
      · simp only [if_neg e]; exact hc s h
    obtain ⟨cx', cy', c', p1, p2, p3, p4⟩ := ih (i + 1) z _ _ _ (by omega) (by omega) hc1 (fun s h => by
      show (if s = wby vx i then c s + 1 else c s) ≤ i + 1
      have := hb s h
      split <;> omega)
    refine ⟨cx', cy', c', ?_, ?_, p3, p4⟩
    · rw [f_PM_countAll_b13, if_neg (nI_ge (by omega) (by omega)), Row_get_in (by omega) (by omega) (by decide)]
      simp only [bd1]
      rw [ck_n hw (by decide), ck_n hw (by decide), nI_clamp (by omega)]
      simp only [nm]
      rw [nI_1, p1]
    · rw [f_MM_countAll_b27, if_neg (nI_ge (by omega) (by omega)), ck_n (by omega) (by decide), nI_clamp (by omega), hs i (by omega), ck_n hw (by decide), ck_n hw (by decide), nI_clamp (by omega)]
      simp only [nm]
      rw [nI_1, p2]
theorem MM_countAll_zero {N : Nat} {il g : Int32} {vy : Nat → Int32} : ∀ (d i z : Nat) (v : Nat → Int32), 256 = i + d → d < z →
    ∃ v', f_MM_countAll_b2 N il g vy z (nI i) v = f_MM_countAll_b27 N il g vy N g v' ∧ (∀ k, k < i → v' k = v k) ∧ ∀ k, i ≤ k → k < 256 → v' k = 0 := by
  intro d
  induction d with
  | zero =>
    intro i z v h1 h2
    obtain ⟨z, rfl⟩ := z_succ h2
    refine ⟨v, ?_, fun k _ => rfl, fun k h3 h4 => absurd h4 (by omega)⟩
    rw [f_MM_countAll_b2, if_pos (le256 (by omega) (by omega))]; rfl
  | succ d ih =>
    intro i z v h1 h2
    obtain ⟨z, rfl⟩ := z_succ h2
    obtain ⟨v', e, a, b⟩ := ih (i + 1) z (upd v i 0) (by omega) (by omega)
    refine ⟨v', ?_, ?_, ?_⟩
    · rw [f_MM_countAll_b2, if_neg (nle256 (by omega)), ck_n (by omega) (by decide), nI_clamp (by omega)]
      simp only [nm]
      rw [nI_1, e]
    · intro k hk; rw [a k (by omega), pk_un (by omega)]
    · intro k h3 h4
      by_cases e5 : k = i
      · subst e5; rw [a k (by omega), pk_us]
      · exact b k (by omega) h4
theorem sim_countAll {N n p : Nat} (hN : 6001 ≤ N) (hn : n ≤ 6000) (hp : p ≤ n) {vx : Nat → Int64} {vy : Nat → Int32} (hs : Same vx vy n) {cx cy : Nat → Int32} :
    ∃ cx' cy' c', f_PM_countAll N (nI p) (nI n) 751 vx cx = some (nI (n - p), cx') ∧ f_MM_countAll N (nI n) (nI p) vy cy = some (nI (n - p), cy') ∧ Cnt cx' cy' c' ∧ ∀ s, s < 256 → c' s ≤ 65535 := by
  obtain ⟨c1, e1, a1, -⟩ := JArr_fill_ok (N := N) (n := 256) (a := 0) (v := cx) (by decide) (by omega)
  obtain ⟨c2, e2, -, b2⟩ := MM_countAll_zero (N := N) (il := nI n) (g := nI p) (vy := vy) 256 0 N cy (by omega) (by omega)
  obtain ⟨cx', cy', c', p1, p2, p3, p4⟩ := countAll_loop (N := N) hn hs (px := nI p) (n - p) p N c1 c2 (fun _ => 0) (by omega) (by omega) (fun s h => ⟨a1 s h, b2 s (by omega) h⟩) (fun s h => Nat.zero_le _)
  rw [pk_sub hp] at p1 p2
  refine ⟨cx', cy', c', ?_, ?_, p3, fun s h => by have := p4 s h; omega⟩
  · unfold f_PM_countAll; rw [e1]; exact p1
  · unfold f_MM_countAll; rw [← p2, ← e2]; rfl
/-! ===== size, byteAt ===== -/
theorem sim_byteAt {N n : Nat} (hn : n ≤ 6000) {ox : Nat → Int64} {oy : Nat → Int32} (hs : Same ox oy n) (k : Int32) :
    ∃ r, f_PM_byteAt N (nI n) 751 ox k = some r ∧ f_MM_byteAt N (nI n) oy k = some r := by
  unfold f_PM_byteAt f_MM_byteAt
  by_cases h1 : k < 0
  · rw [Row_get_neg h1, if_pos h1]; exact ⟨-1, rfl, rfl⟩
  rw [if_neg h1]
  obtain ⟨j, hj, rfl⟩ := nI_of h1
  by_cases h2 : j < n
  · rw [Row_get_in h2 (by omega) (by decide), if_pos (nI_lt h2 (by omega)), ck_n (by omega) (by decide), nI_clamp hj, hs j h2]
    exact ⟨_, rfl, rfl⟩
  · rw [Row_get_out (by omega) hj, if_neg (nI_nlt (by omega) hj)]
    exact ⟨-1, rfl, rfl⟩
