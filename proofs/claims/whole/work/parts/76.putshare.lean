/-! ===== a share, written: the class's row and, a byte behind, the reference's ===== -/
/-- a row of the class of room 256 and the reference's bits, that begin with a byte more -/
def B2 (used held many : Int32) (v : Nat → Int64) (bm : Int32) (made : Nat → Int32) (L V : Nat) : Prop := BX used held many v L V ∧ BY bm made (L + 8) (V * 2 ^ 8)
theorem put2 {N : Nat} (hN : 70 ≤ N) {used held many bm : Int32} {v : Nat → Int64} {made : Nat → Int32} {L V : Nat} (hB : B2 used held many v bm made L V) {x n : Nat} (hn : n ≤ 16) (hx : x < 2 ^ n) (hL : L + n ≤ 2047) :
    ∃ used' held' many' v' bm' made' V', f_Row_put N (nI 256) 33 (nI x) (nI n) used held many v = some (used', held', many', v') ∧ f_MM_put N (nI x) (nI n) bm made = some (bm', made') ∧ B2 used' held' many' v' bm' made' (L + n) V' := by
  obtain ⟨u1, h1, m1, v1, p1, p2⟩ := Row_put_ok (N := N) (room := 256) (nw := 33) (by omega) (by decide) (by decide) hB.1 hn hx (by omega)
  obtain ⟨made1, q1, q2⟩ := MM_put_ok (N := N) (by omega) hn hx (by omega) hB.2
  refine ⟨u1, h1, m1, v1, _, made1, V + x * 2 ^ L, p1, q1, p2, ?_⟩
  rw [show L + n + 8 = L + 8 + n by omega, show (V + x * 2 ^ L) * 2 ^ 8 = V * 2 ^ 8 + x * 2 ^ (L + 8) by rw [Nat.add_mul, Nat.mul_assoc, ← Nat.pow_add]]
  exact q2
theorem up8_8 {L : Nat} : up8 (L + 8) = up8 L + 8 := by unfold up8; omega
theorem pad2 {N : Nat} (hN : 70 ≤ N) {used held many bm : Int32} {v : Nat → Int64} {made : Nat → Int32} {L V : Nat} (hB : B2 used held many v bm made L V) (hL : L + 8 ≤ 2047) :
    ∃ used' held' many' v' bm', f_Row_pad N (nI 256) 33 used held many v = some (used', held', many', v') ∧ f_MM_fill N bm = some bm' ∧ B2 used' held' many' v' bm' made (up8 L) V := by
  obtain ⟨u1, h1, m1, v1, p1, p2⟩ := Row_pad_ok (N := N) (room := 256) (nw := 33) (by omega) (by decide) (by decide) hB.1 (by omega)
  have q := MM_fill_ok (N := N) (L := L + 8) (by omega)
  have q2 := BY_fill hB.2
  rw [up8_8] at q q2
  refine ⟨u1, h1, m1, v1, _, p1, ?_, p2, q2⟩
  rw [hB.2.1]
  exact q
theorem finish2 {N : Nat} (hN : 70 ≤ N) {used held many bm : Int32} {v : Nat → Int64} {made : Nat → Int32} {L V : Nat} (hB : B2 used held many v bm made L V) (hL : L + 16 ≤ 2047) :
    ∃ used' held' many' v' bm1 bm' made' V', f_Row_finish N (nI 256) 33 used held many v = some (used', held', many', v') ∧ f_MM_put N 1 1 bm made = some (bm1, made') ∧ f_MM_fill N bm1 = some bm' ∧ B2 used' held' many' v' bm' made' (up8 (L + 1)) V' := by
  obtain ⟨u1, h1, m1, v1, b1, ma1, V1, p1, p2, p3⟩ := put2 (N := N) hN hB (x := 1) (n := 1) (by decide) (by decide) (by omega)
  obtain ⟨u2, h2, m2, v2, b2, q1, q2, q3⟩ := pad2 (N := N) hN p3 (by omega)
  refine ⟨u2, h2, m2, v2, b1, b2, ma1, V1, ?_, p2, q2, q3⟩
  unfold f_Row_finish
  rw [show (1 : Int32) = nI 1 from rfl, p1, bd4_e, q1, bd4_e]
theorem bitsFor_loop {N r : Nat} (hr : r < 2 ^ 20) : ∀ (d k z : Nat), Nat.log2 (r + 1) = k + d → d < z → f_MM_bitsFor_b2 N (nI r) z (nI k) = some (nI (Nat.log2 (r + 1))) := by
  have h21 : Nat.log2 (r + 1) < 21 := (Nat.log2_lt (by omega)).mpr (by omega)
  intro d
  induction d with
  | zero =>
    intro k z h1 h2
    obtain ⟨z, rfl⟩ := z_succ h2
    have h3 : r + 1 < 2 ^ (k + 1) := by rw [← Nat.log2_lt (by omega)]; omega
    have h4 : 2 ^ (k + 1) ≤ 2 ^ 21 := Nat.pow_le_pow_right (by decide) (by omega)
    rw [f_MM_bitsFor_b2, nI_1, nI_1, sh1 (by omega), if_pos (nI_lt h3 (by omega)), h1]
    rfl
  | succ d ih =>
    intro k z h1 h2
    obtain ⟨z, rfl⟩ := z_succ h2
    have h3 : 2 ^ (k + 1) ≤ r + 1 := by rw [← Nat.le_log2 (by omega)]; omega
    rw [f_MM_bitsFor_b2, nI_1, nI_1, sh1 (by omega), if_neg (nI_nlt h3 (by omega)), nm_q]
    exact ih (k + 1) z (by omega) (by omega)
theorem bitsFor_ok {N r : Nat} (hN : 70 ≤ N) (hr : r < 2 ^ 20) : f_MM_bitsFor N (nI r) = some (nI (Nat.log2 (r + 1))) := by
  have h21 : Nat.log2 (r + 1) < 21 := (Nat.log2_lt (by omega)).mpr (by omega)
  exact bitsFor_loop hr (Nat.log2 (r + 1)) 0 N (by omega) (by omega)
/-- where the weights without points end -/
theorem none_end (u : Nat → Nat) (a : Nat) (ha : a ≤ 12) : ∃ e, a ≤ e ∧ e ≤ 12 ∧ (∀ x, a ≤ x → x < e → u x = 1) ∧ (e = 12 ∨ u e ≠ 1) := by
  have : ∀ d a, 12 = a + d → ∃ e, a ≤ e ∧ e ≤ 12 ∧ (∀ x, a ≤ x → x < e → u x = 1) ∧ (e = 12 ∨ u e ≠ 1) := by
    intro d
    induction d with
    | zero => intro a h; exact ⟨12, by omega, by omega, fun x h1 h2 => by omega, Or.inl rfl⟩
    | succ d ih =>
      intro a h
      by_cases e : u a = 1
      · obtain ⟨e', e1, e2, e3, e4⟩ := ih (a + 1) (by omega)
        refine ⟨e', by omega, e2, fun x h1 h2 => ?_, e4⟩
        by_cases q : x = a
        · rw [q]; exact e
        · exact e3 x (by omega) h2
      · exact ⟨a, by omega, by omega, fun x h1 h2 => by omega, Or.inr e⟩
  exact this (12 - a) a (by omega)
theorem pI_eq0 {u : Nat} (hu : u < 2 ^ 30) : (nI u - 1 = 0) ↔ u = 1 := by
  constructor
  · intro h
    by_cases e : u = 0
    · subst e; exact absurd h (by decide)
    · rw [pI_p (by omega)] at h
      have : u - 1 = 0 := (nI_eq (b := 0) (by omega) (by decide)).mp h
      omega
  · intro h; subst h; rfl
theorem noneX_end {N : Nat} {u : Nat → Nat} (hu : ∀ v, v < 12 → u v < 2 ^ 30) {xp : Nat → Int32} (hp : Pts u xp) {a e : Nat} (he : e ≤ 12) (h1 : ∀ x, a ≤ x → x < e → u x = 1) (h2 : e = 12 ∨ u e ≠ 1) {r n used held many : Int32} {nw : Nat} {v : Nat → Int64} : ∀ (d x z : Nat), e = x + d → d < z → a ≤ x →
    f_Share_putNone_b2 N xp r nw n z (nI x) used held many v = f_Share_putNone_b23 N xp r nw n (nI e) used held many v := by
  intro d
  induction d with
  | zero =>
    intro x z h3 h4 h5
    obtain ⟨z, rfl⟩ := z_succ h4
    obtain rfl : x = e := by omega
    rw [f_Share_putNone_b2]
    rcases h2 with h2 | h2
    · rw [if_pos (show (12 : Int32) ≤ nI x by rw [h2]; decide)]
    · by_cases e12 : x = 12
      · rw [if_pos (show (12 : Int32) ≤ nI x by rw [e12]; decide)]
      · rw [if_neg (show ¬ (12 : Int32) ≤ nI x from nI_ge (b := 12) (by omega) (by decide)), ck_n (by omega) (by decide), nI_clamp (by omega), hp x (by omega), if_neg (fun q => h2 ((pI_eq0 (hu x (by omega))).mp q))]
  | succ d ih =>
    intro x z h3 h4 h5
    obtain ⟨z, rfl⟩ := z_succ h4
    rw [f_Share_putNone_b2, if_neg (show ¬ (12 : Int32) ≤ nI x from nI_ge (b := 12) (by omega) (by decide)), ck_n (by omega) (by decide), nI_clamp (by omega), hp x (by omega), if_pos ((pI_eq0 (hu x (by omega))).mpr (h1 x h5 (by omega))), nm_q, nI_1]
    exact ih (x + 1) z (by omega) (by omega) (by omega)
theorem noneY_end {N : Nat} {u : Nat → Nat} (hu : ∀ v, v < 12 → u v < 2 ^ 30) {yp : Nat → Int32} (hp : Pts u yp) {v0 e : Nat} (he : e ≤ 12) (h1 : ∀ x, v0 + 1 ≤ x → x < e → u x = 1) (h2 : e = 12 ∨ u e ≠ 1) {oi l1 bm : Int32} {made : Nat → Int32} {k20 : Int32 → Int32 → Int32 → (Nat → Int32) → Option (Int32 × (Nat → Int32))} : ∀ (d x z : Nat), e = v0 + 1 + x + d → d < z →
    f_MM_putShare_b117 N oi yp k20 z l1 (nI v0) (nI x) bm made = f_MM_putShare_b148 N oi yp k20 l1 (nI v0) (nI (e - (v0 + 1))) bm made := by
  intro d
  induction d with
  | zero =>
    intro x z h3 h4
    obtain ⟨z, rfl⟩ := z_succ h4
    have ee : nI v0 + 1 + nI x = nI e := by rw [nI_1, nI_add]; congr 1; omega
    rw [f_MM_putShare_b117, ee, show e - (v0 + 1) = x by omega]
    by_cases e12 : e = 12
    · rw [if_pos (show (12 : Int32) ≤ nI e by rw [e12]; decide)]
    · rcases h2 with h2 | h2
      · exact absurd h2 e12
      · rw [if_neg (show ¬ (12 : Int32) ≤ nI e from nI_ge (b := 12) (by omega) (by decide)), ck_n (by omega) (by decide), nI_clamp (by omega), hp e (by omega), if_neg (fun q => h2 ((pI_eq0 (hu e (by omega))).mp q))]
  | succ d ih =>
    intro x z h3 h4
    obtain ⟨z, rfl⟩ := z_succ h4
    have ee : nI v0 + 1 + nI x = nI (v0 + 1 + x) := by rw [nI_1, nI_add]
    rw [f_MM_putShare_b117, ee, if_neg (show ¬ (12 : Int32) ≤ nI (v0 + 1 + x) from nI_ge (b := 12) (by omega) (by decide)), ck_n (by omega) (by decide), nI_clamp (by omega), hp (v0 + 1 + x) (by omega), if_pos ((pI_eq0 (hu _ (by omega))).mpr (h1 _ (by omega) (by omega))), nm_q, nI_1]
    exact ih (x + 1) z (by omega) (by omega)
theorem none_put {N : Nat} (hN : 70 ≤ N) {xp yp : Nat → Int32} {a e v0 : Nat} (ha : a ≤ e) (he : e ≤ 12) {oi l1 : Int32} {k20 : Int32 → Int32 → Int32 → (Nat → Int32) → Option (Int32 × (Nat → Int32))} : ∀ (d j z y : Nat) (used held many bm : Int32) (v : Nat → Int64) (made : Nat → Int32) (L V : Nat), (e - a) / 3 = j + d → d < z → d < y → B2 used held many v bm made L V → L + 2 * d + 2 ≤ 2000 →
    ∃ used' held' many' v' bm' made' V', f_Share_putNone_b26 N xp (nI 256) 33 (nI a) z (nI e) (nI (a + 3 * j)) used held many v = some (nI e, used', held', many', v') ∧ f_MM_putShare_b151 N oi yp k20 y l1 (nI v0) (nI (e - a)) (nI j) bm made = f_MM_putShare_b181 N oi yp k20 l1 (nI v0) (nI (e - a)) bm' made' ∧ B2 used' held' many' v' bm' made' (L + 2 * d + 2) V' := by
  have e3 : nI (e - a) / (3 : Int32) = nI ((e - a) / 3) := pk_div (d := 3) (by omega) (by decide) (by decide)
  have em : nI (e - a) - nI (e - a) / 3 * 3 = nI ((e - a) % 3) := modI (d := 3) (by omega) (by decide) (by decide)
  intro d
  induction d with
  | zero =>
    intro j z y used held many bm v made L V h1 h2 h3 hB hL
    obtain ⟨z, rfl⟩ := z_succ h2
    obtain ⟨y, rfl⟩ := z_succ h3
    obtain ⟨u1, he1, m1, v1, b1, ma1, V1, p1, p2, p3⟩ := put2 (N := N) hN hB (x := (e - a) % 3) (n := 2) (by decide) (by show _ < 4; omega) (by omega)
    refine ⟨u1, he1, m1, v1, b1, ma1, V1, ?_, ?_, p3⟩
    · rw [f_Share_putNone_b26, show nI (a + 3 * j) + (3 : Int32) = nI (a + 3 * j + 3) from nI_add _ 3, if_pos (nI_lt (by omega) (by omega))]
      unfold f_Share_putNone_b46
      rw [pk_sub ha, em, show (2 : Int32) = nI 2 from rfl, p1, bd4_e]
    · rw [f_MM_putShare_b151, e3, if_pos (nI_le (by omega) (by omega))]
      unfold f_MM_putShare_b172
      rw [em, show (2 : Int32) = nI 2 from rfl, p2, bd2_e]
  | succ d ih =>
    intro j z y used held many bm v made L V h1 h2 h3 hB hL
    obtain ⟨z, rfl⟩ := z_succ h2
    obtain ⟨y, rfl⟩ := z_succ h3
    obtain ⟨u1, he1, m1, v1, b1, ma1, V1, p1, p2, p3⟩ := put2 (N := N) hN hB (x := 3) (n := 2) (by decide) (by decide) (by omega)
    obtain ⟨u2, he2, m2, v2, b2, ma2, V2, q1, q2, q3⟩ := ih (j + 1) z y u1 he1 m1 b1 v1 ma1 _ _ (by omega) (by omega) (by omega) p3 (by omega)
    rw [show L + 2 + 2 * d + 2 = L + 2 * (d + 1) + 2 by omega] at q3
    refine ⟨u2, he2, m2, v2, b2, ma2, V2, ?_, ?_, q3⟩
    · rw [f_Share_putNone_b26, show nI (a + 3 * j) + (3 : Int32) = nI (a + 3 * (j + 1)) from by rw [show a + 3 * (j + 1) = a + 3 * j + 3 by omega]; exact nI_add _ 3, if_neg (nI_nlt (by omega) (by omega)), show (3 : Int32) = nI 3 from rfl, show (2 : Int32) = nI 2 from rfl, p1, bd4_e, nm_q]
      exact q1
    · rw [f_MM_putShare_b151, e3, if_neg (nI_ge (by omega) (by omega)), show (3 : Int32) = nI 3 from rfl, show (2 : Int32) = nI 2 from rfl, p2, bd2_e, nm_q, nI_1]
      exact q2
theorem points_put {N : Nat} (hN : 70 ≤ N) {yp : Nat → Int32} {uv lack v0 : Nat} (hl0 : 1 ≤ lack) (hl : lack ≤ 64) (hu : uv ≤ lack + 1) {oi l1 : Int32} {k20 : Int32 → Int32 → Int32 → (Nat → Int32) → Option (Int32 × (Nat → Int32))} {used held many bm : Int32} {v : Nat → Int64} {made : Nat → Int32} {L V : Nat} (hB : B2 used held many v bm made L V) (hL : L + 7 ≤ 2000) :
    ∃ used' held' many' v' bm' made' L' V' x n, f_Share_putPoints N (nI 256) 33 (nI uv) (nI lack) used held many v = some (used', held', many', v') ∧ f_MM_put N x n bm made = some (bm', made') ∧ B2 used' held' many' v' bm' made' L' V' ∧ L' ≤ L + 7 ∧
      (bd1 (f_MM_bitsFor N (nI lack)) fun r_2 => nm ((1 : Int32) <<< (r_2 &&& 31)) fun l4 => nm (((2 * l4) - 2) - nI lack) fun l5 =>
        if nI uv < l5 then f_MM_putShare_b69 N oi yp k20 l1 (nI v0) r_2 l5 (nI uv) bm made else if l4 ≤ nI uv then f_MM_putShare_b79 N oi yp k20 l1 (nI v0) r_2 l5 (nI uv) (nI uv + l5) bm made else f_MM_putShare_b69 N oi yp k20 l1 (nI v0) r_2 l5 (nI uv) bm made) = f_MM_putShare_b93 N oi yp k20 l1 (nI v0) (nI uv) n x bm made := by
  have hk : Nat.log2 (lack + 1) < 7 := (Nat.log2_lt (by omega)).mpr (show lack + 1 < 2 ^ 7 by omega)
  have ht1 : 2 ^ Nat.log2 (lack + 1) ≤ lack + 1 := Nat.log2_self_le (by omega)
  have ht2 : lack + 1 < 2 ^ (Nat.log2 (lack + 1) + 1) := Nat.lt_log2_self
  rw [Nat.pow_succ] at ht2
  have hlog := log2_ok (N := N) (x := lack + 1) (by omega) (by omega)
  have hbf := bitsFor_ok (N := N) (r := lack) hN (by omega)
  generalize hkk : Nat.log2 (lack + 1) = k at *
  have h1k := sh1 (k := k) (by omega)
  have e5 : (2 : Int32) * nI (2 ^ k) - 2 - nI lack = nI (2 * 2 ^ k - 2 - lack) := by
    rw [show (2 : Int32) * nI (2 ^ k) = nI (2 * 2 ^ k) from pk_mul 2 _, show nI (2 * 2 ^ k) - (2 : Int32) = nI (2 * 2 ^ k - 2) from pk_sub (b := 2) (by omega), pk_sub (by omega)]
  have hp1 : (2 : Nat) ^ (k + 1) = 2 ^ k * 2 := Nat.pow_succ 2 k
  unfold f_Share_putPoints
  rw [nI_1, hlog, bd1_e, h1k, nm_q, e5, nm_q, hbf, bd1_e, h1k, nm_q, e5, nm_q]
  by_cases h1 : uv < 2 * 2 ^ k - 2 - lack
  · obtain ⟨u1, he1, m1, v1, b1, ma1, V1, p1, p2, p3⟩ := put2 (N := N) hN hB (x := uv) (n := k) (by omega) (by omega) (by omega)
    refine ⟨u1, he1, m1, v1, b1, ma1, _, V1, nI uv, nI k, ?_, p2, p3, by omega, ?_⟩
    · rw [if_neg (nI_ge h1 (by omega)), p1, bd4_e]
    · rw [if_pos (nI_lt h1 (by omega))]
      unfold f_MM_putShare_b69 f_MM_putShare_b79
      rw [if_neg (nI_ge h1 (by omega))]
  · rw [if_pos (nI_le (by omega) (by omega)), if_neg (nI_nlt (by omega) (by omega))]
    unfold f_Share_putPoints_b52
    by_cases h2 : 2 ^ k ≤ uv
    · obtain ⟨u1, he1, m1, v1, b1, ma1, V1, p1, p2, p3⟩ := put2 (N := N) hN hB (x := uv + (2 * 2 ^ k - 2 - lack)) (n := k + 1) (by omega) (by omega) (by omega)
      refine ⟨u1, he1, m1, v1, b1, ma1, _, V1, nI (uv + (2 * 2 ^ k - 2 - lack)), nI (k + 1), ?_, p2, p3, by omega, ?_⟩
      · rw [if_pos (nI_le h2 (by omega)), nI_add, nI_1, p1, bd4_e]
      · rw [if_pos (nI_le h2 (by omega))]
        unfold f_MM_putShare_b79
        rw [if_pos (nI_le (by omega) (by omega)), nI_add, nI_1]
    · obtain ⟨u1, he1, m1, v1, b1, ma1, V1, p1, p2, p3⟩ := put2 (N := N) hN hB (x := uv) (n := k + 1) (by omega) (by omega) (by omega)
      refine ⟨u1, he1, m1, v1, b1, ma1, _, V1, nI uv, nI (k + 1), ?_, p2, p3, by omega, ?_⟩
      · rw [if_neg (nI_ge (by omega) (by omega)), nI_1, p1, bd4_e]
      · rw [if_neg (nI_ge (by omega) (by omega))]
        unfold f_MM_putShare_b69 f_MM_putShare_b79
        rw [if_pos (nI_le (by omega) (by omega)), nI_1]
