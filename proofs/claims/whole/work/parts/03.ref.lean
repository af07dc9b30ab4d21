def f_MM_write_b23 (N : Nat) (l1 : Int64) (l3 : Int32)  (i_inLong : Int32) (v_in : Nat → Int32) : Option (Int32 × Int32 × (Nat → Int32)) :=
  some (0, i_inLong, v_in)
def f_MM_write_b74 (N : Nat) (l1 : Int64) (l3 : Int32)  (i_inLong : Int32) (v_in : Nat → Int32) : Option (Int32 × Int32 × (Nat → Int32)) :=
  some (1, i_inLong, v_in)
def f_MM_write_b28 (N : Nat) (l1 : Int64) (l3 : Int32)  : Nat → Int32 → Int32 → (Nat → Int32) → Option (Int32 × Int32 × (Nat → Int32))
  | 0, _, _, _ => none
  | z + 1, l4, i_inLong, v_in =>
  if l3 ≤ l4 then
  f_MM_write_b74 N l1 l3  i_inLong v_in
  else
  ck (inb i_inLong 6000) <|
  nm (upd v_in (Int32.toNatClampNeg i_inLong) ((Int64.toInt32 ((Int64.toUInt64 l1 >>> (Int64.toUInt64 (Int32.toInt64 (56 - (8 * l4))) &&& Int64.toUInt64 63)).toInt64)) &&& 255)) fun v_in_3 =>
  nm (i_inLong + 1) fun i_inLong_4 =>
  nm (l4 + 1) fun l4_5 =>
  f_MM_write_b28 N l1 l3  z l4_5 i_inLong_4 v_in_3
def f_MM_write (N : Nat) (l1 : Int64) (l3 : Int32)  (i_inLong : Int32) (v_in : Nat → Int32) : Option (Int32 × Int32 × (Nat → Int32)) :=
  if l3 < 1 then
  f_MM_write_b23 N l1 l3  i_inLong v_in
  else
  if 8 < l3 then
  f_MM_write_b23 N l1 l3  i_inLong v_in
  else
  if (i_inLong + l3) ≤ 6000 then
  f_MM_write_b28 N l1 l3  N 0 i_inLong v_in
  else
  f_MM_write_b23 N l1 l3  i_inLong v_in
def f_MM_again_b35 (N : Nat) (l1 : Int32) (l2 : Int32)  (i_inLong : Int32) (v_in : Nat → Int32) : Option (Int32 × Int32 × (Nat → Int32)) :=
  some (0, i_inLong, v_in)
def f_MM_again_b86 (N : Nat) (l1 : Int32) (l2 : Int32)  (i_inLong : Int32) (v_in : Nat → Int32) : Option (Int32 × Int32 × (Nat → Int32)) :=
  some (1, i_inLong, v_in)
def f_MM_again_b44 (N : Nat) (l1 : Int32) (l2 : Int32)  : Nat → Int32 → Int32 → Int32 → (Nat → Int32) → Option (Int32 × Int32 × (Nat → Int32))
  | 0, _, _, _, _ => none
  | z + 1, l3, l4, i_inLong, v_in =>
  if l3 ≤ l4 then
  f_MM_again_b86 N l1 l2  i_inLong v_in
  else
  ck (inb (i_inLong - l1) 6000) <|
  ck (inb i_inLong 6000) <|
  nm (upd v_in (Int32.toNatClampNeg i_inLong) (v_in (Int32.toNatClampNeg (i_inLong - l1)))) fun v_in_4 =>
  nm (i_inLong + 1) fun i_inLong_5 =>
  nm (l4 + 1) fun l4_6 =>
  f_MM_again_b44 N l1 l2  z l3 l4_6 i_inLong_5 v_in_4
def f_MM_again (N : Nat) (l1 : Int32) (l2 : Int32)  (i_inLong : Int32) (v_in : Nat → Int32) : Option (Int32 × Int32 × (Nat → Int32)) :=
  if l1 < 1 then
  f_MM_again_b35 N l1 l2  i_inLong v_in
  else
  if i_inLong < l1 then
  f_MM_again_b35 N l1 l2  i_inLong v_in
  else
  if l2 < 0 then
  f_MM_again_b35 N l1 l2  i_inLong v_in
  else
  if (lg_cmp ((Int32.toInt64 i_inLong) + ((Int32.toInt64 l1) * (Int32.toInt64 l2))) 6000) ≤ 0 then
  nm (l1 * l2) fun l3_5 =>
  f_MM_again_b44 N l1 l2  N l3_5 0 i_inLong v_in
  else
  f_MM_again_b35 N l1 l2  i_inLong v_in
def f_MM_turn_b28 (N : Nat) (i_outLong : Int32) (v_out : Nat → Int32)  (i_inLong : Int32) (i_goesOn : Int32) (v_in : Nat → Int32) : Option (Int32 × Int32 × (Nat → Int32)) :=
  some (i_outLong, 0, v_in)
def f_MM_turn_b2 (N : Nat) (i_outLong : Int32) (v_out : Nat → Int32)  : Nat → Int32 → Int32 → Int32 → (Nat → Int32) → Option (Int32 × Int32 × (Nat → Int32))
  | 0, _, _, _, _ => none
  | z + 1, l1, i_inLong, i_goesOn, v_in =>
  if i_outLong ≤ l1 then
  f_MM_turn_b28 N i_outLong v_out  i_inLong i_goesOn v_in
  else
  ck (inb l1 6000) <|
  ck (inb l1 6000) <|
  nm (upd v_in (Int32.toNatClampNeg l1) (v_out (Int32.toNatClampNeg l1))) fun v_in_4 =>
  nm (l1 + 1) fun l1_5 =>
  f_MM_turn_b2 N i_outLong v_out  z l1_5 i_inLong i_goesOn v_in_4
def f_MM_turn (N : Nat) (i_outLong : Int32) (v_out : Nat → Int32)  (i_inLong : Int32) (i_goesOn : Int32) (v_in : Nat → Int32) : Option (Int32 × Int32 × (Nat → Int32)) :=
  f_MM_turn_b2 N i_outLong v_out  N 0 i_inLong i_goesOn v_in
def f_MM_clear_b12 (N : Nat)   : Nat → Int32 → Int32 → Int32 → (Nat → Int32) → Option (Int32 × Int32 × (Nat → Int32))
  | 0, _, _, _, _ => none
  | z + 1, l1, i_inLong, i_goesOn, v_counts =>
  if 256 ≤ l1 then
  some (i_inLong, i_goesOn, v_counts)
  else
  ck (inb l1 256) <|
  nm (upd v_counts (Int32.toNatClampNeg l1) 0) fun v_counts_3 =>
  nm (l1 + 1) fun l1_4 =>
  f_MM_clear_b12 N   z l1_4 i_inLong i_goesOn v_counts_3
def f_MM_clear (N : Nat)   (i_inLong : Int32) (i_goesOn : Int32) (v_counts : Nat → Int32) : Option (Int32 × Int32 × (Nat → Int32)) :=
  f_MM_clear_b12 N   N 0 0 0 v_counts
def f_MM_place_b12 (N : Nat) (i_inLong : Int32) (l1 : Int32)  (i_goesOn : Int32) : Option (Int32 × Int32) :=
  some (0, i_goesOn)
def f_MM_place (N : Nat) (i_inLong : Int32) (l1 : Int32)  (i_goesOn : Int32) : Option (Int32 × Int32) :=
  if l1 < 0 then
  f_MM_place_b12 N i_inLong l1  i_goesOn
  else
  if l1 ≤ i_inLong then
  some (1, l1)
  else
  f_MM_place_b12 N i_inLong l1  i_goesOn
def f_MM_at (N : Nat) (i_goesOn : Int32)   : Option (Int32) :=
  some (i_goesOn)
def f_MM_count_b21 (N : Nat) (l1 : Int32) (l2 : Int32)  (v_counts : Nat → Int32) : Option (Int32 × (Nat → Int32)) :=
  some (0, v_counts)
def f_MM_count (N : Nat) (l1 : Int32) (l2 : Int32)  (v_counts : Nat → Int32) : Option (Int32 × (Nat → Int32)) :=
  if l1 < 0 then
  f_MM_count_b21 N l1 l2  v_counts
  else
  if 256 ≤ l1 then
  f_MM_count_b21 N l1 l2  v_counts
  else
  if l2 < 0 then
  f_MM_count_b21 N l1 l2  v_counts
  else
  if l2 ≤ 65535 then
  ck (inb l1 256) <|
  nm (upd v_counts (Int32.toNatClampNeg l1) l2) fun v_counts_6 =>
  some (1, v_counts_6)
  else
  f_MM_count_b21 N l1 l2  v_counts
def f_MM_countAll_b56 (N : Nat) (i_inLong : Int32) (i_goesOn : Int32) (v_in : Nat → Int32)  (v_counts : Nat → Int32) : Option (Int32 × (Nat → Int32)) :=
  some ((i_inLong - i_goesOn), v_counts)
def f_MM_countAll_b27 (N : Nat) (i_inLong : Int32) (i_goesOn : Int32) (v_in : Nat → Int32)  : Nat → Int32 → (Nat → Int32) → Option (Int32 × (Nat → Int32))
  | 0, _, _ => none
  | z + 1, l1, v_counts =>
  if i_inLong ≤ l1 then
  f_MM_countAll_b56 N i_inLong i_goesOn v_in  v_counts
  else
  ck (inb l1 6000) <|
  ck (inb (v_in (Int32.toNatClampNeg l1)) 256) <|
  ck (inb (v_in (Int32.toNatClampNeg l1)) 256) <|
  nm (upd v_counts (Int32.toNatClampNeg (v_in (Int32.toNatClampNeg l1))) ((v_counts (Int32.toNatClampNeg (v_in (Int32.toNatClampNeg l1)))) + 1)) fun v_counts_5 =>
  nm (l1 + 1) fun l1_6 =>
  f_MM_countAll_b27 N i_inLong i_goesOn v_in  z l1_6 v_counts_5
def f_MM_countAll_b22 (N : Nat) (i_inLong : Int32) (i_goesOn : Int32) (v_in : Nat → Int32)  (v_counts : Nat → Int32) : Option (Int32 × (Nat → Int32)) :=
  f_MM_countAll_b27 N i_inLong i_goesOn v_in  N i_goesOn v_counts
def f_MM_countAll_b2 (N : Nat) (i_inLong : Int32) (i_goesOn : Int32) (v_in : Nat → Int32)  : Nat → Int32 → (Nat → Int32) → Option (Int32 × (Nat → Int32))
  | 0, _, _ => none
  | z + 1, l1, v_counts =>
  if 256 ≤ l1 then
  f_MM_countAll_b22 N i_inLong i_goesOn v_in  v_counts
  else
  ck (inb l1 256) <|
  nm (upd v_counts (Int32.toNatClampNeg l1) 0) fun v_counts_3 =>
  nm (l1 + 1) fun l1_4 =>
  f_MM_countAll_b2 N i_inLong i_goesOn v_in  z l1_4 v_counts_3
def f_MM_countAll (N : Nat) (i_inLong : Int32) (i_goesOn : Int32) (v_in : Nat → Int32)  (v_counts : Nat → Int32) : Option (Int32 × (Nat → Int32)) :=
  f_MM_countAll_b2 N i_inLong i_goesOn v_in  N 0 v_counts
def f_MM_weightOf (N : Nat) (i_greatest : Int32) (v_length : Nat → Int32) (l1 : Int32)   : Option (Int32) :=
  ck (inb l1 256) <|
  if (v_length (Int32.toNatClampNeg l1)) = 0 then
  some (0)
  else
  ck (inb l1 256) <|
  some (((i_greatest + 1) - (v_length (Int32.toNatClampNeg l1))))
def f_MM_settle_b100 (N : Nat) (v_draft : Nat → Int32) (l1 : Int32) (k36 : Int32 → Int32 → Int32 → (Nat → Int32) → (Nat → Int32) → Option (Int32 × Int32 × (Nat → Int32) × (Nat → Int32))) (k44 : Int32 → Int32 → Int32 → Int32 → (Nat → Int32) → (Nat → Int32) → Option (Int32 × Int32 × (Nat → Int32) × (Nat → Int32))) (l2 : Int32) (l3 : Int32) (l4 : Int32) (i_greatest : Int32) (v_length : Nat → Int32) (v_symbolOf : Nat → Int32) : Option (Int32 × Int32 × (Nat → Int32) × (Nat → Int32)) :=
  nm (l4 + 1) fun l4_1 =>
  k44 l2 l3 l4_1 i_greatest v_length v_symbolOf
def f_MM_settle_b92 (N : Nat) (v_draft : Nat → Int32) (l1 : Int32) (k36 : Int32 → Int32 → Int32 → (Nat → Int32) → (Nat → Int32) → Option (Int32 × Int32 × (Nat → Int32) × (Nat → Int32))) (k44 : Int32 → Int32 → Int32 → Int32 → (Nat → Int32) → (Nat → Int32) → Option (Int32 × Int32 × (Nat → Int32) × (Nat → Int32))) (l2 : Int32) (l3 : Int32) (l4 : Int32) (i_greatest : Int32) (v_length : Nat → Int32) (v_symbolOf : Nat → Int32) : Option (Int32 × Int32 × (Nat → Int32) × (Nat → Int32)) :=
  nm (l2 + (1 <<< ((l3 - 1) &&& 31))) fun l2_1 =>
  f_MM_settle_b100 N v_draft l1 k36 k44 l2_1 l3 l4 i_greatest v_length v_symbolOf
def f_MM_settle_b65 (N : Nat) (v_draft : Nat → Int32) (l1 : Int32) (k36 : Int32 → Int32 → Int32 → (Nat → Int32) → (Nat → Int32) → Option (Int32 × Int32 × (Nat → Int32) × (Nat → Int32))) (k44 : Int32 → Int32 → Int32 → Int32 → (Nat → Int32) → (Nat → Int32) → Option (Int32 × Int32 × (Nat → Int32) × (Nat → Int32))) : Nat → Int32 → Int32 → Int32 → Int32 → Int32 → (Nat → Int32) → (Nat → Int32) → Option (Int32 × Int32 × (Nat → Int32) × (Nat → Int32))
  | 0, _, _, _, _, _, _, _ => none
  | z + 1, l2, l3, l4, l5, i_greatest, v_length, v_symbolOf =>
  if (1 <<< ((l3 - 1) &&& 31)) ≤ l5 then
  f_MM_settle_b92 N v_draft l1 k36 k44 l2 l3 l4 i_greatest v_length v_symbolOf
  else
  ck (inb (l2 + l5) 2048) <|
  nm (upd v_symbolOf (Int32.toNatClampNeg (l2 + l5)) l4) fun v_symbolOf_3 =>
  nm (l5 + 1) fun l5_4 =>
  f_MM_settle_b65 N v_draft l1 k36 k44 z l2 l3 l4 l5_4 i_greatest v_length v_symbolOf_3
def f_MM_settle_b106 (N : Nat) (v_draft : Nat → Int32) (l1 : Int32) (k36 : Int32 → Int32 → Int32 → (Nat → Int32) → (Nat → Int32) → Option (Int32 × Int32 × (Nat → Int32) × (Nat → Int32))) (l2 : Int32) (l3 : Int32) (i_greatest : Int32) (v_length : Nat → Int32) (v_symbolOf : Nat → Int32) : Option (Int32 × Int32 × (Nat → Int32) × (Nat → Int32)) :=
  nm (l3 + 1) fun l3_1 =>
  k36 l2 l3_1 i_greatest v_length v_symbolOf
def f_MM_settle_b44 (N : Nat) (v_draft : Nat → Int32) (l1 : Int32) (k36 : Int32 → Int32 → Int32 → (Nat → Int32) → (Nat → Int32) → Option (Int32 × Int32 × (Nat → Int32) × (Nat → Int32))) : Nat → Int32 → Int32 → Int32 → Int32 → (Nat → Int32) → (Nat → Int32) → Option (Int32 × Int32 × (Nat → Int32) × (Nat → Int32))
  | 0, _, _, _, _, _, _ => none
  | z + 1, l2, l3, l4, i_greatest, v_length, v_symbolOf =>
  if 256 ≤ l4 then
  f_MM_settle_b106 N v_draft l1 k36 l2 l3 i_greatest v_length v_symbolOf
  else
  bd1 (f_MM_weightOf N i_greatest v_length l4) fun r_2 =>
  if r_2 = l3 then
  f_MM_settle_b65 N v_draft l1 k36 (f_MM_settle_b44 N v_draft l1 k36 z) N l2 l3 l4 0 i_greatest v_length v_symbolOf
  else
  f_MM_settle_b100 N v_draft l1 k36 (f_MM_settle_b44 N v_draft l1 k36 z) l2 l3 l4 i_greatest v_length v_symbolOf
def f_MM_settle_b112 (N : Nat) (v_draft : Nat → Int32) (l1 : Int32)  (i_greatest : Int32) (v_length : Nat → Int32) (v_symbolOf : Nat → Int32) : Option (Int32 × Int32 × (Nat → Int32) × (Nat → Int32)) :=
  some (l1, i_greatest, v_length, v_symbolOf)
def f_MM_settle_b36 (N : Nat) (v_draft : Nat → Int32) (l1 : Int32)  : Nat → Int32 → Int32 → Int32 → (Nat → Int32) → (Nat → Int32) → Option (Int32 × Int32 × (Nat → Int32) × (Nat → Int32))
  | 0, _, _, _, _, _ => none
  | z + 1, l2, l3, i_greatest, v_length, v_symbolOf =>
  if l1 < l3 then
  f_MM_settle_b112 N v_draft l1  i_greatest v_length v_symbolOf
  else
  f_MM_settle_b44 N v_draft l1 (f_MM_settle_b36 N v_draft l1  z) N l2 l3 0 i_greatest v_length v_symbolOf
def f_MM_settle_b32 (N : Nat) (v_draft : Nat → Int32) (l1 : Int32)  (i_greatest : Int32) (v_length : Nat → Int32) (v_symbolOf : Nat → Int32) : Option (Int32 × Int32 × (Nat → Int32) × (Nat → Int32)) :=
  f_MM_settle_b36 N v_draft l1  N 0 1 i_greatest v_length v_symbolOf
def f_MM_settle_b7 (N : Nat) (v_draft : Nat → Int32) (l1 : Int32)  : Nat → Int32 → Int32 → (Nat → Int32) → (Nat → Int32) → Option (Int32 × Int32 × (Nat → Int32) × (Nat → Int32))
  | 0, _, _, _, _ => none
  | z + 1, l2, i_greatest, v_length, v_symbolOf =>
  if 256 ≤ l2 then
  f_MM_settle_b32 N v_draft l1  i_greatest v_length v_symbolOf
  else
  ck (inb l2 256) <|
  ck (inb l2 256) <|
  nm (upd v_length (Int32.toNatClampNeg l2) (v_draft (Int32.toNatClampNeg l2))) fun v_length_4 =>
  nm (l2 + 1) fun l2_5 =>
  f_MM_settle_b7 N v_draft l1  z l2_5 i_greatest v_length_4 v_symbolOf
def f_MM_settle (N : Nat) (v_draft : Nat → Int32) (l1 : Int32)  (i_greatest : Int32) (v_length : Nat → Int32) (v_symbolOf : Nat → Int32) : Option (Int32 × Int32 × (Nat → Int32) × (Nat → Int32)) :=
  f_MM_settle_b7 N v_draft l1  N 0 l1 v_length v_symbolOf
def f_MM_longestDraft_b28 (N : Nat) (v_draft : Nat → Int32) (k4 : Int32 → Int32 → Option (Int32)) (l1 : Int32) (l2 : Int32) : Option (Int32) :=
  nm (l2 + 1) fun l2_1 =>
  k4 l1 l2_1
def f_MM_longestDraft_b34 (N : Nat) (v_draft : Nat → Int32)  (l1 : Int32) : Option (Int32) :=
  some (l1)
def f_MM_longestDraft_b4 (N : Nat) (v_draft : Nat → Int32)  : Nat → Int32 → Int32 → Option (Int32)
  | 0, _, _ => none
  | z + 1, l1, l2 =>
  if 256 ≤ l2 then
  f_MM_longestDraft_b34 N v_draft  l1
  else
  ck (inb l2 256) <|
  if (v_draft (Int32.toNatClampNeg l2)) ≤ l1 then
  f_MM_longestDraft_b28 N v_draft (f_MM_longestDraft_b4 N v_draft  z) l1 l2
  else
  ck (inb l2 256) <|
  nm (v_draft (Int32.toNatClampNeg l2)) fun l1_5 =>
  f_MM_longestDraft_b28 N v_draft (f_MM_longestDraft_b4 N v_draft  z) l1_5 l2
def f_MM_longestDraft (N : Nat) (v_draft : Nat → Int32)   : Option (Int32) :=
  f_MM_longestDraft_b4 N v_draft  N 0 0
def f_MM_least_b58 (N : Nat) (i_knots : Int32) (v_knot : Nat → Int32) (v_inSum : Nat → Int32) (l1 : Int32) (k4 : Int32 → Int32 → Option (Int32)) (l2 : Int32) (l3 : Int32) : Option (Int32) :=
  nm (l3 + 1) fun l3_1 =>
  k4 l2 l3_1
def f_MM_least_b56 (N : Nat) (i_knots : Int32) (v_knot : Nat → Int32) (v_inSum : Nat → Int32) (l1 : Int32) (k4 : Int32 → Int32 → Option (Int32)) (l3 : Int32) : Option (Int32) :=
  f_MM_least_b58 N i_knots v_knot v_inSum l1 k4 l3 l3
def f_MM_least_b64 (N : Nat) (i_knots : Int32) (v_knot : Nat → Int32) (v_inSum : Nat → Int32) (l1 : Int32)  (l2 : Int32) : Option (Int32) :=
  some (l2)
def f_MM_least_b4 (N : Nat) (i_knots : Int32) (v_knot : Nat → Int32) (v_inSum : Nat → Int32) (l1 : Int32)  : Nat → Int32 → Int32 → Option (Int32)
  | 0, _, _ => none
  | z + 1, l2, l3 =>
  if i_knots ≤ l3 then
  f_MM_least_b64 N i_knots v_knot v_inSum l1  l2
  else
  if l3 = l1 then
  f_MM_least_b58 N i_knots v_knot v_inSum l1 (f_MM_least_b4 N i_knots v_knot v_inSum l1  z) l2 l3
  else
  ck (inb l3 512) <|
  if (v_inSum (Int32.toNatClampNeg l3)) = (-1) then
  ck (inb l3 512) <|
  if (v_knot (Int32.toNatClampNeg l3)) ≤ 0 then
  f_MM_least_b58 N i_knots v_knot v_inSum l1 (f_MM_least_b4 N i_knots v_knot v_inSum l1  z) l2 l3
  else
  if l2 = (-1) then
  f_MM_least_b56 N i_knots v_knot v_inSum l1 (f_MM_least_b4 N i_knots v_knot v_inSum l1  z) l3
  else
  ck (inb l3 512) <|
  ck (inb l2 512) <|
  if (v_knot (Int32.toNatClampNeg l2)) ≤ (v_knot (Int32.toNatClampNeg l3)) then
  f_MM_least_b58 N i_knots v_knot v_inSum l1 (f_MM_least_b4 N i_knots v_knot v_inSum l1  z) l2 l3
  else
  f_MM_least_b56 N i_knots v_knot v_inSum l1 (f_MM_least_b4 N i_knots v_knot v_inSum l1  z) l3
  else
  f_MM_least_b58 N i_knots v_knot v_inSum l1 (f_MM_least_b4 N i_knots v_knot v_inSum l1  z) l2 l3
def f_MM_least (N : Nat) (i_knots : Int32) (v_knot : Nat → Int32) (v_inSum : Nat → Int32) (l1 : Int32)   : Option (Int32) :=
  f_MM_least_b4 N i_knots v_knot v_inSum l1  N (-1) 0
def f_MM_sums_b187 (N : Nat) (v_halved : Nat → Int32) (k137 : Int32 → Int32 → (Nat → Int32) → (Nat → Int32) → (Nat → Int32) → Option (Int32 × (Nat → Int32) × (Nat → Int32) × (Nat → Int32))) (l3 : Int32) (i_knots : Int32) (v_draft : Nat → Int32) (v_knot : Nat → Int32) (v_inSum : Nat → Int32) : Option (Int32 × (Nat → Int32) × (Nat → Int32) × (Nat → Int32)) :=
  nm (l3 + 1) fun l3_1 =>
  k137 l3_1 i_knots v_draft v_knot v_inSum
def f_MM_sums_b159 (N : Nat) (v_halved : Nat → Int32) (k137 : Int32 → Int32 → (Nat → Int32) → (Nat → Int32) → (Nat → Int32) → Option (Int32 × (Nat → Int32) × (Nat → Int32) × (Nat → Int32))) : Nat → Int32 → Int32 → Int32 → (Nat → Int32) → (Nat → Int32) → (Nat → Int32) → Option (Int32 × (Nat → Int32) × (Nat → Int32) × (Nat → Int32))
  | 0, _, _, _, _, _, _ => none
  | z + 1, l3, l4, i_knots, v_draft, v_knot, v_inSum =>
  if l4 = (-1) then
  f_MM_sums_b187 N v_halved k137 l3 i_knots v_draft v_knot v_inSum
  else
  ck (inb l3 256) <|
  ck (inb l3 256) <|
  nm (upd v_draft (Int32.toNatClampNeg l3) ((v_draft (Int32.toNatClampNeg l3)) + 1)) fun v_draft_4 =>
  ck (inb l4 512) <|
  nm (v_inSum (Int32.toNatClampNeg l4)) fun l4_6 =>
  f_MM_sums_b159 N v_halved k137 z l3 l4_6 i_knots v_draft_4 v_knot v_inSum
def f_MM_sums_b137 (N : Nat) (v_halved : Nat → Int32)  : Nat → Int32 → Int32 → (Nat → Int32) → (Nat → Int32) → (Nat → Int32) → Option (Int32 × (Nat → Int32) × (Nat → Int32) × (Nat → Int32))
  | 0, _, _, _, _, _ => none
  | z + 1, l3, i_knots, v_draft, v_knot, v_inSum =>
  if 256 ≤ l3 then
  some (i_knots, v_draft, v_knot, v_inSum)
  else
  ck (inb l3 256) <|
  nm (upd v_draft (Int32.toNatClampNeg l3) 0) fun v_draft_3 =>
  ck (inb l3 512) <|
  nm (v_inSum (Int32.toNatClampNeg l3)) fun l4_5 =>
  f_MM_sums_b159 N v_halved (f_MM_sums_b137 N v_halved  z) N l3 l4_5 i_knots v_draft_3 v_knot v_inSum
def f_MM_sums_b135 (N : Nat) (v_halved : Nat → Int32)  (i_knots : Int32) (v_draft : Nat → Int32) (v_knot : Nat → Int32) (v_inSum : Nat → Int32) : Option (Int32 × (Nat → Int32) × (Nat → Int32) × (Nat → Int32)) :=
  f_MM_sums_b137 N v_halved  N 0 i_knots v_draft v_knot v_inSum
def f_MM_sums_b53 (N : Nat) (v_halved : Nat → Int32)  : Nat → Int32 → Int32 → Int32 → (Nat → Int32) → (Nat → Int32) → (Nat → Int32) → Option (Int32 × (Nat → Int32) × (Nat → Int32) × (Nat → Int32))
  | 0, _, _, _, _, _, _ => none
  | z + 1, l1, l2, i_knots, v_draft, v_knot, v_inSum =>
  if l2 = (-1) then
  f_MM_sums_b135 N v_halved  i_knots v_draft v_knot v_inSum
  else
  ck (inb l1 512) <|
  ck (inb l2 512) <|
  ck (inb i_knots 512) <|
  nm (upd v_knot (Int32.toNatClampNeg i_knots) ((v_knot (Int32.toNatClampNeg l1)) + (v_knot (Int32.toNatClampNeg l2)))) fun v_knot_5 =>
  ck (inb i_knots 512) <|
  nm (upd v_inSum (Int32.toNatClampNeg i_knots) (-1)) fun v_inSum_7 =>
  ck (inb l1 512) <|
  nm (upd v_inSum_7 (Int32.toNatClampNeg l1) i_knots) fun v_inSum_9 =>
  ck (inb l2 512) <|
  nm (upd v_inSum_9 (Int32.toNatClampNeg l2) i_knots) fun v_inSum_11 =>
  nm (i_knots + 1) fun i_knots_12 =>
  bd1 (f_MM_least N i_knots_12 v_knot_5 v_inSum_11 (-1)) fun r_13 =>
  bd1 (f_MM_least N i_knots_12 v_knot_5 v_inSum_11 r_13) fun r_15 =>
  f_MM_sums_b53 N v_halved  z r_13 r_15 i_knots_12 v_draft v_knot_5 v_inSum_11
def f_MM_sums_b41 (N : Nat) (v_halved : Nat → Int32)  (i_knots : Int32) (v_draft : Nat → Int32) (v_knot : Nat → Int32) (v_inSum : Nat → Int32) : Option (Int32 × (Nat → Int32) × (Nat → Int32) × (Nat → Int32)) :=
  bd1 (f_MM_least N i_knots v_knot v_inSum (-1)) fun r_1 =>
  bd1 (f_MM_least N i_knots v_knot v_inSum r_1) fun r_3 =>
  f_MM_sums_b53 N v_halved  N r_1 r_3 i_knots v_draft v_knot v_inSum
def f_MM_sums_b9 (N : Nat) (v_halved : Nat → Int32)  : Nat → Int32 → Int32 → (Nat → Int32) → (Nat → Int32) → (Nat → Int32) → Option (Int32 × (Nat → Int32) × (Nat → Int32) × (Nat → Int32))
  | 0, _, _, _, _, _ => none
  | z + 1, l1, i_knots, v_draft, v_knot, v_inSum =>
  if 256 ≤ l1 then
  f_MM_sums_b41 N v_halved  i_knots v_draft v_knot v_inSum
  else
  ck (inb l1 256) <|
  ck (inb l1 512) <|
  nm (upd v_knot (Int32.toNatClampNeg l1) (v_halved (Int32.toNatClampNeg l1))) fun v_knot_4 =>
  ck (inb l1 512) <|
  nm (upd v_inSum (Int32.toNatClampNeg l1) (-1)) fun v_inSum_6 =>
  nm (l1 + 1) fun l1_7 =>
  f_MM_sums_b9 N v_halved  z l1_7 i_knots v_draft v_knot_4 v_inSum_6
def f_MM_sums (N : Nat) (v_halved : Nat → Int32)  (i_knots : Int32) (v_draft : Nat → Int32) (v_knot : Nat → Int32) (v_inSum : Nat → Int32) : Option (Int32 × (Nat → Int32) × (Nat → Int32) × (Nat → Int32)) :=
  f_MM_sums_b9 N v_halved  N 0 256 v_draft v_knot v_inSum
def f_MM_lengths_b11 (N : Nat) (v_counts : Nat → Int32) (l1 : Int32)  (i_greatest : Int32) (i_knots : Int32) (v_length : Nat → Int32) (v_symbolOf : Nat → Int32) (v_draft : Nat → Int32) (v_knot : Nat → Int32) (v_inSum : Nat → Int32) (v_halved : Nat → Int32) : Option (Int32 × Int32 × Int32 × (Nat → Int32) × (Nat → Int32) × (Nat → Int32) × (Nat → Int32) × (Nat → Int32) × (Nat → Int32)) :=
  some ((-1), i_greatest, i_knots, v_length, v_symbolOf, v_draft, v_knot, v_inSum, v_halved)
def f_MM_lengths_b48 (N : Nat) (v_counts : Nat → Int32) (l1 : Int32) (k17 : Int32 → Int32 → Int32 → Int32 → (Nat → Int32) → (Nat → Int32) → (Nat → Int32) → (Nat → Int32) → (Nat → Int32) → (Nat → Int32) → Option (Int32 × Int32 × Int32 × (Nat → Int32) × (Nat → Int32) × (Nat → Int32) × (Nat → Int32) × (Nat → Int32) × (Nat → Int32))) (l2 : Int32) (l3 : Int32) (i_greatest : Int32) (i_knots : Int32) (v_length : Nat → Int32) (v_symbolOf : Nat → Int32) (v_draft : Nat → Int32) (v_knot : Nat → Int32) (v_inSum : Nat → Int32) (v_halved : Nat → Int32) : Option (Int32 × Int32 × Int32 × (Nat → Int32) × (Nat → Int32) × (Nat → Int32) × (Nat → Int32) × (Nat → Int32) × (Nat → Int32)) :=
  nm (l3 + 1) fun l3_1 =>
  k17 l2 l3_1 i_greatest i_knots v_length v_symbolOf v_draft v_knot v_inSum v_halved
def f_MM_lengths_b66 (N : Nat) (v_counts : Nat → Int32) (l1 : Int32)  (i_greatest : Int32) (i_knots : Int32) (v_length : Nat → Int32) (v_symbolOf : Nat → Int32) (v_draft : Nat → Int32) (v_knot : Nat → Int32) (v_inSum : Nat → Int32) (v_halved : Nat → Int32) : Option (Int32 × Int32 × Int32 × (Nat → Int32) × (Nat → Int32) × (Nat → Int32) × (Nat → Int32) × (Nat → Int32) × (Nat → Int32)) :=
  some ((-2), i_greatest, i_knots, v_length, v_symbolOf, v_draft, v_knot, v_inSum, v_halved)
def f_MM_lengths_b124 (N : Nat) (v_counts : Nat → Int32) (l1 : Int32) (k75 : Int32 → Int32 → Int32 → (Nat → Int32) → (Nat → Int32) → (Nat → Int32) → (Nat → Int32) → (Nat → Int32) → (Nat → Int32) → Option (Int32 × Int32 × Int32 × (Nat → Int32) × (Nat → Int32) × (Nat → Int32) × (Nat → Int32) × (Nat → Int32) × (Nat → Int32))) (l3 : Int32) (i_greatest : Int32) (i_knots : Int32) (v_length : Nat → Int32) (v_symbolOf : Nat → Int32) (v_draft : Nat → Int32) (v_knot : Nat → Int32) (v_inSum : Nat → Int32) (v_halved : Nat → Int32) : Option (Int32 × Int32 × Int32 × (Nat → Int32) × (Nat → Int32) × (Nat → Int32) × (Nat → Int32) × (Nat → Int32) × (Nat → Int32)) :=
  bd4 (f_MM_sums N v_halved i_knots v_draft v_knot v_inSum) fun i_knots_1 v_draft_2 v_knot_3 v_inSum_4 =>
  nm (l3 + 1) fun l3_6 =>
  k75 l3_6 i_greatest i_knots_1 v_length v_symbolOf v_draft_2 v_knot_3 v_inSum_4 v_halved
def f_MM_lengths_b92 (N : Nat) (v_counts : Nat → Int32) (l1 : Int32) (k75 : Int32 → Int32 → Int32 → (Nat → Int32) → (Nat → Int32) → (Nat → Int32) → (Nat → Int32) → (Nat → Int32) → (Nat → Int32) → Option (Int32 × Int32 × Int32 × (Nat → Int32) × (Nat → Int32) × (Nat → Int32) × (Nat → Int32) × (Nat → Int32) × (Nat → Int32))) : Nat → Int32 → Int32 → Int32 → Int32 → (Nat → Int32) → (Nat → Int32) → (Nat → Int32) → (Nat → Int32) → (Nat → Int32) → (Nat → Int32) → Option (Int32 × Int32 × Int32 × (Nat → Int32) × (Nat → Int32) × (Nat → Int32) × (Nat → Int32) × (Nat → Int32) × (Nat → Int32))
  | 0, _, _, _, _, _, _, _, _, _, _ => none
  | z + 1, l3, l4, i_greatest, i_knots, v_length, v_symbolOf, v_draft, v_knot, v_inSum, v_halved =>
  if 256 ≤ l4 then
  f_MM_lengths_b124 N v_counts l1 k75 l3 i_greatest i_knots v_length v_symbolOf v_draft v_knot v_inSum v_halved
  else
  ck (inb l4 256) <|
  ck (inb l4 256) <|
  nm (upd v_halved (Int32.toNatClampNeg l4) (((v_halved (Int32.toNatClampNeg l4)) + 1) / 2)) fun v_halved_4 =>
  nm (l4 + 1) fun l4_5 =>
  f_MM_lengths_b92 N v_counts l1 k75 z l3 l4_5 i_greatest i_knots v_length v_symbolOf v_draft v_knot v_inSum v_halved_4
def f_MM_lengths_b134 (N : Nat) (v_counts : Nat → Int32) (l1 : Int32)  (i_greatest : Int32) (i_knots : Int32) (v_length : Nat → Int32) (v_symbolOf : Nat → Int32) (v_draft : Nat → Int32) (v_knot : Nat → Int32) (v_inSum : Nat → Int32) (v_halved : Nat → Int32) : Option (Int32 × Int32 × Int32 × (Nat → Int32) × (Nat → Int32) × (Nat → Int32) × (Nat → Int32) × (Nat → Int32) × (Nat → Int32)) :=
  bd1 (f_MM_longestDraft N v_draft) fun r_1 =>
  bd4 (f_MM_settle N v_draft r_1 i_greatest v_length v_symbolOf) fun r_3 i_greatest_4 v_length_5 v_symbolOf_6 =>
  some (r_3, i_greatest_4, i_knots, v_length_5, v_symbolOf_6, v_draft, v_knot, v_inSum, v_halved)
def f_MM_lengths_b75 (N : Nat) (v_counts : Nat → Int32) (l1 : Int32)  : Nat → Int32 → Int32 → Int32 → (Nat → Int32) → (Nat → Int32) → (Nat → Int32) → (Nat → Int32) → (Nat → Int32) → (Nat → Int32) → Option (Int32 × Int32 × Int32 × (Nat → Int32) × (Nat → Int32) × (Nat → Int32) × (Nat → Int32) × (Nat → Int32) × (Nat → Int32))
  | 0, _, _, _, _, _, _, _, _, _ => none
  | z + 1, l3, i_greatest, i_knots, v_length, v_symbolOf, v_draft, v_knot, v_inSum, v_halved =>
  if 40 ≤ l3 then
  f_MM_lengths_b134 N v_counts l1  i_greatest i_knots v_length v_symbolOf v_draft v_knot v_inSum v_halved
  else
  bd1 (f_MM_longestDraft N v_draft) fun r_2 =>
  if r_2 ≤ l1 then
  f_MM_lengths_b134 N v_counts l1  i_greatest i_knots v_length v_symbolOf v_draft v_knot v_inSum v_halved
  else
  f_MM_lengths_b92 N v_counts l1 (f_MM_lengths_b75 N v_counts l1  z) N l3 0 i_greatest i_knots v_length v_symbolOf v_draft v_knot v_inSum v_halved
def f_MM_lengths_b54 (N : Nat) (v_counts : Nat → Int32) (l1 : Int32)  (l2 : Int32) (i_greatest : Int32) (i_knots : Int32) (v_length : Nat → Int32) (v_symbolOf : Nat → Int32) (v_draft : Nat → Int32) (v_knot : Nat → Int32) (v_inSum : Nat → Int32) (v_halved : Nat → Int32) : Option (Int32 × Int32 × Int32 × (Nat → Int32) × (Nat → Int32) × (Nat → Int32) × (Nat → Int32) × (Nat → Int32) × (Nat → Int32)) :=
  if l2 < 2 then
  f_MM_lengths_b66 N v_counts l1  i_greatest i_knots v_length v_symbolOf v_draft v_knot v_inSum v_halved
  else
  if l2 ≤ (1 <<< (l1 &&& 31)) then
  bd4 (f_MM_sums N v_halved i_knots v_draft v_knot v_inSum) fun i_knots_3 v_draft_4 v_knot_5 v_inSum_6 =>
  f_MM_lengths_b75 N v_counts l1  N 0 i_greatest i_knots_3 v_length v_symbolOf v_draft_4 v_knot_5 v_inSum_6 v_halved
  else
  f_MM_lengths_b66 N v_counts l1  i_greatest i_knots v_length v_symbolOf v_draft v_knot v_inSum v_halved
def f_MM_lengths_b17 (N : Nat) (v_counts : Nat → Int32) (l1 : Int32)  : Nat → Int32 → Int32 → Int32 → Int32 → (Nat → Int32) → (Nat → Int32) → (Nat → Int32) → (Nat → Int32) → (Nat → Int32) → (Nat → Int32) → Option (Int32 × Int32 × Int32 × (Nat → Int32) × (Nat → Int32) × (Nat → Int32) × (Nat → Int32) × (Nat → Int32) × (Nat → Int32))
  | 0, _, _, _, _, _, _, _, _, _, _ => none
  | z + 1, l2, l3, i_greatest, i_knots, v_length, v_symbolOf, v_draft, v_knot, v_inSum, v_halved =>
  if 256 ≤ l3 then
  f_MM_lengths_b54 N v_counts l1  l2 i_greatest i_knots v_length v_symbolOf v_draft v_knot v_inSum v_halved
  else
  ck (inb l3 256) <|
  ck (inb l3 256) <|
  nm (upd v_halved (Int32.toNatClampNeg l3) (v_counts (Int32.toNatClampNeg l3))) fun v_halved_4 =>
  ck (inb l3 256) <|
  if (v_counts (Int32.toNatClampNeg l3)) ≤ 0 then
  f_MM_lengths_b48 N v_counts l1 (f_MM_lengths_b17 N v_counts l1  z) l2 l3 i_greatest i_knots v_length v_symbolOf v_draft v_knot v_inSum v_halved_4
  else
  nm (l2 + 1) fun l2_7 =>
  f_MM_lengths_b48 N v_counts l1 (f_MM_lengths_b17 N v_counts l1  z) l2_7 l3 i_greatest i_knots v_length v_symbolOf v_draft v_knot v_inSum v_halved_4
def f_MM_lengths (N : Nat) (v_counts : Nat → Int32) (l1 : Int32)  (i_greatest : Int32) (i_knots : Int32) (v_length : Nat → Int32) (v_symbolOf : Nat → Int32) (v_draft : Nat → Int32) (v_knot : Nat → Int32) (v_inSum : Nat → Int32) (v_halved : Nat → Int32) : Option (Int32 × Int32 × Int32 × (Nat → Int32) × (Nat → Int32) × (Nat → Int32) × (Nat → Int32) × (Nat → Int32) × (Nat → Int32)) :=
  if l1 < 1 then
  f_MM_lengths_b11 N v_counts l1  i_greatest i_knots v_length v_symbolOf v_draft v_knot v_inSum v_halved
  else
  if l1 ≤ 11 then
  f_MM_lengths_b17 N v_counts l1  N 0 0 i_greatest i_knots v_length v_symbolOf v_draft v_knot v_inSum v_halved
  else
  f_MM_lengths_b11 N v_counts l1  i_greatest i_knots v_length v_symbolOf v_draft v_knot v_inSum v_halved
def f_MM_just_b22 (N : Nat) (v_counts : Nat → Int32)  (i_greatest : Int32) (v_length : Nat → Int32) (v_symbolOf : Nat → Int32) (v_draft : Nat → Int32) : Option (Int32 × Int32 × (Nat → Int32) × (Nat → Int32) × (Nat → Int32)) :=
  some ((-1), i_greatest, v_length, v_symbolOf, v_draft)
def f_MM_just_b83 (N : Nat) (v_counts : Nat → Int32) (k50 : Int64 → Int32 → Int32 → Int32 → (Nat → Int32) → (Nat → Int32) → (Nat → Int32) → Option (Int32 × Int32 × (Nat → Int32) × (Nat → Int32) × (Nat → Int32))) (l1 : Int64) (l3 : Int32) (l4 : Int32) (i_greatest : Int32) (v_length : Nat → Int32) (v_symbolOf : Nat → Int32) (v_draft : Nat → Int32) : Option (Int32 × Int32 × (Nat → Int32) × (Nat → Int32) × (Nat → Int32)) :=
  nm (l4 + 1) fun l4_1 =>
  k50 l1 l3 l4_1 i_greatest v_length v_symbolOf v_draft
def f_MM_just_b102 (N : Nat) (v_counts : Nat → Int32)  (i_greatest : Int32) (v_length : Nat → Int32) (v_symbolOf : Nat → Int32) (v_draft : Nat → Int32) : Option (Int32 × Int32 × (Nat → Int32) × (Nat → Int32) × (Nat → Int32)) :=
  some ((-1), i_greatest, v_length, v_symbolOf, v_draft)
def f_MM_just_b89 (N : Nat) (v_counts : Nat → Int32)  (l1 : Int64) (l3 : Int32) (i_greatest : Int32) (v_length : Nat → Int32) (v_symbolOf : Nat → Int32) (v_draft : Nat → Int32) : Option (Int32 × Int32 × (Nat → Int32) × (Nat → Int32) × (Nat → Int32)) :=
  if l3 = 0 then
  f_MM_just_b102 N v_counts  i_greatest v_length v_symbolOf v_draft
  else
  if (lg_cmp l1 (Int32.toInt64 (1 <<< (l3 &&& 31)))) = 0 then
  bd4 (f_MM_settle N v_draft l3 i_greatest v_length v_symbolOf) fun r_3 i_greatest_4 v_length_5 v_symbolOf_6 =>
  some (r_3, i_greatest_4, v_length_5, v_symbolOf_6, v_draft)
  else
  f_MM_just_b102 N v_counts  i_greatest v_length v_symbolOf v_draft
def f_MM_just_b50 (N : Nat) (v_counts : Nat → Int32)  : Nat → Int64 → Int32 → Int32 → Int32 → (Nat → Int32) → (Nat → Int32) → (Nat → Int32) → Option (Int32 × Int32 × (Nat → Int32) × (Nat → Int32) × (Nat → Int32))
  | 0, _, _, _, _, _, _, _ => none
  | z + 1, l1, l3, l4, i_greatest, v_length, v_symbolOf, v_draft =>
  if 256 ≤ l4 then
  f_MM_just_b89 N v_counts  l1 l3 i_greatest v_length v_symbolOf v_draft
  else
  ck (inb l4 256) <|
  if (v_draft (Int32.toNatClampNeg l4)) ≤ 0 then
  f_MM_just_b83 N v_counts (f_MM_just_b50 N v_counts  z) l1 l3 l4 i_greatest v_length v_symbolOf v_draft
  else
  ck (inb l4 256) <|
  nm (l1 + (Int32.toInt64 (1 <<< ((l3 - (v_draft (Int32.toNatClampNeg l4))) &&& 31)))) fun l1_5 =>
  f_MM_just_b83 N v_counts (f_MM_just_b50 N v_counts  z) l1_5 l3 l4 i_greatest v_length v_symbolOf v_draft
def f_MM_just_b42 (N : Nat) (v_counts : Nat → Int32)  (l1 : Int64) (i_greatest : Int32) (v_length : Nat → Int32) (v_symbolOf : Nat → Int32) (v_draft : Nat → Int32) : Option (Int32 × Int32 × (Nat → Int32) × (Nat → Int32) × (Nat → Int32)) :=
  bd1 (f_MM_longestDraft N v_draft) fun r_1 =>
  f_MM_just_b50 N v_counts  N l1 r_1 0 i_greatest v_length v_symbolOf v_draft
def f_MM_just_b4 (N : Nat) (v_counts : Nat → Int32)  : Nat → Int64 → Int32 → Int32 → (Nat → Int32) → (Nat → Int32) → (Nat → Int32) → Option (Int32 × Int32 × (Nat → Int32) × (Nat → Int32) × (Nat → Int32))
  | 0, _, _, _, _, _, _ => none
  | z + 1, l1, l3, i_greatest, v_length, v_symbolOf, v_draft =>
  if 256 ≤ l3 then
  f_MM_just_b42 N v_counts  l1 i_greatest v_length v_symbolOf v_draft
  else
  ck (inb l3 256) <|
  if (v_counts (Int32.toNatClampNeg l3)) ≤ 11 then
  ck (inb l3 256) <|
  ck (inb l3 256) <|
  nm (upd v_draft (Int32.toNatClampNeg l3) (v_counts (Int32.toNatClampNeg l3))) fun v_draft_6 =>
  nm (l3 + 1) fun l3_7 =>
  f_MM_just_b4 N v_counts  z l1 l3_7 i_greatest v_length v_symbolOf v_draft_6
  else
  f_MM_just_b22 N v_counts  i_greatest v_length v_symbolOf v_draft
def f_MM_just (N : Nat) (v_counts : Nat → Int32)  (i_greatest : Int32) (v_length : Nat → Int32) (v_symbolOf : Nat → Int32) (v_draft : Nat → Int32) : Option (Int32 × Int32 × (Nat → Int32) × (Nat → Int32) × (Nat → Int32)) :=
  f_MM_just_b4 N v_counts  N 0 0 i_greatest v_length v_symbolOf v_draft
def f_MM_codeOf_b18 (N : Nat) (i_greatest : Int32) (v_length : Nat → Int32) (v_symbolOf : Nat → Int32) (l1 : Int32)  (l2 : Int32) : Option (Int32) :=
  ck (inb l1 256) <|
  some ((l2 >>> ((i_greatest - (v_length (Int32.toNatClampNeg l1))) &&& 31)))
def f_MM_codeOf_b2 (N : Nat) (i_greatest : Int32) (v_length : Nat → Int32) (v_symbolOf : Nat → Int32) (l1 : Int32)  : Nat → Int32 → Option (Int32)
  | 0, _ => none
  | z + 1, l2 =>
  ck (inb l2 2048) <|
  if (v_symbolOf (Int32.toNatClampNeg l2)) = l1 then
  f_MM_codeOf_b18 N i_greatest v_length v_symbolOf l1  l2
  else
  nm (l2 + 1) fun l2_3 =>
  f_MM_codeOf_b2 N i_greatest v_length v_symbolOf l1  z l2_3
def f_MM_codeOf (N : Nat) (i_greatest : Int32) (v_length : Nat → Int32) (v_symbolOf : Nat → Int32) (l1 : Int32)   : Option (Int32) :=
  f_MM_codeOf_b2 N i_greatest v_length v_symbolOf l1  N 0
def f_MM_about_b16 (N : Nat) (i_inLong : Int32) (i_goesOn : Int32) (i_greatest : Int32) (v_in : Nat → Int32) (v_length : Nat → Int32) (l1 : Int32)   : Option (Int32) :=
  some ((-1))
def f_MM_about_b55 (N : Nat) (i_inLong : Int32) (i_goesOn : Int32) (i_greatest : Int32) (v_in : Nat → Int32) (v_length : Nat → Int32) (l1 : Int32) (k36 : Int32 → Int32 → Option (Int32)) (l2 : Int32) (l3 : Int32) : Option (Int32) :=
  nm (l3 + 1) fun l3_1 =>
  k36 l2 l3_1
def f_MM_about_b61 (N : Nat) (i_inLong : Int32) (i_goesOn : Int32) (i_greatest : Int32) (v_in : Nat → Int32) (v_length : Nat → Int32) (l1 : Int32)  (l2 : Int32) : Option (Int32) :=
  some (l2)
def f_MM_about_b36 (N : Nat) (i_inLong : Int32) (i_goesOn : Int32) (i_greatest : Int32) (v_in : Nat → Int32) (v_length : Nat → Int32) (l1 : Int32)  : Nat → Int32 → Int32 → Option (Int32)
  | 0, _, _ => none
  | z + 1, l2, l3 =>
  if 256 ≤ l3 then
  f_MM_about_b61 N i_inLong i_goesOn i_greatest v_in v_length l1  l2
  else
  ck (inb l3 256) <|
  if (v_length (Int32.toNatClampNeg l3)) ≤ 0 then
  f_MM_about_b55 N i_inLong i_goesOn i_greatest v_in v_length l1 (f_MM_about_b36 N i_inLong i_goesOn i_greatest v_in v_length l1  z) l2 l3
  else
  nm (l2 + 1) fun l2_4 =>
  f_MM_about_b55 N i_inLong i_goesOn i_greatest v_in v_length l1 (f_MM_about_b36 N i_inLong i_goesOn i_greatest v_in v_length l1  z) l2_4 l3
def f_MM_about_b90 (N : Nat) (i_inLong : Int32) (i_goesOn : Int32) (i_greatest : Int32) (v_in : Nat → Int32) (v_length : Nat → Int32) (l1 : Int32)   : Option (Int32) :=
  some ((-1))
def f_MM_about_b112 (N : Nat) (i_inLong : Int32) (i_goesOn : Int32) (i_greatest : Int32) (v_in : Nat → Int32) (v_length : Nat → Int32) (l1 : Int32)  (l2 : Int32) : Option (Int32) :=
  some (l2)
def f_MM_about_b68 (N : Nat) (i_inLong : Int32) (i_goesOn : Int32) (i_greatest : Int32) (v_in : Nat → Int32) (v_length : Nat → Int32) (l1 : Int32)  : Nat → Int32 → Int32 → Option (Int32)
  | 0, _, _ => none
  | z + 1, l2, l3 =>
  if i_inLong ≤ l3 then
  f_MM_about_b112 N i_inLong i_goesOn i_greatest v_in v_length l1  l2
  else
  ck (inb l3 6000) <|
  ck (inb (v_in (Int32.toNatClampNeg l3)) 256) <|
  if (v_length (Int32.toNatClampNeg (v_in (Int32.toNatClampNeg l3)))) = 0 then
  f_MM_about_b90 N i_inLong i_goesOn i_greatest v_in v_length l1  
  else
  ck (inb l3 6000) <|
  ck (inb (v_in (Int32.toNatClampNeg l3)) 256) <|
  nm (l2 + (v_length (Int32.toNatClampNeg (v_in (Int32.toNatClampNeg l3))))) fun l2_7 =>
  nm (l3 + 1) fun l3_8 =>
  f_MM_about_b68 N i_inLong i_goesOn i_greatest v_in v_length l1  z l2_7 l3_8
def f_MM_about (N : Nat) (i_inLong : Int32) (i_goesOn : Int32) (i_greatest : Int32) (v_in : Nat → Int32) (v_length : Nat → Int32) (l1 : Int32)   : Option (Int32) :=
  if i_greatest = 0 then
  f_MM_about_b16 N i_inLong i_goesOn i_greatest v_in v_length l1  
  else
  if l1 < 0 then
  f_MM_about_b16 N i_inLong i_goesOn i_greatest v_in v_length l1  
  else
  if l1 ≤ 2 then
  if l1 = 0 then
  some (i_greatest)
  else
  if l1 = 1 then
  f_MM_about_b36 N i_inLong i_goesOn i_greatest v_in v_length l1  N 0 0
  else
  f_MM_about_b68 N i_inLong i_goesOn i_greatest v_in v_length l1  N 0 i_goesOn
  else
  f_MM_about_b16 N i_inLong i_goesOn i_greatest v_in v_length l1  
def f_MM_code_b27 (N : Nat) (i_greatest : Int32) (v_length : Nat → Int32) (v_symbolOf : Nat → Int32) (l1 : Int32) (l2 : Int32)   : Option (Int32) :=
  some ((-1))
def f_MM_code (N : Nat) (i_greatest : Int32) (v_length : Nat → Int32) (v_symbolOf : Nat → Int32) (l1 : Int32) (l2 : Int32)   : Option (Int32) :=
  if i_greatest = 0 then
  f_MM_code_b27 N i_greatest v_length v_symbolOf l1 l2  
  else
  if l1 < 0 then
  f_MM_code_b27 N i_greatest v_length v_symbolOf l1 l2  
  else
  if 256 ≤ l1 then
  f_MM_code_b27 N i_greatest v_length v_symbolOf l1 l2  
  else
  if l2 < 0 then
  f_MM_code_b27 N i_greatest v_length v_symbolOf l1 l2  
  else
  if l2 ≤ 1 then
  ck (inb l1 256) <|
  if (v_length (Int32.toNatClampNeg l1)) = 0 then
  some ((-1))
  else
  if l2 = 0 then
  ck (inb l1 256) <|
  some ((v_length (Int32.toNatClampNeg l1)))
  else
  bd1 (f_MM_codeOf N i_greatest v_length v_symbolOf l1) fun r_9 =>
  some (r_9)
  else
  f_MM_code_b27 N i_greatest v_length v_symbolOf l1 l2  
def f_MM_begin_b22 (N : Nat)   (i_bitsMade : Int32) (v_made : Nat → Int32) : Option (Int32 × (Nat → Int32)) :=
  some (0, v_made)
def f_MM_begin_b2 (N : Nat)   : Nat → Int32 → Int32 → (Nat → Int32) → Option (Int32 × (Nat → Int32))
  | 0, _, _, _ => none
  | z + 1, l1, i_bitsMade, v_made =>
  if 6000 ≤ l1 then
  f_MM_begin_b22 N   i_bitsMade v_made
  else
  ck (inb l1 6000) <|
  nm (upd v_made (Int32.toNatClampNeg l1) 0) fun v_made_3 =>
  nm (l1 + 1) fun l1_4 =>
  f_MM_begin_b2 N   z l1_4 i_bitsMade v_made_3
def f_MM_begin (N : Nat)   (i_bitsMade : Int32) (v_made : Nat → Int32) : Option (Int32 × (Nat → Int32)) :=
  f_MM_begin_b2 N   N 0 i_bitsMade v_made
def f_MM_put_b2 (N : Nat) (l1 : Int32) (l2 : Int32)  : Nat → Int32 → Int32 → (Nat → Int32) → Option (Int32 × (Nat → Int32))
  | 0, _, _, _ => none
  | z + 1, l3, i_bitsMade, v_made =>
  if l2 ≤ l3 then
  some (i_bitsMade, v_made)
  else
  ck (inb (i_bitsMade / 8) 6000) <|
  ck (inb (i_bitsMade / 8) 6000) <|
  nm (upd v_made (Int32.toNatClampNeg (i_bitsMade / 8)) ((v_made (Int32.toNatClampNeg (i_bitsMade / 8))) + (((l1 >>> (l3 &&& 31)) &&& 1) <<< ((i_bitsMade - i_bitsMade / 8 * 8) &&& 31)))) fun v_made_4 =>
  nm (i_bitsMade + 1) fun i_bitsMade_5 =>
  nm (l3 + 1) fun l3_6 =>
  f_MM_put_b2 N l1 l2  z l3_6 i_bitsMade_5 v_made_4
def f_MM_put (N : Nat) (l1 : Int32) (l2 : Int32)  (i_bitsMade : Int32) (v_made : Nat → Int32) : Option (Int32 × (Nat → Int32)) :=
  f_MM_put_b2 N l1 l2  N 0 i_bitsMade v_made
def f_MM_fill (N : Nat)   (i_bitsMade : Int32) : Option (Int32) :=
  nm (((i_bitsMade + 7) / 8) * 8) fun i_bitsMade_1 =>
  some (i_bitsMade_1)
def f_MM_give_b39 (N : Nat) (i_bitsMade : Int32) (v_made : Nat → Int32)  (i_outLong : Int32) (v_out : Nat → Int32) : Option (Int32 × Int32 × (Nat → Int32)) :=
  some (i_outLong, i_outLong, v_out)
def f_MM_give_b13 (N : Nat) (i_bitsMade : Int32) (v_made : Nat → Int32)  : Nat → Int32 → Int32 → (Nat → Int32) → Option (Int32 × Int32 × (Nat → Int32))
  | 0, _, _, _ => none
  | z + 1, l1, i_outLong, v_out =>
  if i_outLong ≤ l1 then
  f_MM_give_b39 N i_bitsMade v_made  i_outLong v_out
  else
  ck (inb l1 6000) <|
  ck (inb l1 6000) <|
  nm (upd v_out (Int32.toNatClampNeg l1) (v_made (Int32.toNatClampNeg l1))) fun v_out_4 =>
  nm (l1 + 1) fun l1_5 =>
  f_MM_give_b13 N i_bitsMade v_made  z l1_5 i_outLong v_out_4
def f_MM_give (N : Nat) (i_bitsMade : Int32) (v_made : Nat → Int32)  (i_outLong : Int32) (v_out : Nat → Int32) : Option (Int32 × Int32 × (Nat → Int32)) :=
  nm (i_bitsMade / 8) fun i_outLong_1 =>
  f_MM_give_b13 N i_bitsMade v_made  N 0 i_outLong_1 v_out
def f_MM_streamBytes_b32 (N : Nat) (v_in : Nat → Int32) (v_length : Nat → Int32) (l1 : Int32) (l2 : Int32)  (l3 : Int32) : Option (Int32) :=
  some (((l3 + 7) / 8))
def f_MM_streamBytes_b5 (N : Nat) (v_in : Nat → Int32) (v_length : Nat → Int32) (l1 : Int32) (l2 : Int32)  : Nat → Int32 → Int32 → Option (Int32)
  | 0, _, _ => none
  | z + 1, l3, l4 =>
  if l2 ≤ l4 then
  f_MM_streamBytes_b32 N v_in v_length l1 l2  l3
  else
  ck (inb l4 6000) <|
  ck (inb (v_in (Int32.toNatClampNeg l4)) 256) <|
  nm (l3 + (v_length (Int32.toNatClampNeg (v_in (Int32.toNatClampNeg l4))))) fun l3_4 =>
  nm (l4 + 1) fun l4_5 =>
  f_MM_streamBytes_b5 N v_in v_length l1 l2  z l3_4 l4_5
def f_MM_streamBytes (N : Nat) (v_in : Nat → Int32) (v_length : Nat → Int32) (l1 : Int32) (l2 : Int32)   : Option (Int32) :=
  f_MM_streamBytes_b5 N v_in v_length l1 l2  N 1 l1
def f_MM_putStream_b40 (N : Nat) (i_greatest : Int32) (v_in : Nat → Int32) (v_length : Nat → Int32) (v_symbolOf : Nat → Int32) (l1 : Int32) (l2 : Int32)  (i_bitsMade : Int32) (v_made : Nat → Int32) : Option (Int32 × (Nat → Int32)) :=
  bd2 (f_MM_put N 1 1 i_bitsMade v_made) fun i_bitsMade_1 v_made_2 =>
  bd1 (f_MM_fill N i_bitsMade_1) fun i_bitsMade_4 =>
  some (i_bitsMade_4, v_made_2)
def f_MM_putStream_b4 (N : Nat) (i_greatest : Int32) (v_in : Nat → Int32) (v_length : Nat → Int32) (v_symbolOf : Nat → Int32) (l1 : Int32) (l2 : Int32)  : Nat → Int32 → Int32 → (Nat → Int32) → Option (Int32 × (Nat → Int32))
  | 0, _, _, _ => none
  | z + 1, l3, i_bitsMade, v_made =>
  if l3 < l1 then
  f_MM_putStream_b40 N i_greatest v_in v_length v_symbolOf l1 l2  i_bitsMade v_made
  else
  ck (inb l3 6000) <|
  bd1 (f_MM_codeOf N i_greatest v_length v_symbolOf (v_in (Int32.toNatClampNeg l3))) fun r_3 =>
  ck (inb l3 6000) <|
  ck (inb (v_in (Int32.toNatClampNeg l3)) 256) <|
  bd2 (f_MM_put N r_3 (v_length (Int32.toNatClampNeg (v_in (Int32.toNatClampNeg l3)))) i_bitsMade v_made) fun i_bitsMade_7 v_made_8 =>
  nm (l3 + (-1)) fun l3_10 =>
  f_MM_putStream_b4 N i_greatest v_in v_length v_symbolOf l1 l2  z l3_10 i_bitsMade_7 v_made_8
def f_MM_putStream (N : Nat) (i_greatest : Int32) (v_in : Nat → Int32) (v_length : Nat → Int32) (v_symbolOf : Nat → Int32) (l1 : Int32) (l2 : Int32)  (i_bitsMade : Int32) (v_made : Nat → Int32) : Option (Int32 × (Nat → Int32)) :=
  nm (l2 - 1) fun l3_1 =>
  f_MM_putStream_b4 N i_greatest v_in v_length v_symbolOf l1 l2  N l3_1 i_bitsMade v_made
def f_MM_encode_b46 (N : Nat) (i_inLong : Int32) (i_goesOn : Int32) (i_greatest : Int32) (v_in : Nat → Int32) (v_length : Nat → Int32) (v_symbolOf : Nat → Int32) (l1 : Int32)  (i_outLong : Int32) (i_bitsMade : Int32) (v_out : Nat → Int32) (v_made : Nat → Int32) : Option (Int32 × Int32 × Int32 × (Nat → Int32) × (Nat → Int32)) :=
  some ((-2), i_outLong, i_bitsMade, v_out, v_made)
def f_MM_encode_b276 (N : Nat) (i_inLong : Int32) (i_goesOn : Int32) (i_greatest : Int32) (v_in : Nat → Int32) (v_length : Nat → Int32) (v_symbolOf : Nat → Int32) (l1 : Int32)  (s0 : Int32) (i_outLong : Int32) (i_bitsMade : Int32) (v_out : Nat → Int32) (v_made : Nat → Int32) : Option (Int32 × Int32 × Int32 × (Nat → Int32) × (Nat → Int32)) :=
  bd2 (f_MM_putStream N i_greatest v_in v_length v_symbolOf s0 i_inLong i_bitsMade v_made) fun i_bitsMade_1 v_made_2 =>
  bd3 (f_MM_give N i_bitsMade_1 v_made_2 i_outLong v_out) fun r_4 i_outLong_5 v_out_6 =>
  some (r_4, i_outLong_5, i_bitsMade_1, v_out_6, v_made_2)
def f_MM_encode_b260 (N : Nat) (i_inLong : Int32) (i_goesOn : Int32) (i_greatest : Int32) (v_in : Nat → Int32) (v_length : Nat → Int32) (v_symbolOf : Nat → Int32) (l1 : Int32)  (l3 : Int32) (l4 : Int32) (i_outLong : Int32) (i_bitsMade : Int32) (v_out : Nat → Int32) (v_made : Nat → Int32) : Option (Int32 × Int32 × Int32 × (Nat → Int32) × (Nat → Int32)) :=
  if l1 = 0 then
  f_MM_encode_b276 N i_inLong i_goesOn i_greatest v_in v_length v_symbolOf l1  l4 i_outLong i_bitsMade v_out v_made
  else
  f_MM_encode_b276 N i_inLong i_goesOn i_greatest v_in v_length v_symbolOf l1  (l4 + (3 * l3)) i_outLong i_bitsMade v_out v_made
def f_MM_encode_b224 (N : Nat) (i_inLong : Int32) (i_goesOn : Int32) (i_greatest : Int32) (v_in : Nat → Int32) (v_length : Nat → Int32) (v_symbolOf : Nat → Int32) (l1 : Int32)  : Nat → Int32 → Int32 → Int32 → Int32 → Int32 → (Nat → Int32) → (Nat → Int32) → Option (Int32 × Int32 × Int32 × (Nat → Int32) × (Nat → Int32))
  | 0, _, _, _, _, _, _, _ => none
  | z + 1, l3, l4, l6, i_outLong, i_bitsMade, v_out, v_made =>
  if l1 = 0 then
  f_MM_encode_b260 N i_inLong i_goesOn i_greatest v_in v_length v_symbolOf l1  l3 l4 i_outLong i_bitsMade v_out v_made
  else
  if 3 ≤ l6 then
  f_MM_encode_b260 N i_inLong i_goesOn i_greatest v_in v_length v_symbolOf l1  l3 l4 i_outLong i_bitsMade v_out v_made
  else
  bd2 (f_MM_putStream N i_greatest v_in v_length v_symbolOf (l4 + (l6 * l3)) ((l4 + (l6 * l3)) + l3) i_bitsMade v_made) fun i_bitsMade_3 v_made_4 =>
  nm (l6 + 1) fun l6_6 =>
  f_MM_encode_b224 N i_inLong i_goesOn i_greatest v_in v_length v_symbolOf l1  z l3 l4 l6_6 i_outLong i_bitsMade_3 v_out v_made_4
def f_MM_encode_b221 (N : Nat) (i_inLong : Int32) (i_goesOn : Int32) (i_greatest : Int32) (v_in : Nat → Int32) (v_length : Nat → Int32) (v_symbolOf : Nat → Int32) (l1 : Int32)  (l3 : Int32) (l4 : Int32) (i_outLong : Int32) (i_bitsMade : Int32) (v_out : Nat → Int32) (v_made : Nat → Int32) : Option (Int32 × Int32 × Int32 × (Nat → Int32) × (Nat → Int32)) :=
  f_MM_encode_b224 N i_inLong i_goesOn i_greatest v_in v_length v_symbolOf l1  N l3 l4 0 i_outLong i_bitsMade v_out v_made
def f_MM_encode_b179 (N : Nat) (i_inLong : Int32) (i_goesOn : Int32) (i_greatest : Int32) (v_in : Nat → Int32) (v_length : Nat → Int32) (v_symbolOf : Nat → Int32) (l1 : Int32)  : Nat → Int32 → Int32 → Int32 → Int32 → Int32 → (Nat → Int32) → (Nat → Int32) → Option (Int32 × Int32 × Int32 × (Nat → Int32) × (Nat → Int32))
  | 0, _, _, _, _, _, _, _ => none
  | z + 1, l3, l4, l6, i_outLong, i_bitsMade, v_out, v_made =>
  if l1 = 0 then
  f_MM_encode_b221 N i_inLong i_goesOn i_greatest v_in v_length v_symbolOf l1  l3 l4 i_outLong i_bitsMade v_out v_made
  else
  if 3 ≤ l6 then
  f_MM_encode_b221 N i_inLong i_goesOn i_greatest v_in v_length v_symbolOf l1  l3 l4 i_outLong i_bitsMade v_out v_made
  else
  bd1 (f_MM_streamBytes N v_in v_length (l4 + (l6 * l3)) ((l4 + (l6 * l3)) + l3)) fun r_3 =>
  bd2 (f_MM_put N r_3 16 i_bitsMade v_made) fun i_bitsMade_5 v_made_6 =>
  nm (l6 + 1) fun l6_8 =>
  f_MM_encode_b179 N i_inLong i_goesOn i_greatest v_in v_length v_symbolOf l1  z l3 l4 l6_8 i_outLong i_bitsMade_5 v_out v_made_6
def f_MM_encode_b161 (N : Nat) (i_inLong : Int32) (i_goesOn : Int32) (i_greatest : Int32) (v_in : Nat → Int32) (v_length : Nat → Int32) (v_symbolOf : Nat → Int32) (l1 : Int32)  (l3 : Int32) (l4 : Int32) (l5 : Int32) (i_outLong : Int32) (i_bitsMade : Int32) (v_out : Nat → Int32) (v_made : Nat → Int32) : Option (Int32 × Int32 × Int32 × (Nat → Int32) × (Nat → Int32)) :=
  if l5 ≤ 6000 then
  bd2 (f_MM_begin N i_bitsMade v_made) fun i_bitsMade_2 v_made_3 =>
  f_MM_encode_b179 N i_inLong i_goesOn i_greatest v_in v_length v_symbolOf l1  N l3 l4 0 i_outLong i_bitsMade_2 v_out v_made_3
  else
  some ((-4), i_outLong, i_bitsMade, v_out, v_made)
def f_MM_encode_b120 (N : Nat) (i_inLong : Int32) (i_goesOn : Int32) (i_greatest : Int32) (v_in : Nat → Int32) (v_length : Nat → Int32) (v_symbolOf : Nat → Int32) (l1 : Int32)  : Nat → Int32 → Int32 → Int32 → Int32 → Int32 → Int32 → (Nat → Int32) → (Nat → Int32) → Option (Int32 × Int32 × Int32 × (Nat → Int32) × (Nat → Int32))
  | 0, _, _, _, _, _, _, _, _ => none
  | z + 1, l3, l4, l5, l6, i_outLong, i_bitsMade, v_out, v_made =>
  if l1 = 0 then
  f_MM_encode_b161 N i_inLong i_goesOn i_greatest v_in v_length v_symbolOf l1  l3 l4 l5 i_outLong i_bitsMade v_out v_made
  else
  if 3 ≤ l6 then
  f_MM_encode_b161 N i_inLong i_goesOn i_greatest v_in v_length v_symbolOf l1  l3 l4 l5 i_outLong i_bitsMade v_out v_made
  else
  bd1 (f_MM_streamBytes N v_in v_length (l4 + (l6 * l3)) ((l4 + (l6 * l3)) + l3)) fun r_3 =>
  nm (l5 + r_3) fun l5_5 =>
  nm (l6 + 1) fun l6_6 =>
  f_MM_encode_b120 N i_inLong i_goesOn i_greatest v_in v_length v_symbolOf l1  z l3 l4 l5_5 l6_6 i_outLong i_bitsMade v_out v_made
def f_MM_encode_b115 (N : Nat) (i_inLong : Int32) (i_goesOn : Int32) (i_greatest : Int32) (v_in : Nat → Int32) (v_length : Nat → Int32) (v_symbolOf : Nat → Int32) (l1 : Int32)  (l3 : Int32) (l4 : Int32) (s0 : Int32) (i_outLong : Int32) (i_bitsMade : Int32) (v_out : Nat → Int32) (v_made : Nat → Int32) : Option (Int32 × Int32 × Int32 × (Nat → Int32) × (Nat → Int32)) :=
  f_MM_encode_b120 N i_inLong i_goesOn i_greatest v_in v_length v_symbolOf l1  N l3 l4 s0 0 i_outLong i_bitsMade v_out v_made
def f_MM_encode_b75 (N : Nat) (i_inLong : Int32) (i_goesOn : Int32) (i_greatest : Int32) (v_in : Nat → Int32) (v_length : Nat → Int32) (v_symbolOf : Nat → Int32) (l1 : Int32)  (l3 : Int32) (i_outLong : Int32) (i_bitsMade : Int32) (v_out : Nat → Int32) (v_made : Nat → Int32) : Option (Int32 × Int32 × Int32 × (Nat → Int32) × (Nat → Int32)) :=
  if l1 = 0 then
  bd1 (f_MM_streamBytes N v_in v_length i_goesOn i_inLong) fun r_2 =>
  f_MM_encode_b115 N i_inLong i_goesOn i_greatest v_in v_length v_symbolOf l1  l3 i_goesOn r_2 i_outLong i_bitsMade v_out v_made
  else
  bd1 (f_MM_streamBytes N v_in v_length (i_goesOn + (3 * l3)) i_inLong) fun r_4 =>
  f_MM_encode_b115 N i_inLong i_goesOn i_greatest v_in v_length v_symbolOf l1  l3 i_goesOn (6 + r_4) i_outLong i_bitsMade v_out v_made
def f_MM_encode_b55 (N : Nat) (i_inLong : Int32) (i_goesOn : Int32) (i_greatest : Int32) (v_in : Nat → Int32) (v_length : Nat → Int32) (v_symbolOf : Nat → Int32) (l1 : Int32)  (l2 : Int32) (i_outLong : Int32) (i_bitsMade : Int32) (v_out : Nat → Int32) (v_made : Nat → Int32) : Option (Int32 × Int32 × Int32 × (Nat → Int32) × (Nat → Int32)) :=
  nm ((l2 + 3) / 4) fun l3_1 =>
  if l1 = 0 then
  f_MM_encode_b75 N i_inLong i_goesOn i_greatest v_in v_length v_symbolOf l1  l3_1 i_outLong i_bitsMade v_out v_made
  else
  if (3 * l3_1) ≤ l2 then
  f_MM_encode_b75 N i_inLong i_goesOn i_greatest v_in v_length v_symbolOf l1  l3_1 i_outLong i_bitsMade v_out v_made
  else
  some ((-3), i_outLong, i_bitsMade, v_out, v_made)
def f_MM_encode_b24 (N : Nat) (i_inLong : Int32) (i_goesOn : Int32) (i_greatest : Int32) (v_in : Nat → Int32) (v_length : Nat → Int32) (v_symbolOf : Nat → Int32) (l1 : Int32)  : Nat → Int32 → Int32 → Int32 → Int32 → (Nat → Int32) → (Nat → Int32) → Option (Int32 × Int32 × Int32 × (Nat → Int32) × (Nat → Int32))
  | 0, _, _, _, _, _, _ => none
  | z + 1, l2, l3, i_outLong, i_bitsMade, v_out, v_made =>
  if i_inLong ≤ l3 then
  f_MM_encode_b55 N i_inLong i_goesOn i_greatest v_in v_length v_symbolOf l1  l2 i_outLong i_bitsMade v_out v_made
  else
  ck (inb l3 6000) <|
  ck (inb (v_in (Int32.toNatClampNeg l3)) 256) <|
  if (v_length (Int32.toNatClampNeg (v_in (Int32.toNatClampNeg l3)))) = 0 then
  f_MM_encode_b46 N i_inLong i_goesOn i_greatest v_in v_length v_symbolOf l1  i_outLong i_bitsMade v_out v_made
  else
  nm (l3 + 1) fun l3_5 =>
  f_MM_encode_b24 N i_inLong i_goesOn i_greatest v_in v_length v_symbolOf l1  z l2 l3_5 i_outLong i_bitsMade v_out v_made
def f_MM_encode (N : Nat) (i_inLong : Int32) (i_goesOn : Int32) (i_greatest : Int32) (v_in : Nat → Int32) (v_length : Nat → Int32) (v_symbolOf : Nat → Int32) (l1 : Int32)  (i_outLong : Int32) (i_bitsMade : Int32) (v_out : Nat → Int32) (v_made : Nat → Int32) : Option (Int32 × Int32 × Int32 × (Nat → Int32) × (Nat → Int32)) :=
  if i_greatest = 0 then
  some ((-1), i_outLong, i_bitsMade, v_out, v_made)
  else
  nm (i_inLong - i_goesOn) fun l2_2 =>
  f_MM_encode_b24 N i_inLong i_goesOn i_greatest v_in v_length v_symbolOf l1  N l2_2 i_goesOn i_outLong i_bitsMade v_out v_made
def f_MM_bitAt (N : Nat) (v_in : Nat → Int32) (l1 : Int32)   : Option (Int32) :=
  ck (inb (l1 / 8) 6000) <|
  some ((((v_in (Int32.toNatClampNeg (l1 / 8))) >>> ((l1 - l1 / 8 * 8) &&& 31)) &&& 1))
def f_MM_takeStream_b16 (N : Nat) (i_greatest : Int32) (v_in : Nat → Int32) (v_length : Nat → Int32) (v_symbolOf : Nat → Int32) (l1 : Int32) (l2 : Int32) (l3 : Int32) (l4 : Int32)  (v_made : Nat → Int32) : Option (Int32 × (Nat → Int32)) :=
  some ((-3), v_made)
def f_MM_takeStream_b104 (N : Nat) (i_greatest : Int32) (v_in : Nat → Int32) (v_length : Nat → Int32) (v_symbolOf : Nat → Int32) (l1 : Int32) (l2 : Int32) (l3 : Int32) (l4 : Int32) (k54 : Int32 → Int32 → (Nat → Int32) → Option (Int32 × (Nat → Int32))) (k66 : Int32 → Int32 → Int32 → Int32 → (Nat → Int32) → Option (Int32 × (Nat → Int32))) (l6 : Int32) (l7 : Int32) (l9 : Int32) (s0 : Int32) (s1 : Int32) (v_made : Nat → Int32) : Option (Int32 × (Nat → Int32)) :=
  nm (s1 + s0) fun l8_1 =>
  nm (l9 + 1) fun l9_2 =>
  k66 l6 l7 l8_1 l9_2 v_made
def f_MM_takeStream_b151 (N : Nat) (i_greatest : Int32) (v_in : Nat → Int32) (v_length : Nat → Int32) (v_symbolOf : Nat → Int32) (l1 : Int32) (l2 : Int32) (l3 : Int32) (l4 : Int32)  (v_made : Nat → Int32) : Option (Int32 × (Nat → Int32)) :=
  some ((-4), v_made)
def f_MM_takeStream_b113 (N : Nat) (i_greatest : Int32) (v_in : Nat → Int32) (v_length : Nat → Int32) (v_symbolOf : Nat → Int32) (l1 : Int32) (l2 : Int32) (l3 : Int32) (l4 : Int32) (k54 : Int32 → Int32 → (Nat → Int32) → Option (Int32 × (Nat → Int32))) (l6 : Int32) (l7 : Int32) (l8 : Int32) (v_made : Nat → Int32) : Option (Int32 × (Nat → Int32)) :=
  ck (inb l8 2048) <|
  nm (v_symbolOf (Int32.toNatClampNeg l8)) fun l9_2 =>
  ck (inb (l4 + l7) 6000) <|
  nm (upd v_made (Int32.toNatClampNeg (l4 + l7)) l9_2) fun v_made_4 =>
  ck (inb l9_2 256) <|
  nm (l6 - (v_length (Int32.toNatClampNeg l9_2))) fun l6_6 =>
  if 0 ≤ l6_6 then
  nm (l7 + 1) fun l7_8 =>
  k54 l6_6 l7_8 v_made_4
  else
  f_MM_takeStream_b151 N i_greatest v_in v_length v_symbolOf l1 l2 l3 l4  v_made_4
def f_MM_takeStream_b66 (N : Nat) (i_greatest : Int32) (v_in : Nat → Int32) (v_length : Nat → Int32) (v_symbolOf : Nat → Int32) (l1 : Int32) (l2 : Int32) (l3 : Int32) (l4 : Int32) (k54 : Int32 → Int32 → (Nat → Int32) → Option (Int32 × (Nat → Int32))) : Nat → Int32 → Int32 → Int32 → Int32 → (Nat → Int32) → Option (Int32 × (Nat → Int32))
  | 0, _, _, _, _, _ => none
  | z + 1, l6, l7, l8, l9, v_made =>
  if i_greatest < l9 then
  f_MM_takeStream_b113 N i_greatest v_in v_length v_symbolOf l1 l2 l3 l4 k54 l6 l7 l8 v_made
  else
  if l6 < l9 then
  f_MM_takeStream_b104 N i_greatest v_in v_length v_symbolOf l1 l2 l3 l4 k54 (f_MM_takeStream_b66 N i_greatest v_in v_length v_symbolOf l1 l2 l3 l4 k54 z) l6 l7 l9 0 (2 * l8) v_made
  else
  bd1 (f_MM_bitAt N v_in (((8 * l1) + l6) - l9)) fun r_3 =>
  f_MM_takeStream_b104 N i_greatest v_in v_length v_symbolOf l1 l2 l3 l4 k54 (f_MM_takeStream_b66 N i_greatest v_in v_length v_symbolOf l1 l2 l3 l4 k54 z) l6 l7 l9 r_3 (2 * l8) v_made
def f_MM_takeStream_b160 (N : Nat) (i_greatest : Int32) (v_in : Nat → Int32) (v_length : Nat → Int32) (v_symbolOf : Nat → Int32) (l1 : Int32) (l2 : Int32) (l3 : Int32) (l4 : Int32)  (l6 : Int32) (v_made : Nat → Int32) : Option (Int32 × (Nat → Int32)) :=
  if l6 = 0 then
  some (0, v_made)
  else
  some ((-4), v_made)
def f_MM_takeStream_b54 (N : Nat) (i_greatest : Int32) (v_in : Nat → Int32) (v_length : Nat → Int32) (v_symbolOf : Nat → Int32) (l1 : Int32) (l2 : Int32) (l3 : Int32) (l4 : Int32)  : Nat → Int32 → Int32 → (Nat → Int32) → Option (Int32 × (Nat → Int32))
  | 0, _, _, _ => none
  | z + 1, l6, l7, v_made =>
  if l3 ≤ l7 then
  f_MM_takeStream_b160 N i_greatest v_in v_length v_symbolOf l1 l2 l3 l4  l6 v_made
  else
  f_MM_takeStream_b66 N i_greatest v_in v_length v_symbolOf l1 l2 l3 l4 (f_MM_takeStream_b54 N i_greatest v_in v_length v_symbolOf l1 l2 l3 l4  z) N l6 l7 0 1 v_made
def f_MM_takeStream_b42 (N : Nat) (i_greatest : Int32) (v_in : Nat → Int32) (v_length : Nat → Int32) (v_symbolOf : Nat → Int32) (l1 : Int32) (l2 : Int32) (l3 : Int32) (l4 : Int32)  (l5 : Int32) (v_made : Nat → Int32) : Option (Int32 × (Nat → Int32)) :=
  nm (l5 - (8 * l1)) fun l6_1 =>
  f_MM_takeStream_b54 N i_greatest v_in v_length v_symbolOf l1 l2 l3 l4  N l6_1 0 v_made
def f_MM_takeStream_b27 (N : Nat) (i_greatest : Int32) (v_in : Nat → Int32) (v_length : Nat → Int32) (v_symbolOf : Nat → Int32) (l1 : Int32) (l2 : Int32) (l3 : Int32) (l4 : Int32)  : Nat → Int32 → (Nat → Int32) → Option (Int32 × (Nat → Int32))
  | 0, _, _ => none
  | z + 1, l5, v_made =>
  bd1 (f_MM_bitAt N v_in l5) fun r_1 =>
  if r_1 = 0 then
  nm (l5 + (-1)) fun l5_4 =>
  f_MM_takeStream_b27 N i_greatest v_in v_length v_symbolOf l1 l2 l3 l4  z l5_4 v_made
  else
  f_MM_takeStream_b42 N i_greatest v_in v_length v_symbolOf l1 l2 l3 l4  l5 v_made
def f_MM_takeStream (N : Nat) (i_greatest : Int32) (v_in : Nat → Int32) (v_length : Nat → Int32) (v_symbolOf : Nat → Int32) (l1 : Int32) (l2 : Int32) (l3 : Int32) (l4 : Int32)  (v_made : Nat → Int32) : Option (Int32 × (Nat → Int32)) :=
  if l2 ≤ l1 then
  f_MM_takeStream_b16 N i_greatest v_in v_length v_symbolOf l1 l2 l3 l4  v_made
  else
  ck (inb (l2 - 1) 6000) <|
  if (v_in (Int32.toNatClampNeg (l2 - 1))) = 0 then
  f_MM_takeStream_b16 N i_greatest v_in v_length v_symbolOf l1 l2 l3 l4  v_made
  else
  nm ((8 * l2) - 1) fun l5_4 =>
  f_MM_takeStream_b27 N i_greatest v_in v_length v_symbolOf l1 l2 l3 l4  N l5_4 v_made
def f_MM_takeFour_b162 (N : Nat) (i_inLong : Int32) (i_goesOn : Int32) (i_greatest : Int32) (v_in : Nat → Int32) (v_length : Nat → Int32) (v_symbolOf : Nat → Int32) (l1 : Int32) (l2 : Int32)  (l7 : Int32) (v_made : Nat → Int32) : Option (Int32 × (Nat → Int32)) :=
  some (l7, v_made)
def f_MM_takeFour_b176 (N : Nat) (i_inLong : Int32) (i_goesOn : Int32) (i_greatest : Int32) (v_in : Nat → Int32) (v_length : Nat → Int32) (v_symbolOf : Nat → Int32) (l1 : Int32) (l2 : Int32)  (l3 : Int32) (v_made : Nat → Int32) : Option (Int32 × (Nat → Int32)) :=
  bd2 (f_MM_takeStream N i_greatest v_in v_length v_symbolOf l3 i_inLong (l1 - (3 * l2)) (3 * l2) v_made) fun r_1 v_made_2 =>
  some (r_1, v_made_2)
def f_MM_takeFour_b98 (N : Nat) (i_inLong : Int32) (i_goesOn : Int32) (i_greatest : Int32) (v_in : Nat → Int32) (v_length : Nat → Int32) (v_symbolOf : Nat → Int32) (l1 : Int32) (l2 : Int32)  : Nat → Int32 → Int32 → (Nat → Int32) → Option (Int32 × (Nat → Int32))
  | 0, _, _, _ => none
  | z + 1, l3, l5, v_made =>
  if 3 ≤ l5 then
  f_MM_takeFour_b176 N i_inLong i_goesOn i_greatest v_in v_length v_symbolOf l1 l2  l3 v_made
  else
  ck (inb (i_goesOn + (2 * l5)) 6000) <|
  ck (inb ((i_goesOn + (2 * l5)) + 1) 6000) <|
  nm ((v_in (Int32.toNatClampNeg (i_goesOn + (2 * l5)))) + (256 * (v_in (Int32.toNatClampNeg ((i_goesOn + (2 * l5)) + 1))))) fun l6_4 =>
  bd2 (f_MM_takeStream N i_greatest v_in v_length v_symbolOf l3 (l3 + l6_4) l2 (l5 * l2) v_made) fun r_5 v_made_6 =>
  if r_5 = 0 then
  nm (l3 + l6_4) fun l3_9 =>
  nm (l5 + 1) fun l5_10 =>
  f_MM_takeFour_b98 N i_inLong i_goesOn i_greatest v_in v_length v_symbolOf l1 l2  z l3_9 l5_10 v_made_6
  else
  f_MM_takeFour_b162 N i_inLong i_goesOn i_greatest v_in v_length v_symbolOf l1 l2  r_5 v_made_6
def f_MM_takeFour_b83 (N : Nat) (i_inLong : Int32) (i_goesOn : Int32) (i_greatest : Int32) (v_in : Nat → Int32) (v_length : Nat → Int32) (v_symbolOf : Nat → Int32) (l1 : Int32) (l2 : Int32)  (l3 : Int32) (l4 : Int32) (v_made : Nat → Int32) : Option (Int32 × (Nat → Int32)) :=
  if l4 ≤ i_inLong then
  f_MM_takeFour_b98 N i_inLong i_goesOn i_greatest v_in v_length v_symbolOf l1 l2  N l3 0 v_made
  else
  some ((-2), v_made)
def f_MM_takeFour_b31 (N : Nat) (i_inLong : Int32) (i_goesOn : Int32) (i_greatest : Int32) (v_in : Nat → Int32) (v_length : Nat → Int32) (v_symbolOf : Nat → Int32) (l1 : Int32) (l2 : Int32)  : Nat → Int32 → Int32 → Int32 → (Nat → Int32) → Option (Int32 × (Nat → Int32))
  | 0, _, _, _, _ => none
  | z + 1, l3, l4, l5, v_made =>
  if 3 ≤ l5 then
  f_MM_takeFour_b83 N i_inLong i_goesOn i_greatest v_in v_length v_symbolOf l1 l2  l3 l4 v_made
  else
  ck (inb (i_goesOn + (2 * l5)) 6000) <|
  ck (inb ((i_goesOn + (2 * l5)) + 1) 6000) <|
  nm (l4 + ((v_in (Int32.toNatClampNeg (i_goesOn + (2 * l5)))) + (256 * (v_in (Int32.toNatClampNeg ((i_goesOn + (2 * l5)) + 1)))))) fun l4_4 =>
  nm (l5 + 1) fun l5_5 =>
  f_MM_takeFour_b31 N i_inLong i_goesOn i_greatest v_in v_length v_symbolOf l1 l2  z l3 l4_4 l5_5 v_made
def f_MM_takeFour (N : Nat) (i_inLong : Int32) (i_goesOn : Int32) (i_greatest : Int32) (v_in : Nat → Int32) (v_length : Nat → Int32) (v_symbolOf : Nat → Int32) (l1 : Int32) (l2 : Int32)  (v_made : Nat → Int32) : Option (Int32 × (Nat → Int32)) :=
  if 6 ≤ (i_inLong - i_goesOn) then
  nm (i_goesOn + 6) fun l3_2 =>
  f_MM_takeFour_b31 N i_inLong i_goesOn i_greatest v_in v_length v_symbolOf l1 l2  N l3_2 l3_2 0 v_made
  else
  some ((-2), v_made)
def f_MM_decode_b18 (N : Nat) (i_inLong : Int32) (i_goesOn : Int32) (i_greatest : Int32) (v_in : Nat → Int32) (v_length : Nat → Int32) (v_symbolOf : Nat → Int32) (l1 : Int32) (l2 : Int32)  (i_outLong : Int32) (v_out : Nat → Int32) (v_made : Nat → Int32) : Option (Int32 × Int32 × (Nat → Int32) × (Nat → Int32)) :=
  some ((-1), i_outLong, v_out, v_made)
def f_MM_decode_b105 (N : Nat) (i_inLong : Int32) (i_goesOn : Int32) (i_greatest : Int32) (v_in : Nat → Int32) (v_length : Nat → Int32) (v_symbolOf : Nat → Int32) (l1 : Int32) (l2 : Int32)  (i_outLong : Int32) (v_out : Nat → Int32) (v_made : Nat → Int32) : Option (Int32 × Int32 × (Nat → Int32) × (Nat → Int32)) :=
  some (l1, l1, v_out, v_made)
def f_MM_decode_b79 (N : Nat) (i_inLong : Int32) (i_goesOn : Int32) (i_greatest : Int32) (v_in : Nat → Int32) (v_length : Nat → Int32) (v_symbolOf : Nat → Int32) (l1 : Int32) (l2 : Int32)  : Nat → Int32 → Int32 → (Nat → Int32) → (Nat → Int32) → Option (Int32 × Int32 × (Nat → Int32) × (Nat → Int32))
  | 0, _, _, _, _ => none
  | z + 1, l5, i_outLong, v_out, v_made =>
  if l1 ≤ l5 then
  f_MM_decode_b105 N i_inLong i_goesOn i_greatest v_in v_length v_symbolOf l1 l2  i_outLong v_out v_made
  else
  ck (inb l5 6000) <|
  ck (inb l5 6000) <|
  nm (upd v_out (Int32.toNatClampNeg l5) (v_made (Int32.toNatClampNeg l5))) fun v_out_4 =>
  nm (l5 + 1) fun l5_5 =>
  f_MM_decode_b79 N i_inLong i_goesOn i_greatest v_in v_length v_symbolOf l1 l2  z l5_5 i_outLong v_out_4 v_made
def f_MM_decode_b66 (N : Nat) (i_inLong : Int32) (i_goesOn : Int32) (i_greatest : Int32) (v_in : Nat → Int32) (v_length : Nat → Int32) (v_symbolOf : Nat → Int32) (l1 : Int32) (l2 : Int32)  (s0 : Int32) (i_outLong : Int32) (v_out : Nat → Int32) (v_made : Nat → Int32) : Option (Int32 × Int32 × (Nat → Int32) × (Nat → Int32)) :=
  if s0 = 0 then
  f_MM_decode_b79 N i_inLong i_goesOn i_greatest v_in v_length v_symbolOf l1 l2  N 0 i_outLong v_out v_made
  else
  some (s0, i_outLong, v_out, v_made)
def f_MM_decode_b39 (N : Nat) (i_inLong : Int32) (i_goesOn : Int32) (i_greatest : Int32) (v_in : Nat → Int32) (v_length : Nat → Int32) (v_symbolOf : Nat → Int32) (l1 : Int32) (l2 : Int32)  (l3 : Int32) (i_outLong : Int32) (v_out : Nat → Int32) (v_made : Nat → Int32) : Option (Int32 × Int32 × (Nat → Int32) × (Nat → Int32)) :=
  if l2 = 0 then
  bd2 (f_MM_takeStream N i_greatest v_in v_length v_symbolOf i_goesOn i_inLong l1 0 v_made) fun r_2 v_made_3 =>
  f_MM_decode_b66 N i_inLong i_goesOn i_greatest v_in v_length v_symbolOf l1 l2  r_2 i_outLong v_out v_made_3
  else
  bd2 (f_MM_takeFour N i_inLong i_goesOn i_greatest v_in v_length v_symbolOf l1 l3 v_made) fun r_5 v_made_6 =>
  f_MM_decode_b66 N i_inLong i_goesOn i_greatest v_in v_length v_symbolOf l1 l2  r_5 i_outLong v_out v_made_6
def f_MM_decode (N : Nat) (i_inLong : Int32) (i_goesOn : Int32) (i_greatest : Int32) (v_in : Nat → Int32) (v_length : Nat → Int32) (v_symbolOf : Nat → Int32) (l1 : Int32) (l2 : Int32)  (i_outLong : Int32) (v_out : Nat → Int32) (v_made : Nat → Int32) : Option (Int32 × Int32 × (Nat → Int32) × (Nat → Int32)) :=
  if i_greatest = 0 then
  f_MM_decode_b18 N i_inLong i_goesOn i_greatest v_in v_length v_symbolOf l1 l2  i_outLong v_out v_made
  else
  if l1 < 0 then
  f_MM_decode_b18 N i_inLong i_goesOn i_greatest v_in v_length v_symbolOf l1 l2  i_outLong v_out v_made
  else
  if l1 ≤ 6000 then
  nm ((l1 + 3) / 4) fun l3_4 =>
  if l2 = 0 then
  f_MM_decode_b39 N i_inLong i_goesOn i_greatest v_in v_length v_symbolOf l1 l2  l3_4 i_outLong v_out v_made
  else
  if (3 * l3_4) ≤ l1 then
  f_MM_decode_b39 N i_inLong i_goesOn i_greatest v_in v_length v_symbolOf l1 l2  l3_4 i_outLong v_out v_made
  else
  some ((-1), i_outLong, v_out, v_made)
  else
  f_MM_decode_b18 N i_inLong i_goesOn i_greatest v_in v_length v_symbolOf l1 l2  i_outLong v_out v_made
def f_MM_mass (N : Nat) (l0 : Int32)   : Option (Int32) :=
  if 0 ≤ l0 then
  some (l0)
  else
  some (1)
def f_MM_lacking_b28 (N : Nat) (i_order : Int32) (v_points : Nat → Int32)  (l1 : Int32) : Option (Int32) :=
  some (((1 <<< (i_order &&& 31)) - l1))
def f_MM_lacking_b4 (N : Nat) (i_order : Int32) (v_points : Nat → Int32)  : Nat → Int32 → Int32 → Option (Int32)
  | 0, _, _ => none
  | z + 1, l1, l2 =>
  if 12 ≤ l2 then
  f_MM_lacking_b28 N i_order v_points  l1
  else
  ck (inb l2 12) <|
  bd1 (f_MM_mass N (v_points (Int32.toNatClampNeg l2))) fun r_3 =>
  nm (l1 + r_3) fun l1_5 =>
  nm (l2 + 1) fun l2_6 =>
  f_MM_lacking_b4 N i_order v_points  z l1_5 l2_6
def f_MM_lacking (N : Nat) (i_order : Int32) (v_points : Nat → Int32)   : Option (Int32) :=
  f_MM_lacking_b4 N i_order v_points  N 0 0
def f_MM_countOf_b25 (N : Nat) (i_weights : Int32) (v_weight : Nat → Int32) (l1 : Int32) (k4 : Int32 → Int32 → Option (Int32)) (l2 : Int32) (l3 : Int32) : Option (Int32) :=
  nm (l3 + 1) fun l3_1 =>
  k4 l2 l3_1
def f_MM_countOf_b31 (N : Nat) (i_weights : Int32) (v_weight : Nat → Int32) (l1 : Int32)  (l2 : Int32) : Option (Int32) :=
  some (l2)
def f_MM_countOf_b4 (N : Nat) (i_weights : Int32) (v_weight : Nat → Int32) (l1 : Int32)  : Nat → Int32 → Int32 → Option (Int32)
  | 0, _, _ => none
  | z + 1, l2, l3 =>
  if i_weights ≤ l3 then
  f_MM_countOf_b31 N i_weights v_weight l1  l2
  else
  ck (inb l3 256) <|
  if (v_weight (Int32.toNatClampNeg l3)) = l1 then
  nm (l2 + 1) fun l2_4 =>
  f_MM_countOf_b25 N i_weights v_weight l1 (f_MM_countOf_b4 N i_weights v_weight l1  z) l2_4 l3
  else
  f_MM_countOf_b25 N i_weights v_weight l1 (f_MM_countOf_b4 N i_weights v_weight l1  z) l2 l3
def f_MM_countOf (N : Nat) (i_weights : Int32) (v_weight : Nat → Int32) (l1 : Int32)   : Option (Int32) :=
  f_MM_countOf_b4 N i_weights v_weight l1  N 0 0
def f_MM_nextToGet_b51 (N : Nat) (v_points : Nat → Int32) (v_cutOff : Nat → Int32) (v_had : Nat → Int32) (k4 : Int32 → Int32 → Option (Int32)) (l1 : Int32) (l2 : Int32) : Option (Int32) :=
  nm (l2 + 1) fun l2_1 =>
  k4 l1 l2_1
def f_MM_nextToGet_b49 (N : Nat) (v_points : Nat → Int32) (v_cutOff : Nat → Int32) (v_had : Nat → Int32) (k4 : Int32 → Int32 → Option (Int32)) (l2 : Int32) : Option (Int32) :=
  f_MM_nextToGet_b51 N v_points v_cutOff v_had k4 l2 l2
def f_MM_nextToGet_b57 (N : Nat) (v_points : Nat → Int32) (v_cutOff : Nat → Int32) (v_had : Nat → Int32)  (l1 : Int32) : Option (Int32) :=
  some (l1)
def f_MM_nextToGet_b4 (N : Nat) (v_points : Nat → Int32) (v_cutOff : Nat → Int32) (v_had : Nat → Int32)  : Nat → Int32 → Int32 → Option (Int32)
  | 0, _, _ => none
  | z + 1, l1, l2 =>
  if 12 ≤ l2 then
  f_MM_nextToGet_b57 N v_points v_cutOff v_had  l1
  else
  ck (inb l2 12) <|
  if (v_had (Int32.toNatClampNeg l2)) = 0 then
  ck (inb l2 12) <|
  if (v_points (Int32.toNatClampNeg l2)) < 1 then
  f_MM_nextToGet_b51 N v_points v_cutOff v_had (f_MM_nextToGet_b4 N v_points v_cutOff v_had  z) l1 l2
  else
  if l1 = (-1) then
  f_MM_nextToGet_b49 N v_points v_cutOff v_had (f_MM_nextToGet_b4 N v_points v_cutOff v_had  z) l2
  else
  ck (inb l2 12) <|
  ck (inb l1 12) <|
  if (v_cutOff (Int32.toNatClampNeg l2)) ≤ (v_cutOff (Int32.toNatClampNeg l1)) then
  f_MM_nextToGet_b51 N v_points v_cutOff v_had (f_MM_nextToGet_b4 N v_points v_cutOff v_had  z) l1 l2
  else
  f_MM_nextToGet_b49 N v_points v_cutOff v_had (f_MM_nextToGet_b4 N v_points v_cutOff v_had  z) l2
  else
  f_MM_nextToGet_b51 N v_points v_cutOff v_had (f_MM_nextToGet_b4 N v_points v_cutOff v_had  z) l1 l2
def f_MM_nextToGet (N : Nat) (v_points : Nat → Int32) (v_cutOff : Nat → Int32) (v_had : Nat → Int32)   : Option (Int32) :=
  f_MM_nextToGet_b4 N v_points v_cutOff v_had  N (-1) 0
def f_MM_newRound_b2 (N : Nat)   : Nat → Int32 → (Nat → Int32) → Option ((Nat → Int32))
  | 0, _, _ => none
  | z + 1, l1, v_had =>
  if 12 ≤ l1 then
  some (v_had)
  else
  ck (inb l1 12) <|
  nm (upd v_had (Int32.toNatClampNeg l1) (vp_nar .boolean 0)) fun v_had_3 =>
  nm (l1 + 1) fun l1_4 =>
  f_MM_newRound_b2 N   z l1_4 v_had_3
def f_MM_newRound (N : Nat)   (v_had : Nat → Int32) : Option ((Nat → Int32)) :=
  f_MM_newRound_b2 N   N 0 v_had
def f_MM_givePlaces_b37 (N : Nat) (i_order : Int32) (v_points : Nat → Int32) (k11 : Int32 → Int32 → Int32 → (Nat → Int32) → Option ((Nat → Int32))) (l1 : Int32) (l2 : Int32) (l3 : Int32) (v_placeOf : Nat → Int32) : Option ((Nat → Int32)) :=
  nm (l3 + 1) fun l3_1 =>
  k11 l1 l2 l3_1 v_placeOf
def f_MM_givePlaces_b116 (N : Nat) (i_order : Int32) (v_points : Nat → Int32) (k51 : Int32 → Int32 → Int32 → Int32 → Int32 → (Nat → Int32) → Option ((Nat → Int32))) (l1 : Int32) (l2 : Int32) (l3 : Int32) (l4 : Int32) (l5 : Int32) (v_placeOf : Nat → Int32) : Option ((Nat → Int32)) :=
  nm (l5 + 1) fun l5_1 =>
  k51 l1 l2 l3 l4 l5_1 v_placeOf
def f_MM_givePlaces_b105 (N : Nat) (i_order : Int32) (v_points : Nat → Int32) (k51 : Int32 → Int32 → Int32 → Int32 → Int32 → (Nat → Int32) → Option ((Nat → Int32))) (l1 : Int32) (l2 : Int32) (l3 : Int32) (l4 : Int32) (l5 : Int32) (l6 : Int32) (v_placeOf : Nat → Int32) : Option ((Nat → Int32)) :=
  ck (inb l6 64) <|
  nm (upd v_placeOf (Int32.toNatClampNeg l6) l3) fun v_placeOf_2 =>
  nm (l4 + 1) fun l4_3 =>
  f_MM_givePlaces_b116 N i_order v_points k51 l1 l2 l3 l4_3 l5 v_placeOf_2
def f_MM_givePlaces_b79 (N : Nat) (i_order : Int32) (v_points : Nat → Int32) (k51 : Int32 → Int32 → Int32 → Int32 → Int32 → (Nat → Int32) → Option ((Nat → Int32))) : Nat → Int32 → Int32 → Int32 → Int32 → Int32 → Int32 → (Nat → Int32) → Option ((Nat → Int32))
  | 0, _, _, _, _, _, _, _ => none
  | z + 1, l1, l2, l3, l4, l5, l6, v_placeOf =>
  if 11 ≤ l3 then
  f_MM_givePlaces_b105 N i_order v_points k51 l1 l2 l3 l4 l5 l6 v_placeOf
  else
  ck (inb l3 12) <|
  if l4 < (v_points (Int32.toNatClampNeg l3)) then
  f_MM_givePlaces_b105 N i_order v_points k51 l1 l2 l3 l4 l5 l6 v_placeOf
  else
  nm (l3 + 1) fun l3_4 =>
  f_MM_givePlaces_b79 N i_order v_points k51 z l1 l2 l3_4 0 l5 l6 v_placeOf
def f_MM_givePlaces_b51 (N : Nat) (i_order : Int32) (v_points : Nat → Int32)  : Nat → Int32 → Int32 → Int32 → Int32 → Int32 → (Nat → Int32) → Option ((Nat → Int32))
  | 0, _, _, _, _, _, _ => none
  | z + 1, l1, l2, l3, l4, l5, v_placeOf =>
  if l1 ≤ l5 then
  some (v_placeOf)
  else
  ck (nz l1) <|
  nm ((l5 * (((l1 >>> ((1 : Int32) &&& 31)) + (l1 >>> ((3 : Int32) &&& 31))) + 3)) - (l5 * (((l1 >>> ((1 : Int32) &&& 31)) + (l1 >>> ((3 : Int32) &&& 31))) + 3)) / l1 * l1) fun l6_3 =>
  if l2 ≤ l6_3 then
  f_MM_givePlaces_b116 N i_order v_points (f_MM_givePlaces_b51 N i_order v_points  z) l1 l2 l3 l4 l5 v_placeOf
  else
  f_MM_givePlaces_b79 N i_order v_points (f_MM_givePlaces_b51 N i_order v_points  z) N l1 l2 l3 l4 l5 l6_3 v_placeOf
def f_MM_givePlaces_b43 (N : Nat) (i_order : Int32) (v_points : Nat → Int32)  (l1 : Int32) (l2 : Int32) (v_placeOf : Nat → Int32) : Option ((Nat → Int32)) :=
  f_MM_givePlaces_b51 N i_order v_points  N l1 l2 0 0 0 v_placeOf
def f_MM_givePlaces_b11 (N : Nat) (i_order : Int32) (v_points : Nat → Int32)  : Nat → Int32 → Int32 → Int32 → (Nat → Int32) → Option ((Nat → Int32))
  | 0, _, _, _, _ => none
  | z + 1, l1, l2, l3, v_placeOf =>
  if 12 ≤ l3 then
  f_MM_givePlaces_b43 N i_order v_points  l1 l2 v_placeOf
  else
  ck (inb l3 12) <|
  if (v_points (Int32.toNatClampNeg l3)) = (-1) then
  nm (l2 + (-1)) fun l2_4 =>
  ck (inb l2_4 64) <|
  nm (upd v_placeOf (Int32.toNatClampNeg l2_4) l3) fun v_placeOf_6 =>
  f_MM_givePlaces_b37 N i_order v_points (f_MM_givePlaces_b11 N i_order v_points  z) l1 l2_4 l3 v_placeOf_6
  else
  f_MM_givePlaces_b37 N i_order v_points (f_MM_givePlaces_b11 N i_order v_points  z) l1 l2 l3 v_placeOf
def f_MM_givePlaces (N : Nat) (i_order : Int32) (v_points : Nat → Int32)  (v_placeOf : Nat → Int32) : Option ((Nat → Int32)) :=
  nm ((1 : Int32) <<< (i_order &&& 31)) fun l1_1 =>
  f_MM_givePlaces_b11 N i_order v_points  N l1_1 l1_1 0 v_placeOf
def f_MM_shareByCounts_b52 (N : Nat) (i_weights : Int32) (v_weight : Nat → Int32) (l1 : Int32) (k7 : Int32 → Int32 → (Nat → Int32) → (Nat → Int32) → (Nat → Int32) → (Nat → Int32) → Option (Int32 × (Nat → Int32) × (Nat → Int32) × (Nat → Int32) × (Nat → Int32))) (l2 : Int32) (l3 : Int32) (s0 : Int32) (s1 : Int32) (i_order : Int32) (v_points : Nat → Int32) (v_cutOff : Nat → Int32) (v_had : Nat → Int32) (v_placeOf : Nat → Int32) : Option (Int32 × (Nat → Int32) × (Nat → Int32) × (Nat → Int32) × (Nat → Int32)) :=
  ck (inb s1 12) <|
  nm (upd v_points (Int32.toNatClampNeg s1) s0) fun v_points_2 =>
  ck (nz i_weights) <|
  ck (inb l2 12) <|
  nm (upd v_cutOff (Int32.toNatClampNeg l2) (l3 - l3 / i_weights * i_weights)) fun v_cutOff_5 =>
  nm (l2 + 1) fun l2_6 =>
  k7 l2_6 i_order v_points_2 v_cutOff_5 v_had v_placeOf
def f_MM_shareByCounts_b94 (N : Nat) (i_weights : Int32) (v_weight : Nat → Int32) (l1 : Int32) (k75 : Int32 → (Nat → Int32) → (Nat → Int32) → (Nat → Int32) → (Nat → Int32) → Option (Int32 × (Nat → Int32) × (Nat → Int32) × (Nat → Int32) × (Nat → Int32))) (i_order : Int32) (v_points : Nat → Int32) (v_cutOff : Nat → Int32) (v_had : Nat → Int32) (v_placeOf : Nat → Int32) : Option (Int32 × (Nat → Int32) × (Nat → Int32) × (Nat → Int32) × (Nat → Int32)) :=
  bd1 (f_MM_nextToGet N v_points v_cutOff v_had) fun r_1 =>
  ck (inb r_1 12) <|
  ck (inb r_1 12) <|
  nm (upd v_points (Int32.toNatClampNeg r_1) ((v_points (Int32.toNatClampNeg r_1)) + 1)) fun v_points_5 =>
  ck (inb r_1 12) <|
  nm (upd v_had (Int32.toNatClampNeg r_1) (vp_nar .boolean 1)) fun v_had_7 =>
  k75 i_order v_points_5 v_cutOff v_had_7 v_placeOf
def f_MM_shareByCounts_b153 (N : Nat) (i_weights : Int32) (v_weight : Nat → Int32) (l1 : Int32) (k119 : Int32 → (Nat → Int32) → (Nat → Int32) → (Nat → Int32) → (Nat → Int32) → Option (Int32 × (Nat → Int32) × (Nat → Int32) × (Nat → Int32) × (Nat → Int32))) (k130 : Int32 → Int32 → Int32 → (Nat → Int32) → (Nat → Int32) → (Nat → Int32) → (Nat → Int32) → Option (Int32 × (Nat → Int32) × (Nat → Int32) × (Nat → Int32) × (Nat → Int32))) (l2 : Int32) (l3 : Int32) (i_order : Int32) (v_points : Nat → Int32) (v_cutOff : Nat → Int32) (v_had : Nat → Int32) (v_placeOf : Nat → Int32) : Option (Int32 × (Nat → Int32) × (Nat → Int32) × (Nat → Int32) × (Nat → Int32)) :=
  nm (l3 + 1) fun l3_1 =>
  k130 l2 l3_1 i_order v_points v_cutOff v_had v_placeOf
def f_MM_shareByCounts_b159 (N : Nat) (i_weights : Int32) (v_weight : Nat → Int32) (l1 : Int32) (k119 : Int32 → (Nat → Int32) → (Nat → Int32) → (Nat → Int32) → (Nat → Int32) → Option (Int32 × (Nat → Int32) × (Nat → Int32) × (Nat → Int32) × (Nat → Int32))) (l2 : Int32) (i_order : Int32) (v_points : Nat → Int32) (v_cutOff : Nat → Int32) (v_had : Nat → Int32) (v_placeOf : Nat → Int32) : Option (Int32 × (Nat → Int32) × (Nat → Int32) × (Nat → Int32) × (Nat → Int32)) :=
  ck (inb l2 12) <|
  ck (inb l2 12) <|
  nm (upd v_points (Int32.toNatClampNeg l2) ((v_points (Int32.toNatClampNeg l2)) - 1)) fun v_points_3 =>
  k119 i_order v_points_3 v_cutOff v_had v_placeOf
def f_MM_shareByCounts_b130 (N : Nat) (i_weights : Int32) (v_weight : Nat → Int32) (l1 : Int32) (k119 : Int32 → (Nat → Int32) → (Nat → Int32) → (Nat → Int32) → (Nat → Int32) → Option (Int32 × (Nat → Int32) × (Nat → Int32) × (Nat → Int32) × (Nat → Int32))) : Nat → Int32 → Int32 → Int32 → (Nat → Int32) → (Nat → Int32) → (Nat → Int32) → (Nat → Int32) → Option (Int32 × (Nat → Int32) × (Nat → Int32) × (Nat → Int32) × (Nat → Int32))
  | 0, _, _, _, _, _, _, _ => none
  | z + 1, l2, l3, i_order, v_points, v_cutOff, v_had, v_placeOf =>
  if 12 ≤ l3 then
  f_MM_shareByCounts_b159 N i_weights v_weight l1 k119 l2 i_order v_points v_cutOff v_had v_placeOf
  else
  ck (inb l3 12) <|
  ck (inb l2 12) <|
  if (v_points (Int32.toNatClampNeg l3)) ≤ (v_points (Int32.toNatClampNeg l2)) then
  f_MM_shareByCounts_b153 N i_weights v_weight l1 k119 (f_MM_shareByCounts_b130 N i_weights v_weight l1 k119 z) l2 l3 i_order v_points v_cutOff v_had v_placeOf
  else
  f_MM_shareByCounts_b153 N i_weights v_weight l1 k119 (f_MM_shareByCounts_b130 N i_weights v_weight l1 k119 z) l3 l3 i_order v_points v_cutOff v_had v_placeOf
def f_MM_shareByCounts_b172 (N : Nat) (i_weights : Int32) (v_weight : Nat → Int32) (l1 : Int32)  (i_order : Int32) (v_points : Nat → Int32) (v_cutOff : Nat → Int32) (v_had : Nat → Int32) (v_placeOf : Nat → Int32) : Option (Int32 × (Nat → Int32) × (Nat → Int32) × (Nat → Int32) × (Nat → Int32)) :=
  bd1 (f_MM_givePlaces N i_order v_points v_placeOf) fun v_placeOf_1 =>
  some (i_order, v_points, v_cutOff, v_had, v_placeOf_1)
def f_MM_shareByCounts_b119 (N : Nat) (i_weights : Int32) (v_weight : Nat → Int32) (l1 : Int32)  : Nat → Int32 → (Nat → Int32) → (Nat → Int32) → (Nat → Int32) → (Nat → Int32) → Option (Int32 × (Nat → Int32) × (Nat → Int32) × (Nat → Int32) × (Nat → Int32))
  | 0, _, _, _, _, _ => none
  | z + 1, i_order, v_points, v_cutOff, v_had, v_placeOf =>
  bd1 (f_MM_lacking N i_order v_points) fun r_1 =>
  if 0 ≤ r_1 then
  f_MM_shareByCounts_b172 N i_weights v_weight l1  i_order v_points v_cutOff v_had v_placeOf
  else
  f_MM_shareByCounts_b130 N i_weights v_weight l1 (f_MM_shareByCounts_b119 N i_weights v_weight l1  z) N 0 1 i_order v_points v_cutOff v_had v_placeOf
def f_MM_shareByCounts_b75 (N : Nat) (i_weights : Int32) (v_weight : Nat → Int32) (l1 : Int32)  : Nat → Int32 → (Nat → Int32) → (Nat → Int32) → (Nat → Int32) → (Nat → Int32) → Option (Int32 × (Nat → Int32) × (Nat → Int32) × (Nat → Int32) × (Nat → Int32))
  | 0, _, _, _, _, _ => none
  | z + 1, i_order, v_points, v_cutOff, v_had, v_placeOf =>
  bd1 (f_MM_lacking N i_order v_points) fun r_1 =>
  if r_1 ≤ 0 then
  f_MM_shareByCounts_b119 N i_weights v_weight l1  N i_order v_points v_cutOff v_had v_placeOf
  else
  bd1 (f_MM_nextToGet N v_points v_cutOff v_had) fun r_4 =>
  if r_4 = (-1) then
  bd1 (f_MM_newRound N v_had) fun v_had_7 =>
  f_MM_shareByCounts_b94 N i_weights v_weight l1 (f_MM_shareByCounts_b75 N i_weights v_weight l1  z) i_order v_points v_cutOff v_had_7 v_placeOf
  else
  f_MM_shareByCounts_b94 N i_weights v_weight l1 (f_MM_shareByCounts_b75 N i_weights v_weight l1  z) i_order v_points v_cutOff v_had v_placeOf
def f_MM_shareByCounts_b71 (N : Nat) (i_weights : Int32) (v_weight : Nat → Int32) (l1 : Int32)  (i_order : Int32) (v_points : Nat → Int32) (v_cutOff : Nat → Int32) (v_had : Nat → Int32) (v_placeOf : Nat → Int32) : Option (Int32 × (Nat → Int32) × (Nat → Int32) × (Nat → Int32) × (Nat → Int32)) :=
  bd1 (f_MM_newRound N v_had) fun v_had_1 =>
  f_MM_shareByCounts_b75 N i_weights v_weight l1  N i_order v_points v_cutOff v_had_1 v_placeOf
def f_MM_shareByCounts_b7 (N : Nat) (i_weights : Int32) (v_weight : Nat → Int32) (l1 : Int32)  : Nat → Int32 → Int32 → (Nat → Int32) → (Nat → Int32) → (Nat → Int32) → (Nat → Int32) → Option (Int32 × (Nat → Int32) × (Nat → Int32) × (Nat → Int32) × (Nat → Int32))
  | 0, _, _, _, _, _, _ => none
  | z + 1, l2, i_order, v_points, v_cutOff, v_had, v_placeOf =>
  if 12 ≤ l2 then
  f_MM_shareByCounts_b71 N i_weights v_weight l1  i_order v_points v_cutOff v_had v_placeOf
  else
  bd1 (f_MM_countOf N i_weights v_weight l2) fun r_2 =>
  nm (r_2 <<< (l1 &&& 31)) fun l3_4 =>
  if l3_4 = 0 then
  f_MM_shareByCounts_b52 N i_weights v_weight l1 (f_MM_shareByCounts_b7 N i_weights v_weight l1  z) l2 l3_4 0 l2 i_order v_points v_cutOff v_had v_placeOf
  else
  if i_weights ≤ l3_4 then
  ck (nz i_weights) <|
  f_MM_shareByCounts_b52 N i_weights v_weight l1 (f_MM_shareByCounts_b7 N i_weights v_weight l1  z) l2 l3_4 (l3_4 / i_weights) l2 i_order v_points v_cutOff v_had v_placeOf
  else
  f_MM_shareByCounts_b52 N i_weights v_weight l1 (f_MM_shareByCounts_b7 N i_weights v_weight l1  z) l2 l3_4 (-1) l2 i_order v_points v_cutOff v_had v_placeOf
def f_MM_shareByCounts (N : Nat) (i_weights : Int32) (v_weight : Nat → Int32) (l1 : Int32)  (i_order : Int32) (v_points : Nat → Int32) (v_cutOff : Nat → Int32) (v_had : Nat → Int32) (v_placeOf : Nat → Int32) : Option (Int32 × (Nat → Int32) × (Nat → Int32) × (Nat → Int32) × (Nat → Int32)) :=
  f_MM_shareByCounts_b7 N i_weights v_weight l1  N 0 l1 v_points v_cutOff v_had v_placeOf
def f_MM_numberOf_b40 (N : Nat) (v_points : Nat → Int32) (v_placeOf : Nat → Int32) (l1 : Int32) (k17 : Int32 → Int32 → Option (Int32)) (l2 : Int32) (l3 : Int32) : Option (Int32) :=
  nm (l3 + 1) fun l3_1 =>
  k17 l2 l3_1
def f_MM_numberOf_b46 (N : Nat) (v_points : Nat → Int32) (v_placeOf : Nat → Int32) (l1 : Int32)  (l2 : Int32) : Option (Int32) :=
  some (l2)
def f_MM_numberOf_b17 (N : Nat) (v_points : Nat → Int32) (v_placeOf : Nat → Int32) (l1 : Int32)  : Nat → Int32 → Int32 → Option (Int32)
  | 0, _, _ => none
  | z + 1, l2, l3 =>
  if l1 ≤ l3 then
  f_MM_numberOf_b46 N v_points v_placeOf l1  l2
  else
  ck (inb l3 64) <|
  ck (inb l1 64) <|
  if (v_placeOf (Int32.toNatClampNeg l3)) = (v_placeOf (Int32.toNatClampNeg l1)) then
  nm (l2 + 1) fun l2_5 =>
  f_MM_numberOf_b40 N v_points v_placeOf l1 (f_MM_numberOf_b17 N v_points v_placeOf l1  z) l2_5 l3
  else
  f_MM_numberOf_b40 N v_points v_placeOf l1 (f_MM_numberOf_b17 N v_points v_placeOf l1  z) l2 l3
def f_MM_numberOf (N : Nat) (v_points : Nat → Int32) (v_placeOf : Nat → Int32) (l1 : Int32)   : Option (Int32) :=
  ck (inb l1 64) <|
  ck (inb (v_placeOf (Int32.toNatClampNeg l1)) 12) <|
  bd1 (f_MM_mass N (v_points (Int32.toNatClampNeg (v_placeOf (Int32.toNatClampNeg l1))))) fun r_3 =>
  f_MM_numberOf_b17 N v_points v_placeOf l1  N r_3 0
def f_MM_bitsOf_b21 (N : Nat) (i_order : Int32) (v_points : Nat → Int32) (v_placeOf : Nat → Int32) (l1 : Int32)  (l2 : Int32) : Option (Int32) :=
  some ((i_order - l2))
def f_MM_bitsOf_b2 (N : Nat) (i_order : Int32) (v_points : Nat → Int32) (v_placeOf : Nat → Int32) (l1 : Int32)  : Nat → Int32 → Option (Int32)
  | 0, _ => none
  | z + 1, l2 =>
  bd1 (f_MM_numberOf N v_points v_placeOf l1) fun r_1 =>
  if r_1 < ((1 : Int32) <<< ((l2 + 1) &&& 31)) then
  f_MM_bitsOf_b21 N i_order v_points v_placeOf l1  l2
  else
  nm (l2 + 1) fun l2_4 =>
  f_MM_bitsOf_b2 N i_order v_points v_placeOf l1  z l2_4
def f_MM_bitsOf (N : Nat) (i_order : Int32) (v_points : Nat → Int32) (v_placeOf : Nat → Int32) (l1 : Int32)   : Option (Int32) :=
  f_MM_bitsOf_b2 N i_order v_points v_placeOf l1  N 0
def f_MM_baseOf (N : Nat) (i_order : Int32) (v_points : Nat → Int32) (v_placeOf : Nat → Int32) (l1 : Int32)   : Option (Int32) :=
  bd1 (f_MM_numberOf N v_points v_placeOf l1) fun r_1 =>
  bd1 (f_MM_bitsOf N i_order v_points v_placeOf l1) fun r_3 =>
  some (((r_1 <<< (r_3 &&& 31)) - ((1 : Int32) <<< (i_order &&& 31))))
def f_MM_bitsFor_b19 (N : Nat) (l0 : Int32)  (l1 : Int32) : Option (Int32) :=
  some (l1)
def f_MM_bitsFor_b2 (N : Nat) (l0 : Int32)  : Nat → Int32 → Option (Int32)
  | 0, _ => none
  | z + 1, l1 =>
  if (l0 + 1) < ((1 : Int32) <<< ((l1 + 1) &&& 31)) then
  f_MM_bitsFor_b19 N l0  l1
  else
  nm (l1 + 1) fun l1_2 =>
  f_MM_bitsFor_b2 N l0  z l1_2
def f_MM_bitsFor (N : Nat) (l0 : Int32)   : Option (Int32) :=
  f_MM_bitsFor_b2 N l0  N 0
def f_MM_putShare_b181 (N : Nat) (i_order : Int32) (v_points : Nat → Int32) (k20 : Int32 → Int32 → Int32 → (Nat → Int32) → Option (Int32 × (Nat → Int32))) (l1 : Int32) (l2 : Int32) (l7 : Int32) (i_bitsMade : Int32) (v_made : Nat → Int32) : Option (Int32 × (Nat → Int32)) :=
  nm (l2 + (1 + l7)) fun l2_1 =>
  k20 l1 l2_1 i_bitsMade v_made
def f_MM_putShare_b172 (N : Nat) (i_order : Int32) (v_points : Nat → Int32) (k20 : Int32 → Int32 → Int32 → (Nat → Int32) → Option (Int32 × (Nat → Int32))) (l1 : Int32) (l2 : Int32) (l7 : Int32) (i_bitsMade : Int32) (v_made : Nat → Int32) : Option (Int32 × (Nat → Int32)) :=
  bd2 (f_MM_put N (l7 - l7 / 3 * 3) 2 i_bitsMade v_made) fun i_bitsMade_1 v_made_2 =>
  f_MM_putShare_b181 N i_order v_points k20 l1 l2 l7 i_bitsMade_1 v_made_2
def f_MM_putShare_b151 (N : Nat) (i_order : Int32) (v_points : Nat → Int32) (k20 : Int32 → Int32 → Int32 → (Nat → Int32) → Option (Int32 × (Nat → Int32))) : Nat → Int32 → Int32 → Int32 → Int32 → Int32 → (Nat → Int32) → Option (Int32 × (Nat → Int32))
  | 0, _, _, _, _, _, _ => none
  | z + 1, l1, l2, l7, l8, i_bitsMade, v_made =>
  if (l7 / 3) ≤ l8 then
  f_MM_putShare_b172 N i_order v_points k20 l1 l2 l7 i_bitsMade v_made
  else
  bd2 (f_MM_put N 3 2 i_bitsMade v_made) fun i_bitsMade_2 v_made_3 =>
  nm (l8 + 1) fun l8_5 =>
  f_MM_putShare_b151 N i_order v_points k20 z l1 l2 l7 l8_5 i_bitsMade_2 v_made_3
def f_MM_putShare_b148 (N : Nat) (i_order : Int32) (v_points : Nat → Int32) (k20 : Int32 → Int32 → Int32 → (Nat → Int32) → Option (Int32 × (Nat → Int32))) (l1 : Int32) (l2 : Int32) (l7 : Int32) (i_bitsMade : Int32) (v_made : Nat → Int32) : Option (Int32 × (Nat → Int32)) :=
  f_MM_putShare_b151 N i_order v_points k20 N l1 l2 l7 0 i_bitsMade v_made
def f_MM_putShare_b117 (N : Nat) (i_order : Int32) (v_points : Nat → Int32) (k20 : Int32 → Int32 → Int32 → (Nat → Int32) → Option (Int32 × (Nat → Int32))) : Nat → Int32 → Int32 → Int32 → Int32 → (Nat → Int32) → Option (Int32 × (Nat → Int32))
  | 0, _, _, _, _, _ => none
  | z + 1, l1, l2, l7, i_bitsMade, v_made =>
  if 12 ≤ ((l2 + 1) + l7) then
  f_MM_putShare_b148 N i_order v_points k20 l1 l2 l7 i_bitsMade v_made
  else
  ck (inb ((l2 + 1) + l7) 12) <|
  if (v_points (Int32.toNatClampNeg ((l2 + 1) + l7))) = 0 then
  nm (l7 + 1) fun l7_4 =>
  f_MM_putShare_b117 N i_order v_points k20 z l1 l2 l7_4 i_bitsMade v_made
  else
  f_MM_putShare_b148 N i_order v_points k20 l1 l2 l7 i_bitsMade v_made
def f_MM_putShare_b93 (N : Nat) (i_order : Int32) (v_points : Nat → Int32) (k20 : Int32 → Int32 → Int32 → (Nat → Int32) → Option (Int32 × (Nat → Int32))) (l1 : Int32) (l2 : Int32) (l6 : Int32) (s0 : Int32) (s1 : Int32) (i_bitsMade : Int32) (v_made : Nat → Int32) : Option (Int32 × (Nat → Int32)) :=
  bd2 (f_MM_put N s1 s0 i_bitsMade v_made) fun i_bitsMade_1 v_made_2 =>
  ck (inb l2 12) <|
  bd1 (f_MM_mass N (v_points (Int32.toNatClampNeg l2))) fun r_5 =>
  nm (l1 - r_5) fun l1_7 =>
  if l6 = 1 then
  f_MM_putShare_b117 N i_order v_points k20 N l1_7 l2 0 i_bitsMade_1 v_made_2
  else
  f_MM_putShare_b181 N i_order v_points k20 l1_7 l2 0 i_bitsMade_1 v_made_2
def f_MM_putShare_b79 (N : Nat) (i_order : Int32) (v_points : Nat → Int32) (k20 : Int32 → Int32 → Int32 → (Nat → Int32) → Option (Int32 × (Nat → Int32))) (l1 : Int32) (l2 : Int32) (l3 : Int32) (l5 : Int32) (l6 : Int32) (s0 : Int32) (i_bitsMade : Int32) (v_made : Nat → Int32) : Option (Int32 × (Nat → Int32)) :=
  if l5 ≤ l6 then
  f_MM_putShare_b93 N i_order v_points k20 l1 l2 l6 (l3 + 1) s0 i_bitsMade v_made
  else
  f_MM_putShare_b93 N i_order v_points k20 l1 l2 l6 l3 s0 i_bitsMade v_made
def f_MM_putShare_b69 (N : Nat) (i_order : Int32) (v_points : Nat → Int32) (k20 : Int32 → Int32 → Int32 → (Nat → Int32) → Option (Int32 × (Nat → Int32))) (l1 : Int32) (l2 : Int32) (l3 : Int32) (l5 : Int32) (l6 : Int32) (i_bitsMade : Int32) (v_made : Nat → Int32) : Option (Int32 × (Nat → Int32)) :=
  f_MM_putShare_b79 N i_order v_points k20 l1 l2 l3 l5 l6 l6 i_bitsMade v_made
def f_MM_putShare_b191 (N : Nat) (i_order : Int32) (v_points : Nat → Int32)  (i_bitsMade : Int32) (v_made : Nat → Int32) : Option (Int32 × (Nat → Int32)) :=
  bd1 (f_MM_fill N i_bitsMade) fun i_bitsMade_1 =>
  some (i_bitsMade_1, v_made)
def f_MM_putShare_b20 (N : Nat) (i_order : Int32) (v_points : Nat → Int32)  : Nat → Int32 → Int32 → Int32 → (Nat → Int32) → Option (Int32 × (Nat → Int32))
  | 0, _, _, _, _ => none
  | z + 1, l1, l2, i_bitsMade, v_made =>
  if l1 ≤ 0 then
  f_MM_putShare_b191 N i_order v_points  i_bitsMade v_made
  else
  bd1 (f_MM_bitsFor N l1) fun r_2 =>
  nm ((1 : Int32) <<< (r_2 &&& 31)) fun l4_4 =>
  nm (((2 * l4_4) - 2) - l1) fun l5_5 =>
  ck (inb l2 12) <|
  nm ((v_points (Int32.toNatClampNeg l2)) + 1) fun l6_7 =>
  if l6_7 < l5_5 then
  f_MM_putShare_b69 N i_order v_points (f_MM_putShare_b20 N i_order v_points  z) l1 l2 r_2 l5_5 l6_7 i_bitsMade v_made
  else
  if l4_4 ≤ l6_7 then
  f_MM_putShare_b79 N i_order v_points (f_MM_putShare_b20 N i_order v_points  z) l1 l2 r_2 l5_5 l6_7 (l6_7 + l5_5) i_bitsMade v_made
  else
  f_MM_putShare_b69 N i_order v_points (f_MM_putShare_b20 N i_order v_points  z) l1 l2 r_2 l5_5 l6_7 i_bitsMade v_made
def f_MM_putShare (N : Nat) (i_order : Int32) (v_points : Nat → Int32)  (i_bitsMade : Int32) (v_made : Nat → Int32) : Option (Int32 × (Nat → Int32)) :=
  bd2 (f_MM_put N (i_order - 5) 4 i_bitsMade v_made) fun i_bitsMade_1 v_made_2 =>
  nm ((1 : Int32) <<< (i_order &&& 31)) fun l1_4 =>
  f_MM_putShare_b20 N i_order v_points  N l1_4 0 i_bitsMade_1 v_made_2
def f_MM_lowest_b30 (N : Nat) (i_order : Int32) (v_points : Nat → Int32) (v_placeOf : Nat → Int32) (l1 : Int32)  (l2 : Int32) : Option (Int32) :=
  some (l2)
def f_MM_lowest_b32 (N : Nat) (i_order : Int32) (v_points : Nat → Int32) (v_placeOf : Nat → Int32) (l1 : Int32) (k2 : Int32 → Option (Int32)) (l2 : Int32) : Option (Int32) :=
  nm (l2 + 1) fun l2_1 =>
  k2 l2_1
def f_MM_lowest_b38 (N : Nat) (i_order : Int32) (v_points : Nat → Int32) (v_placeOf : Nat → Int32) (l1 : Int32)   : Option (Int32) :=
  some ((-1))
def f_MM_lowest_b2 (N : Nat) (i_order : Int32) (v_points : Nat → Int32) (v_placeOf : Nat → Int32) (l1 : Int32)  : Nat → Int32 → Option (Int32)
  | 0, _ => none
  | z + 1, l2 =>
  if ((1 : Int32) <<< (i_order &&& 31)) ≤ l2 then
  f_MM_lowest_b38 N i_order v_points v_placeOf l1  
  else
  ck (inb l2 64) <|
  if (v_placeOf (Int32.toNatClampNeg l2)) = l1 then
  bd1 (f_MM_bitsOf N i_order v_points v_placeOf l2) fun r_4 =>
  if r_4 ≤ 0 then
  f_MM_lowest_b32 N i_order v_points v_placeOf l1 (f_MM_lowest_b2 N i_order v_points v_placeOf l1  z) l2
  else
  f_MM_lowest_b30 N i_order v_points v_placeOf l1  l2
  else
  f_MM_lowest_b32 N i_order v_points v_placeOf l1 (f_MM_lowest_b2 N i_order v_points v_placeOf l1  z) l2
def f_MM_lowest (N : Nat) (i_order : Int32) (v_points : Nat → Int32) (v_placeOf : Nat → Int32) (l1 : Int32)   : Option (Int32) :=
  f_MM_lowest_b2 N i_order v_points v_placeOf l1  N 0
def f_MM_placeFor_b48 (N : Nat) (i_order : Int32) (v_points : Nat → Int32) (v_placeOf : Nat → Int32) (l1 : Int32) (l2 : Int32)  (l3 : Int32) : Option (Int32) :=
  some (l3)
def f_MM_placeFor_b50 (N : Nat) (i_order : Int32) (v_points : Nat → Int32) (v_placeOf : Nat → Int32) (l1 : Int32) (l2 : Int32) (k2 : Int32 → Option (Int32)) (l3 : Int32) : Option (Int32) :=
  nm (l3 + 1) fun l3_1 =>
  k2 l3_1
def f_MM_placeFor_b56 (N : Nat) (i_order : Int32) (v_points : Nat → Int32) (v_placeOf : Nat → Int32) (l1 : Int32) (l2 : Int32)   : Option (Int32) :=
  some ((-1))
def f_MM_placeFor_b2 (N : Nat) (i_order : Int32) (v_points : Nat → Int32) (v_placeOf : Nat → Int32) (l1 : Int32) (l2 : Int32)  : Nat → Int32 → Option (Int32)
  | 0, _ => none
  | z + 1, l3 =>
  if ((1 : Int32) <<< (i_order &&& 31)) ≤ l3 then
  f_MM_placeFor_b56 N i_order v_points v_placeOf l1 l2  
  else
  ck (inb l3 64) <|
  if (v_placeOf (Int32.toNatClampNeg l3)) = l1 then
  bd1 (f_MM_baseOf N i_order v_points v_placeOf l3) fun r_4 =>
  if l2 < r_4 then
  f_MM_placeFor_b50 N i_order v_points v_placeOf l1 l2 (f_MM_placeFor_b2 N i_order v_points v_placeOf l1 l2  z) l3
  else
  bd1 (f_MM_baseOf N i_order v_points v_placeOf l3) fun r_7 =>
  bd1 (f_MM_bitsOf N i_order v_points v_placeOf l3) fun r_9 =>
  if (r_7 + ((1 : Int32) <<< (r_9 &&& 31))) ≤ l2 then
  f_MM_placeFor_b50 N i_order v_points v_placeOf l1 l2 (f_MM_placeFor_b2 N i_order v_points v_placeOf l1 l2  z) l3
  else
  f_MM_placeFor_b48 N i_order v_points v_placeOf l1 l2  l3
  else
  f_MM_placeFor_b50 N i_order v_points v_placeOf l1 l2 (f_MM_placeFor_b2 N i_order v_points v_placeOf l1 l2  z) l3
def f_MM_placeFor (N : Nat) (i_order : Int32) (v_points : Nat → Int32) (v_placeOf : Nat → Int32) (l1 : Int32) (l2 : Int32)   : Option (Int32) :=
  f_MM_placeFor_b2 N i_order v_points v_placeOf l1 l2  N 0
def f_MM_putRow_b85 (N : Nat) (i_weights : Int32) (i_order : Int32) (v_weight : Nat → Int32) (v_points : Nat → Int32) (v_placeOf : Nat → Int32)  (l1 : Int32) (l2 : Int32) (i_bitsMade : Int32) (v_made : Nat → Int32) : Option (Int32 × (Nat → Int32)) :=
  bd2 (f_MM_put N l1 i_order i_bitsMade v_made) fun i_bitsMade_1 v_made_2 =>
  bd2 (f_MM_put N l2 i_order i_bitsMade_1 v_made_2) fun i_bitsMade_4 v_made_5 =>
  bd2 (f_MM_put N 1 1 i_bitsMade_4 v_made_5) fun i_bitsMade_7 v_made_8 =>
  bd1 (f_MM_fill N i_bitsMade_7) fun i_bitsMade_10 =>
  some (i_bitsMade_10, v_made_8)
def f_MM_putRow_b39 (N : Nat) (i_weights : Int32) (i_order : Int32) (v_weight : Nat → Int32) (v_points : Nat → Int32) (v_placeOf : Nat → Int32)  : Nat → Int32 → Int32 → Int32 → Int32 → (Nat → Int32) → Option (Int32 × (Nat → Int32))
  | 0, _, _, _, _, _ => none
  | z + 1, l1, l2, l3, i_bitsMade, v_made =>
  if l3 < 0 then
  f_MM_putRow_b85 N i_weights i_order v_weight v_points v_placeOf  l1 l2 i_bitsMade v_made
  else
  ck (inb l3 256) <|
  bd1 (f_MM_placeFor N i_order v_points v_placeOf (v_weight (Int32.toNatClampNeg l3)) l1) fun r_3 =>
  bd1 (f_MM_baseOf N i_order v_points v_placeOf r_3) fun r_5 =>
  bd1 (f_MM_bitsOf N i_order v_points v_placeOf r_3) fun r_7 =>
  bd2 (f_MM_put N (l1 - r_5) r_7 i_bitsMade v_made) fun i_bitsMade_9 v_made_10 =>
  nm (l3 + (-1)) fun l3_12 =>
  f_MM_putRow_b39 N i_weights i_order v_weight v_points v_placeOf  z l2 r_3 l3_12 i_bitsMade_9 v_made_10
def f_MM_putRow (N : Nat) (i_weights : Int32) (i_order : Int32) (v_weight : Nat → Int32) (v_points : Nat → Int32) (v_placeOf : Nat → Int32)  (i_bitsMade : Int32) (v_made : Nat → Int32) : Option (Int32 × (Nat → Int32)) :=
  ck (inb (i_weights - 1) 256) <|
  bd1 (f_MM_lowest N i_order v_points v_placeOf (v_weight (Int32.toNatClampNeg (i_weights - 1)))) fun r_2 =>
  ck (inb (i_weights - 2) 256) <|
  bd1 (f_MM_lowest N i_order v_points v_placeOf (v_weight (Int32.toNatClampNeg (i_weights - 2)))) fun r_5 =>
  nm (i_weights - 3) fun l3_7 =>
  f_MM_putRow_b39 N i_weights i_order v_weight v_points v_placeOf  N r_2 r_5 l3_7 i_bitsMade v_made
def f_MM_putStates (N : Nat) (i_weights : Int32) (v_weight : Nat → Int32) (l1 : Int32)  (i_bitsMade : Int32) (i_order : Int32) (v_made : Nat → Int32) (v_points : Nat → Int32) (v_cutOff : Nat → Int32) (v_had : Nat → Int32) (v_placeOf : Nat → Int32) : Option (Int32 × Int32 × Int32 × (Nat → Int32) × (Nat → Int32) × (Nat → Int32) × (Nat → Int32) × (Nat → Int32)) :=
  bd2 (f_MM_begin N i_bitsMade v_made) fun i_bitsMade_1 v_made_2 =>
  bd2 (f_MM_put N 0 8 i_bitsMade_1 v_made_2) fun i_bitsMade_4 v_made_5 =>
  bd5 (f_MM_shareByCounts N i_weights v_weight l1 i_order v_points v_cutOff v_had v_placeOf) fun i_order_7 v_points_8 v_cutOff_9 v_had_10 v_placeOf_11 =>
  bd2 (f_MM_putShare N i_order_7 v_points_8 i_bitsMade_4 v_made_5) fun i_bitsMade_13 v_made_14 =>
  bd2 (f_MM_putRow N i_weights i_order_7 v_weight v_points_8 v_placeOf_11 i_bitsMade_13 v_made_14) fun i_bitsMade_16 v_made_17 =>
  ck (inb 0 6000) <|
  nm (upd v_made_17 (Int32.toNatClampNeg 0) ((i_bitsMade_16 / 8) - 1)) fun v_made_20 =>
  some ((i_bitsMade_16 / 8), i_bitsMade_16, i_order_7, v_made_20, v_points_8, v_cutOff_9, v_had_10, v_placeOf_11)
def f_MM_putDirect_b50 (N : Nat) (i_weights : Int32) (v_weight : Nat → Int32) (k19 : Int32 → Int32 → (Nat → Int32) → Option (Int32 × (Nat → Int32))) (l1 : Int32) (s0 : Int32) (i_bitsMade : Int32) (v_made : Nat → Int32) : Option (Int32 × (Nat → Int32)) :=
  bd2 (f_MM_put N s0 4 i_bitsMade v_made) fun i_bitsMade_1 v_made_2 =>
  ck (inb l1 256) <|
  bd2 (f_MM_put N (v_weight (Int32.toNatClampNeg l1)) 4 i_bitsMade_1 v_made_2) fun i_bitsMade_5 v_made_6 =>
  nm (l1 + 2) fun l1_8 =>
  k19 l1_8 i_bitsMade_5 v_made_6
def f_MM_putDirect_b19 (N : Nat) (i_weights : Int32) (v_weight : Nat → Int32)  : Nat → Int32 → Int32 → (Nat → Int32) → Option (Int32 × (Nat → Int32))
  | 0, _, _, _ => none
  | z + 1, l1, i_bitsMade, v_made =>
  if i_weights ≤ l1 then
  some (i_bitsMade, v_made)
  else
  if i_weights ≤ (l1 + 1) then
  f_MM_putDirect_b50 N i_weights v_weight (f_MM_putDirect_b19 N i_weights v_weight  z) l1 0 i_bitsMade v_made
  else
  ck (inb (l1 + 1) 256) <|
  f_MM_putDirect_b50 N i_weights v_weight (f_MM_putDirect_b19 N i_weights v_weight  z) l1 (v_weight (Int32.toNatClampNeg (l1 + 1))) i_bitsMade v_made
def f_MM_putDirect (N : Nat) (i_weights : Int32) (v_weight : Nat → Int32)  (i_bitsMade : Int32) (v_made : Nat → Int32) : Option (Int32 × (Nat → Int32)) :=
  bd2 (f_MM_begin N i_bitsMade v_made) fun i_bitsMade_1 v_made_2 =>
  bd2 (f_MM_put N (127 + i_weights) 8 i_bitsMade_1 v_made_2) fun i_bitsMade_4 v_made_5 =>
  f_MM_putDirect_b19 N i_weights v_weight  N 0 i_bitsMade_4 v_made_5
def f_MM_different_b21 (N : Nat) (i_weights : Int32) (v_weight : Nat → Int32) (k4 : Int32 → Int32 → Option (Int32)) (l1 : Int32) (l2 : Int32) : Option (Int32) :=
  nm (l2 + 1) fun l2_1 =>
  k4 l1 l2_1
def f_MM_different_b27 (N : Nat) (i_weights : Int32) (v_weight : Nat → Int32)  (l1 : Int32) : Option (Int32) :=
  some (l1)
def f_MM_different_b4 (N : Nat) (i_weights : Int32) (v_weight : Nat → Int32)  : Nat → Int32 → Int32 → Option (Int32)
  | 0, _, _ => none
  | z + 1, l1, l2 =>
  if 12 ≤ l2 then
  f_MM_different_b27 N i_weights v_weight  l1
  else
  bd1 (f_MM_countOf N i_weights v_weight l2) fun r_2 =>
  if r_2 ≤ 0 then
  f_MM_different_b21 N i_weights v_weight (f_MM_different_b4 N i_weights v_weight  z) l1 l2
  else
  nm (l1 + 1) fun l1_5 =>
  f_MM_different_b21 N i_weights v_weight (f_MM_different_b4 N i_weights v_weight  z) l1_5 l2
def f_MM_different (N : Nat) (i_weights : Int32) (v_weight : Nat → Int32)   : Option (Int32) :=
  f_MM_different_b4 N i_weights v_weight  N 0 0
def f_MM_describe_b207 (N : Nat) (i_greatest : Int32) (v_length : Nat → Int32)  (i_outLong : Int32) (i_bitsMade : Int32) (i_weights : Int32) (i_order : Int32) (v_out : Nat → Int32) (v_made : Nat → Int32) (v_weight : Nat → Int32) (v_points : Nat → Int32) (v_cutOff : Nat → Int32) (v_had : Nat → Int32) (v_placeOf : Nat → Int32) : Option (Int32 × Int32 × Int32 × Int32 × Int32 × (Nat → Int32) × (Nat → Int32) × (Nat → Int32) × (Nat → Int32) × (Nat → Int32) × (Nat → Int32) × (Nat → Int32)) :=
  bd3 (f_MM_give N i_bitsMade v_made i_outLong v_out) fun r_1 i_outLong_2 v_out_3 =>
  some (r_1, i_outLong_2, i_bitsMade, i_weights, i_order, v_out_3, v_made, v_weight, v_points, v_cutOff, v_had, v_placeOf)
def f_MM_describe_b189 (N : Nat) (i_greatest : Int32) (v_length : Nat → Int32)  (l1 : Int32) (l2 : Int32) (l3 : Int32) (i_outLong : Int32) (i_bitsMade : Int32) (i_weights : Int32) (i_order : Int32) (v_out : Nat → Int32) (v_made : Nat → Int32) (v_weight : Nat → Int32) (v_points : Nat → Int32) (v_cutOff : Nat → Int32) (v_had : Nat → Int32) (v_placeOf : Nat → Int32) : Option (Int32 × Int32 × Int32 × Int32 × Int32 × (Nat → Int32) × (Nat → Int32) × (Nat → Int32) × (Nat → Int32) × (Nat → Int32) × (Nat → Int32) × (Nat → Int32)) :=
  if l2 < l1 then
  bd8 (f_MM_putStates N i_weights v_weight l3 i_bitsMade i_order v_made v_points v_cutOff v_had v_placeOf) fun r_2 i_bitsMade_3 i_order_4 v_made_5 v_points_6 v_cutOff_7 v_had_8 v_placeOf_9 =>
  f_MM_describe_b207 N i_greatest v_length  i_outLong i_bitsMade_3 i_weights i_order_4 v_out v_made_5 v_weight v_points_6 v_cutOff_7 v_had_8 v_placeOf_9
  else
  bd2 (f_MM_putDirect N i_weights v_weight i_bitsMade v_made) fun i_bitsMade_11 v_made_12 =>
  f_MM_describe_b207 N i_greatest v_length  i_outLong i_bitsMade_11 i_weights i_order v_out v_made_12 v_weight v_points v_cutOff v_had v_placeOf
def f_MM_describe_b172 (N : Nat) (i_greatest : Int32) (v_length : Nat → Int32)  (l1 : Int32) (l2 : Int32) (l3 : Int32) (i_outLong : Int32) (i_bitsMade : Int32) (i_weights : Int32) (i_order : Int32) (v_out : Nat → Int32) (v_made : Nat → Int32) (v_weight : Nat → Int32) (v_points : Nat → Int32) (v_cutOff : Nat → Int32) (v_had : Nat → Int32) (v_placeOf : Nat → Int32) : Option (Int32 × Int32 × Int32 × Int32 × Int32 × (Nat → Int32) × (Nat → Int32) × (Nat → Int32) × (Nat → Int32) × (Nat → Int32) × (Nat → Int32) × (Nat → Int32)) :=
  if l1 = 1000 then
  if l2 = 1000 then
  some ((-2), i_outLong, i_bitsMade, i_weights, i_order, v_out, v_made, v_weight, v_points, v_cutOff, v_had, v_placeOf)
  else
  f_MM_describe_b189 N i_greatest v_length  l1 l2 l3 i_outLong i_bitsMade i_weights i_order v_out v_made v_weight v_points v_cutOff v_had v_placeOf
  else
  f_MM_describe_b189 N i_greatest v_length  l1 l2 l3 i_outLong i_bitsMade i_weights i_order v_out v_made v_weight v_points v_cutOff v_had v_placeOf
def f_MM_describe_b160 (N : Nat) (i_greatest : Int32) (v_length : Nat → Int32)  (l1 : Int32) (l3 : Int32) (s0 : Int32) (i_outLong : Int32) (i_bitsMade : Int32) (i_weights : Int32) (i_order : Int32) (v_out : Nat → Int32) (v_made : Nat → Int32) (v_weight : Nat → Int32) (v_points : Nat → Int32) (v_cutOff : Nat → Int32) (v_had : Nat → Int32) (v_placeOf : Nat → Int32) : Option (Int32 × Int32 × Int32 × Int32 × Int32 × (Nat → Int32) × (Nat → Int32) × (Nat → Int32) × (Nat → Int32) × (Nat → Int32) × (Nat → Int32) × (Nat → Int32)) :=
  if s0 ≤ 128 then
  f_MM_describe_b172 N i_greatest v_length  l1 s0 l3 i_outLong i_bitsMade i_weights i_order v_out v_made v_weight v_points v_cutOff v_had v_placeOf
  else
  f_MM_describe_b172 N i_greatest v_length  l1 1000 l3 i_outLong i_bitsMade i_weights i_order v_out v_made v_weight v_points v_cutOff v_had v_placeOf
def f_MM_describe_b145 (N : Nat) (i_greatest : Int32) (v_length : Nat → Int32)  (l1 : Int32) (l4 : Int32) (l5 : Int32) (s0 : Int32) (i_outLong : Int32) (i_bitsMade : Int32) (i_weights : Int32) (i_order : Int32) (v_out : Nat → Int32) (v_made : Nat → Int32) (v_weight : Nat → Int32) (v_points : Nat → Int32) (v_cutOff : Nat → Int32) (v_had : Nat → Int32) (v_placeOf : Nat → Int32) : Option (Int32 × Int32 × Int32 × Int32 × Int32 × (Nat → Int32) × (Nat → Int32) × (Nat → Int32) × (Nat → Int32) × (Nat → Int32) × (Nat → Int32) × (Nat → Int32)) :=
  if l4 ≤ l5 then
  f_MM_describe_b160 N i_greatest v_length  l1 s0 l4 i_outLong i_bitsMade i_weights i_order v_out v_made v_weight v_points v_cutOff v_had v_placeOf
  else
  f_MM_describe_b160 N i_greatest v_length  l1 s0 l5 i_outLong i_bitsMade i_weights i_order v_out v_made v_weight v_points v_cutOff v_had v_placeOf
def f_MM_describe_b94 (N : Nat) (i_greatest : Int32) (v_length : Nat → Int32)  (s0 : Int32) (i_outLong : Int32) (i_bitsMade : Int32) (i_weights : Int32) (i_order : Int32) (v_out : Nat → Int32) (v_made : Nat → Int32) (v_weight : Nat → Int32) (v_points : Nat → Int32) (v_cutOff : Nat → Int32) (v_had : Nat → Int32) (v_placeOf : Nat → Int32) : Option (Int32 × Int32 × Int32 × Int32 × Int32 × (Nat → Int32) × (Nat → Int32) × (Nat → Int32) × (Nat → Int32) × (Nat → Int32) × (Nat → Int32) × (Nat → Int32)) :=
  if i_weights < 2 then
  f_MM_describe_b172 N i_greatest v_length  s0 1000 5 i_outLong i_bitsMade i_weights i_order v_out v_made v_weight v_points v_cutOff v_had v_placeOf
  else
  bd1 (f_MM_different N i_weights v_weight) fun r_2 =>
  if r_2 < 2 then
  f_MM_describe_b172 N i_greatest v_length  s0 1000 5 i_outLong i_bitsMade i_weights i_order v_out v_made v_weight v_points v_cutOff v_had v_placeOf
  else
  bd8 (f_MM_putStates N i_weights v_weight 5 i_bitsMade i_order v_made v_points v_cutOff v_had v_placeOf) fun r_5 i_bitsMade_6 i_order_7 v_made_8 v_points_9 v_cutOff_10 v_had_11 v_placeOf_12 =>
  bd8 (f_MM_putStates N i_weights v_weight 6 i_bitsMade_6 i_order_7 v_made_8 v_points_9 v_cutOff_10 v_had_11 v_placeOf_12) fun r_14 i_bitsMade_15 i_order_16 v_made_17 v_points_18 v_cutOff_19 v_had_20 v_placeOf_21 =>
  if r_5 ≤ r_14 then
  f_MM_describe_b145 N i_greatest v_length  s0 r_5 r_14 5 i_outLong i_bitsMade_15 i_weights i_order_16 v_out v_made_17 v_weight v_points_18 v_cutOff_19 v_had_20 v_placeOf_21
  else
  f_MM_describe_b145 N i_greatest v_length  s0 r_5 r_14 6 i_outLong i_bitsMade_15 i_weights i_order_16 v_out v_made_17 v_weight v_points_18 v_cutOff_19 v_had_20 v_placeOf_21
def f_MM_describe_b68 (N : Nat) (i_greatest : Int32) (v_length : Nat → Int32)  (i_outLong : Int32) (i_bitsMade : Int32) (i_weights : Int32) (i_order : Int32) (v_out : Nat → Int32) (v_made : Nat → Int32) (v_weight : Nat → Int32) (v_points : Nat → Int32) (v_cutOff : Nat → Int32) (v_had : Nat → Int32) (v_placeOf : Nat → Int32) : Option (Int32 × Int32 × Int32 × Int32 × Int32 × (Nat → Int32) × (Nat → Int32) × (Nat → Int32) × (Nat → Int32) × (Nat → Int32) × (Nat → Int32) × (Nat → Int32)) :=
  if 128 < i_weights then
  f_MM_describe_b94 N i_greatest v_length  1000 i_outLong i_bitsMade i_weights i_order v_out v_made v_weight v_points v_cutOff v_had v_placeOf
  else
  f_MM_describe_b94 N i_greatest v_length  (1 + ((i_weights + 1) / 2)) i_outLong i_bitsMade i_weights i_order v_out v_made v_weight v_points v_cutOff v_had v_placeOf
def f_MM_describe_b43 (N : Nat) (i_greatest : Int32) (v_length : Nat → Int32)  : Nat → Int32 → Int32 → Int32 → Int32 → Int32 → (Nat → Int32) → (Nat → Int32) → (Nat → Int32) → (Nat → Int32) → (Nat → Int32) → (Nat → Int32) → (Nat → Int32) → Option (Int32 × Int32 × Int32 × Int32 × Int32 × (Nat → Int32) × (Nat → Int32) × (Nat → Int32) × (Nat → Int32) × (Nat → Int32) × (Nat → Int32) × (Nat → Int32))
  | 0, _, _, _, _, _, _, _, _, _, _, _, _ => none
  | z + 1, l1, i_outLong, i_bitsMade, i_weights, i_order, v_out, v_made, v_weight, v_points, v_cutOff, v_had, v_placeOf =>
  if i_weights ≤ l1 then
  f_MM_describe_b68 N i_greatest v_length  i_outLong i_bitsMade i_weights i_order v_out v_made v_weight v_points v_cutOff v_had v_placeOf
  else
  bd1 (f_MM_weightOf N i_greatest v_length l1) fun r_2 =>
  ck (inb l1 256) <|
  nm (upd v_weight (Int32.toNatClampNeg l1) r_2) fun v_weight_5 =>
  nm (l1 + 1) fun l1_6 =>
  f_MM_describe_b43 N i_greatest v_length  z l1_6 i_outLong i_bitsMade i_weights i_order v_out v_made v_weight_5 v_points v_cutOff v_had v_placeOf
def f_MM_describe_b41 (N : Nat) (i_greatest : Int32) (v_length : Nat → Int32)  (i_outLong : Int32) (i_bitsMade : Int32) (i_weights : Int32) (i_order : Int32) (v_out : Nat → Int32) (v_made : Nat → Int32) (v_weight : Nat → Int32) (v_points : Nat → Int32) (v_cutOff : Nat → Int32) (v_had : Nat → Int32) (v_placeOf : Nat → Int32) : Option (Int32 × Int32 × Int32 × Int32 × Int32 × (Nat → Int32) × (Nat → Int32) × (Nat → Int32) × (Nat → Int32) × (Nat → Int32) × (Nat → Int32) × (Nat → Int32)) :=
  f_MM_describe_b43 N i_greatest v_length  N 0 i_outLong i_bitsMade i_weights i_order v_out v_made v_weight v_points v_cutOff v_had v_placeOf
def f_MM_describe_b16 (N : Nat) (i_greatest : Int32) (v_length : Nat → Int32)  : Nat → Int32 → Int32 → Int32 → Int32 → (Nat → Int32) → (Nat → Int32) → (Nat → Int32) → (Nat → Int32) → (Nat → Int32) → (Nat → Int32) → (Nat → Int32) → Option (Int32 × Int32 × Int32 × Int32 × Int32 × (Nat → Int32) × (Nat → Int32) × (Nat → Int32) × (Nat → Int32) × (Nat → Int32) × (Nat → Int32) × (Nat → Int32))
  | 0, _, _, _, _, _, _, _, _, _, _, _ => none
  | z + 1, i_outLong, i_bitsMade, i_weights, i_order, v_out, v_made, v_weight, v_points, v_cutOff, v_had, v_placeOf =>
  ck (inb i_weights 256) <|
  if (v_length (Int32.toNatClampNeg i_weights)) = 0 then
  nm (i_weights - 1) fun i_weights_3 =>
  f_MM_describe_b16 N i_greatest v_length  z i_outLong i_bitsMade i_weights_3 i_order v_out v_made v_weight v_points v_cutOff v_had v_placeOf
  else
  f_MM_describe_b41 N i_greatest v_length  i_outLong i_bitsMade i_weights i_order v_out v_made v_weight v_points v_cutOff v_had v_placeOf
def f_MM_describe (N : Nat) (i_greatest : Int32) (v_length : Nat → Int32)  (i_outLong : Int32) (i_bitsMade : Int32) (i_weights : Int32) (i_order : Int32) (v_out : Nat → Int32) (v_made : Nat → Int32) (v_weight : Nat → Int32) (v_points : Nat → Int32) (v_cutOff : Nat → Int32) (v_had : Nat → Int32) (v_placeOf : Nat → Int32) : Option (Int32 × Int32 × Int32 × Int32 × Int32 × (Nat → Int32) × (Nat → Int32) × (Nat → Int32) × (Nat → Int32) × (Nat → Int32) × (Nat → Int32) × (Nat → Int32)) :=
  if i_greatest = 0 then
  some ((-1), i_outLong, i_bitsMade, i_weights, i_order, v_out, v_made, v_weight, v_points, v_cutOff, v_had, v_placeOf)
  else
  f_MM_describe_b16 N i_greatest v_length  N i_outLong i_bitsMade 255 i_order v_out v_made v_weight v_points v_cutOff v_had v_placeOf
def f_MM_take_b45 (N : Nat) (i_bitEnd : Int32) (v_in : Nat → Int32) (l1 : Int32)  (l2 : Int32) (i_bit : Int32) : Option (Int32 × Int32) :=
  nm (i_bit + l1) fun i_bit_1 =>
  some (l2, i_bit_1)
def f_MM_take_b19 (N : Nat) (i_bitEnd : Int32) (v_in : Nat → Int32) (l1 : Int32)  : Nat → Int32 → Int32 → Int32 → Option (Int32 × Int32)
  | 0, _, _, _ => none
  | z + 1, l2, l3, i_bit =>
  if l1 ≤ l3 then
  f_MM_take_b45 N i_bitEnd v_in l1  l2 i_bit
  else
  bd1 (f_MM_bitAt N v_in (i_bit + l3)) fun r_2 =>
  nm (l2 ||| (r_2 <<< (l3 &&& 31))) fun l2_4 =>
  nm (l3 + 1) fun l3_5 =>
  f_MM_take_b19 N i_bitEnd v_in l1  z l2_4 l3_5 i_bit
def f_MM_take (N : Nat) (i_bitEnd : Int32) (v_in : Nat → Int32) (l1 : Int32)  (i_bit : Int32) : Option (Int32 × Int32) :=
  if (i_bit + l1) ≤ i_bitEnd then
  f_MM_take_b19 N i_bitEnd v_in l1  N 0 0 i_bit
  else
  some ((-1), i_bit)
def f_MM_takeNumber_b38 (N : Nat) (i_bitEnd : Int32) (v_in : Nat → Int32) (l1 : Int32)  (l5 : Int32) (i_bit : Int32) : Option (Int32 × Int32) :=
  some (l5, i_bit)
def f_MM_takeNumber (N : Nat) (i_bitEnd : Int32) (v_in : Nat → Int32) (l1 : Int32)  (i_bit : Int32) : Option (Int32 × Int32) :=
  bd1 (f_MM_bitsFor N l1) fun r_1 =>
  nm ((1 : Int32) <<< (r_1 &&& 31)) fun l3_3 =>
  nm (((2 * l3_3) - 2) - l1) fun l4_4 =>
  bd2 (f_MM_take N i_bitEnd v_in r_1 i_bit) fun r_5 i_bit_6 =>
  if r_5 = (-1) then
  f_MM_takeNumber_b38 N i_bitEnd v_in l1  r_5 i_bit_6
  else
  if l4_4 ≤ r_5 then
  bd2 (f_MM_take N i_bitEnd v_in 1 i_bit_6) fun r_10 i_bit_11 =>
  if r_10 = (-1) then
  some ((-1), i_bit_11)
  else
  if r_10 = 0 then
  some (r_5, i_bit_11)
  else
  some (((r_5 + l3_3) - l4_4), i_bit_11)
  else
  f_MM_takeNumber_b38 N i_bitEnd v_in l1  r_5 i_bit_6
def f_MM_takeShare_b16 (N : Nat) (i_bitEnd : Int32) (v_in : Nat → Int32)  (i_order : Int32) (i_bit : Int32) (v_points : Nat → Int32) (v_placeOf : Nat → Int32) : Option (Int32 × Int32 × Int32 × (Nat → Int32) × (Nat → Int32)) :=
  some (0, i_order, i_bit, v_points, v_placeOf)
def f_MM_takeShare_b82 (N : Nat) (i_bitEnd : Int32) (v_in : Nat → Int32)  (i_order : Int32) (i_bit : Int32) (v_points : Nat → Int32) (v_placeOf : Nat → Int32) : Option (Int32 × Int32 × Int32 × (Nat → Int32) × (Nat → Int32)) :=
  some (0, i_order, i_bit, v_points, v_placeOf)
def f_MM_takeShare_b138 (N : Nat) (i_bitEnd : Int32) (v_in : Nat → Int32)  (i_order : Int32) (i_bit : Int32) (v_points : Nat → Int32) (v_placeOf : Nat → Int32) : Option (Int32 × Int32 × Int32 × (Nat → Int32) × (Nat → Int32)) :=
  some (0, i_order, i_bit, v_points, v_placeOf)
def f_MM_takeShare_b148 (N : Nat) (i_bitEnd : Int32) (v_in : Nat → Int32) (k55 : Int32 → Int32 → Int32 → Int32 → (Nat → Int32) → (Nat → Int32) → Option (Int32 × Int32 × Int32 × (Nat → Int32) × (Nat → Int32))) (l2 : Int32) (l3 : Int32) (i_order : Int32) (i_bit : Int32) (v_points : Nat → Int32) (v_placeOf : Nat → Int32) : Option (Int32 × Int32 × Int32 × (Nat → Int32) × (Nat → Int32)) :=
  nm (l3 + 1) fun l3_1 =>
  k55 l2 l3_1 i_order i_bit v_points v_placeOf
def f_MM_takeShare_b119 (N : Nat) (i_bitEnd : Int32) (v_in : Nat → Int32) (k55 : Int32 → Int32 → Int32 → Int32 → (Nat → Int32) → (Nat → Int32) → Option (Int32 × Int32 × Int32 × (Nat → Int32) × (Nat → Int32))) : Nat → Int32 → Int32 → Int32 → Int32 → Int32 → (Nat → Int32) → (Nat → Int32) → Option (Int32 × Int32 × Int32 × (Nat → Int32) × (Nat → Int32))
  | 0, _, _, _, _, _, _, _ => none
  | z + 1, l2, l3, l5, i_order, i_bit, v_points, v_placeOf =>
  if l5 = 3 then
  bd2 (f_MM_take N i_bitEnd v_in 2 i_bit) fun r_2 i_bit_3 =>
  if r_2 = (-1) then
  f_MM_takeShare_b138 N i_bitEnd v_in  i_order i_bit_3 v_points v_placeOf
  else
  nm (l3 + r_2) fun l3_6 =>
  f_MM_takeShare_b119 N i_bitEnd v_in k55 z l2 l3_6 r_2 i_order i_bit_3 v_points v_placeOf
  else
  f_MM_takeShare_b148 N i_bitEnd v_in k55 l2 l3 i_order i_bit v_points v_placeOf
def f_MM_takeShare_b117 (N : Nat) (i_bitEnd : Int32) (v_in : Nat → Int32) (k55 : Int32 → Int32 → Int32 → Int32 → (Nat → Int32) → (Nat → Int32) → Option (Int32 × Int32 × Int32 × (Nat → Int32) × (Nat → Int32))) (l2 : Int32) (l3 : Int32) (s0 : Int32) (i_order : Int32) (i_bit : Int32) (v_points : Nat → Int32) (v_placeOf : Nat → Int32) : Option (Int32 × Int32 × Int32 × (Nat → Int32) × (Nat → Int32)) :=
  f_MM_takeShare_b119 N i_bitEnd v_in k55 N l2 l3 s0 i_order i_bit v_points v_placeOf
def f_MM_takeShare_b74 (N : Nat) (i_bitEnd : Int32) (v_in : Nat → Int32) (k55 : Int32 → Int32 → Int32 → Int32 → (Nat → Int32) → (Nat → Int32) → Option (Int32 × Int32 × Int32 × (Nat → Int32) × (Nat → Int32))) (l2 : Int32) (l3 : Int32) (s0 : Int32) (i_order : Int32) (i_bit : Int32) (v_points : Nat → Int32) (v_placeOf : Nat → Int32) : Option (Int32 × Int32 × Int32 × (Nat → Int32) × (Nat → Int32)) :=
  if s0 = (-1) then
  f_MM_takeShare_b82 N i_bitEnd v_in  i_order i_bit v_points v_placeOf
  else
  ck (inb l3 12) <|
  nm (upd v_points (Int32.toNatClampNeg l3) (s0 - 1)) fun v_points_3 =>
  ck (inb l3 12) <|
  bd1 (f_MM_mass N (v_points_3 (Int32.toNatClampNeg l3))) fun r_5 =>
  nm (l2 - r_5) fun l2_7 =>
  if s0 = 1 then
  f_MM_takeShare_b117 N i_bitEnd v_in k55 l2_7 l3 3 i_order i_bit v_points_3 v_placeOf
  else
  f_MM_takeShare_b117 N i_bitEnd v_in k55 l2_7 l3 0 i_order i_bit v_points_3 v_placeOf
def f_MM_takeShare_b154 (N : Nat) (i_bitEnd : Int32) (v_in : Nat → Int32)  (l3 : Int32) (i_order : Int32) (i_bit : Int32) (v_points : Nat → Int32) (v_placeOf : Nat → Int32) : Option (Int32 × Int32 × Int32 × (Nat → Int32) × (Nat → Int32)) :=
  if l3 ≤ 12 then
  bd1 (f_MM_givePlaces N i_order v_points v_placeOf) fun v_placeOf_2 =>
  nm (((i_bit + 7) / 8) * 8) fun i_bit_4 =>
  some (1, i_order, i_bit_4, v_points, v_placeOf_2)
  else
  some (0, i_order, i_bit, v_points, v_placeOf)
def f_MM_takeShare_b55 (N : Nat) (i_bitEnd : Int32) (v_in : Nat → Int32)  : Nat → Int32 → Int32 → Int32 → Int32 → (Nat → Int32) → (Nat → Int32) → Option (Int32 × Int32 × Int32 × (Nat → Int32) × (Nat → Int32))
  | 0, _, _, _, _, _, _ => none
  | z + 1, l2, l3, i_order, i_bit, v_points, v_placeOf =>
  if l2 ≤ 0 then
  f_MM_takeShare_b154 N i_bitEnd v_in  l3 i_order i_bit v_points v_placeOf
  else
  if l3 ≤ 11 then
  bd2 (f_MM_takeNumber N i_bitEnd v_in l2 i_bit) fun r_3 i_bit_4 =>
  f_MM_takeShare_b74 N i_bitEnd v_in (f_MM_takeShare_b55 N i_bitEnd v_in  z) l2 l3 r_3 i_order i_bit_4 v_points v_placeOf
  else
  f_MM_takeShare_b74 N i_bitEnd v_in (f_MM_takeShare_b55 N i_bitEnd v_in  z) l2 l3 (-1) i_order i_bit v_points v_placeOf
def f_MM_takeShare_b46 (N : Nat) (i_bitEnd : Int32) (v_in : Nat → Int32)  (i_order : Int32) (i_bit : Int32) (v_points : Nat → Int32) (v_placeOf : Nat → Int32) : Option (Int32 × Int32 × Int32 × (Nat → Int32) × (Nat → Int32)) :=
  nm ((1 : Int32) <<< (i_order &&& 31)) fun l2_1 =>
  f_MM_takeShare_b55 N i_bitEnd v_in  N l2_1 0 i_order i_bit v_points v_placeOf
def f_MM_takeShare_b27 (N : Nat) (i_bitEnd : Int32) (v_in : Nat → Int32)  : Nat → Int32 → Int32 → Int32 → (Nat → Int32) → (Nat → Int32) → Option (Int32 × Int32 × Int32 × (Nat → Int32) × (Nat → Int32))
  | 0, _, _, _, _, _ => none
  | z + 1, l2, i_order, i_bit, v_points, v_placeOf =>
  if 12 ≤ l2 then
  f_MM_takeShare_b46 N i_bitEnd v_in  i_order i_bit v_points v_placeOf
  else
  ck (inb l2 12) <|
  nm (upd v_points (Int32.toNatClampNeg l2) 0) fun v_points_3 =>
  nm (l2 + 1) fun l2_4 =>
  f_MM_takeShare_b27 N i_bitEnd v_in  z l2_4 i_order i_bit v_points_3 v_placeOf
def f_MM_takeShare (N : Nat) (i_bitEnd : Int32) (v_in : Nat → Int32)  (i_order : Int32) (i_bit : Int32) (v_points : Nat → Int32) (v_placeOf : Nat → Int32) : Option (Int32 × Int32 × Int32 × (Nat → Int32) × (Nat → Int32)) :=
  bd2 (f_MM_take N i_bitEnd v_in 4 i_bit) fun r_1 i_bit_2 =>
  if r_1 = (-1) then
  f_MM_takeShare_b16 N i_bitEnd v_in  i_order i_bit_2 v_points v_placeOf
  else
  if r_1 ≤ 1 then
  nm (r_1 + 5) fun i_order_6 =>
  f_MM_takeShare_b27 N i_bitEnd v_in  N 0 i_order_6 i_bit_2 v_points v_placeOf
  else
  f_MM_takeShare_b16 N i_bitEnd v_in  i_order i_bit_2 v_points v_placeOf
def f_MM_putWeight (N : Nat) (l1 : Int32)  (i_weights : Int32) (v_weight : Nat → Int32) : Option (Int32 × Int32 × (Nat → Int32)) :=
  if i_weights = 255 then
  some (0, i_weights, v_weight)
  else
  ck (inb i_weights 256) <|
  nm (upd v_weight (Int32.toNatClampNeg i_weights) l1) fun v_weight_3 =>
  nm (i_weights + 1) fun i_weights_4 =>
  some (1, i_weights_4, v_weight_3)
def f_MM_takeDown_b40 (N : Nat) (v_in : Nat → Int32) (l1 : Int32)  (l2 : Int32) (i_bitEnd : Int32) : Option (Int32 × Int32) :=
  some (l2, i_bitEnd)
def f_MM_takeDown_b14 (N : Nat) (v_in : Nat → Int32) (l1 : Int32)  : Nat → Int32 → Int32 → Int32 → Option (Int32 × Int32)
  | 0, _, _, _ => none
  | z + 1, l2, l3, i_bitEnd =>
  if l1 ≤ l3 then
  f_MM_takeDown_b40 N v_in l1  l2 i_bitEnd
  else
  bd1 (f_MM_bitAt N v_in (i_bitEnd + l3)) fun r_2 =>
  nm (l2 ||| (r_2 <<< (l3 &&& 31))) fun l2_4 =>
  nm (l3 + 1) fun l3_5 =>
  f_MM_takeDown_b14 N v_in l1  z l2_4 l3_5 i_bitEnd
def f_MM_takeDown (N : Nat) (v_in : Nat → Int32) (l1 : Int32)  (i_bitEnd : Int32) : Option (Int32 × Int32) :=
  nm (i_bitEnd - l1) fun i_bitEnd_1 =>
  f_MM_takeDown_b14 N v_in l1  N 0 0 i_bitEnd_1
def f_MM_takeRow_b28 (N : Nat) (i_order : Int32) (i_bit : Int32) (v_in : Nat → Int32) (v_points : Nat → Int32) (v_placeOf : Nat → Int32)  (i_weights : Int32) (i_bitEnd : Int32) (v_weight : Nat → Int32) : Option (Int32 × Int32 × Int32 × (Nat → Int32)) :=
  some (0, i_weights, i_bitEnd, v_weight)
def f_MM_takeRow_b124 (N : Nat) (i_order : Int32) (i_bit : Int32) (v_in : Nat → Int32) (v_points : Nat → Int32) (v_placeOf : Nat → Int32)  (i_weights : Int32) (i_bitEnd : Int32) (v_weight : Nat → Int32) : Option (Int32 × Int32 × Int32 × (Nat → Int32)) :=
  some (0, i_weights, i_bitEnd, v_weight)
def f_MM_takeRow_b147 (N : Nat) (i_order : Int32) (i_bit : Int32) (v_in : Nat → Int32) (v_points : Nat → Int32) (v_placeOf : Nat → Int32)  (l2 : Int32) (i_weights : Int32) (i_bitEnd : Int32) (v_weight : Nat → Int32) : Option (Int32 × Int32 × Int32 × (Nat → Int32)) :=
  ck (inb l2 64) <|
  bd3 (f_MM_putWeight N (v_placeOf (Int32.toNatClampNeg l2)) i_weights v_weight) fun r_2 i_weights_3 v_weight_4 =>
  ck (isb r_2) <|
  some (r_2, i_weights_3, i_bitEnd, v_weight_4)
def f_MM_takeRow_b183 (N : Nat) (i_order : Int32) (i_bit : Int32) (v_in : Nat → Int32) (v_points : Nat → Int32) (v_placeOf : Nat → Int32)  (i_weights : Int32) (i_bitEnd : Int32) (v_weight : Nat → Int32) : Option (Int32 × Int32 × Int32 × (Nat → Int32)) :=
  some (0, i_weights, i_bitEnd, v_weight)
def f_MM_takeRow_b104 (N : Nat) (i_order : Int32) (i_bit : Int32) (v_in : Nat → Int32) (v_points : Nat → Int32) (v_placeOf : Nat → Int32)  : Nat → Int32 → Int32 → Int32 → Int32 → Int32 → (Nat → Int32) → Option (Int32 × Int32 × Int32 × (Nat → Int32))
  | 0, _, _, _, _, _, _ => none
  | z + 1, l1, l2, l3, i_weights, i_bitEnd, v_weight =>
  if 256 ≤ l3 then
  f_MM_takeRow_b183 N i_order i_bit v_in v_points v_placeOf  i_weights i_bitEnd v_weight
  else
  ck (inb l1 64) <|
  bd3 (f_MM_putWeight N (v_placeOf (Int32.toNatClampNeg l1)) i_weights v_weight) fun r_3 i_weights_4 v_weight_5 =>
  if r_3 = 0 then
  f_MM_takeRow_b124 N i_order i_bit v_in v_points v_placeOf  i_weights_4 i_bitEnd v_weight_5
  else
  bd1 (f_MM_bitsOf N i_order v_points v_placeOf l1) fun r_8 =>
  if r_8 ≤ (i_bitEnd - i_bit) then
  bd1 (f_MM_baseOf N i_order v_points v_placeOf l1) fun r_11 =>
  bd2 (f_MM_takeDown N v_in r_8 i_bitEnd) fun r_13 i_bitEnd_14 =>
  nm (r_11 + r_13) fun l5_16 =>
  nm (l3 + 1) fun l3_17 =>
  f_MM_takeRow_b104 N i_order i_bit v_in v_points v_placeOf  z l2 l5_16 l3_17 i_weights_4 i_bitEnd_14 v_weight_5
  else
  f_MM_takeRow_b147 N i_order i_bit v_in v_points v_placeOf  l2 i_weights_4 i_bitEnd v_weight_5
def f_MM_takeRow_b64 (N : Nat) (i_order : Int32) (i_bit : Int32) (v_in : Nat → Int32) (v_points : Nat → Int32) (v_placeOf : Nat → Int32)  (i_weights : Int32) (i_bitEnd : Int32) (v_weight : Nat → Int32) : Option (Int32 × Int32 × Int32 × (Nat → Int32)) :=
  if (2 * i_order) ≤ (i_bitEnd - i_bit) then
  bd2 (f_MM_takeDown N v_in i_order i_bitEnd) fun r_2 i_bitEnd_3 =>
  bd2 (f_MM_takeDown N v_in i_order i_bitEnd_3) fun r_5 i_bitEnd_6 =>
  f_MM_takeRow_b104 N i_order i_bit v_in v_points v_placeOf  N r_2 r_5 0 i_weights i_bitEnd_6 v_weight
  else
  some (0, i_weights, i_bitEnd, v_weight)
def f_MM_takeRow_b40 (N : Nat) (i_order : Int32) (i_bit : Int32) (v_in : Nat → Int32) (v_points : Nat → Int32) (v_placeOf : Nat → Int32)  : Nat → Int32 → Int32 → (Nat → Int32) → Option (Int32 × Int32 × Int32 × (Nat → Int32))
  | 0, _, _, _ => none
  | z + 1, i_weights, i_bitEnd, v_weight =>
  bd1 (f_MM_bitAt N v_in i_bitEnd) fun r_1 =>
  if r_1 = 0 then
  nm (i_bitEnd - 1) fun i_bitEnd_4 =>
  f_MM_takeRow_b40 N i_order i_bit v_in v_points v_placeOf  z i_weights i_bitEnd_4 v_weight
  else
  f_MM_takeRow_b64 N i_order i_bit v_in v_points v_placeOf  i_weights i_bitEnd v_weight
def f_MM_takeRow (N : Nat) (i_order : Int32) (i_bit : Int32) (v_in : Nat → Int32) (v_points : Nat → Int32) (v_placeOf : Nat → Int32)  (i_weights : Int32) (i_bitEnd : Int32) (v_weight : Nat → Int32) : Option (Int32 × Int32 × Int32 × (Nat → Int32)) :=
  if i_bitEnd ≤ i_bit then
  f_MM_takeRow_b28 N i_order i_bit v_in v_points v_placeOf  i_weights i_bitEnd v_weight
  else
  ck (inb ((i_bitEnd / 8) - 1) 6000) <|
  if (v_in (Int32.toNatClampNeg ((i_bitEnd / 8) - 1))) = 0 then
  f_MM_takeRow_b28 N i_order i_bit v_in v_points v_placeOf  i_weights i_bitEnd v_weight
  else
  nm (i_bitEnd - 1) fun i_bitEnd_4 =>
  f_MM_takeRow_b40 N i_order i_bit v_in v_points v_placeOf  N i_weights i_bitEnd_4 v_weight
def f_MM_takeWeights_b114 (N : Nat) (i_inLong : Int32) (i_goesOn : Int32) (v_in : Nat → Int32) (k70 : Int32 → Int32 → Int32 → Int32 → Int32 → Int32 → (Nat → Int32) → (Nat → Int32) → (Nat → Int32) → Option (Int32 × Int32 × Int32 × Int32 × Int32 × (Nat → Int32) × (Nat → Int32) × (Nat → Int32))) (l1 : Int32) (l3 : Int32) (s0 : Int32) (i_weights : Int32) (i_order : Int32) (i_bit : Int32) (i_bitEnd : Int32) (v_weight : Nat → Int32) (v_points : Nat → Int32) (v_placeOf : Nat → Int32) : Option (Int32 × Int32 × Int32 × Int32 × Int32 × (Nat → Int32) × (Nat → Int32) × (Nat → Int32)) :=
  bd3 (f_MM_putWeight N s0 i_weights v_weight) fun r_1 i_weights_2 v_weight_3 =>
  nm (l3 + 1) fun l3_5 =>
  k70 l1 l3_5 i_weights_2 i_order i_bit i_bitEnd v_weight_3 v_points v_placeOf
def f_MM_takeWeights_b124 (N : Nat) (i_inLong : Int32) (i_goesOn : Int32) (v_in : Nat → Int32)  (i_weights : Int32) (i_order : Int32) (i_bit : Int32) (i_bitEnd : Int32) (v_weight : Nat → Int32) (v_points : Nat → Int32) (v_placeOf : Nat → Int32) : Option (Int32 × Int32 × Int32 × Int32 × Int32 × (Nat → Int32) × (Nat → Int32) × (Nat → Int32)) :=
  some (0, i_weights, i_order, i_bit, i_bitEnd, v_weight, v_points, v_placeOf)
def f_MM_takeWeights_b70 (N : Nat) (i_inLong : Int32) (i_goesOn : Int32) (v_in : Nat → Int32)  : Nat → Int32 → Int32 → Int32 → Int32 → Int32 → Int32 → (Nat → Int32) → (Nat → Int32) → (Nat → Int32) → Option (Int32 × Int32 × Int32 × Int32 × Int32 × (Nat → Int32) × (Nat → Int32) × (Nat → Int32))
  | 0, _, _, _, _, _, _, _, _, _ => none
  | z + 1, l1, l3, i_weights, i_order, i_bit, i_bitEnd, v_weight, v_points, v_placeOf =>
  if (l1 - 127) ≤ l3 then
  f_MM_takeWeights_b124 N i_inLong i_goesOn v_in  i_weights i_order i_bit i_bitEnd v_weight v_points v_placeOf
  else
  ck (inb ((i_goesOn + 1) + (l3 / 2)) 6000) <|
  nm (v_in (Int32.toNatClampNeg ((i_goesOn + 1) + (l3 / 2)))) fun l4_3 =>
  if (l3 - l3 / 2 * 2) = 0 then
  f_MM_takeWeights_b114 N i_inLong i_goesOn v_in (f_MM_takeWeights_b70 N i_inLong i_goesOn v_in  z) l1 l3 (l4_3 >>> ((4 : Int32) &&& 31)) i_weights i_order i_bit i_bitEnd v_weight v_points v_placeOf
  else
  f_MM_takeWeights_b114 N i_inLong i_goesOn v_in (f_MM_takeWeights_b70 N i_inLong i_goesOn v_in  z) l1 l3 (l4_3 &&& 15) i_weights i_order i_bit i_bitEnd v_weight v_points v_placeOf
def f_MM_takeWeights_b44 (N : Nat) (i_inLong : Int32) (i_goesOn : Int32) (v_in : Nat → Int32)  (l1 : Int32) (s0 : Int32) (i_weights : Int32) (i_order : Int32) (i_bit : Int32) (i_bitEnd : Int32) (v_weight : Nat → Int32) (v_points : Nat → Int32) (v_placeOf : Nat → Int32) : Option (Int32 × Int32 × Int32 × Int32 × Int32 × (Nat → Int32) × (Nat → Int32) × (Nat → Int32)) :=
  if ((i_goesOn + 1) + s0) ≤ i_inLong then
  if l1 ≤ 127 then
  nm (8 * (i_goesOn + 1)) fun i_bit_3 =>
  nm (8 * ((i_goesOn + 1) + s0)) fun i_bitEnd_4 =>
  bd5 (f_MM_takeShare N i_bitEnd_4 v_in i_order i_bit_3 v_points v_placeOf) fun r_5 i_order_6 i_bit_7 v_points_8 v_placeOf_9 =>
  if r_5 = 0 then
  some (2, i_weights, i_order_6, i_bit_7, i_bitEnd_4, v_weight, v_points_8, v_placeOf_9)
  else
  bd4 (f_MM_takeRow N i_order_6 i_bit_7 v_in v_points_8 v_placeOf_9 i_weights i_bitEnd_4 v_weight) fun r_12 i_weights_13 i_bitEnd_14 v_weight_15 =>
  if r_12 = 0 then
  some (3, i_weights_13, i_order_6, i_bit_7, i_bitEnd_14, v_weight_15, v_points_8, v_placeOf_9)
  else
  some (0, i_weights_13, i_order_6, i_bit_7, i_bitEnd_14, v_weight_15, v_points_8, v_placeOf_9)
  else
  f_MM_takeWeights_b70 N i_inLong i_goesOn v_in  N l1 0 i_weights i_order i_bit i_bitEnd v_weight v_points v_placeOf
  else
  some (1, i_weights, i_order, i_bit, i_bitEnd, v_weight, v_points, v_placeOf)
def f_MM_takeWeights (N : Nat) (i_inLong : Int32) (i_goesOn : Int32) (v_in : Nat → Int32)  (i_weights : Int32) (i_order : Int32) (i_bit : Int32) (i_bitEnd : Int32) (v_weight : Nat → Int32) (v_points : Nat → Int32) (v_placeOf : Nat → Int32) : Option (Int32 × Int32 × Int32 × Int32 × Int32 × (Nat → Int32) × (Nat → Int32) × (Nat → Int32)) :=
  if i_goesOn = i_inLong then
  some (1, i_weights, i_order, i_bit, i_bitEnd, v_weight, v_points, v_placeOf)
  else
  ck (inb i_goesOn 6000) <|
  nm (v_in (Int32.toNatClampNeg i_goesOn)) fun l1_3 =>
  if l1_3 ≤ 127 then
  f_MM_takeWeights_b44 N i_inLong i_goesOn v_in  l1_3 l1_3 0 i_order i_bit i_bitEnd v_weight v_points v_placeOf
  else
  f_MM_takeWeights_b44 N i_inLong i_goesOn v_in  l1_3 ((l1_3 - 126) / 2) 0 i_order i_bit i_bitEnd v_weight v_points v_placeOf
def f_MM_read_b46 (N : Nat) (i_inLong : Int32) (v_in : Nat → Int32) (k16 : Int32 → Int32 → Int32 → Int32 → Int32 → Int32 → Int32 → Int32 → (Nat → Int32) → (Nat → Int32) → (Nat → Int32) → (Nat → Int32) → (Nat → Int32) → (Nat → Int32) → Option (Int32 × Int32 × Int32 × Int32 × Int32 × Int32 × Int32 × (Nat → Int32) × (Nat → Int32) × (Nat → Int32) × (Nat → Int32) × (Nat → Int32) × (Nat → Int32))) (l2 : Int32) (l3 : Int32) (i_goesOn : Int32) (i_greatest : Int32) (i_weights : Int32) (i_order : Int32) (i_bit : Int32) (i_bitEnd : Int32) (v_length : Nat → Int32) (v_symbolOf : Nat → Int32) (v_draft : Nat → Int32) (v_weight : Nat → Int32) (v_points : Nat → Int32) (v_placeOf : Nat → Int32) : Option (Int32 × Int32 × Int32 × Int32 × Int32 × Int32 × Int32 × (Nat → Int32) × (Nat → Int32) × (Nat → Int32) × (Nat → Int32) × (Nat → Int32) × (Nat → Int32)) :=
  nm (l3 + 1) fun l3_1 =>
  k16 l2 l3_1 i_goesOn i_greatest i_weights i_order i_bit i_bitEnd v_length v_symbolOf v_draft v_weight v_points v_placeOf
def f_MM_read_b134 (N : Nat) (i_inLong : Int32) (v_in : Nat → Int32) (k111 : Int32 → Int32 → Int32 → Int32 → Int32 → Int32 → Int32 → Int32 → Int32 → Int32 → Int32 → Int32 → (Nat → Int32) → (Nat → Int32) → (Nat → Int32) → (Nat → Int32) → (Nat → Int32) → (Nat → Int32) → Option (Int32 × Int32 × Int32 × Int32 × Int32 × Int32 × Int32 × (Nat → Int32) × (Nat → Int32) × (Nat → Int32) × (Nat → Int32) × (Nat → Int32) × (Nat → Int32))) (l2 : Int32) (l3 : Int32) (l4 : Int32) (l5 : Int32) (l6 : Int32) (l7 : Int32) (i_goesOn : Int32) (i_greatest : Int32) (i_weights : Int32) (i_order : Int32) (i_bit : Int32) (i_bitEnd : Int32) (v_length : Nat → Int32) (v_symbolOf : Nat → Int32) (v_draft : Nat → Int32) (v_weight : Nat → Int32) (v_points : Nat → Int32) (v_placeOf : Nat → Int32) : Option (Int32 × Int32 × Int32 × Int32 × Int32 × Int32 × Int32 × (Nat → Int32) × (Nat → Int32) × (Nat → Int32) × (Nat → Int32) × (Nat → Int32) × (Nat → Int32)) :=
  nm (l7 + 1) fun l7_1 =>
  k111 l2 l3 l4 l5 l6 l7_1 i_goesOn i_greatest i_weights i_order i_bit i_bitEnd v_length v_symbolOf v_draft v_weight v_points v_placeOf
def f_MM_read_b167 (N : Nat) (i_inLong : Int32) (v_in : Nat → Int32)  (i_goesOn : Int32) (i_greatest : Int32) (i_weights : Int32) (i_order : Int32) (i_bit : Int32) (i_bitEnd : Int32) (v_length : Nat → Int32) (v_symbolOf : Nat → Int32) (v_draft : Nat → Int32) (v_weight : Nat → Int32) (v_points : Nat → Int32) (v_placeOf : Nat → Int32) : Option (Int32 × Int32 × Int32 × Int32 × Int32 × Int32 × Int32 × (Nat → Int32) × (Nat → Int32) × (Nat → Int32) × (Nat → Int32) × (Nat → Int32) × (Nat → Int32)) :=
  some ((-4), i_goesOn, i_greatest, i_weights, i_order, i_bit, i_bitEnd, v_length, v_symbolOf, v_draft, v_weight, v_points, v_placeOf)
def f_MM_read_b221 (N : Nat) (i_inLong : Int32) (v_in : Nat → Int32) (k173 : Int32 → Int32 → Int32 → Int32 → Int32 → Int32 → Int32 → Int32 → (Nat → Int32) → (Nat → Int32) → (Nat → Int32) → (Nat → Int32) → (Nat → Int32) → (Nat → Int32) → Option (Int32 × Int32 × Int32 × Int32 × Int32 × Int32 × Int32 × (Nat → Int32) × (Nat → Int32) × (Nat → Int32) × (Nat → Int32) × (Nat → Int32) × (Nat → Int32))) (l3 : Int32) (l7 : Int32) (s0 : Int32) (s1 : Int32) (i_goesOn : Int32) (i_greatest : Int32) (i_weights : Int32) (i_order : Int32) (i_bit : Int32) (i_bitEnd : Int32) (v_length : Nat → Int32) (v_symbolOf : Nat → Int32) (v_draft : Nat → Int32) (v_weight : Nat → Int32) (v_points : Nat → Int32) (v_placeOf : Nat → Int32) : Option (Int32 × Int32 × Int32 × Int32 × Int32 × Int32 × Int32 × (Nat → Int32) × (Nat → Int32) × (Nat → Int32) × (Nat → Int32) × (Nat → Int32) × (Nat → Int32)) :=
  ck (inb s1 256) <|
  nm (upd v_draft (Int32.toNatClampNeg s1) s0) fun v_draft_2 =>
  nm (l7 + 1) fun l7_3 =>
  k173 l3 l7_3 i_goesOn i_greatest i_weights i_order i_bit i_bitEnd v_length v_symbolOf v_draft_2 v_weight v_points v_placeOf
def f_MM_read_b220 (N : Nat) (i_inLong : Int32) (v_in : Nat → Int32) (k173 : Int32 → Int32 → Int32 → Int32 → Int32 → Int32 → Int32 → Int32 → (Nat → Int32) → (Nat → Int32) → (Nat → Int32) → (Nat → Int32) → (Nat → Int32) → (Nat → Int32) → Option (Int32 × Int32 × Int32 × Int32 × Int32 × Int32 × Int32 × (Nat → Int32) × (Nat → Int32) × (Nat → Int32) × (Nat → Int32) × (Nat → Int32) × (Nat → Int32))) (l3 : Int32) (l7 : Int32) (s0 : Int32) (i_goesOn : Int32) (i_greatest : Int32) (i_weights : Int32) (i_order : Int32) (i_bit : Int32) (i_bitEnd : Int32) (v_length : Nat → Int32) (v_symbolOf : Nat → Int32) (v_draft : Nat → Int32) (v_weight : Nat → Int32) (v_points : Nat → Int32) (v_placeOf : Nat → Int32) : Option (Int32 × Int32 × Int32 × Int32 × Int32 × Int32 × Int32 × (Nat → Int32) × (Nat → Int32) × (Nat → Int32) × (Nat → Int32) × (Nat → Int32) × (Nat → Int32)) :=
  f_MM_read_b221 N i_inLong v_in k173 l3 l7 0 s0 i_goesOn i_greatest i_weights i_order i_bit i_bitEnd v_length v_symbolOf v_draft v_weight v_points v_placeOf
def f_MM_read_b264 (N : Nat) (i_inLong : Int32) (v_in : Nat → Int32)  (l3 : Int32) (s0 : Int32) (s1 : Int32) (s2 : Int32) (i_goesOn : Int32) (i_greatest : Int32) (i_weights : Int32) (i_order : Int32) (i_bit : Int32) (i_bitEnd : Int32) (v_length : Nat → Int32) (v_symbolOf : Nat → Int32) (v_draft : Nat → Int32) (v_weight : Nat → Int32) (v_points : Nat → Int32) (v_placeOf : Nat → Int32) : Option (Int32 × Int32 × Int32 × Int32 × Int32 × Int32 × Int32 × (Nat → Int32) × (Nat → Int32) × (Nat → Int32) × (Nat → Int32) × (Nat → Int32) × (Nat → Int32)) :=
  nm (s2 + (s1 + s0)) fun i_goesOn_1 =>
  bd4 (f_MM_settle N v_draft l3 i_greatest v_length v_symbolOf) fun r_2 i_greatest_3 v_length_4 v_symbolOf_5 =>
  some (r_2, i_goesOn_1, i_greatest_3, i_weights, i_order, i_bit, i_bitEnd, v_length_4, v_symbolOf_5, v_draft, v_weight, v_points, v_placeOf)
def f_MM_read_b228 (N : Nat) (i_inLong : Int32) (v_in : Nat → Int32)  (l3 : Int32) (i_goesOn : Int32) (i_greatest : Int32) (i_weights : Int32) (i_order : Int32) (i_bit : Int32) (i_bitEnd : Int32) (v_length : Nat → Int32) (v_symbolOf : Nat → Int32) (v_draft : Nat → Int32) (v_weight : Nat → Int32) (v_points : Nat → Int32) (v_placeOf : Nat → Int32) : Option (Int32 × Int32 × Int32 × Int32 × Int32 × Int32 × Int32 × (Nat → Int32) × (Nat → Int32) × (Nat → Int32) × (Nat → Int32) × (Nat → Int32) × (Nat → Int32)) :=
  ck (inb i_goesOn 6000) <|
  nm (v_in (Int32.toNatClampNeg i_goesOn)) fun l7_2 =>
  if l7_2 ≤ 127 then
  f_MM_read_b264 N i_inLong v_in  l3 l7_2 1 i_goesOn i_goesOn i_greatest i_weights i_order i_bit i_bitEnd v_length v_symbolOf v_draft v_weight v_points v_placeOf
  else
  f_MM_read_b264 N i_inLong v_in  l3 ((l7_2 - 126) / 2) 1 i_goesOn i_goesOn i_greatest i_weights i_order i_bit i_bitEnd v_length v_symbolOf v_draft v_weight v_points v_placeOf
def f_MM_read_b173 (N : Nat) (i_inLong : Int32) (v_in : Nat → Int32)  : Nat → Int32 → Int32 → Int32 → Int32 → Int32 → Int32 → Int32 → Int32 → (Nat → Int32) → (Nat → Int32) → (Nat → Int32) → (Nat → Int32) → (Nat → Int32) → (Nat → Int32) → Option (Int32 × Int32 × Int32 × Int32 × Int32 × Int32 × Int32 × (Nat → Int32) × (Nat → Int32) × (Nat → Int32) × (Nat → Int32) × (Nat → Int32) × (Nat → Int32))
  | 0, _, _, _, _, _, _, _, _, _, _, _, _, _, _ => none
  | z + 1, l3, l7, i_goesOn, i_greatest, i_weights, i_order, i_bit, i_bitEnd, v_length, v_symbolOf, v_draft, v_weight, v_points, v_placeOf =>
  if 256 ≤ l7 then
  f_MM_read_b228 N i_inLong v_in  l3 i_goesOn i_greatest i_weights i_order i_bit i_bitEnd v_length v_symbolOf v_draft v_weight v_points v_placeOf
  else
  if i_weights < l7 then
  f_MM_read_b220 N i_inLong v_in (f_MM_read_b173 N i_inLong v_in  z) l3 l7 l7 i_goesOn i_greatest i_weights i_order i_bit i_bitEnd v_length v_symbolOf v_draft v_weight v_points v_placeOf
  else
  ck (inb l7 256) <|
  if (v_weight (Int32.toNatClampNeg l7)) ≤ 0 then
  f_MM_read_b220 N i_inLong v_in (f_MM_read_b173 N i_inLong v_in  z) l3 l7 l7 i_goesOn i_greatest i_weights i_order i_bit i_bitEnd v_length v_symbolOf v_draft v_weight v_points v_placeOf
  else
  ck (inb l7 256) <|
  f_MM_read_b221 N i_inLong v_in (f_MM_read_b173 N i_inLong v_in  z) l3 l7 ((l3 + 1) - (v_weight (Int32.toNatClampNeg l7))) l7 i_goesOn i_greatest i_weights i_order i_bit i_bitEnd v_length v_symbolOf v_draft v_weight v_points v_placeOf
def f_MM_read_b140 (N : Nat) (i_inLong : Int32) (v_in : Nat → Int32)  (l2 : Int32) (l3 : Int32) (l4 : Int32) (l5 : Int32) (l6 : Int32) (i_goesOn : Int32) (i_greatest : Int32) (i_weights : Int32) (i_order : Int32) (i_bit : Int32) (i_bitEnd : Int32) (v_length : Nat → Int32) (v_symbolOf : Nat → Int32) (v_draft : Nat → Int32) (v_weight : Nat → Int32) (v_points : Nat → Int32) (v_placeOf : Nat → Int32) : Option (Int32 × Int32 × Int32 × Int32 × Int32 × Int32 × Int32 × (Nat → Int32) × (Nat → Int32) × (Nat → Int32) × (Nat → Int32) × (Nat → Int32) × (Nat → Int32)) :=
  if l2 = 0 then
  f_MM_read_b167 N i_inLong v_in  i_goesOn i_greatest i_weights i_order i_bit i_bitEnd v_length v_symbolOf v_draft v_weight v_points v_placeOf
  else
  if 11 < l3 then
  f_MM_read_b167 N i_inLong v_in  i_goesOn i_greatest i_weights i_order i_bit i_bitEnd v_length v_symbolOf v_draft v_weight v_points v_placeOf
  else
  if ((1 : Int32) <<< ((l5 - 1) &&& 31)) = l4 then
  if 2 ≤ l6 then
  f_MM_read_b173 N i_inLong v_in  N l3 0 i_goesOn i_greatest i_weights i_order i_bit i_bitEnd v_length v_symbolOf v_draft v_weight v_points v_placeOf
  else
  f_MM_read_b167 N i_inLong v_in  i_goesOn i_greatest i_weights i_order i_bit i_bitEnd v_length v_symbolOf v_draft v_weight v_points v_placeOf
  else
  f_MM_read_b167 N i_inLong v_in  i_goesOn i_greatest i_weights i_order i_bit i_bitEnd v_length v_symbolOf v_draft v_weight v_points v_placeOf
def f_MM_read_b111 (N : Nat) (i_inLong : Int32) (v_in : Nat → Int32)  : Nat → Int32 → Int32 → Int32 → Int32 → Int32 → Int32 → Int32 → Int32 → Int32 → Int32 → Int32 → Int32 → (Nat → Int32) → (Nat → Int32) → (Nat → Int32) → (Nat → Int32) → (Nat → Int32) → (Nat → Int32) → Option (Int32 × Int32 × Int32 × Int32 × Int32 × Int32 × Int32 × (Nat → Int32) × (Nat → Int32) × (Nat → Int32) × (Nat → Int32) × (Nat → Int32) × (Nat → Int32))
  | 0, _, _, _, _, _, _, _, _, _, _, _, _, _, _, _, _, _, _ => none
  | z + 1, l2, l3, l4, l5, l6, l7, i_goesOn, i_greatest, i_weights, i_order, i_bit, i_bitEnd, v_length, v_symbolOf, v_draft, v_weight, v_points, v_placeOf =>
  if i_weights < l7 then
  f_MM_read_b140 N i_inLong v_in  l2 l3 l4 l5 l6 i_goesOn i_greatest i_weights i_order i_bit i_bitEnd v_length v_symbolOf v_draft v_weight v_points v_placeOf
  else
  ck (inb l7 256) <|
  if (v_weight (Int32.toNatClampNeg l7)) = 1 then
  nm (l6 + 1) fun l6_4 =>
  f_MM_read_b134 N i_inLong v_in (f_MM_read_b111 N i_inLong v_in  z) l2 l3 l4 l5 l6_4 l7 i_goesOn i_greatest i_weights i_order i_bit i_bitEnd v_length v_symbolOf v_draft v_weight v_points v_placeOf
  else
  f_MM_read_b134 N i_inLong v_in (f_MM_read_b111 N i_inLong v_in  z) l2 l3 l4 l5 l6 l7 i_goesOn i_greatest i_weights i_order i_bit i_bitEnd v_length v_symbolOf v_draft v_weight v_points v_placeOf
def f_MM_read_b94 (N : Nat) (i_inLong : Int32) (v_in : Nat → Int32)  (l2 : Int32) (l3 : Int32) (l4 : Int32) (l5 : Int32) (i_goesOn : Int32) (i_greatest : Int32) (i_weights : Int32) (i_order : Int32) (i_bit : Int32) (i_bitEnd : Int32) (v_length : Nat → Int32) (v_symbolOf : Nat → Int32) (v_draft : Nat → Int32) (v_weight : Nat → Int32) (v_points : Nat → Int32) (v_placeOf : Nat → Int32) : Option (Int32 × Int32 × Int32 × Int32 × Int32 × Int32 × Int32 × (Nat → Int32) × (Nat → Int32) × (Nat → Int32) × (Nat → Int32) × (Nat → Int32) × (Nat → Int32)) :=
  ck (inb i_weights 256) <|
  nm (upd v_weight (Int32.toNatClampNeg i_weights) l5) fun v_weight_2 =>
  f_MM_read_b111 N i_inLong v_in  N l2 l3 l4 l5 0 0 i_goesOn i_greatest i_weights i_order i_bit i_bitEnd v_length v_symbolOf v_draft v_weight_2 v_points v_placeOf
def f_MM_read_b77 (N : Nat) (i_inLong : Int32) (v_in : Nat → Int32)  : Nat → Int32 → Int32 → Int32 → Int32 → Int32 → Int32 → Int32 → Int32 → Int32 → Int32 → (Nat → Int32) → (Nat → Int32) → (Nat → Int32) → (Nat → Int32) → (Nat → Int32) → (Nat → Int32) → Option (Int32 × Int32 × Int32 × Int32 × Int32 × Int32 × Int32 × (Nat → Int32) × (Nat → Int32) × (Nat → Int32) × (Nat → Int32) × (Nat → Int32) × (Nat → Int32))
  | 0, _, _, _, _, _, _, _, _, _, _, _, _, _, _, _, _ => none
  | z + 1, l2, l3, l4, l5, i_goesOn, i_greatest, i_weights, i_order, i_bit, i_bitEnd, v_length, v_symbolOf, v_draft, v_weight, v_points, v_placeOf =>
  if l4 ≤ ((1 : Int32) <<< ((l5 - 1) &&& 31)) then
  f_MM_read_b94 N i_inLong v_in  l2 l3 l4 l5 i_goesOn i_greatest i_weights i_order i_bit i_bitEnd v_length v_symbolOf v_draft v_weight v_points v_placeOf
  else
  nm (l5 + 1) fun l5_2 =>
  f_MM_read_b77 N i_inLong v_in  z l2 l3 l4 l5_2 i_goesOn i_greatest i_weights i_order i_bit i_bitEnd v_length v_symbolOf v_draft v_weight v_points v_placeOf
def f_MM_read_b67 (N : Nat) (i_inLong : Int32) (v_in : Nat → Int32)  (l2 : Int32) (l3 : Int32) (i_goesOn : Int32) (i_greatest : Int32) (i_weights : Int32) (i_order : Int32) (i_bit : Int32) (i_bitEnd : Int32) (v_length : Nat → Int32) (v_symbolOf : Nat → Int32) (v_draft : Nat → Int32) (v_weight : Nat → Int32) (v_points : Nat → Int32) (v_placeOf : Nat → Int32) : Option (Int32 × Int32 × Int32 × Int32 × Int32 × Int32 × Int32 × (Nat → Int32) × (Nat → Int32) × (Nat → Int32) × (Nat → Int32) × (Nat → Int32) × (Nat → Int32)) :=
  nm (((1 : Int32) <<< (l3 &&& 31)) - l2) fun l4_1 =>
  f_MM_read_b77 N i_inLong v_in  N l2 l3 l4_1 1 i_goesOn i_greatest i_weights i_order i_bit i_bitEnd v_length v_symbolOf v_draft v_weight v_points v_placeOf
def f_MM_read_b54 (N : Nat) (i_inLong : Int32) (v_in : Nat → Int32)  : Nat → Int32 → Int32 → Int32 → Int32 → Int32 → Int32 → Int32 → Int32 → (Nat → Int32) → (Nat → Int32) → (Nat → Int32) → (Nat → Int32) → (Nat → Int32) → (Nat → Int32) → Option (Int32 × Int32 × Int32 × Int32 × Int32 × Int32 × Int32 × (Nat → Int32) × (Nat → Int32) × (Nat → Int32) × (Nat → Int32) × (Nat → Int32) × (Nat → Int32))
  | 0, _, _, _, _, _, _, _, _, _, _, _, _, _, _ => none
  | z + 1, l2, l3, i_goesOn, i_greatest, i_weights, i_order, i_bit, i_bitEnd, v_length, v_symbolOf, v_draft, v_weight, v_points, v_placeOf =>
  if l2 < ((1 : Int32) <<< (l3 &&& 31)) then
  f_MM_read_b67 N i_inLong v_in  l2 l3 i_goesOn i_greatest i_weights i_order i_bit i_bitEnd v_length v_symbolOf v_draft v_weight v_points v_placeOf
  else
  nm (l3 + 1) fun l3_2 =>
  f_MM_read_b54 N i_inLong v_in  z l2 l3_2 i_goesOn i_greatest i_weights i_order i_bit i_bitEnd v_length v_symbolOf v_draft v_weight v_points v_placeOf
def f_MM_read_b52 (N : Nat) (i_inLong : Int32) (v_in : Nat → Int32)  (l2 : Int32) (i_goesOn : Int32) (i_greatest : Int32) (i_weights : Int32) (i_order : Int32) (i_bit : Int32) (i_bitEnd : Int32) (v_length : Nat → Int32) (v_symbolOf : Nat → Int32) (v_draft : Nat → Int32) (v_weight : Nat → Int32) (v_points : Nat → Int32) (v_placeOf : Nat → Int32) : Option (Int32 × Int32 × Int32 × Int32 × Int32 × Int32 × Int32 × (Nat → Int32) × (Nat → Int32) × (Nat → Int32) × (Nat → Int32) × (Nat → Int32) × (Nat → Int32)) :=
  f_MM_read_b54 N i_inLong v_in  N l2 0 i_goesOn i_greatest i_weights i_order i_bit i_bitEnd v_length v_symbolOf v_draft v_weight v_points v_placeOf
def f_MM_read_b16 (N : Nat) (i_inLong : Int32) (v_in : Nat → Int32)  : Nat → Int32 → Int32 → Int32 → Int32 → Int32 → Int32 → Int32 → Int32 → (Nat → Int32) → (Nat → Int32) → (Nat → Int32) → (Nat → Int32) → (Nat → Int32) → (Nat → Int32) → Option (Int32 × Int32 × Int32 × Int32 × Int32 × Int32 × Int32 × (Nat → Int32) × (Nat → Int32) × (Nat → Int32) × (Nat → Int32) × (Nat → Int32) × (Nat → Int32))
  | 0, _, _, _, _, _, _, _, _, _, _, _, _, _, _ => none
  | z + 1, l2, l3, i_goesOn, i_greatest, i_weights, i_order, i_bit, i_bitEnd, v_length, v_symbolOf, v_draft, v_weight, v_points, v_placeOf =>
  if i_weights ≤ l3 then
  f_MM_read_b52 N i_inLong v_in  l2 i_goesOn i_greatest i_weights i_order i_bit i_bitEnd v_length v_symbolOf v_draft v_weight v_points v_placeOf
  else
  ck (inb l3 256) <|
  if (v_weight (Int32.toNatClampNeg l3)) ≤ 0 then
  f_MM_read_b46 N i_inLong v_in (f_MM_read_b16 N i_inLong v_in  z) l2 l3 i_goesOn i_greatest i_weights i_order i_bit i_bitEnd v_length v_symbolOf v_draft v_weight v_points v_placeOf
  else
  ck (inb l3 256) <|
  nm (l2 + ((1 : Int32) <<< (((v_weight (Int32.toNatClampNeg l3)) - 1) &&& 31))) fun l2_5 =>
  f_MM_read_b46 N i_inLong v_in (f_MM_read_b16 N i_inLong v_in  z) l2_5 l3 i_goesOn i_greatest i_weights i_order i_bit i_bitEnd v_length v_symbolOf v_draft v_weight v_points v_placeOf
def f_MM_read (N : Nat) (i_inLong : Int32) (v_in : Nat → Int32)  (i_goesOn : Int32) (i_greatest : Int32) (i_weights : Int32) (i_order : Int32) (i_bit : Int32) (i_bitEnd : Int32) (v_length : Nat → Int32) (v_symbolOf : Nat → Int32) (v_draft : Nat → Int32) (v_weight : Nat → Int32) (v_points : Nat → Int32) (v_placeOf : Nat → Int32) : Option (Int32 × Int32 × Int32 × Int32 × Int32 × Int32 × Int32 × (Nat → Int32) × (Nat → Int32) × (Nat → Int32) × (Nat → Int32) × (Nat → Int32) × (Nat → Int32)) :=
  bd8 (f_MM_takeWeights N i_inLong i_goesOn v_in i_weights i_order i_bit i_bitEnd v_weight v_points v_placeOf) fun r_1 i_weights_2 i_order_3 i_bit_4 i_bitEnd_5 v_weight_6 v_points_7 v_placeOf_8 =>
  if r_1 = 0 then
  f_MM_read_b16 N i_inLong v_in  N 0 0 i_goesOn i_greatest i_weights_2 i_order_3 i_bit_4 i_bitEnd_5 v_length v_symbolOf v_draft v_weight_6 v_points_7 v_placeOf_8
  else
  some ((-r_1), i_goesOn, i_greatest, i_weights_2, i_order_3, i_bit_4, i_bitEnd_5, v_length, v_symbolOf, v_draft, v_weight_6, v_points_7, v_placeOf_8)
def f_MM_size (N : Nat) (i_outLong : Int32)   : Option (Int32) :=
  some (i_outLong)
def f_MM_byteAt_b12 (N : Nat) (i_outLong : Int32) (v_out : Nat → Int32) (l1 : Int32)   : Option (Int32) :=
  some ((-1))
def f_MM_byteAt (N : Nat) (i_outLong : Int32) (v_out : Nat → Int32) (l1 : Int32)   : Option (Int32) :=
  if l1 < 0 then
  f_MM_byteAt_b12 N i_outLong v_out l1  
  else
  if l1 < i_outLong then
  ck (inb l1 6000) <|
  some ((v_out (Int32.toNatClampNeg l1)))
  else
  f_MM_byteAt_b12 N i_outLong v_out l1  
