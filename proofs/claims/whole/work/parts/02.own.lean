def f_Row_add (N : Nat) (i_room : Int32) (n_words : Nat) (l1 : Int32)  (i_used : Int32) (v_words : Nat → Int64) : Option (Int32 × (Nat → Int64)) :=
  if i_room ≤ i_used then
  some (i_used, v_words)
  else
  nm (8 * (i_used &&& 7)) fun l2_2 =>
  nm (i_used >>> (3 &&& 31)) fun l3_3 =>
  ck (inb l3_3 n_words) <|
  ck (inb l3_3 n_words) <|
  nm (vp_updL v_words (Int32.toNatClampNeg l3_3) (((v_words (Int32.toNatClampNeg l3_3)) &&& (((255 : Int64) <<< (Int32.toInt64 l2_2 &&& 63)) ^^^ (-1))) ||| (((Int32.toInt64 l1) &&& 255) <<< (Int32.toInt64 l2_2 &&& 63)))) fun v_words_6 =>
  nm (i_used + 1) fun i_used_7 =>
  some (i_used_7, v_words_6)
def f_PM_write_b26 (N : Nat) (i_in_room : Int32) (n_in_words : Nat) (l1 : Int64) (l3 : Int32)  (i_in_used : Int32) (v_in_words : Nat → Int64) : Option (Int32 × Int32 × (Nat → Int64)) :=
  some (0, i_in_used, v_in_words)
def f_PM_write_b65 (N : Nat) (i_in_room : Int32) (n_in_words : Nat) (l1 : Int64) (l3 : Int32)  (i_in_used : Int32) (v_in_words : Nat → Int64) : Option (Int32 × Int32 × (Nat → Int64)) :=
  some (1, i_in_used, v_in_words)
def f_PM_write_b31 (N : Nat) (i_in_room : Int32) (n_in_words : Nat) (l1 : Int64) (l3 : Int32)  : Nat → Int32 → Int32 → (Nat → Int64) → Option (Int32 × Int32 × (Nat → Int64))
  | 0, _, _, _ => none
  | z + 1, l4, i_in_used, v_in_words =>
  if l3 ≤ l4 then
  f_PM_write_b65 N i_in_room n_in_words l1 l3  i_in_used v_in_words
  else
  bd2 (f_Row_add N i_in_room n_in_words ((Int64.toInt32 ((Int64.toUInt64 l1 >>> (Int64.toUInt64 (Int32.toInt64 (56 - (8 * l4))) &&& Int64.toUInt64 63)).toInt64)) &&& 255) i_in_used v_in_words) fun i_in_used_2 v_in_words_3 =>
  nm (l4 + 1) fun l4_5 =>
  f_PM_write_b31 N i_in_room n_in_words l1 l3  z l4_5 i_in_used_2 v_in_words_3
def f_PM_write (N : Nat) (i_in_room : Int32) (n_in_words : Nat) (l1 : Int64) (l3 : Int32)  (i_in_used : Int32) (v_in_words : Nat → Int64) : Option (Int32 × Int32 × (Nat → Int64)) :=
  if l3 < 1 then
  f_PM_write_b26 N i_in_room n_in_words l1 l3  i_in_used v_in_words
  else
  if 8 < l3 then
  f_PM_write_b26 N i_in_room n_in_words l1 l3  i_in_used v_in_words
  else
  if l3 ≤ (6000 - i_in_used) then
  f_PM_write_b31 N i_in_room n_in_words l1 l3  N 0 i_in_used v_in_words
  else
  f_PM_write_b26 N i_in_room n_in_words l1 l3  i_in_used v_in_words
def f_Row_get_b12 (N : Nat) (i_used : Int32) (n_words : Nat) (v_words : Nat → Int64) (l1 : Int32)   : Option (Int32) :=
  some ((-1))
def f_Row_get (N : Nat) (i_used : Int32) (n_words : Nat) (v_words : Nat → Int64) (l1 : Int32)   : Option (Int32) :=
  if l1 < 0 then
  f_Row_get_b12 N i_used n_words v_words l1  
  else
  if l1 < i_used then
  ck (inb (l1 >>> (3 &&& 31)) n_words) <|
  some (((Int64.toInt32 ((Int64.toUInt64 (v_words (Int32.toNatClampNeg (l1 >>> (3 &&& 31)))) >>> (Int64.toUInt64 (Int32.toInt64 (8 * (l1 &&& 7))) &&& Int64.toUInt64 63)).toInt64)) &&& 255))
  else
  f_Row_get_b12 N i_used n_words v_words l1  
def f_PM_again_b41 (N : Nat) (i_in_room : Int32) (n_in_words : Nat) (l1 : Int32) (l2 : Int32)  (i_in_used : Int32) (v_in_words : Nat → Int64) : Option (Int32 × Int32 × (Nat → Int64)) :=
  some (0, i_in_used, v_in_words)
def f_PM_again_b85 (N : Nat) (i_in_room : Int32) (n_in_words : Nat) (l1 : Int32) (l2 : Int32)  (i_in_used : Int32) (v_in_words : Nat → Int64) : Option (Int32 × Int32 × (Nat → Int64)) :=
  some (1, i_in_used, v_in_words)
def f_PM_again_b50 (N : Nat) (i_in_room : Int32) (n_in_words : Nat) (l1 : Int32) (l2 : Int32)  : Nat → Int32 → Int32 → Int32 → (Nat → Int64) → Option (Int32 × Int32 × (Nat → Int64))
  | 0, _, _, _, _ => none
  | z + 1, l3, l4, i_in_used, v_in_words =>
  if l3 ≤ l4 then
  f_PM_again_b85 N i_in_room n_in_words l1 l2  i_in_used v_in_words
  else
  bd1 (f_Row_get N i_in_used n_in_words v_in_words (i_in_used - l1)) fun r_2 =>
  bd2 (f_Row_add N i_in_room n_in_words r_2 i_in_used v_in_words) fun i_in_used_4 v_in_words_5 =>
  nm (l4 + 1) fun l4_7 =>
  f_PM_again_b50 N i_in_room n_in_words l1 l2  z l3 l4_7 i_in_used_4 v_in_words_5
def f_PM_again (N : Nat) (i_in_room : Int32) (n_in_words : Nat) (l1 : Int32) (l2 : Int32)  (i_in_used : Int32) (v_in_words : Nat → Int64) : Option (Int32 × Int32 × (Nat → Int64)) :=
  if l1 < 1 then
  f_PM_again_b41 N i_in_room n_in_words l1 l2  i_in_used v_in_words
  else
  if i_in_used < l1 then
  f_PM_again_b41 N i_in_room n_in_words l1 l2  i_in_used v_in_words
  else
  if l2 < 0 then
  f_PM_again_b41 N i_in_room n_in_words l1 l2  i_in_used v_in_words
  else
  if (lg_cmp ((Int32.toInt64 l1) * (Int32.toInt64 l2)) (Int32.toInt64 (6000 - i_in_used))) ≤ 0 then
  nm (l1 * l2) fun l3_5 =>
  f_PM_again_b50 N i_in_room n_in_words l1 l2  N l3_5 0 i_in_used v_in_words
  else
  f_PM_again_b41 N i_in_room n_in_words l1 l2  i_in_used v_in_words
def f_JMath_min (N : Nat) (l0 : Int32) (l1 : Int32)   : Option (Int32) :=
  if l1 < l0 then
  some (l1)
  else
  some (l0)
def f_Row_copy (N : Nat) (i_room : Int32) (n_words : Nat) (i_p1_used : Int32) (n_p1_words : Nat) (v_p1_words : Nat → Int64)  (i_used : Int32) (v_words : Nat → Int64) : Option (Int32 × (Nat → Int64)) :=
  bd1 (f_JMath_min N (Int32.ofNat n_words) (Int32.ofNat n_p1_words)) fun r_1 =>
  ck (cpb 0 0 r_1 n_p1_words n_words) <|
  nm (va_cpy v_p1_words v_words (Int32.toNatClampNeg 0) (Int32.toNatClampNeg 0) (Int32.toNatClampNeg r_1)) fun v_words_4 =>
  bd1 (f_JMath_min N i_p1_used i_room) fun r_5 =>
  some (r_5, v_words_4)
def f_PM_turn (N : Nat) (i_in_room : Int32) (n_in_words : Nat) (i_out_used : Int32) (n_out_words : Nat) (v_out_words : Nat → Int64)  (i_place : Int32) (i_in_used : Int32) (v_in_words : Nat → Int64) : Option (Int32 × Int32 × (Nat → Int64)) :=
  bd2 (f_Row_copy N i_in_room n_in_words i_out_used n_out_words v_out_words i_in_used v_in_words) fun i_in_used_1 v_in_words_2 =>
  some (0, i_in_used_1, v_in_words_2)
def f_Row_empty (N : Nat)   (i_used : Int32) : Option (Int32) :=
  some (0)
def f_JArr_fill_b5 (N : Nat) (n_p1 : Nat) (l1 : Int32)  : Nat → Int32 → Int32 → (Nat → Int32) → Option ((Nat → Int32))
  | 0, _, _, _ => none
  | z + 1, l2, l3, v_p1 =>
  if l3 ≤ l2 then
  some (v_p1)
  else
  ck (inb l2 n_p1) <|
  nm (upd v_p1 (Int32.toNatClampNeg l2) l1) fun v_p1_3 =>
  nm (l2 + 1) fun l2_4 =>
  f_JArr_fill_b5 N n_p1 l1  z l2_4 l3 v_p1_3
def f_JArr_fill (N : Nat) (n_p1 : Nat) (l1 : Int32)  (v_p1 : Nat → Int32) : Option ((Nat → Int32)) :=
  nm (Int32.ofNat n_p1) fun l3_1 =>
  f_JArr_fill_b5 N n_p1 l1  N 0 l3_1 v_p1
def f_PM_clear (N : Nat)   (i_place : Int32) (i_in_used : Int32) (v_counts : Nat → Int32) : Option (Int32 × Int32 × (Nat → Int32)) :=
  bd1 (f_Row_empty N i_in_used) fun i_in_used_1 =>
  bd1 (f_JArr_fill N 256 0 v_counts) fun v_counts_3 =>
  some (0, i_in_used_1, v_counts_3)
def f_PM_place_b15 (N : Nat) (i_in_used : Int32) (l1 : Int32)  (i_place : Int32) : Option (Int32 × Int32) :=
  some (0, i_place)
def f_PM_place (N : Nat) (i_in_used : Int32) (l1 : Int32)  (i_place : Int32) : Option (Int32 × Int32) :=
  if l1 < 0 then
  f_PM_place_b15 N i_in_used l1  i_place
  else
  if l1 ≤ i_in_used then
  some (1, l1)
  else
  f_PM_place_b15 N i_in_used l1  i_place
def f_PM_at (N : Nat) (i_place : Int32)   : Option (Int32) :=
  some (i_place)
def f_PM_isSymbol_b15 (N : Nat) (l0 : Int32)   : Option (Int32) :=
  some (0)
def f_PM_isSymbol (N : Nat) (l0 : Int32)   : Option (Int32) :=
  if l0 < 0 then
  f_PM_isSymbol_b15 N l0  
  else
  if 256 ≤ l0 then
  f_PM_isSymbol_b15 N l0  
  else
  some (1)
def f_PM_count_b17 (N : Nat) (l1 : Int32) (l2 : Int32)  (v_counts : Nat → Int32) : Option (Int32 × (Nat → Int32)) :=
  some (0, v_counts)
def f_PM_count (N : Nat) (l1 : Int32) (l2 : Int32)  (v_counts : Nat → Int32) : Option (Int32 × (Nat → Int32)) :=
  bd1 (f_PM_isSymbol N l1) fun r_1 =>
  if r_1 = 0 then
  f_PM_count_b17 N l1 l2  v_counts
  else
  if l2 < 0 then
  f_PM_count_b17 N l1 l2  v_counts
  else
  if l2 ≤ 65535 then
  ck (inb l1 256) <|
  nm (upd v_counts (Int32.toNatClampNeg l1) l2) fun v_counts_7 =>
  some (1, v_counts_7)
  else
  f_PM_count_b17 N l1 l2  v_counts
def f_PM_countAll_b47 (N : Nat) (i_place : Int32) (i_in_used : Int32) (n_in_words : Nat) (v_in_words : Nat → Int64)  (v_counts : Nat → Int32) : Option (Int32 × (Nat → Int32)) :=
  some ((i_in_used - i_place), v_counts)
def f_PM_countAll_b13 (N : Nat) (i_place : Int32) (i_in_used : Int32) (n_in_words : Nat) (v_in_words : Nat → Int64)  : Nat → Int32 → (Nat → Int32) → Option (Int32 × (Nat → Int32))
  | 0, _, _ => none
  | z + 1, l1, v_counts =>
  if i_in_used ≤ l1 then
  f_PM_countAll_b47 N i_place i_in_used n_in_words v_in_words  v_counts
  else
  bd1 (f_Row_get N i_in_used n_in_words v_in_words l1) fun r_2 =>
  ck (inb r_2 256) <|
  ck (inb r_2 256) <|
  nm (upd v_counts (Int32.toNatClampNeg r_2) ((v_counts (Int32.toNatClampNeg r_2)) + 1)) fun v_counts_6 =>
  nm (l1 + 1) fun l1_7 =>
  f_PM_countAll_b13 N i_place i_in_used n_in_words v_in_words  z l1_7 v_counts_6
def f_PM_countAll (N : Nat) (i_place : Int32) (i_in_used : Int32) (n_in_words : Nat) (v_in_words : Nat → Int64)  (v_counts : Nat → Int32) : Option (Int32 × (Nat → Int32)) :=
  bd1 (f_JArr_fill N 256 0 v_counts) fun v_counts_1 =>
  f_PM_countAll_b13 N i_place i_in_used n_in_words v_in_words  N i_place v_counts_1
def f_Tree_plant_b39 (N : Nat) (n_p1 : Nat) (v_p1 : Nat → Int32) (k7 : Int32 → Int32 → (Nat → Int32) → Option (Int32 × Int32 × (Nat → Int32))) (l2 : Int32) (i_known : Int32) (v_halves : Nat → Int32) : Option (Int32 × Int32 × (Nat → Int32)) :=
  nm (l2 + 1) fun l2_1 =>
  k7 l2_1 i_known v_halves
def f_Tree_plant_b45 (N : Nat) (n_p1 : Nat) (v_p1 : Nat → Int32)  (i_known : Int32) (v_halves : Nat → Int32) : Option (Int32 × Int32 × (Nat → Int32)) :=
  some (i_known, i_known, v_halves)
def f_Tree_plant_b7 (N : Nat) (n_p1 : Nat) (v_p1 : Nat → Int32)  : Nat → Int32 → Int32 → (Nat → Int32) → Option (Int32 × Int32 × (Nat → Int32))
  | 0, _, _, _ => none
  | z + 1, l2, i_known, v_halves =>
  if 256 ≤ l2 then
  f_Tree_plant_b45 N n_p1 v_p1  i_known v_halves
  else
  ck (inb l2 n_p1) <|
  ck (inb l2 256) <|
  nm (upd v_halves (Int32.toNatClampNeg l2) (v_p1 (Int32.toNatClampNeg l2))) fun v_halves_4 =>
  ck (inb l2 n_p1) <|
  if (v_p1 (Int32.toNatClampNeg l2)) ≤ 0 then
  f_Tree_plant_b39 N n_p1 v_p1 (f_Tree_plant_b7 N n_p1 v_p1  z) l2 i_known v_halves_4
  else
  nm (i_known + 1) fun i_known_7 =>
  f_Tree_plant_b39 N n_p1 v_p1 (f_Tree_plant_b7 N n_p1 v_p1  z) l2 i_known_7 v_halves_4
def f_Tree_plant (N : Nat) (n_p1 : Nat) (v_p1 : Nat → Int32)  (i_known : Int32) (v_halves : Nat → Int32) : Option (Int32 × Int32 × (Nat → Int32)) :=
  f_Tree_plant_b7 N n_p1 v_p1  N 0 0 v_halves
def f_Tree_sortByByte_b91 (N : Nat) (i_known : Int32) (v_halves : Nat → Int32) (n_p1 : Nat) (v_p1 : Nat → Int32) (n_p2 : Nat) (l3 : Int32)  : Nat → Int32 → (Nat → Int32) → (Nat → Int32) → Option ((Nat → Int32) × (Nat → Int32))
  | 0, _, _, _ => none
  | z + 1, l4, v_starts, v_p2 =>
  if i_known ≤ l4 then
  some (v_starts, v_p2)
  else
  ck (inb l4 n_p1) <|
  ck (inb (v_p1 (Int32.toNatClampNeg l4)) 256) <|
  nm (((v_halves (Int32.toNatClampNeg (v_p1 (Int32.toNatClampNeg l4)))) >>> (l3 &&& 31)) &&& 255) fun l5_4 =>
  ck (inb l5_4 257) <|
  ck (inb l4 n_p1) <|
  ck (inb (v_starts (Int32.toNatClampNeg l5_4)) n_p2) <|
  nm (upd v_p2 (Int32.toNatClampNeg (v_starts (Int32.toNatClampNeg l5_4))) (v_p1 (Int32.toNatClampNeg l4))) fun v_p2_8 =>
  ck (inb l5_4 257) <|
  ck (inb l5_4 257) <|
  nm (upd v_starts (Int32.toNatClampNeg l5_4) ((v_starts (Int32.toNatClampNeg l5_4)) + 1)) fun v_starts_11 =>
  nm (l4 + 1) fun l4_12 =>
  f_Tree_sortByByte_b91 N i_known v_halves n_p1 v_p1 n_p2 l3  z l4_12 v_starts_11 v_p2_8
def f_Tree_sortByByte_b88 (N : Nat) (i_known : Int32) (v_halves : Nat → Int32) (n_p1 : Nat) (v_p1 : Nat → Int32) (n_p2 : Nat) (l3 : Int32)  (v_starts : Nat → Int32) (v_p2 : Nat → Int32) : Option ((Nat → Int32) × (Nat → Int32)) :=
  f_Tree_sortByByte_b91 N i_known v_halves n_p1 v_p1 n_p2 l3  N 0 v_starts v_p2
def f_Tree_sortByByte_b55 (N : Nat) (i_known : Int32) (v_halves : Nat → Int32) (n_p1 : Nat) (v_p1 : Nat → Int32) (n_p2 : Nat) (l3 : Int32)  : Nat → Int32 → (Nat → Int32) → (Nat → Int32) → Option ((Nat → Int32) × (Nat → Int32))
  | 0, _, _, _ => none
  | z + 1, l4, v_starts, v_p2 =>
  if 256 ≤ l4 then
  f_Tree_sortByByte_b88 N i_known v_halves n_p1 v_p1 n_p2 l3  v_starts v_p2
  else
  ck (inb (l4 + 1) 257) <|
  ck (inb l4 257) <|
  ck (inb (l4 + 1) 257) <|
  nm (upd v_starts (Int32.toNatClampNeg (l4 + 1)) ((v_starts (Int32.toNatClampNeg (l4 + 1))) + (v_starts (Int32.toNatClampNeg l4)))) fun v_starts_5 =>
  nm (l4 + 1) fun l4_6 =>
  f_Tree_sortByByte_b55 N i_known v_halves n_p1 v_p1 n_p2 l3  z l4_6 v_starts_5 v_p2
def f_Tree_sortByByte_b52 (N : Nat) (i_known : Int32) (v_halves : Nat → Int32) (n_p1 : Nat) (v_p1 : Nat → Int32) (n_p2 : Nat) (l3 : Int32)  (v_starts : Nat → Int32) (v_p2 : Nat → Int32) : Option ((Nat → Int32) × (Nat → Int32)) :=
  f_Tree_sortByByte_b55 N i_known v_halves n_p1 v_p1 n_p2 l3  N 0 v_starts v_p2
def f_Tree_sortByByte_b11 (N : Nat) (i_known : Int32) (v_halves : Nat → Int32) (n_p1 : Nat) (v_p1 : Nat → Int32) (n_p2 : Nat) (l3 : Int32)  : Nat → Int32 → (Nat → Int32) → (Nat → Int32) → Option ((Nat → Int32) × (Nat → Int32))
  | 0, _, _, _ => none
  | z + 1, l4, v_starts, v_p2 =>
  if i_known ≤ l4 then
  f_Tree_sortByByte_b52 N i_known v_halves n_p1 v_p1 n_p2 l3  v_starts v_p2
  else
  ck (inb l4 n_p1) <|
  ck (inb (v_p1 (Int32.toNatClampNeg l4)) 256) <|
  ck (inb ((((v_halves (Int32.toNatClampNeg (v_p1 (Int32.toNatClampNeg l4)))) >>> (l3 &&& 31)) &&& 255) + 1) 257) <|
  ck (inb ((((v_halves (Int32.toNatClampNeg (v_p1 (Int32.toNatClampNeg l4)))) >>> (l3 &&& 31)) &&& 255) + 1) 257) <|
  nm (upd v_starts (Int32.toNatClampNeg ((((v_halves (Int32.toNatClampNeg (v_p1 (Int32.toNatClampNeg l4)))) >>> (l3 &&& 31)) &&& 255) + 1)) ((v_starts (Int32.toNatClampNeg ((((v_halves (Int32.toNatClampNeg (v_p1 (Int32.toNatClampNeg l4)))) >>> (l3 &&& 31)) &&& 255) + 1))) + 1)) fun v_starts_6 =>
  nm (l4 + 1) fun l4_7 =>
  f_Tree_sortByByte_b11 N i_known v_halves n_p1 v_p1 n_p2 l3  z l4_7 v_starts_6 v_p2
def f_Tree_sortByByte (N : Nat) (i_known : Int32) (v_halves : Nat → Int32) (n_p1 : Nat) (v_p1 : Nat → Int32) (n_p2 : Nat) (l3 : Int32)  (v_starts : Nat → Int32) (v_p2 : Nat → Int32) : Option ((Nat → Int32) × (Nat → Int32)) :=
  bd1 (f_JArr_fill N 257 0 v_starts) fun v_starts_1 =>
  f_Tree_sortByByte_b11 N i_known v_halves n_p1 v_p1 n_p2 l3  N 0 v_starts_1 v_p2
def f_Tree_sortLeaves_b30 (N : Nat) (i_known : Int32) (v_halves : Nat → Int32) (k4 : Int32 → Int32 → (Nat → Int32) → (Nat → Int32) → (Nat → Int32) → Option ((Nat → Int32) × (Nat → Int32) × (Nat → Int32))) (l1 : Int32) (l2 : Int32) (v_leaves : Nat → Int32) (v_sorted : Nat → Int32) (v_starts : Nat → Int32) : Option ((Nat → Int32) × (Nat → Int32) × (Nat → Int32)) :=
  nm (l2 + 1) fun l2_1 =>
  k4 l1 l2_1 v_leaves v_sorted v_starts
def f_Tree_sortLeaves_b36 (N : Nat) (i_known : Int32) (v_halves : Nat → Int32)  (v_leaves : Nat → Int32) (v_sorted : Nat → Int32) (v_starts : Nat → Int32) : Option ((Nat → Int32) × (Nat → Int32) × (Nat → Int32)) :=
  bd2 (f_Tree_sortByByte N i_known v_halves 256 v_leaves 256 0 v_starts v_sorted) fun v_starts_1 v_sorted_2 =>
  bd2 (f_Tree_sortByByte N i_known v_halves 256 v_sorted_2 256 8 v_starts_1 v_leaves) fun v_starts_4 v_leaves_5 =>
  some (v_leaves_5, v_sorted_2, v_starts_4)
def f_Tree_sortLeaves_b4 (N : Nat) (i_known : Int32) (v_halves : Nat → Int32)  : Nat → Int32 → Int32 → (Nat → Int32) → (Nat → Int32) → (Nat → Int32) → Option ((Nat → Int32) × (Nat → Int32) × (Nat → Int32))
  | 0, _, _, _, _, _ => none
  | z + 1, l1, l2, v_leaves, v_sorted, v_starts =>
  if 256 ≤ l2 then
  f_Tree_sortLeaves_b36 N i_known v_halves  v_leaves v_sorted v_starts
  else
  ck (inb l2 256) <|
  if (v_halves (Int32.toNatClampNeg l2)) ≤ 0 then
  f_Tree_sortLeaves_b30 N i_known v_halves (f_Tree_sortLeaves_b4 N i_known v_halves  z) l1 l2 v_leaves v_sorted v_starts
  else
  ck (inb l1 256) <|
  nm (upd v_leaves (Int32.toNatClampNeg l1) l2) fun v_leaves_5 =>
  nm (l1 + 1) fun l1_6 =>
  f_Tree_sortLeaves_b30 N i_known v_halves (f_Tree_sortLeaves_b4 N i_known v_halves  z) l1_6 l2 v_leaves_5 v_sorted v_starts
def f_Tree_sortLeaves (N : Nat) (i_known : Int32) (v_halves : Nat → Int32)  (v_leaves : Nat → Int32) (v_sorted : Nat → Int32) (v_starts : Nat → Int32) : Option ((Nat → Int32) × (Nat → Int32) × (Nat → Int32)) :=
  f_Tree_sortLeaves_b4 N i_known v_halves  N 0 0 v_leaves v_sorted v_starts
def f_Tree_least_b40 (N : Nat) (i_known : Int32) (v_sums : Nat → Int32) (l1 : Int32)  (i_nextLeaf : Int32) (i_nextSum : Int32) : Option (Int32 × Int32 × Int32) :=
  nm (i_nextLeaf + 1) fun i_nextLeaf_1 =>
  some ((i_nextLeaf_1 - 1), i_nextLeaf_1, i_nextSum)
def f_Tree_least_b57 (N : Nat) (i_known : Int32) (v_sums : Nat → Int32) (l1 : Int32)  (i_nextLeaf : Int32) (i_nextSum : Int32) : Option (Int32 × Int32 × Int32) :=
  nm (i_nextSum + 1) fun i_nextSum_1 =>
  some ((i_nextSum_1 - 1), i_nextLeaf, i_nextSum_1)
def f_Tree_least (N : Nat) (i_known : Int32) (v_sums : Nat → Int32) (l1 : Int32)  (i_nextLeaf : Int32) (i_nextSum : Int32) : Option (Int32 × Int32 × Int32) :=
  if i_known ≤ i_nextLeaf then
  f_Tree_least_b57 N i_known v_sums l1  i_nextLeaf i_nextSum
  else
  if l1 ≤ i_nextSum then
  f_Tree_least_b40 N i_known v_sums l1  i_nextLeaf i_nextSum
  else
  ck (inb i_nextLeaf 512) <|
  ck (inb i_nextSum 512) <|
  if (v_sums (Int32.toNatClampNeg i_nextSum)) < (v_sums (Int32.toNatClampNeg i_nextLeaf)) then
  f_Tree_least_b57 N i_known v_sums l1  i_nextLeaf i_nextSum
  else
  f_Tree_least_b40 N i_known v_sums l1  i_nextLeaf i_nextSum
def f_Tree_join_b51 (N : Nat) (i_known : Int32) (v_halves : Nat → Int32) (v_leaves : Nat → Int32)  : Nat → Int32 → Int32 → Int32 → (Nat → Int32) → (Nat → Int32) → Option (Int32 × Int32 × (Nat → Int32) × (Nat → Int32))
  | 0, _, _, _, _, _ => none
  | z + 1, l1, i_nextLeaf, i_nextSum, v_sums, v_above =>
  if ((2 * i_known) - 1) ≤ l1 then
  some (i_nextLeaf, i_nextSum, v_sums, v_above)
  else
  bd3 (f_Tree_least N i_known v_sums l1 i_nextLeaf i_nextSum) fun r_2 i_nextLeaf_3 i_nextSum_4 =>
  bd3 (f_Tree_least N i_known v_sums l1 i_nextLeaf_3 i_nextSum_4) fun r_6 i_nextLeaf_7 i_nextSum_8 =>
  ck (inb r_2 512) <|
  ck (inb r_6 512) <|
  ck (inb l1 512) <|
  nm (upd v_sums (Int32.toNatClampNeg l1) ((v_sums (Int32.toNatClampNeg r_2)) + (v_sums (Int32.toNatClampNeg r_6)))) fun v_sums_13 =>
  ck (inb r_2 512) <|
  nm (upd v_above (Int32.toNatClampNeg r_2) l1) fun v_above_15 =>
  ck (inb r_6 512) <|
  nm (upd v_above_15 (Int32.toNatClampNeg r_6) l1) fun v_above_17 =>
  nm (l1 + 1) fun l1_18 =>
  f_Tree_join_b51 N i_known v_halves v_leaves  z l1_18 i_nextLeaf_7 i_nextSum_8 v_sums_13 v_above_17
def f_Tree_join_b33 (N : Nat) (i_known : Int32) (v_halves : Nat → Int32) (v_leaves : Nat → Int32)  (i_nextLeaf : Int32) (i_nextSum : Int32) (v_sums : Nat → Int32) (v_above : Nat → Int32) : Option (Int32 × Int32 × (Nat → Int32) × (Nat → Int32)) :=
  f_Tree_join_b51 N i_known v_halves v_leaves  N i_known 0 i_known v_sums v_above
def f_Tree_join_b2 (N : Nat) (i_known : Int32) (v_halves : Nat → Int32) (v_leaves : Nat → Int32)  : Nat → Int32 → Int32 → Int32 → (Nat → Int32) → (Nat → Int32) → Option (Int32 × Int32 × (Nat → Int32) × (Nat → Int32))
  | 0, _, _, _, _, _ => none
  | z + 1, l1, i_nextLeaf, i_nextSum, v_sums, v_above =>
  if i_known ≤ l1 then
  f_Tree_join_b33 N i_known v_halves v_leaves  i_nextLeaf i_nextSum v_sums v_above
  else
  ck (inb l1 256) <|
  ck (inb (v_leaves (Int32.toNatClampNeg l1)) 256) <|
  ck (inb l1 512) <|
  nm (upd v_sums (Int32.toNatClampNeg l1) (v_halves (Int32.toNatClampNeg (v_leaves (Int32.toNatClampNeg l1))))) fun v_sums_5 =>
  nm (l1 + 1) fun l1_6 =>
  f_Tree_join_b2 N i_known v_halves v_leaves  z l1_6 i_nextLeaf i_nextSum v_sums_5 v_above
def f_Tree_join (N : Nat) (i_known : Int32) (v_halves : Nat → Int32) (v_leaves : Nat → Int32)  (i_nextLeaf : Int32) (i_nextSum : Int32) (v_sums : Nat → Int32) (v_above : Nat → Int32) : Option (Int32 × Int32 × (Nat → Int32) × (Nat → Int32)) :=
  f_Tree_join_b2 N i_known v_halves v_leaves  N 0 i_nextLeaf i_nextSum v_sums v_above
def f_JMath_max (N : Nat) (l0 : Int32) (l1 : Int32)   : Option (Int32) :=
  if l0 < l1 then
  some (l1)
  else
  some (l0)
def f_PM_greatestOf_b25 (N : Nat) (n_p1 : Nat) (v_p1 : Nat → Int32)  (l1 : Int32) : Option (Int32) :=
  some (l1)
def f_PM_greatestOf_b4 (N : Nat) (n_p1 : Nat) (v_p1 : Nat → Int32)  : Nat → Int32 → Int32 → Option (Int32)
  | 0, _, _ => none
  | z + 1, l1, l2 =>
  if 256 ≤ l2 then
  f_PM_greatestOf_b25 N n_p1 v_p1  l1
  else
  ck (inb l2 n_p1) <|
  bd1 (f_JMath_max N l1 (v_p1 (Int32.toNatClampNeg l2))) fun r_3 =>
  nm (l2 + 1) fun l2_5 =>
  f_PM_greatestOf_b4 N n_p1 v_p1  z r_3 l2_5
def f_PM_greatestOf (N : Nat) (n_p1 : Nat) (v_p1 : Nat → Int32)   : Option (Int32) :=
  f_PM_greatestOf_b4 N n_p1 v_p1  N 0 0
def f_Tree_measure_b90 (N : Nat) (i_known : Int32) (v_leaves : Nat → Int32) (v_above : Nat → Int32)  (v_lengths : Nat → Int32) (v_depths : Nat → Int32) : Option (Int32 × (Nat → Int32) × (Nat → Int32)) :=
  bd1 (f_PM_greatestOf N 256 v_lengths) fun r_1 =>
  some (r_1, v_lengths, v_depths)
def f_Tree_measure_b59 (N : Nat) (i_known : Int32) (v_leaves : Nat → Int32) (v_above : Nat → Int32)  : Nat → Int32 → (Nat → Int32) → (Nat → Int32) → Option (Int32 × (Nat → Int32) × (Nat → Int32))
  | 0, _, _, _ => none
  | z + 1, l2, v_lengths, v_depths =>
  if i_known ≤ l2 then
  f_Tree_measure_b90 N i_known v_leaves v_above  v_lengths v_depths
  else
  ck (inb l2 256) <|
  ck (inb l2 512) <|
  ck (inb (v_leaves (Int32.toNatClampNeg l2)) 256) <|
  nm (upd v_lengths (Int32.toNatClampNeg (v_leaves (Int32.toNatClampNeg l2))) (v_depths (Int32.toNatClampNeg l2))) fun v_lengths_5 =>
  nm (l2 + 1) fun l2_6 =>
  f_Tree_measure_b59 N i_known v_leaves v_above  z l2_6 v_lengths_5 v_depths
def f_Tree_measure_b49 (N : Nat) (i_known : Int32) (v_leaves : Nat → Int32) (v_above : Nat → Int32)  (v_lengths : Nat → Int32) (v_depths : Nat → Int32) : Option (Int32 × (Nat → Int32) × (Nat → Int32)) :=
  bd1 (f_JArr_fill N 256 0 v_lengths) fun v_lengths_1 =>
  f_Tree_measure_b59 N i_known v_leaves v_above  N 0 v_lengths_1 v_depths
def f_Tree_measure_b20 (N : Nat) (i_known : Int32) (v_leaves : Nat → Int32) (v_above : Nat → Int32)  : Nat → Int32 → (Nat → Int32) → (Nat → Int32) → Option (Int32 × (Nat → Int32) × (Nat → Int32))
  | 0, _, _, _ => none
  | z + 1, l2, v_lengths, v_depths =>
  if l2 < 0 then
  f_Tree_measure_b49 N i_known v_leaves v_above  v_lengths v_depths
  else
  ck (inb l2 512) <|
  ck (inb (v_above (Int32.toNatClampNeg l2)) 512) <|
  ck (inb l2 512) <|
  nm (upd v_depths (Int32.toNatClampNeg l2) ((v_depths (Int32.toNatClampNeg (v_above (Int32.toNatClampNeg l2)))) + 1)) fun v_depths_5 =>
  nm (l2 + (-1)) fun l2_6 =>
  f_Tree_measure_b20 N i_known v_leaves v_above  z l2_6 v_lengths v_depths_5
def f_Tree_measure (N : Nat) (i_known : Int32) (v_leaves : Nat → Int32) (v_above : Nat → Int32)  (v_lengths : Nat → Int32) (v_depths : Nat → Int32) : Option (Int32 × (Nat → Int32) × (Nat → Int32)) :=
  nm ((2 * i_known) - 2) fun l1_1 =>
  ck (inb l1_1 512) <|
  nm (upd v_depths (Int32.toNatClampNeg l1_1) 0) fun v_depths_3 =>
  nm (l1_1 - 1) fun l2_4 =>
  f_Tree_measure_b20 N i_known v_leaves v_above  N l2_4 v_lengths v_depths_3
def f_Tree_halve_b2 (N : Nat)   : Nat → Int32 → (Nat → Int32) → Option ((Nat → Int32))
  | 0, _, _ => none
  | z + 1, l1, v_halves =>
  if 256 ≤ l1 then
  some (v_halves)
  else
  ck (inb l1 256) <|
  ck (inb l1 256) <|
  nm (upd v_halves (Int32.toNatClampNeg l1) (((v_halves (Int32.toNatClampNeg l1)) + 1) / 2)) fun v_halves_4 =>
  nm (l1 + 1) fun l1_5 =>
  f_Tree_halve_b2 N   z l1_5 v_halves_4
def f_Tree_halve (N : Nat)   (v_halves : Nat → Int32) : Option ((Nat → Int32)) :=
  f_Tree_halve_b2 N   N 0 v_halves
def f_Tree_grow_b2 (N : Nat) (i_known : Int32) (l1 : Int32)  : Nat → Int32 → Int32 → Int32 → (Nat → Int32) → (Nat → Int32) → (Nat → Int32) → (Nat → Int32) → (Nat → Int32) → (Nat → Int32) → (Nat → Int32) → (Nat → Int32) → Option (Int32 × Int32 × (Nat → Int32) × (Nat → Int32) × (Nat → Int32) × (Nat → Int32) × (Nat → Int32) × (Nat → Int32) × (Nat → Int32) × (Nat → Int32))
  | 0, _, _, _, _, _, _, _, _, _, _, _ => none
  | z + 1, l2, i_nextLeaf, i_nextSum, v_lengths, v_halves, v_leaves, v_sorted, v_starts, v_sums, v_above, v_depths =>
  if 16 < l2 then
  some (i_nextLeaf, i_nextSum, v_lengths, v_halves, v_leaves, v_sorted, v_starts, v_sums, v_above, v_depths)
  else
  bd3 (f_Tree_sortLeaves N i_known v_halves v_leaves v_sorted v_starts) fun v_leaves_2 v_sorted_3 v_starts_4 =>
  bd4 (f_Tree_join N i_known v_halves v_leaves_2 i_nextLeaf i_nextSum v_sums v_above) fun i_nextLeaf_6 i_nextSum_7 v_sums_8 v_above_9 =>
  bd3 (f_Tree_measure N i_known v_leaves_2 v_above_9 v_lengths v_depths) fun r_11 v_lengths_12 v_depths_13 =>
  if l1 < r_11 then
  bd1 (f_Tree_halve N v_halves) fun v_halves_16 =>
  nm (l2 + 1) fun l2_18 =>
  f_Tree_grow_b2 N i_known l1  z l2_18 i_nextLeaf_6 i_nextSum_7 v_lengths_12 v_halves_16 v_leaves_2 v_sorted_3 v_starts_4 v_sums_8 v_above_9 v_depths_13
  else
  some (i_nextLeaf_6, i_nextSum_7, v_lengths_12, v_halves, v_leaves_2, v_sorted_3, v_starts_4, v_sums_8, v_above_9, v_depths_13)
def f_Tree_grow (N : Nat) (i_known : Int32) (l1 : Int32)  (i_nextLeaf : Int32) (i_nextSum : Int32) (v_lengths : Nat → Int32) (v_halves : Nat → Int32) (v_leaves : Nat → Int32) (v_sorted : Nat → Int32) (v_starts : Nat → Int32) (v_sums : Nat → Int32) (v_above : Nat → Int32) (v_depths : Nat → Int32) : Option (Int32 × Int32 × (Nat → Int32) × (Nat → Int32) × (Nat → Int32) × (Nat → Int32) × (Nat → Int32) × (Nat → Int32) × (Nat → Int32) × (Nat → Int32)) :=
  f_Tree_grow_b2 N i_known l1  N 0 i_nextLeaf i_nextSum v_lengths v_halves v_leaves v_sorted v_starts v_sums v_above v_depths
def f_Codes_giveCells_b37 (N : Nat) (l1 : Int32) (l2 : Int32) (l3 : Int32)  (l4 : Int32) (v_cells : Nat → Int32) : Option (Int32 × (Nat → Int32)) :=
  some (l4, v_cells)
def f_Codes_giveCells_b16 (N : Nat) (l1 : Int32) (l2 : Int32) (l3 : Int32)  : Nat → Int32 → Int32 → (Nat → Int32) → Option (Int32 × (Nat → Int32))
  | 0, _, _, _ => none
  | z + 1, l4, l5, v_cells =>
  if l4 ≤ l5 then
  f_Codes_giveCells_b37 N l1 l2 l3  l4 v_cells
  else
  ck (inb l5 2048) <|
  nm (upd v_cells (Int32.toNatClampNeg l5) l1) fun v_cells_3 =>
  nm (l5 + 1) fun l5_4 =>
  f_Codes_giveCells_b16 N l1 l2 l3  z l4 l5_4 v_cells_3
def f_Codes_giveCells (N : Nat) (l1 : Int32) (l2 : Int32) (l3 : Int32)  (v_cells : Nat → Int32) : Option (Int32 × (Nat → Int32)) :=
  bd1 (f_JMath_min N (l2 + l3) (Int32.ofNat 2048)) fun r_1 =>
  f_Codes_giveCells_b16 N l1 l2 l3  N r_1 l2 v_cells
def f_Codes_fillCells_b59 (N : Nat) (i_greatest : Int32) (v_lengths : Nat → Int32) (k7 : Int32 → Int32 → (Nat → Int32) → (Nat → Int32) → Option ((Nat → Int32) × (Nat → Int32))) (k13 : Int32 → Int32 → Int32 → (Nat → Int32) → (Nat → Int32) → Option ((Nat → Int32) × (Nat → Int32))) (l1 : Int32) (l2 : Int32) (l3 : Int32) (v_values : Nat → Int32) (v_cells : Nat → Int32) : Option ((Nat → Int32) × (Nat → Int32)) :=
  nm (l3 + 1) fun l3_1 =>
  k13 l1 l2 l3_1 v_values v_cells
def f_Codes_fillCells_b65 (N : Nat) (i_greatest : Int32) (v_lengths : Nat → Int32) (k7 : Int32 → Int32 → (Nat → Int32) → (Nat → Int32) → Option ((Nat → Int32) × (Nat → Int32))) (l1 : Int32) (l2 : Int32) (v_values : Nat → Int32) (v_cells : Nat → Int32) : Option ((Nat → Int32) × (Nat → Int32)) :=
  nm (l2 + (-1)) fun l2_1 =>
  k7 l1 l2_1 v_values v_cells
def f_Codes_fillCells_b13 (N : Nat) (i_greatest : Int32) (v_lengths : Nat → Int32) (k7 : Int32 → Int32 → (Nat → Int32) → (Nat → Int32) → Option ((Nat → Int32) × (Nat → Int32))) : Nat → Int32 → Int32 → Int32 → (Nat → Int32) → (Nat → Int32) → Option ((Nat → Int32) × (Nat → Int32))
  | 0, _, _, _, _, _ => none
  | z + 1, l1, l2, l3, v_values, v_cells =>
  if 256 ≤ l3 then
  f_Codes_fillCells_b65 N i_greatest v_lengths k7 l1 l2 v_values v_cells
  else
  ck (inb l3 256) <|
  if (v_lengths (Int32.toNatClampNeg l3)) = l2 then
  ck (inb l3 256) <|
  nm (upd v_values (Int32.toNatClampNeg l3) (l1 >>> ((i_greatest - l2) &&& 31))) fun v_values_5 =>
  bd2 (f_Codes_giveCells N l3 l1 (1 <<< ((i_greatest - l2) &&& 31)) v_cells) fun r_6 v_cells_7 =>
  f_Codes_fillCells_b59 N i_greatest v_lengths k7 (f_Codes_fillCells_b13 N i_greatest v_lengths k7 z) r_6 l2 l3 v_values_5 v_cells_7
  else
  f_Codes_fillCells_b59 N i_greatest v_lengths k7 (f_Codes_fillCells_b13 N i_greatest v_lengths k7 z) l1 l2 l3 v_values v_cells
def f_Codes_fillCells_b7 (N : Nat) (i_greatest : Int32) (v_lengths : Nat → Int32)  : Nat → Int32 → Int32 → (Nat → Int32) → (Nat → Int32) → Option ((Nat → Int32) × (Nat → Int32))
  | 0, _, _, _, _ => none
  | z + 1, l1, l2, v_values, v_cells =>
  if l2 ≤ 0 then
  some (v_values, v_cells)
  else
  f_Codes_fillCells_b13 N i_greatest v_lengths (f_Codes_fillCells_b7 N i_greatest v_lengths  z) N l1 l2 0 v_values v_cells
def f_Codes_fillCells (N : Nat) (i_greatest : Int32) (v_lengths : Nat → Int32)  (v_values : Nat → Int32) (v_cells : Nat → Int32) : Option ((Nat → Int32) × (Nat → Int32)) :=
  f_Codes_fillCells_b7 N i_greatest v_lengths  N 0 i_greatest v_values v_cells
def f_Codes_become_b55 (N : Nat) (n_p1 : Nat) (v_p1 : Nat → Int32) (k15 : Int32 → Int32 → Int32 → Int32 → (Nat → Int32) → (Nat → Int32) → (Nat → Int32) → Option (Int32 × Int32 × Int32 × Int32 × (Nat → Int32) × (Nat → Int32) × (Nat → Int32))) (l2 : Int32) (i_greatest : Int32) (i_known : Int32) (i_highest : Int32) (v_lengths : Nat → Int32) (v_values : Nat → Int32) (v_cells : Nat → Int32) : Option (Int32 × Int32 × Int32 × Int32 × (Nat → Int32) × (Nat → Int32) × (Nat → Int32)) :=
  nm (l2 + 1) fun l2_1 =>
  k15 l2_1 i_greatest i_known i_highest v_lengths v_values v_cells
def f_Codes_become_b61 (N : Nat) (n_p1 : Nat) (v_p1 : Nat → Int32)  (i_greatest : Int32) (i_known : Int32) (i_highest : Int32) (v_lengths : Nat → Int32) (v_values : Nat → Int32) (v_cells : Nat → Int32) : Option (Int32 × Int32 × Int32 × Int32 × (Nat → Int32) × (Nat → Int32) × (Nat → Int32)) :=
  bd2 (f_Codes_fillCells N i_greatest v_lengths v_values v_cells) fun v_values_1 v_cells_2 =>
  some (i_greatest, i_greatest, i_known, i_highest, v_lengths, v_values_1, v_cells_2)
def f_Codes_become_b15 (N : Nat) (n_p1 : Nat) (v_p1 : Nat → Int32)  : Nat → Int32 → Int32 → Int32 → Int32 → (Nat → Int32) → (Nat → Int32) → (Nat → Int32) → Option (Int32 × Int32 × Int32 × Int32 × (Nat → Int32) × (Nat → Int32) × (Nat → Int32))
  | 0, _, _, _, _, _, _, _ => none
  | z + 1, l2, i_greatest, i_known, i_highest, v_lengths, v_values, v_cells =>
  if 256 ≤ l2 then
  f_Codes_become_b61 N n_p1 v_p1  i_greatest i_known i_highest v_lengths v_values v_cells
  else
  ck (inb l2 n_p1) <|
  ck (inb l2 256) <|
  nm (upd v_lengths (Int32.toNatClampNeg l2) (v_p1 (Int32.toNatClampNeg l2))) fun v_lengths_4 =>
  ck (inb l2 256) <|
  if (v_lengths_4 (Int32.toNatClampNeg l2)) ≤ 0 then
  f_Codes_become_b55 N n_p1 v_p1 (f_Codes_become_b15 N n_p1 v_p1  z) l2 i_greatest i_known i_highest v_lengths_4 v_values v_cells
  else
  nm (i_known + 1) fun i_known_7 =>
  f_Codes_become_b55 N n_p1 v_p1 (f_Codes_become_b15 N n_p1 v_p1  z) l2 i_greatest i_known_7 l2 v_lengths_4 v_values v_cells
def f_Codes_become (N : Nat) (n_p1 : Nat) (v_p1 : Nat → Int32)  (i_greatest : Int32) (i_known : Int32) (i_highest : Int32) (v_lengths : Nat → Int32) (v_values : Nat → Int32) (v_cells : Nat → Int32) : Option (Int32 × Int32 × Int32 × Int32 × (Nat → Int32) × (Nat → Int32) × (Nat → Int32)) :=
  bd1 (f_PM_greatestOf N n_p1 v_p1) fun r_1 =>
  f_Codes_become_b15 N n_p1 v_p1  N 0 r_1 0 i_highest v_lengths v_values v_cells
def f_PM_lengths_b11 (N : Nat) (v_counts : Nat → Int32) (l1 : Int32)  (i_codes_greatest : Int32) (i_codes_known : Int32) (i_codes_highest : Int32) (v_codes_lengths : Nat → Int32) (v_codes_values : Nat → Int32) (v_codes_cells : Nat → Int32) (i_tree_known : Int32) (i_tree_nextLeaf : Int32) (i_tree_nextSum : Int32) (v_tree_lengths : Nat → Int32) (v_tree_halves : Nat → Int32) (v_tree_leaves : Nat → Int32) (v_tree_sorted : Nat → Int32) (v_tree_starts : Nat → Int32) (v_tree_sums : Nat → Int32) (v_tree_above : Nat → Int32) (v_tree_depths : Nat → Int32) : Option (Int32 × Int32 × Int32 × Int32 × (Nat → Int32) × (Nat → Int32) × (Nat → Int32) × Int32 × Int32 × Int32 × (Nat → Int32) × (Nat → Int32) × (Nat → Int32) × (Nat → Int32) × (Nat → Int32) × (Nat → Int32) × (Nat → Int32) × (Nat → Int32)) :=
  some ((-1), i_codes_greatest, i_codes_known, i_codes_highest, v_codes_lengths, v_codes_values, v_codes_cells, i_tree_known, i_tree_nextLeaf, i_tree_nextSum, v_tree_lengths, v_tree_halves, v_tree_leaves, v_tree_sorted, v_tree_starts, v_tree_sums, v_tree_above, v_tree_depths)
def f_PM_lengths_b37 (N : Nat) (v_counts : Nat → Int32) (l1 : Int32)  (i_codes_greatest : Int32) (i_codes_known : Int32) (i_codes_highest : Int32) (v_codes_lengths : Nat → Int32) (v_codes_values : Nat → Int32) (v_codes_cells : Nat → Int32) (i_tree_known : Int32) (i_tree_nextLeaf : Int32) (i_tree_nextSum : Int32) (v_tree_lengths : Nat → Int32) (v_tree_halves : Nat → Int32) (v_tree_leaves : Nat → Int32) (v_tree_sorted : Nat → Int32) (v_tree_starts : Nat → Int32) (v_tree_sums : Nat → Int32) (v_tree_above : Nat → Int32) (v_tree_depths : Nat → Int32) : Option (Int32 × Int32 × Int32 × Int32 × (Nat → Int32) × (Nat → Int32) × (Nat → Int32) × Int32 × Int32 × Int32 × (Nat → Int32) × (Nat → Int32) × (Nat → Int32) × (Nat → Int32) × (Nat → Int32) × (Nat → Int32) × (Nat → Int32) × (Nat → Int32)) :=
  some ((-2), i_codes_greatest, i_codes_known, i_codes_highest, v_codes_lengths, v_codes_values, v_codes_cells, i_tree_known, i_tree_nextLeaf, i_tree_nextSum, v_tree_lengths, v_tree_halves, v_tree_leaves, v_tree_sorted, v_tree_starts, v_tree_sums, v_tree_above, v_tree_depths)
def f_PM_lengths (N : Nat) (v_counts : Nat → Int32) (l1 : Int32)  (i_codes_greatest : Int32) (i_codes_known : Int32) (i_codes_highest : Int32) (v_codes_lengths : Nat → Int32) (v_codes_values : Nat → Int32) (v_codes_cells : Nat → Int32) (i_tree_known : Int32) (i_tree_nextLeaf : Int32) (i_tree_nextSum : Int32) (v_tree_lengths : Nat → Int32) (v_tree_halves : Nat → Int32) (v_tree_leaves : Nat → Int32) (v_tree_sorted : Nat → Int32) (v_tree_starts : Nat → Int32) (v_tree_sums : Nat → Int32) (v_tree_above : Nat → Int32) (v_tree_depths : Nat → Int32) : Option (Int32 × Int32 × Int32 × Int32 × (Nat → Int32) × (Nat → Int32) × (Nat → Int32) × Int32 × Int32 × Int32 × (Nat → Int32) × (Nat → Int32) × (Nat → Int32) × (Nat → Int32) × (Nat → Int32) × (Nat → Int32) × (Nat → Int32) × (Nat → Int32)) :=
  if l1 < 1 then
  f_PM_lengths_b11 N v_counts l1  i_codes_greatest i_codes_known i_codes_highest v_codes_lengths v_codes_values v_codes_cells i_tree_known i_tree_nextLeaf i_tree_nextSum v_tree_lengths v_tree_halves v_tree_leaves v_tree_sorted v_tree_starts v_tree_sums v_tree_above v_tree_depths
  else
  if l1 ≤ 11 then
  bd3 (f_Tree_plant N 256 v_counts i_tree_known v_tree_halves) fun r_3 i_tree_known_4 v_tree_halves_5 =>
  if r_3 < 2 then
  f_PM_lengths_b37 N v_counts l1  i_codes_greatest i_codes_known i_codes_highest v_codes_lengths v_codes_values v_codes_cells i_tree_known_4 i_tree_nextLeaf i_tree_nextSum v_tree_lengths v_tree_halves_5 v_tree_leaves v_tree_sorted v_tree_starts v_tree_sums v_tree_above v_tree_depths
  else
  if r_3 ≤ (1 <<< (l1 &&& 31)) then
  bd10 (f_Tree_grow N i_tree_known_4 l1 i_tree_nextLeaf i_tree_nextSum v_tree_lengths v_tree_halves_5 v_tree_leaves v_tree_sorted v_tree_starts v_tree_sums v_tree_above v_tree_depths) fun i_tree_nextLeaf_9 i_tree_nextSum_10 v_tree_lengths_11 v_tree_halves_12 v_tree_leaves_13 v_tree_sorted_14 v_tree_starts_15 v_tree_sums_16 v_tree_above_17 v_tree_depths_18 =>
  bd7 (f_Codes_become N 256 v_tree_lengths_11 i_codes_greatest i_codes_known i_codes_highest v_codes_lengths v_codes_values v_codes_cells) fun r_20 i_codes_greatest_21 i_codes_known_22 i_codes_highest_23 v_codes_lengths_24 v_codes_values_25 v_codes_cells_26 =>
  some (r_20, i_codes_greatest_21, i_codes_known_22, i_codes_highest_23, v_codes_lengths_24, v_codes_values_25, v_codes_cells_26, i_tree_known_4, i_tree_nextLeaf_9, i_tree_nextSum_10, v_tree_lengths_11, v_tree_halves_12, v_tree_leaves_13, v_tree_sorted_14, v_tree_starts_15, v_tree_sums_16, v_tree_above_17, v_tree_depths_18)
  else
  f_PM_lengths_b37 N v_counts l1  i_codes_greatest i_codes_known i_codes_highest v_codes_lengths v_codes_values v_codes_cells i_tree_known_4 i_tree_nextLeaf i_tree_nextSum v_tree_lengths v_tree_halves_5 v_tree_leaves v_tree_sorted v_tree_starts v_tree_sums v_tree_above v_tree_depths
  else
  f_PM_lengths_b11 N v_counts l1  i_codes_greatest i_codes_known i_codes_highest v_codes_lengths v_codes_values v_codes_cells i_tree_known i_tree_nextLeaf i_tree_nextSum v_tree_lengths v_tree_halves v_tree_leaves v_tree_sorted v_tree_starts v_tree_sums v_tree_above v_tree_depths
def f_PM_areLengths_b40 (N : Nat) (n_p1 : Nat) (v_p1 : Nat → Int32) (k17 : Int32 → Int32 → Int32 → Option (Int32)) (l1 : Int32) (l2 : Int32) (l3 : Int32) : Option (Int32) :=
  nm (l3 + 1) fun l3_1 =>
  k17 l1 l2 l3_1
def f_PM_areLengths_b46 (N : Nat) (n_p1 : Nat) (v_p1 : Nat → Int32)  (l1 : Int32) (l2 : Int32) : Option (Int32) :=
  if l2 = (1 <<< (l1 &&& 31)) then
  some (1)
  else
  some (0)
def f_PM_areLengths_b17 (N : Nat) (n_p1 : Nat) (v_p1 : Nat → Int32)  : Nat → Int32 → Int32 → Int32 → Option (Int32)
  | 0, _, _, _ => none
  | z + 1, l1, l2, l3 =>
  if 256 ≤ l3 then
  f_PM_areLengths_b46 N n_p1 v_p1  l1 l2
  else
  ck (inb l3 n_p1) <|
  if (v_p1 (Int32.toNatClampNeg l3)) ≤ 0 then
  f_PM_areLengths_b40 N n_p1 v_p1 (f_PM_areLengths_b17 N n_p1 v_p1  z) l1 l2 l3
  else
  ck (inb l3 n_p1) <|
  nm (l2 + (1 <<< ((l1 - (v_p1 (Int32.toNatClampNeg l3))) &&& 31))) fun l2_5 =>
  f_PM_areLengths_b40 N n_p1 v_p1 (f_PM_areLengths_b17 N n_p1 v_p1  z) l1 l2_5 l3
def f_PM_areLengths (N : Nat) (n_p1 : Nat) (v_p1 : Nat → Int32)   : Option (Int32) :=
  bd1 (f_PM_greatestOf N n_p1 v_p1) fun r_1 =>
  if r_1 ≤ 11 then
  f_PM_areLengths_b17 N n_p1 v_p1  N r_1 0 0
  else
  some (0)
def f_PM_just (N : Nat) (v_counts : Nat → Int32)  (i_codes_greatest : Int32) (i_codes_known : Int32) (i_codes_highest : Int32) (v_codes_lengths : Nat → Int32) (v_codes_values : Nat → Int32) (v_codes_cells : Nat → Int32) : Option (Int32 × Int32 × Int32 × Int32 × (Nat → Int32) × (Nat → Int32) × (Nat → Int32)) :=
  bd1 (f_PM_areLengths N 256 v_counts) fun r_1 =>
  if r_1 = 0 then
  some ((-1), i_codes_greatest, i_codes_known, i_codes_highest, v_codes_lengths, v_codes_values, v_codes_cells)
  else
  bd7 (f_Codes_become N 256 v_counts i_codes_greatest i_codes_known i_codes_highest v_codes_lengths v_codes_values v_codes_cells) fun r_4 i_codes_greatest_5 i_codes_known_6 i_codes_highest_7 v_codes_lengths_8 v_codes_values_9 v_codes_cells_10 =>
  some (r_4, i_codes_greatest_5, i_codes_known_6, i_codes_highest_7, v_codes_lengths_8, v_codes_values_9, v_codes_cells_10)
def f_Codes_areThere (N : Nat) (i_greatest : Int32)   : Option (Int32) :=
  if i_greatest ≤ 0 then
  some (0)
  else
  some (1)
def f_Codes_weightOf (N : Nat) (i_greatest : Int32) (v_lengths : Nat → Int32) (l1 : Int32)   : Option (Int32) :=
  ck (inb l1 256) <|
  if (v_lengths (Int32.toNatClampNeg l1)) = 0 then
  some (0)
  else
  ck (inb l1 256) <|
  some (((i_greatest + 1) - (v_lengths (Int32.toNatClampNeg l1))))
def f_Writer_takeWeights_b10 (N : Nat) (i_p1_greatest : Int32) (v_p1_lengths : Nat → Int32) (l2 : Int32)  : Nat → Int32 → (Nat → Int32) → (Nat → Int32) → Option ((Nat → Int32) × (Nat → Int32))
  | 0, _, _, _ => none
  | z + 1, l3, v_weights, v_counts =>
  if l2 ≤ l3 then
  some (v_weights, v_counts)
  else
  bd1 (f_Codes_weightOf N i_p1_greatest v_p1_lengths l3) fun r_2 =>
  ck (inb l3 256) <|
  nm (upd v_weights (Int32.toNatClampNeg l3) r_2) fun v_weights_5 =>
  ck (inb l3 256) <|
  ck (inb (v_weights_5 (Int32.toNatClampNeg l3)) 12) <|
  ck (inb (v_weights_5 (Int32.toNatClampNeg l3)) 12) <|
  nm (upd v_counts (Int32.toNatClampNeg (v_weights_5 (Int32.toNatClampNeg l3))) ((v_counts (Int32.toNatClampNeg (v_weights_5 (Int32.toNatClampNeg l3)))) + 1)) fun v_counts_9 =>
  nm (l3 + 1) fun l3_10 =>
  f_Writer_takeWeights_b10 N i_p1_greatest v_p1_lengths l2  z l3_10 v_weights_5 v_counts_9
def f_Writer_takeWeights (N : Nat) (i_p1_greatest : Int32) (v_p1_lengths : Nat → Int32) (l2 : Int32)  (v_weights : Nat → Int32) (v_counts : Nat → Int32) : Option ((Nat → Int32) × (Nat → Int32)) :=
  bd1 (f_JArr_fill N 12 0 v_counts) fun v_counts_1 =>
  f_Writer_takeWeights_b10 N i_p1_greatest v_p1_lengths l2  N 0 v_weights v_counts_1
def f_Share_massOf (N : Nat) (v_points : Nat → Int32) (l1 : Int32)   : Option (Int32) :=
  ck (inb l1 12) <|
  if 0 ≤ (v_points (Int32.toNatClampNeg l1)) then
  ck (inb l1 12) <|
  some ((v_points (Int32.toNatClampNeg l1)))
  else
  some (1)
def f_Share_lacking_b29 (N : Nat) (i_order : Int32) (v_points : Nat → Int32)  (l1 : Int32) : Option (Int32) :=
  some (l1)
def f_Share_lacking_b9 (N : Nat) (i_order : Int32) (v_points : Nat → Int32)  : Nat → Int32 → Int32 → Option (Int32)
  | 0, _, _ => none
  | z + 1, l1, l2 =>
  if 12 ≤ l2 then
  f_Share_lacking_b29 N i_order v_points  l1
  else
  bd1 (f_Share_massOf N v_points l2) fun r_2 =>
  nm (l1 - r_2) fun l1_4 =>
  nm (l2 + 1) fun l2_5 =>
  f_Share_lacking_b9 N i_order v_points  z l1_4 l2_5
def f_Share_lacking (N : Nat) (i_order : Int32) (v_points : Nat → Int32)   : Option (Int32) :=
  nm (1 <<< (i_order &&& 31)) fun l1_1 =>
  f_Share_lacking_b9 N i_order v_points  N l1_1 0
def f_Share_queueByCuts_b77 (N : Nat) (v_points : Nat → Int32) (v_cuts : Nat → Int32) (k4 : Int32 → Int32 → (Nat → Int32) → Option (Int32 × (Nat → Int32))) (l1 : Int32) (l2 : Int32) (v_queue : Nat → Int32) : Option (Int32 × (Nat → Int32)) :=
  nm (l2 + 1) fun l2_1 =>
  k4 l1 l2_1 v_queue
def f_Share_queueByCuts_b67 (N : Nat) (v_points : Nat → Int32) (v_cuts : Nat → Int32) (k4 : Int32 → Int32 → (Nat → Int32) → Option (Int32 × (Nat → Int32))) (l1 : Int32) (l2 : Int32) (l3 : Int32) (v_queue : Nat → Int32) : Option (Int32 × (Nat → Int32)) :=
  ck (inb l3 12) <|
  nm (upd v_queue (Int32.toNatClampNeg l3) l2) fun v_queue_2 =>
  nm (l1 + 1) fun l1_3 =>
  f_Share_queueByCuts_b77 N v_points v_cuts k4 l1_3 l2 v_queue_2
def f_Share_queueByCuts_b21 (N : Nat) (v_points : Nat → Int32) (v_cuts : Nat → Int32) (k4 : Int32 → Int32 → (Nat → Int32) → Option (Int32 × (Nat → Int32))) : Nat → Int32 → Int32 → Int32 → (Nat → Int32) → Option (Int32 × (Nat → Int32))
  | 0, _, _, _, _ => none
  | z + 1, l1, l2, l3, v_queue =>
  if l3 ≤ 0 then
  f_Share_queueByCuts_b67 N v_points v_cuts k4 l1 l2 l3 v_queue
  else
  ck (inb (l3 - 1) 12) <|
  ck (inb (v_queue (Int32.toNatClampNeg (l3 - 1))) 12) <|
  ck (inb l2 12) <|
  if (v_cuts (Int32.toNatClampNeg l2)) ≤ (v_cuts (Int32.toNatClampNeg (v_queue (Int32.toNatClampNeg (l3 - 1))))) then
  f_Share_queueByCuts_b67 N v_points v_cuts k4 l1 l2 l3 v_queue
  else
  ck (inb (l3 - 1) 12) <|
  ck (inb l3 12) <|
  nm (upd v_queue (Int32.toNatClampNeg l3) (v_queue (Int32.toNatClampNeg (l3 - 1)))) fun v_queue_8 =>
  nm (l3 + (-1)) fun l3_9 =>
  f_Share_queueByCuts_b21 N v_points v_cuts k4 z l1 l2 l3_9 v_queue_8
def f_Share_queueByCuts_b83 (N : Nat) (v_points : Nat → Int32) (v_cuts : Nat → Int32)  (l1 : Int32) (v_queue : Nat → Int32) : Option (Int32 × (Nat → Int32)) :=
  some (l1, v_queue)
def f_Share_queueByCuts_b4 (N : Nat) (v_points : Nat → Int32) (v_cuts : Nat → Int32)  : Nat → Int32 → Int32 → (Nat → Int32) → Option (Int32 × (Nat → Int32))
  | 0, _, _, _ => none
  | z + 1, l1, l2, v_queue =>
  if 12 ≤ l2 then
  f_Share_queueByCuts_b83 N v_points v_cuts  l1 v_queue
  else
  ck (inb l2 12) <|
  if (v_points (Int32.toNatClampNeg l2)) ≤ 0 then
  f_Share_queueByCuts_b77 N v_points v_cuts (f_Share_queueByCuts_b4 N v_points v_cuts  z) l1 l2 v_queue
  else
  f_Share_queueByCuts_b21 N v_points v_cuts (f_Share_queueByCuts_b4 N v_points v_cuts  z) N l1 l2 l1 v_queue
def f_Share_queueByCuts (N : Nat) (v_points : Nat → Int32) (v_cuts : Nat → Int32)  (v_queue : Nat → Int32) : Option (Int32 × (Nat → Int32)) :=
  f_Share_queueByCuts_b4 N v_points v_cuts  N 0 0 v_queue
def f_Share_give_b7 (N : Nat) (v_cuts : Nat → Int32) (l1 : Int32)  : Nat → Int32 → Int32 → (Nat → Int32) → (Nat → Int32) → Option ((Nat → Int32) × (Nat → Int32))
  | 0, _, _, _, _ => none
  | z + 1, l2, l3, v_points, v_queue =>
  if l1 ≤ l3 then
  some (v_points, v_queue)
  else
  if l2 ≤ 0 then
  some (v_points, v_queue)
  else
  ck (nz l2) <|
  ck (inb (l3 - l3 / l2 * l2) 12) <|
  ck (inb (v_queue (Int32.toNatClampNeg (l3 - l3 / l2 * l2))) 12) <|
  ck (inb (v_queue (Int32.toNatClampNeg (l3 - l3 / l2 * l2))) 12) <|
  nm (upd v_points (Int32.toNatClampNeg (v_queue (Int32.toNatClampNeg (l3 - l3 / l2 * l2)))) ((v_points (Int32.toNatClampNeg (v_queue (Int32.toNatClampNeg (l3 - l3 / l2 * l2))))) + 1)) fun v_points_7 =>
  nm (l3 + 1) fun l3_8 =>
  f_Share_give_b7 N v_cuts l1  z l2 l3_8 v_points_7 v_queue
def f_Share_give (N : Nat) (v_cuts : Nat → Int32) (l1 : Int32)  (v_points : Nat → Int32) (v_queue : Nat → Int32) : Option ((Nat → Int32) × (Nat → Int32)) :=
  bd2 (f_Share_queueByCuts N v_points v_cuts v_queue) fun r_1 v_queue_2 =>
  f_Share_give_b7 N v_cuts l1  N r_1 0 v_points v_queue_2
def f_Share_takeAway_b38 (N : Nat) (l1 : Int32) (k2 : Int32 → (Nat → Int32) → Option ((Nat → Int32))) (k12 : Int32 → Int32 → Int32 → (Nat → Int32) → Option ((Nat → Int32))) (l2 : Int32) (l3 : Int32) (l4 : Int32) (v_points : Nat → Int32) : Option ((Nat → Int32)) :=
  nm (l4 + 1) fun l4_1 =>
  k12 l2 l3 l4_1 v_points
def f_Share_takeAway_b44 (N : Nat) (l1 : Int32) (k2 : Int32 → (Nat → Int32) → Option ((Nat → Int32))) (l2 : Int32) (l3 : Int32) (v_points : Nat → Int32) : Option ((Nat → Int32)) :=
  ck (inb l3 12) <|
  ck (inb l3 12) <|
  nm (upd v_points (Int32.toNatClampNeg l3) ((v_points (Int32.toNatClampNeg l3)) - 1)) fun v_points_3 =>
  nm (l2 + 1) fun l2_4 =>
  k2 l2_4 v_points_3
def f_Share_takeAway_b12 (N : Nat) (l1 : Int32) (k2 : Int32 → (Nat → Int32) → Option ((Nat → Int32))) : Nat → Int32 → Int32 → Int32 → (Nat → Int32) → Option ((Nat → Int32))
  | 0, _, _, _, _ => none
  | z + 1, l2, l3, l4, v_points =>
  if 12 ≤ l4 then
  f_Share_takeAway_b44 N l1 k2 l2 l3 v_points
  else
  ck (inb l4 12) <|
  ck (inb l3 12) <|
  if (v_points (Int32.toNatClampNeg l4)) ≤ (v_points (Int32.toNatClampNeg l3)) then
  f_Share_takeAway_b38 N l1 k2 (f_Share_takeAway_b12 N l1 k2 z) l2 l3 l4 v_points
  else
  f_Share_takeAway_b38 N l1 k2 (f_Share_takeAway_b12 N l1 k2 z) l2 l4 l4 v_points
def f_Share_takeAway_b2 (N : Nat) (l1 : Int32)  : Nat → Int32 → (Nat → Int32) → Option ((Nat → Int32))
  | 0, _, _ => none
  | z + 1, l2, v_points =>
  if l1 ≤ l2 then
  some (v_points)
  else
  f_Share_takeAway_b12 N l1 (f_Share_takeAway_b2 N l1  z) N l2 0 1 v_points
def f_Share_takeAway (N : Nat) (l1 : Int32)  (v_points : Nat → Int32) : Option ((Nat → Int32)) :=
  f_Share_takeAway_b2 N l1  N 0 v_points
def f_Share_giveHighest_b34 (N : Nat) (i_order : Int32) (v_points : Nat → Int32) (k9 : Int32 → Int32 → (Nat → Int32) → Option (Int32 × (Nat → Int32))) (l1 : Int32) (l2 : Int32) (v_owners : Nat → Int32) : Option (Int32 × (Nat → Int32)) :=
  nm (l2 + 1) fun l2_1 =>
  k9 l1 l2_1 v_owners
def f_Share_giveHighest_b40 (N : Nat) (i_order : Int32) (v_points : Nat → Int32)  (l1 : Int32) (v_owners : Nat → Int32) : Option (Int32 × (Nat → Int32)) :=
  some (l1, v_owners)
def f_Share_giveHighest_b9 (N : Nat) (i_order : Int32) (v_points : Nat → Int32)  : Nat → Int32 → Int32 → (Nat → Int32) → Option (Int32 × (Nat → Int32))
  | 0, _, _, _ => none
  | z + 1, l1, l2, v_owners =>
  if 12 ≤ l2 then
  f_Share_giveHighest_b40 N i_order v_points  l1 v_owners
  else
  ck (inb l2 12) <|
  if 0 ≤ (v_points (Int32.toNatClampNeg l2)) then
  f_Share_giveHighest_b34 N i_order v_points (f_Share_giveHighest_b9 N i_order v_points  z) l1 l2 v_owners
  else
  nm (l1 + (-1)) fun l1_4 =>
  ck (inb l1_4 64) <|
  nm (upd v_owners (Int32.toNatClampNeg l1_4) l2) fun v_owners_6 =>
  f_Share_giveHighest_b34 N i_order v_points (f_Share_giveHighest_b9 N i_order v_points  z) l1_4 l2 v_owners_6
def f_Share_giveHighest (N : Nat) (i_order : Int32) (v_points : Nat → Int32)  (v_owners : Nat → Int32) : Option (Int32 × (Nat → Int32)) :=
  nm (1 <<< (i_order &&& 31)) fun l1_1 =>
  f_Share_giveHighest_b9 N i_order v_points  N l1_1 0 v_owners
def f_Share_giveByWalk_b57 (N : Nat) (i_order : Int32) (v_points : Nat → Int32) (l1 : Int32) (k23 : Int32 → Int32 → Int32 → Int32 → (Nat → Int32) → (Nat → Int32) → Option ((Nat → Int32) × (Nat → Int32))) (l2 : Int32) (l3 : Int32) (l4 : Int32) (l5 : Int32) (v_owners : Nat → Int32) (v_walk : Nat → Int32) : Option ((Nat → Int32) × (Nat → Int32)) :=
  nm (l5 + 1) fun l5_1 =>
  k23 l2 l3 l4 l5_1 v_owners v_walk
def f_Share_giveByWalk_b121 (N : Nat) (i_order : Int32) (v_points : Nat → Int32) (l1 : Int32) (k69 : Int32 → Int32 → Int32 → (Nat → Int32) → (Nat → Int32) → Option ((Nat → Int32) × (Nat → Int32))) (l4 : Int32) (l5 : Int32) (l6 : Int32) (v_owners : Nat → Int32) (v_walk : Nat → Int32) : Option ((Nat → Int32) × (Nat → Int32)) :=
  nm (l6 + 1) fun l6_1 =>
  k69 l4 l5 l6_1 v_owners v_walk
def f_Share_giveByWalk_b79 (N : Nat) (i_order : Int32) (v_points : Nat → Int32) (l1 : Int32) (k69 : Int32 → Int32 → Int32 → (Nat → Int32) → (Nat → Int32) → Option ((Nat → Int32) × (Nat → Int32))) : Nat → Int32 → Int32 → Int32 → Int32 → (Nat → Int32) → (Nat → Int32) → Option ((Nat → Int32) × (Nat → Int32))
  | 0, _, _, _, _, _, _ => none
  | z + 1, l4, l5, l6, l7, v_owners, v_walk =>
  ck (inb l6 12) <|
  if (v_points (Int32.toNatClampNeg l6)) ≤ l7 then
  f_Share_giveByWalk_b121 N i_order v_points l1 k69 l4 l5 l6 v_owners v_walk
  else
  if l4 ≤ l5 then
  f_Share_giveByWalk_b121 N i_order v_points l1 k69 l4 l5 l6 v_owners v_walk
  else
  ck (inb l5 64) <|
  ck (inb (v_walk (Int32.toNatClampNeg l5)) 64) <|
  nm (upd v_owners (Int32.toNatClampNeg (v_walk (Int32.toNatClampNeg l5))) l6) fun v_owners_6 =>
  nm (l5 + 1) fun l5_7 =>
  nm (l7 + 1) fun l7_8 =>
  f_Share_giveByWalk_b79 N i_order v_points l1 k69 z l4 l5_7 l6 l7_8 v_owners_6 v_walk
def f_Share_giveByWalk_b69 (N : Nat) (i_order : Int32) (v_points : Nat → Int32) (l1 : Int32)  : Nat → Int32 → Int32 → Int32 → (Nat → Int32) → (Nat → Int32) → Option ((Nat → Int32) × (Nat → Int32))
  | 0, _, _, _, _, _ => none
  | z + 1, l4, l5, l6, v_owners, v_walk =>
  if 12 ≤ l6 then
  some (v_owners, v_walk)
  else
  f_Share_giveByWalk_b79 N i_order v_points l1 (f_Share_giveByWalk_b69 N i_order v_points l1  z) N l4 l5 l6 0 v_owners v_walk
def f_Share_giveByWalk_b63 (N : Nat) (i_order : Int32) (v_points : Nat → Int32) (l1 : Int32)  (l4 : Int32) (v_owners : Nat → Int32) (v_walk : Nat → Int32) : Option ((Nat → Int32) × (Nat → Int32)) :=
  f_Share_giveByWalk_b69 N i_order v_points l1  N l4 0 0 v_owners v_walk
def f_Share_giveByWalk_b23 (N : Nat) (i_order : Int32) (v_points : Nat → Int32) (l1 : Int32)  : Nat → Int32 → Int32 → Int32 → Int32 → (Nat → Int32) → (Nat → Int32) → Option ((Nat → Int32) × (Nat → Int32))
  | 0, _, _, _, _, _, _ => none
  | z + 1, l2, l3, l4, l5, v_owners, v_walk =>
  if l2 ≤ l5 then
  f_Share_giveByWalk_b63 N i_order v_points l1  l4 v_owners v_walk
  else
  nm ((l5 * l3) &&& (l2 - 1)) fun l6_2 =>
  if l1 ≤ l6_2 then
  f_Share_giveByWalk_b57 N i_order v_points l1 (f_Share_giveByWalk_b23 N i_order v_points l1  z) l2 l3 l4 l5 v_owners v_walk
  else
  ck (inb l4 64) <|
  nm (upd v_walk (Int32.toNatClampNeg l4) l6_2) fun v_walk_5 =>
  nm (l4 + 1) fun l4_6 =>
  f_Share_giveByWalk_b57 N i_order v_points l1 (f_Share_giveByWalk_b23 N i_order v_points l1  z) l2 l3 l4_6 l5 v_owners v_walk_5
def f_Share_giveByWalk (N : Nat) (i_order : Int32) (v_points : Nat → Int32) (l1 : Int32)  (v_owners : Nat → Int32) (v_walk : Nat → Int32) : Option ((Nat → Int32) × (Nat → Int32)) :=
  nm (1 <<< (i_order &&& 31)) fun l2_1 =>
  nm (((l2_1 >>> (1 &&& 31)) + (l2_1 >>> (3 &&& 31))) + 3) fun l3_2 =>
  f_Share_giveByWalk_b23 N i_order v_points l1  N l2_1 l3_2 0 0 v_owners v_walk
def f_PM_log2_b22 (N : Nat) (l0 : Int32)  (l1 : Int32) : Option (Int32) :=
  some (l1)
def f_PM_log2_b2 (N : Nat) (l0 : Int32)  : Nat → Int32 → Option (Int32)
  | 0, _ => none
  | z + 1, l1 =>
  if 30 ≤ l1 then
  f_PM_log2_b22 N l0  l1
  else
  if (l0 >>> ((l1 + 1) &&& 31)) ≤ 0 then
  f_PM_log2_b22 N l0  l1
  else
  nm (l1 + 1) fun l1_3 =>
  f_PM_log2_b2 N l0  z l1_3
def f_PM_log2 (N : Nat) (l0 : Int32)   : Option (Int32) :=
  f_PM_log2_b2 N l0  N 0
def f_Share_rank_b51 (N : Nat) (i_order : Int32) (v_points : Nat → Int32) (v_owners : Nat → Int32)  : Nat → Int32 → Int32 → (Nat → Int32) → (Nat → Int32) → (Nat → Int32) → (Nat → Int32) → (Nat → Int32) → Option ((Nat → Int32) × (Nat → Int32) × (Nat → Int32) × (Nat → Int32) × (Nat → Int32))
  | 0, _, _, _, _, _, _, _ => none
  | z + 1, l2, l3, v_takes, v_bases, v_ranked, v_starts, v_numbers =>
  if l2 ≤ l3 then
  some (v_takes, v_bases, v_ranked, v_starts, v_numbers)
  else
  ck (inb l3 64) <|
  nm (v_owners (Int32.toNatClampNeg l3)) fun l4_3 =>
  ck (inb l4_3 12) <|
  nm (v_numbers (Int32.toNatClampNeg l4_3)) fun l5_5 =>
  ck (inb l4_3 12) <|
  ck (inb l4_3 12) <|
  nm (upd v_numbers (Int32.toNatClampNeg l4_3) ((v_numbers (Int32.toNatClampNeg l4_3)) + 1)) fun v_numbers_8 =>
  bd1 (f_PM_log2 N l5_5) fun r_9 =>
  ck (inb l3 64) <|
  nm (upd v_takes (Int32.toNatClampNeg l3) (i_order - r_9)) fun v_takes_12 =>
  ck (inb l3 64) <|
  ck (inb l3 64) <|
  nm (upd v_bases (Int32.toNatClampNeg l3) ((l5_5 <<< ((v_takes_12 (Int32.toNatClampNeg l3)) &&& 31)) - l2)) fun v_bases_15 =>
  ck (inb l4_3 12) <|
  bd1 (f_Share_massOf N v_points l4_3) fun r_17 =>
  ck (inb (((v_starts (Int32.toNatClampNeg l4_3)) + l5_5) - r_17) 64) <|
  nm (upd v_ranked (Int32.toNatClampNeg (((v_starts (Int32.toNatClampNeg l4_3)) + l5_5) - r_17)) l3) fun v_ranked_20 =>
  nm (l3 + 1) fun l3_21 =>
  f_Share_rank_b51 N i_order v_points v_owners  z l2 l3_21 v_takes_12 v_bases_15 v_ranked_20 v_starts v_numbers_8
def f_Share_rank_b42 (N : Nat) (i_order : Int32) (v_points : Nat → Int32) (v_owners : Nat → Int32)  (v_takes : Nat → Int32) (v_bases : Nat → Int32) (v_ranked : Nat → Int32) (v_starts : Nat → Int32) (v_numbers : Nat → Int32) : Option ((Nat → Int32) × (Nat → Int32) × (Nat → Int32) × (Nat → Int32) × (Nat → Int32)) :=
  nm (1 <<< (i_order &&& 31)) fun l2_1 =>
  f_Share_rank_b51 N i_order v_points v_owners  N l2_1 0 v_takes v_bases v_ranked v_starts v_numbers
def f_Share_rank_b4 (N : Nat) (i_order : Int32) (v_points : Nat → Int32) (v_owners : Nat → Int32)  : Nat → Int32 → Int32 → (Nat → Int32) → (Nat → Int32) → (Nat → Int32) → (Nat → Int32) → (Nat → Int32) → Option ((Nat → Int32) × (Nat → Int32) × (Nat → Int32) × (Nat → Int32) × (Nat → Int32))
  | 0, _, _, _, _, _, _, _ => none
  | z + 1, l1, l2, v_takes, v_bases, v_ranked, v_starts, v_numbers =>
  if 12 ≤ l2 then
  f_Share_rank_b42 N i_order v_points v_owners  v_takes v_bases v_ranked v_starts v_numbers
  else
  ck (inb l2 12) <|
  nm (upd v_starts (Int32.toNatClampNeg l2) l1) fun v_starts_3 =>
  bd1 (f_Share_massOf N v_points l2) fun r_4 =>
  ck (inb l2 12) <|
  nm (upd v_numbers (Int32.toNatClampNeg l2) r_4) fun v_numbers_7 =>
  bd1 (f_Share_massOf N v_points l2) fun r_8 =>
  nm (l1 + r_8) fun l1_10 =>
  nm (l2 + 1) fun l2_11 =>
  f_Share_rank_b4 N i_order v_points v_owners  z l1_10 l2_11 v_takes v_bases v_ranked v_starts_3 v_numbers_7
def f_Share_rank (N : Nat) (i_order : Int32) (v_points : Nat → Int32) (v_owners : Nat → Int32)  (v_takes : Nat → Int32) (v_bases : Nat → Int32) (v_ranked : Nat → Int32) (v_starts : Nat → Int32) (v_numbers : Nat → Int32) : Option ((Nat → Int32) × (Nat → Int32) × (Nat → Int32) × (Nat → Int32) × (Nat → Int32)) :=
  f_Share_rank_b4 N i_order v_points v_owners  N 0 0 v_takes v_bases v_ranked v_starts v_numbers
def f_Share_layOut (N : Nat) (i_order : Int32) (v_points : Nat → Int32)  (v_owners : Nat → Int32) (v_takes : Nat → Int32) (v_bases : Nat → Int32) (v_ranked : Nat → Int32) (v_starts : Nat → Int32) (v_numbers : Nat → Int32) (v_walk : Nat → Int32) : Option ((Nat → Int32) × (Nat → Int32) × (Nat → Int32) × (Nat → Int32) × (Nat → Int32) × (Nat → Int32) × (Nat → Int32)) :=
  bd2 (f_Share_giveHighest N i_order v_points v_owners) fun r_1 v_owners_2 =>
  bd2 (f_Share_giveByWalk N i_order v_points r_1 v_owners_2 v_walk) fun v_owners_4 v_walk_5 =>
  bd5 (f_Share_rank N i_order v_points v_owners_4 v_takes v_bases v_ranked v_starts v_numbers) fun v_takes_7 v_bases_8 v_ranked_9 v_starts_10 v_numbers_11 =>
  some (v_owners_4, v_takes_7, v_bases_8, v_ranked_9, v_starts_10, v_numbers_11, v_walk_5)
def f_Share_byCounts_b55 (N : Nat) (n_p2 : Nat) (v_p2 : Nat → Int32) (l1 : Int32) (l3 : Int32) (k8 : Int32 → Int32 → (Nat → Int32) → (Nat → Int32) → (Nat → Int32) → (Nat → Int32) → (Nat → Int32) → (Nat → Int32) → (Nat → Int32) → (Nat → Int32) → (Nat → Int32) → (Nat → Int32) → Option (Int32 × (Nat → Int32) × (Nat → Int32) × (Nat → Int32) × (Nat → Int32) × (Nat → Int32) × (Nat → Int32) × (Nat → Int32) × (Nat → Int32) × (Nat → Int32) × (Nat → Int32))) (l4 : Int32) (l5 : Int32) (s0 : Int32) (s1 : Int32) (i_order : Int32) (v_points : Nat → Int32) (v_cuts : Nat → Int32) (v_queue : Nat → Int32) (v_owners : Nat → Int32) (v_takes : Nat → Int32) (v_bases : Nat → Int32) (v_ranked : Nat → Int32) (v_starts : Nat → Int32) (v_numbers : Nat → Int32) (v_walk : Nat → Int32) : Option (Int32 × (Nat → Int32) × (Nat → Int32) × (Nat → Int32) × (Nat → Int32) × (Nat → Int32) × (Nat → Int32) × (Nat → Int32) × (Nat → Int32) × (Nat → Int32) × (Nat → Int32)) :=
  ck (inb s1 12) <|
  nm (upd v_points (Int32.toNatClampNeg s1) s0) fun v_points_2 =>
  bd1 (f_JMath_max N l3 1) fun r_3 =>
  ck (nz r_3) <|
  ck (inb l4 12) <|
  nm (upd v_cuts (Int32.toNatClampNeg l4) (l5 - l5 / r_3 * r_3)) fun v_cuts_7 =>
  nm (l4 + 1) fun l4_8 =>
  k8 l4_8 i_order v_points_2 v_cuts_7 v_queue v_owners v_takes v_bases v_ranked v_starts v_numbers v_walk
def f_Share_byCounts_b47 (N : Nat) (n_p2 : Nat) (v_p2 : Nat → Int32) (l1 : Int32) (l3 : Int32) (k8 : Int32 → Int32 → (Nat → Int32) → (Nat → Int32) → (Nat → Int32) → (Nat → Int32) → (Nat → Int32) → (Nat → Int32) → (Nat → Int32) → (Nat → Int32) → (Nat → Int32) → (Nat → Int32) → Option (Int32 × (Nat → Int32) × (Nat → Int32) × (Nat → Int32) × (Nat → Int32) × (Nat → Int32) × (Nat → Int32) × (Nat → Int32) × (Nat → Int32) × (Nat → Int32) × (Nat → Int32))) (l4 : Int32) (l5 : Int32) (s0 : Int32) (i_order : Int32) (v_points : Nat → Int32) (v_cuts : Nat → Int32) (v_queue : Nat → Int32) (v_owners : Nat → Int32) (v_takes : Nat → Int32) (v_bases : Nat → Int32) (v_ranked : Nat → Int32) (v_starts : Nat → Int32) (v_numbers : Nat → Int32) (v_walk : Nat → Int32) : Option (Int32 × (Nat → Int32) × (Nat → Int32) × (Nat → Int32) × (Nat → Int32) × (Nat → Int32) × (Nat → Int32) × (Nat → Int32) × (Nat → Int32) × (Nat → Int32) × (Nat → Int32)) :=
  bd1 (f_JMath_max N l3 1) fun r_1 =>
  ck (nz r_1) <|
  f_Share_byCounts_b55 N n_p2 v_p2 l1 l3 k8 l4 l5 (l5 / r_1) s0 i_order v_points v_cuts v_queue v_owners v_takes v_bases v_ranked v_starts v_numbers v_walk
def f_Share_byCounts_b104 (N : Nat) (n_p2 : Nat) (v_p2 : Nat → Int32) (l1 : Int32) (l3 : Int32)  (i_order : Int32) (v_points : Nat → Int32) (v_cuts : Nat → Int32) (v_queue : Nat → Int32) (v_owners : Nat → Int32) (v_takes : Nat → Int32) (v_bases : Nat → Int32) (v_ranked : Nat → Int32) (v_starts : Nat → Int32) (v_numbers : Nat → Int32) (v_walk : Nat → Int32) : Option (Int32 × (Nat → Int32) × (Nat → Int32) × (Nat → Int32) × (Nat → Int32) × (Nat → Int32) × (Nat → Int32) × (Nat → Int32) × (Nat → Int32) × (Nat → Int32) × (Nat → Int32)) :=
  bd7 (f_Share_layOut N i_order v_points v_owners v_takes v_bases v_ranked v_starts v_numbers v_walk) fun v_owners_1 v_takes_2 v_bases_3 v_ranked_4 v_starts_5 v_numbers_6 v_walk_7 =>
  some (i_order, v_points, v_cuts, v_queue, v_owners_1, v_takes_2, v_bases_3, v_ranked_4, v_starts_5, v_numbers_6, v_walk_7)
def f_Share_byCounts_b77 (N : Nat) (n_p2 : Nat) (v_p2 : Nat → Int32) (l1 : Int32) (l3 : Int32)  (i_order : Int32) (v_points : Nat → Int32) (v_cuts : Nat → Int32) (v_queue : Nat → Int32) (v_owners : Nat → Int32) (v_takes : Nat → Int32) (v_bases : Nat → Int32) (v_ranked : Nat → Int32) (v_starts : Nat → Int32) (v_numbers : Nat → Int32) (v_walk : Nat → Int32) : Option (Int32 × (Nat → Int32) × (Nat → Int32) × (Nat → Int32) × (Nat → Int32) × (Nat → Int32) × (Nat → Int32) × (Nat → Int32) × (Nat → Int32) × (Nat → Int32) × (Nat → Int32)) :=
  bd1 (f_Share_lacking N i_order v_points) fun r_1 =>
  if r_1 ≤ 0 then
  bd1 (f_Share_takeAway N (-r_1) v_points) fun v_points_4 =>
  f_Share_byCounts_b104 N n_p2 v_p2 l1 l3  i_order v_points_4 v_cuts v_queue v_owners v_takes v_bases v_ranked v_starts v_numbers v_walk
  else
  bd2 (f_Share_give N v_cuts r_1 v_points v_queue) fun v_points_6 v_queue_7 =>
  f_Share_byCounts_b104 N n_p2 v_p2 l1 l3  i_order v_points_6 v_cuts v_queue_7 v_owners v_takes v_bases v_ranked v_starts v_numbers v_walk
def f_Share_byCounts_b8 (N : Nat) (n_p2 : Nat) (v_p2 : Nat → Int32) (l1 : Int32) (l3 : Int32)  : Nat → Int32 → Int32 → (Nat → Int32) → (Nat → Int32) → (Nat → Int32) → (Nat → Int32) → (Nat → Int32) → (Nat → Int32) → (Nat → Int32) → (Nat → Int32) → (Nat → Int32) → (Nat → Int32) → Option (Int32 × (Nat → Int32) × (Nat → Int32) × (Nat → Int32) × (Nat → Int32) × (Nat → Int32) × (Nat → Int32) × (Nat → Int32) × (Nat → Int32) × (Nat → Int32) × (Nat → Int32))
  | 0, _, _, _, _, _, _, _, _, _, _, _, _ => none
  | z + 1, l4, i_order, v_points, v_cuts, v_queue, v_owners, v_takes, v_bases, v_ranked, v_starts, v_numbers, v_walk =>
  if 12 ≤ l4 then
  f_Share_byCounts_b77 N n_p2 v_p2 l1 l3  i_order v_points v_cuts v_queue v_owners v_takes v_bases v_ranked v_starts v_numbers v_walk
  else
  ck (inb l4 n_p2) <|
  nm ((v_p2 (Int32.toNatClampNeg l4)) <<< (i_order &&& 31)) fun l5_3 =>
  if l5_3 ≤ 0 then
  f_Share_byCounts_b47 N n_p2 v_p2 l1 l3 (f_Share_byCounts_b8 N n_p2 v_p2 l1 l3  z) l4 l5_3 l4 i_order v_points v_cuts v_queue v_owners v_takes v_bases v_ranked v_starts v_numbers v_walk
  else
  if l3 ≤ l5_3 then
  f_Share_byCounts_b47 N n_p2 v_p2 l1 l3 (f_Share_byCounts_b8 N n_p2 v_p2 l1 l3  z) l4 l5_3 l4 i_order v_points v_cuts v_queue v_owners v_takes v_bases v_ranked v_starts v_numbers v_walk
  else
  f_Share_byCounts_b55 N n_p2 v_p2 l1 l3 (f_Share_byCounts_b8 N n_p2 v_p2 l1 l3  z) l4 l5_3 (-1) l4 i_order v_points v_cuts v_queue v_owners v_takes v_bases v_ranked v_starts v_numbers v_walk
def f_Share_byCounts (N : Nat) (n_p2 : Nat) (v_p2 : Nat → Int32) (l1 : Int32) (l3 : Int32)  (i_order : Int32) (v_points : Nat → Int32) (v_cuts : Nat → Int32) (v_queue : Nat → Int32) (v_owners : Nat → Int32) (v_takes : Nat → Int32) (v_bases : Nat → Int32) (v_ranked : Nat → Int32) (v_starts : Nat → Int32) (v_numbers : Nat → Int32) (v_walk : Nat → Int32) : Option (Int32 × (Nat → Int32) × (Nat → Int32) × (Nat → Int32) × (Nat → Int32) × (Nat → Int32) × (Nat → Int32) × (Nat → Int32) × (Nat → Int32) × (Nat → Int32) × (Nat → Int32)) :=
  f_Share_byCounts_b8 N n_p2 v_p2 l1 l3  N 0 l1 v_points v_cuts v_queue v_owners v_takes v_bases v_ranked v_starts v_numbers v_walk
def f_Row_put_b25 (N : Nat) (i_room : Int32) (n_words : Nat) (l1 : Int32) (l2 : Int32)  : Nat → Int32 → Int32 → Int32 → (Nat → Int64) → Option (Int32 × Int32 × Int32 × (Nat → Int64))
  | 0, _, _, _, _ => none
  | z + 1, i_used, i_held, i_many, v_words =>
  if i_many < 8 then
  some (i_used, i_held, i_many, v_words)
  else
  bd2 (f_Row_add N i_room n_words (i_held &&& 255) i_used v_words) fun i_used_2 v_words_3 =>
  nm (i_held >>> (8 &&& 31)) fun i_held_5 =>
  nm (i_many - 8) fun i_many_6 =>
  f_Row_put_b25 N i_room n_words l1 l2  z i_used_2 i_held_5 i_many_6 v_words_3
def f_Row_put (N : Nat) (i_room : Int32) (n_words : Nat) (l1 : Int32) (l2 : Int32)  (i_used : Int32) (i_held : Int32) (i_many : Int32) (v_words : Nat → Int64) : Option (Int32 × Int32 × Int32 × (Nat → Int64)) :=
  nm (i_held ||| (l1 <<< (i_many &&& 31))) fun i_held_1 =>
  nm (i_many + l2) fun i_many_2 =>
  f_Row_put_b25 N i_room n_words l1 l2  N i_used i_held_1 i_many_2 v_words
def f_Share_putPoints_b52 (N : Nat) (i_p1_room : Int32) (n_p1_words : Nat) (l1 : Int32) (l2 : Int32)  (l3 : Int32) (s0 : Int32) (i_p1_used : Int32) (i_p1_held : Int32) (i_p1_many : Int32) (v_p1_words : Nat → Int64) : Option (Int32 × Int32 × Int32 × (Nat → Int64)) :=
  bd4 (f_Row_put N i_p1_room n_p1_words s0 (l3 + 1) i_p1_used i_p1_held i_p1_many v_p1_words) fun i_p1_used_1 i_p1_held_2 i_p1_many_3 v_p1_words_4 =>
  some (i_p1_used_1, i_p1_held_2, i_p1_many_3, v_p1_words_4)
def f_Share_putPoints (N : Nat) (i_p1_room : Int32) (n_p1_words : Nat) (l1 : Int32) (l2 : Int32)  (i_p1_used : Int32) (i_p1_held : Int32) (i_p1_many : Int32) (v_p1_words : Nat → Int64) : Option (Int32 × Int32 × Int32 × (Nat → Int64)) :=
  bd1 (f_PM_log2 N (l2 + 1)) fun r_1 =>
  nm (1 <<< (r_1 &&& 31)) fun l4_3 =>
  nm (((2 * l4_3) - 2) - l2) fun l5_4 =>
  if l5_4 ≤ l1 then
  if l4_3 ≤ l1 then
  f_Share_putPoints_b52 N i_p1_room n_p1_words l1 l2  r_1 (l1 + l5_4) i_p1_used i_p1_held i_p1_many v_p1_words
  else
  f_Share_putPoints_b52 N i_p1_room n_p1_words l1 l2  r_1 l1 i_p1_used i_p1_held i_p1_many v_p1_words
  else
  bd4 (f_Row_put N i_p1_room n_p1_words l1 r_1 i_p1_used i_p1_held i_p1_many v_p1_words) fun i_p1_used_7 i_p1_held_8 i_p1_many_9 v_p1_words_10 =>
  some (i_p1_used_7, i_p1_held_8, i_p1_many_9, v_p1_words_10)
def f_Share_putNone_b46 (N : Nat) (v_points : Nat → Int32) (i_p1_room : Int32) (n_p1_words : Nat) (l2 : Int32)  (l3 : Int32) (i_p1_used : Int32) (i_p1_held : Int32) (i_p1_many : Int32) (v_p1_words : Nat → Int64) : Option (Int32 × Int32 × Int32 × Int32 × (Nat → Int64)) :=
  bd4 (f_Row_put N i_p1_room n_p1_words ((l3 - l2) - (l3 - l2) / 3 * 3) 2 i_p1_used i_p1_held i_p1_many v_p1_words) fun i_p1_used_1 i_p1_held_2 i_p1_many_3 v_p1_words_4 =>
  some (l3, i_p1_used_1, i_p1_held_2, i_p1_many_3, v_p1_words_4)
def f_Share_putNone_b26 (N : Nat) (v_points : Nat → Int32) (i_p1_room : Int32) (n_p1_words : Nat) (l2 : Int32)  : Nat → Int32 → Int32 → Int32 → Int32 → Int32 → (Nat → Int64) → Option (Int32 × Int32 × Int32 × Int32 × (Nat → Int64))
  | 0, _, _, _, _, _, _ => none
  | z + 1, l3, l4, i_p1_used, i_p1_held, i_p1_many, v_p1_words =>
  if l3 < (l4 + 3) then
  f_Share_putNone_b46 N v_points i_p1_room n_p1_words l2  l3 i_p1_used i_p1_held i_p1_many v_p1_words
  else
  bd4 (f_Row_put N i_p1_room n_p1_words 3 2 i_p1_used i_p1_held i_p1_many v_p1_words) fun i_p1_used_2 i_p1_held_3 i_p1_many_4 v_p1_words_5 =>
  nm (l4 + 3) fun l4_7 =>
  f_Share_putNone_b26 N v_points i_p1_room n_p1_words l2  z l3 l4_7 i_p1_used_2 i_p1_held_3 i_p1_many_4 v_p1_words_5
def f_Share_putNone_b23 (N : Nat) (v_points : Nat → Int32) (i_p1_room : Int32) (n_p1_words : Nat) (l2 : Int32)  (l3 : Int32) (i_p1_used : Int32) (i_p1_held : Int32) (i_p1_many : Int32) (v_p1_words : Nat → Int64) : Option (Int32 × Int32 × Int32 × Int32 × (Nat → Int64)) :=
  f_Share_putNone_b26 N v_points i_p1_room n_p1_words l2  N l3 l2 i_p1_used i_p1_held i_p1_many v_p1_words
def f_Share_putNone_b2 (N : Nat) (v_points : Nat → Int32) (i_p1_room : Int32) (n_p1_words : Nat) (l2 : Int32)  : Nat → Int32 → Int32 → Int32 → Int32 → (Nat → Int64) → Option (Int32 × Int32 × Int32 × Int32 × (Nat → Int64))
  | 0, _, _, _, _, _ => none
  | z + 1, l3, i_p1_used, i_p1_held, i_p1_many, v_p1_words =>
  if 12 ≤ l3 then
  f_Share_putNone_b23 N v_points i_p1_room n_p1_words l2  l3 i_p1_used i_p1_held i_p1_many v_p1_words
  else
  ck (inb l3 12) <|
  if (v_points (Int32.toNatClampNeg l3)) = 0 then
  nm (l3 + 1) fun l3_4 =>
  f_Share_putNone_b2 N v_points i_p1_room n_p1_words l2  z l3_4 i_p1_used i_p1_held i_p1_many v_p1_words
  else
  f_Share_putNone_b23 N v_points i_p1_room n_p1_words l2  l3 i_p1_used i_p1_held i_p1_many v_p1_words
def f_Share_putNone (N : Nat) (v_points : Nat → Int32) (i_p1_room : Int32) (n_p1_words : Nat) (l2 : Int32)  (i_p1_used : Int32) (i_p1_held : Int32) (i_p1_many : Int32) (v_p1_words : Nat → Int64) : Option (Int32 × Int32 × Int32 × Int32 × (Nat → Int64)) :=
  f_Share_putNone_b2 N v_points i_p1_room n_p1_words l2  N l2 i_p1_used i_p1_held i_p1_many v_p1_words
def f_Row_pad (N : Nat) (i_room : Int32) (n_words : Nat)  (i_used : Int32) (i_held : Int32) (i_many : Int32) (v_words : Nat → Int64) : Option (Int32 × Int32 × Int32 × (Nat → Int64)) :=
  if i_many ≤ 0 then
  some (i_used, i_held, i_many, v_words)
  else
  bd4 (f_Row_put N i_room n_words 0 (8 - i_many) i_used i_held i_many v_words) fun i_used_2 i_held_3 i_many_4 v_words_5 =>
  some (i_used_2, i_held_3, i_many_4, v_words_5)
def f_Share_put_b74 (N : Nat) (i_order : Int32) (v_points : Nat → Int32) (i_p1_room : Int32) (n_p1_words : Nat) (k20 : Int32 → Int32 → Int32 → Int32 → Int32 → (Nat → Int64) → Option (Int32 × Int32 × Int32 × (Nat → Int64))) (l2 : Int32) (s0 : Int32) (i_p1_used : Int32) (i_p1_held : Int32) (i_p1_many : Int32) (v_p1_words : Nat → Int64) : Option (Int32 × Int32 × Int32 × (Nat → Int64)) :=
  k20 l2 s0 i_p1_used i_p1_held i_p1_many v_p1_words
def f_Share_put_b78 (N : Nat) (i_order : Int32) (v_points : Nat → Int32) (i_p1_room : Int32) (n_p1_words : Nat)  (i_p1_used : Int32) (i_p1_held : Int32) (i_p1_many : Int32) (v_p1_words : Nat → Int64) : Option (Int32 × Int32 × Int32 × (Nat → Int64)) :=
  bd4 (f_Row_pad N i_p1_room n_p1_words i_p1_used i_p1_held i_p1_many v_p1_words) fun i_p1_used_1 i_p1_held_2 i_p1_many_3 v_p1_words_4 =>
  some (i_p1_used_1, i_p1_held_2, i_p1_many_3, v_p1_words_4)
def f_Share_put_b20 (N : Nat) (i_order : Int32) (v_points : Nat → Int32) (i_p1_room : Int32) (n_p1_words : Nat)  : Nat → Int32 → Int32 → Int32 → Int32 → Int32 → (Nat → Int64) → Option (Int32 × Int32 × Int32 × (Nat → Int64))
  | 0, _, _, _, _, _, _ => none
  | z + 1, l2, l3, i_p1_used, i_p1_held, i_p1_many, v_p1_words =>
  if 12 ≤ l3 then
  f_Share_put_b78 N i_order v_points i_p1_room n_p1_words  i_p1_used i_p1_held i_p1_many v_p1_words
  else
  if l2 ≤ 0 then
  f_Share_put_b78 N i_order v_points i_p1_room n_p1_words  i_p1_used i_p1_held i_p1_many v_p1_words
  else
  ck (inb l3 12) <|
  bd4 (f_Share_putPoints N i_p1_room n_p1_words ((v_points (Int32.toNatClampNeg l3)) + 1) l2 i_p1_used i_p1_held i_p1_many v_p1_words) fun i_p1_used_4 i_p1_held_5 i_p1_many_6 v_p1_words_7 =>
  bd1 (f_Share_massOf N v_points l3) fun r_9 =>
  nm (l2 - r_9) fun l2_11 =>
  ck (inb l3 12) <|
  if (v_points (Int32.toNatClampNeg l3)) = 0 then
  bd5 (f_Share_putNone N v_points i_p1_room n_p1_words (l3 + 1) i_p1_used_4 i_p1_held_5 i_p1_many_6 v_p1_words_7) fun r_14 i_p1_used_15 i_p1_held_16 i_p1_many_17 v_p1_words_18 =>
  f_Share_put_b74 N i_order v_points i_p1_room n_p1_words (f_Share_put_b20 N i_order v_points i_p1_room n_p1_words  z) l2_11 r_14 i_p1_used_15 i_p1_held_16 i_p1_many_17 v_p1_words_18
  else
  f_Share_put_b74 N i_order v_points i_p1_room n_p1_words (f_Share_put_b20 N i_order v_points i_p1_room n_p1_words  z) l2_11 (l3 + 1) i_p1_used_4 i_p1_held_5 i_p1_many_6 v_p1_words_7
def f_Share_put (N : Nat) (i_order : Int32) (v_points : Nat → Int32) (i_p1_room : Int32) (n_p1_words : Nat)  (i_p1_used : Int32) (i_p1_held : Int32) (i_p1_many : Int32) (v_p1_words : Nat → Int64) : Option (Int32 × Int32 × Int32 × (Nat → Int64)) :=
  bd4 (f_Row_put N i_p1_room n_p1_words (i_order - 5) 4 i_p1_used i_p1_held i_p1_many v_p1_words) fun i_p1_used_1 i_p1_held_2 i_p1_many_3 v_p1_words_4 =>
  nm (1 <<< (i_order &&& 31)) fun l2_6 =>
  f_Share_put_b20 N i_order v_points i_p1_room n_p1_words  N l2_6 0 i_p1_used_1 i_p1_held_2 i_p1_many_3 v_p1_words_4
def f_Share_lowestPlace (N : Nat) (v_ranked : Nat → Int32) (v_starts : Nat → Int32) (l1 : Int32)   : Option (Int32) :=
  ck (inb l1 12) <|
  ck (inb (v_starts (Int32.toNatClampNeg l1)) 64) <|
  some ((v_ranked (Int32.toNatClampNeg (v_starts (Int32.toNatClampNeg l1)))))
def f_Share_placeBefore_b42 (N : Nat) (i_order : Int32) (v_points : Nat → Int32) (v_ranked : Nat → Int32) (v_starts : Nat → Int32) (l1 : Int32) (l2 : Int32)  (l3 : Int32) : Option (Int32) :=
  ck (inb l2 12) <|
  bd1 (f_Share_massOf N v_points l2) fun r_2 =>
  ck (inb (((v_starts (Int32.toNatClampNeg l2)) + l3) - r_2) 64) <|
  some ((v_ranked (Int32.toNatClampNeg (((v_starts (Int32.toNatClampNeg l2)) + l3) - r_2))))
def f_Share_placeBefore_b12 (N : Nat) (i_order : Int32) (v_points : Nat → Int32) (v_ranked : Nat → Int32) (v_starts : Nat → Int32) (l1 : Int32) (l2 : Int32)  : Nat → Int32 → Int32 → Option (Int32)
  | 0, _, _ => none
  | z + 1, l3, l4 =>
  if i_order ≤ l4 then
  f_Share_placeBefore_b42 N i_order v_points v_ranked v_starts l1 l2  l3
  else
  bd1 (f_Share_massOf N v_points l2) fun r_2 =>
  if l3 < (2 * r_2) then
  f_Share_placeBefore_b42 N i_order v_points v_ranked v_starts l1 l2  l3
  else
  nm (l3 >>> (1 &&& 31)) fun l3_5 =>
  nm (l4 + 1) fun l4_6 =>
  f_Share_placeBefore_b12 N i_order v_points v_ranked v_starts l1 l2  z l3_5 l4_6
def f_Share_placeBefore (N : Nat) (i_order : Int32) (v_points : Nat → Int32) (v_ranked : Nat → Int32) (v_starts : Nat → Int32) (l1 : Int32) (l2 : Int32)   : Option (Int32) :=
  nm (l1 + (1 <<< (i_order &&& 31))) fun l3_1 =>
  f_Share_placeBefore_b12 N i_order v_points v_ranked v_starts l1 l2  N l3_1 0
def f_Row_finish (N : Nat) (i_room : Int32) (n_words : Nat)  (i_used : Int32) (i_held : Int32) (i_many : Int32) (v_words : Nat → Int64) : Option (Int32 × Int32 × Int32 × (Nat → Int64)) :=
  bd4 (f_Row_put N i_room n_words 1 1 i_used i_held i_many v_words) fun i_used_1 i_held_2 i_many_3 v_words_4 =>
  bd4 (f_Row_pad N i_room n_words i_used_1 i_held_2 i_many_3 v_words_4) fun i_used_6 i_held_7 i_many_8 v_words_9 =>
  some (i_used_6, i_held_7, i_many_8, v_words_9)
def f_Draft_compose_b128 (N : Nat) (i_order : Int32) (i_row_room : Int32) (n_row_words : Nat) (n_p1 : Nat) (v_p1 : Nat → Int32) (n_p3 : Nat) (v_p3 : Nat → Int32) (l2 : Int32)  (l4 : Int32) (l5 : Int32) (i_row_used : Int32) (i_row_held : Int32) (i_row_many : Int32) (v_row_words : Nat → Int64) (i_share_order : Int32) (v_share_points : Nat → Int32) (v_share_cuts : Nat → Int32) (v_share_queue : Nat → Int32) (v_share_owners : Nat → Int32) (v_share_takes : Nat → Int32) (v_share_bases : Nat → Int32) (v_share_ranked : Nat → Int32) (v_share_starts : Nat → Int32) (v_share_numbers : Nat → Int32) (v_share_walk : Nat → Int32) : Option (Int32 × Int32 × Int32 × (Nat → Int64) × Int32 × (Nat → Int32) × (Nat → Int32) × (Nat → Int32) × (Nat → Int32) × (Nat → Int32) × (Nat → Int32) × (Nat → Int32) × (Nat → Int32) × (Nat → Int32) × (Nat → Int32)) :=
  bd4 (f_Row_put N i_row_room n_row_words l4 i_order i_row_used i_row_held i_row_many v_row_words) fun i_row_used_1 i_row_held_2 i_row_many_3 v_row_words_4 =>
  bd4 (f_Row_put N i_row_room n_row_words l5 i_order i_row_used_1 i_row_held_2 i_row_many_3 v_row_words_4) fun i_row_used_6 i_row_held_7 i_row_many_8 v_row_words_9 =>
  bd4 (f_Row_finish N i_row_room n_row_words i_row_used_6 i_row_held_7 i_row_many_8 v_row_words_9) fun i_row_used_11 i_row_held_12 i_row_many_13 v_row_words_14 =>
  some (i_row_used_11, i_row_held_12, i_row_many_13, v_row_words_14, i_share_order, v_share_points, v_share_cuts, v_share_queue, v_share_owners, v_share_takes, v_share_bases, v_share_ranked, v_share_starts, v_share_numbers, v_share_walk)
def f_Draft_compose_b64 (N : Nat) (i_order : Int32) (i_row_room : Int32) (n_row_words : Nat) (n_p1 : Nat) (v_p1 : Nat → Int32) (n_p3 : Nat) (v_p3 : Nat → Int32) (l2 : Int32)  : Nat → Int32 → Int32 → Int32 → Int32 → Int32 → Int32 → (Nat → Int64) → Int32 → (Nat → Int32) → (Nat → Int32) → (Nat → Int32) → (Nat → Int32) → (Nat → Int32) → (Nat → Int32) → (Nat → Int32) → (Nat → Int32) → (Nat → Int32) → (Nat → Int32) → Option (Int32 × Int32 × Int32 × (Nat → Int64) × Int32 × (Nat → Int32) × (Nat → Int32) × (Nat → Int32) × (Nat → Int32) × (Nat → Int32) × (Nat → Int32) × (Nat → Int32) × (Nat → Int32) × (Nat → Int32) × (Nat → Int32))
  | 0, _, _, _, _, _, _, _, _, _, _, _, _, _, _, _, _, _, _ => none
  | z + 1, l4, l5, l6, i_row_used, i_row_held, i_row_many, v_row_words, i_share_order, v_share_points, v_share_cuts, v_share_queue, v_share_owners, v_share_takes, v_share_bases, v_share_ranked, v_share_starts, v_share_numbers, v_share_walk =>
  if l6 < 0 then
  f_Draft_compose_b128 N i_order i_row_room n_row_words n_p1 v_p1 n_p3 v_p3 l2  l4 l5 i_row_used i_row_held i_row_many v_row_words i_share_order v_share_points v_share_cuts v_share_queue v_share_owners v_share_takes v_share_bases v_share_ranked v_share_starts v_share_numbers v_share_walk
  else
  ck (inb l6 n_p1) <|
  bd1 (f_Share_placeBefore N i_share_order v_share_points v_share_ranked v_share_starts l4 (v_p1 (Int32.toNatClampNeg l6))) fun r_3 =>
  ck (inb r_3 64) <|
  ck (inb r_3 64) <|
  bd4 (f_Row_put N i_row_room n_row_words (l4 - (v_share_bases (Int32.toNatClampNeg r_3))) (v_share_takes (Int32.toNatClampNeg r_3)) i_row_used i_row_held i_row_many v_row_words) fun i_row_used_7 i_row_held_8 i_row_many_9 v_row_words_10 =>
  nm (l6 + (-1)) fun l6_12 =>
  f_Draft_compose_b64 N i_order i_row_room n_row_words n_p1 v_p1 n_p3 v_p3 l2  z l5 r_3 l6_12 i_row_used_7 i_row_held_8 i_row_many_9 v_row_words_10 i_share_order v_share_points v_share_cuts v_share_queue v_share_owners v_share_takes v_share_bases v_share_ranked v_share_starts v_share_numbers v_share_walk
def f_Draft_compose (N : Nat) (i_order : Int32) (i_row_room : Int32) (n_row_words : Nat) (n_p1 : Nat) (v_p1 : Nat → Int32) (n_p3 : Nat) (v_p3 : Nat → Int32) (l2 : Int32)  (i_row_used : Int32) (i_row_held : Int32) (i_row_many : Int32) (v_row_words : Nat → Int64) (i_share_order : Int32) (v_share_points : Nat → Int32) (v_share_cuts : Nat → Int32) (v_share_queue : Nat → Int32) (v_share_owners : Nat → Int32) (v_share_takes : Nat → Int32) (v_share_bases : Nat → Int32) (v_share_ranked : Nat → Int32) (v_share_starts : Nat → Int32) (v_share_numbers : Nat → Int32) (v_share_walk : Nat → Int32) : Option (Int32 × Int32 × Int32 × (Nat → Int64) × Int32 × (Nat → Int32) × (Nat → Int32) × (Nat → Int32) × (Nat → Int32) × (Nat → Int32) × (Nat → Int32) × (Nat → Int32) × (Nat → Int32) × (Nat → Int32) × (Nat → Int32)) :=
  bd1 (f_Row_empty N i_row_used) fun i_row_used_1 =>
  bd11 (f_Share_byCounts N n_p3 v_p3 i_order l2 i_share_order v_share_points v_share_cuts v_share_queue v_share_owners v_share_takes v_share_bases v_share_ranked v_share_starts v_share_numbers v_share_walk) fun i_share_order_3 v_share_points_4 v_share_cuts_5 v_share_queue_6 v_share_owners_7 v_share_takes_8 v_share_bases_9 v_share_ranked_10 v_share_starts_11 v_share_numbers_12 v_share_walk_13 =>
  bd4 (f_Share_put N i_share_order_3 v_share_points_4 i_row_room n_row_words i_row_used_1 i_row_held i_row_many v_row_words) fun i_row_used_15 i_row_held_16 i_row_many_17 v_row_words_18 =>
  ck (inb (l2 - 1) n_p1) <|
  bd1 (f_Share_lowestPlace N v_share_ranked_10 v_share_starts_11 (v_p1 (Int32.toNatClampNeg (l2 - 1)))) fun r_21 =>
  ck (inb (l2 - 2) n_p1) <|
  bd1 (f_Share_lowestPlace N v_share_ranked_10 v_share_starts_11 (v_p1 (Int32.toNatClampNeg (l2 - 2)))) fun r_24 =>
  nm (l2 - 3) fun l6_26 =>
  f_Draft_compose_b64 N i_order i_row_room n_row_words n_p1 v_p1 n_p3 v_p3 l2  N r_21 r_24 l6_26 i_row_used_15 i_row_held_16 i_row_many_17 v_row_words_18 i_share_order_3 v_share_points_4 v_share_cuts_5 v_share_queue_6 v_share_owners_7 v_share_takes_8 v_share_bases_9 v_share_ranked_10 v_share_starts_11 v_share_numbers_12 v_share_walk_13
def f_Writer_putDirect_b34 (N : Nat) (v_weights : Nat → Int32) (i_p1_room : Int32) (n_p1_words : Nat) (l2 : Int32) (k10 : Int32 → Int32 → (Nat → Int64) → Option (Int32 × (Nat → Int64))) (l3 : Int32) (s0 : Int32) (i_p1_used : Int32) (v_p1_words : Nat → Int64) : Option (Int32 × (Nat → Int64)) :=
  ck (inb l3 256) <|
  bd2 (f_Row_add N i_p1_room n_p1_words (((v_weights (Int32.toNatClampNeg l3)) <<< (4 &&& 31)) ||| s0) i_p1_used v_p1_words) fun i_p1_used_2 v_p1_words_3 =>
  nm (l3 + 2) fun l3_5 =>
  k10 l3_5 i_p1_used_2 v_p1_words_3
def f_Writer_putDirect_b10 (N : Nat) (v_weights : Nat → Int32) (i_p1_room : Int32) (n_p1_words : Nat) (l2 : Int32)  : Nat → Int32 → Int32 → (Nat → Int64) → Option (Int32 × (Nat → Int64))
  | 0, _, _, _ => none
  | z + 1, l3, i_p1_used, v_p1_words =>
  if l2 ≤ l3 then
  some (i_p1_used, v_p1_words)
  else
  if l2 ≤ (l3 + 1) then
  f_Writer_putDirect_b34 N v_weights i_p1_room n_p1_words l2 (f_Writer_putDirect_b10 N v_weights i_p1_room n_p1_words l2  z) l3 0 i_p1_used v_p1_words
  else
  ck (inb (l3 + 1) 256) <|
  f_Writer_putDirect_b34 N v_weights i_p1_room n_p1_words l2 (f_Writer_putDirect_b10 N v_weights i_p1_room n_p1_words l2  z) l3 (v_weights (Int32.toNatClampNeg (l3 + 1))) i_p1_used v_p1_words
def f_Writer_putDirect (N : Nat) (v_weights : Nat → Int32) (i_p1_room : Int32) (n_p1_words : Nat) (l2 : Int32)  (i_p1_used : Int32) (v_p1_words : Nat → Int64) : Option (Int32 × (Nat → Int64)) :=
  bd2 (f_Row_add N i_p1_room n_p1_words (127 + l2) i_p1_used v_p1_words) fun i_p1_used_1 v_p1_words_2 =>
  f_Writer_putDirect_b10 N v_weights i_p1_room n_p1_words l2  N 0 i_p1_used_1 v_p1_words_2
def f_Writer_putStates_b10 (N : Nat) (i_p1_room : Int32) (n_p1_words : Nat) (i_p2_used : Int32) (n_p2_words : Nat) (v_p2_words : Nat → Int64)  : Nat → Int32 → Int32 → (Nat → Int64) → Option (Int32 × (Nat → Int64))
  | 0, _, _, _ => none
  | z + 1, l2, i_p1_used, v_p1_words =>
  if i_p2_used ≤ l2 then
  some (i_p1_used, v_p1_words)
  else
  bd1 (f_Row_get N i_p2_used n_p2_words v_p2_words l2) fun r_2 =>
  bd2 (f_Row_add N i_p1_room n_p1_words r_2 i_p1_used v_p1_words) fun i_p1_used_4 v_p1_words_5 =>
  nm (l2 + 1) fun l2_7 =>
  f_Writer_putStates_b10 N i_p1_room n_p1_words i_p2_used n_p2_words v_p2_words  z l2_7 i_p1_used_4 v_p1_words_5
def f_Writer_putStates (N : Nat) (i_p1_room : Int32) (n_p1_words : Nat) (i_p2_used : Int32) (n_p2_words : Nat) (v_p2_words : Nat → Int64)  (i_p1_used : Int32) (v_p1_words : Nat → Int64) : Option (Int32 × (Nat → Int64)) :=
  bd2 (f_Row_add N i_p1_room n_p1_words i_p2_used i_p1_used v_p1_words) fun i_p1_used_1 v_p1_words_2 =>
  f_Writer_putStates_b10 N i_p1_room n_p1_words i_p2_used n_p2_words v_p2_words  N 0 i_p1_used_1 v_p1_words_2
def f_Writer_describeCodes_b215 (N : Nat) (i_five_order : Int32) (i_five_row_room : Int32) (n_five_row_words : Nat) (i_six_order : Int32) (i_six_row_room : Int32) (n_six_row_words : Nat) (i_p1_greatest : Int32) (i_p1_highest : Int32) (v_p1_lengths : Nat → Int32) (i_p2_room : Int32) (n_p2_words : Nat)  (i_five_row_used : Int32) (i_five_row_held : Int32) (i_five_row_many : Int32) (v_five_row_words : Nat → Int64) (i_five_share_order : Int32) (v_five_share_points : Nat → Int32) (v_five_share_cuts : Nat → Int32) (v_five_share_queue : Nat → Int32) (v_five_share_owners : Nat → Int32) (v_five_share_takes : Nat → Int32) (v_five_share_bases : Nat → Int32) (v_five_share_ranked : Nat → Int32) (v_five_share_starts : Nat → Int32) (v_five_share_numbers : Nat → Int32) (v_five_share_walk : Nat → Int32) (i_six_row_used : Int32) (i_six_row_held : Int32) (i_six_row_many : Int32) (v_six_row_words : Nat → Int64) (i_six_share_order : Int32) (v_six_share_points : Nat → Int32) (v_six_share_cuts : Nat → Int32) (v_six_share_queue : Nat → Int32) (v_six_share_owners : Nat → Int32) (v_six_share_takes : Nat → Int32) (v_six_share_bases : Nat → Int32) (v_six_share_ranked : Nat → Int32) (v_six_share_starts : Nat → Int32) (v_six_share_numbers : Nat → Int32) (v_six_share_walk : Nat → Int32) (v_weights : Nat → Int32) (v_counts : Nat → Int32) (i_p2_used : Int32) (v_p2_words : Nat → Int64) : Option (Int32 × Int32 × Int32 × Int32 × (Nat → Int64) × Int32 × (Nat → Int32) × (Nat → Int32) × (Nat → Int32) × (Nat → Int32) × (Nat → Int32) × (Nat → Int32) × (Nat → Int32) × (Nat → Int32) × (Nat → Int32) × (Nat → Int32) × Int32 × Int32 × Int32 × (Nat → Int64) × Int32 × (Nat → Int32) × (Nat → Int32) × (Nat → Int32) × (Nat → Int32) × (Nat → Int32) × (Nat → Int32) × (Nat → Int32) × (Nat → Int32) × (Nat → Int32) × (Nat → Int32) × (Nat → Int32) × (Nat → Int32) × Int32 × (Nat → Int64)) :=
  some (i_p2_used, i_five_row_used, i_five_row_held, i_five_row_many, v_five_row_words, i_five_share_order, v_five_share_points, v_five_share_cuts, v_five_share_queue, v_five_share_owners, v_five_share_takes, v_five_share_bases, v_five_share_ranked, v_five_share_starts, v_five_share_numbers, v_five_share_walk, i_six_row_used, i_six_row_held, i_six_row_many, v_six_row_words, i_six_share_order, v_six_share_points, v_six_share_cuts, v_six_share_queue, v_six_share_owners, v_six_share_takes, v_six_share_bases, v_six_share_ranked, v_six_share_starts, v_six_share_numbers, v_six_share_walk, v_weights, v_counts, i_p2_used, v_p2_words)
def f_Writer_describeCodes_b75 (N : Nat) (i_five_order : Int32) (i_five_row_room : Int32) (n_five_row_words : Nat) (i_six_order : Int32) (i_six_row_room : Int32) (n_six_row_words : Nat) (i_p1_greatest : Int32) (i_p1_highest : Int32) (v_p1_lengths : Nat → Int32) (i_p2_room : Int32) (n_p2_words : Nat)  (l3 : Int32) (l4 : Int32) (i_five_row_used : Int32) (i_five_row_held : Int32) (i_five_row_many : Int32) (v_five_row_words : Nat → Int64) (i_five_share_order : Int32) (v_five_share_points : Nat → Int32) (v_five_share_cuts : Nat → Int32) (v_five_share_queue : Nat → Int32) (v_five_share_owners : Nat → Int32) (v_five_share_takes : Nat → Int32) (v_five_share_bases : Nat → Int32) (v_five_share_ranked : Nat → Int32) (v_five_share_starts : Nat → Int32) (v_five_share_numbers : Nat → Int32) (v_five_share_walk : Nat → Int32) (i_six_row_used : Int32) (i_six_row_held : Int32) (i_six_row_many : Int32) (v_six_row_words : Nat → Int64) (i_six_share_order : Int32) (v_six_share_points : Nat → Int32) (v_six_share_cuts : Nat → Int32) (v_six_share_queue : Nat → Int32) (v_six_share_owners : Nat → Int32) (v_six_share_takes : Nat → Int32) (v_six_share_bases : Nat → Int32) (v_six_share_ranked : Nat → Int32) (v_six_share_starts : Nat → Int32) (v_six_share_numbers : Nat → Int32) (v_six_share_walk : Nat → Int32) (v_weights : Nat → Int32) (v_counts : Nat → Int32) (i_p2_used : Int32) (v_p2_words : Nat → Int64) : Option (Int32 × Int32 × Int32 × Int32 × (Nat → Int64) × Int32 × (Nat → Int32) × (Nat → Int32) × (Nat → Int32) × (Nat → Int32) × (Nat → Int32) × (Nat → Int32) × (Nat → Int32) × (Nat → Int32) × (Nat → Int32) × (Nat → Int32) × Int32 × Int32 × Int32 × (Nat → Int64) × Int32 × (Nat → Int32) × (Nat → Int32) × (Nat → Int32) × (Nat → Int32) × (Nat → Int32) × (Nat → Int32) × (Nat → Int32) × (Nat → Int32) × (Nat → Int32) × (Nat → Int32) × (Nat → Int32) × (Nat → Int32) × Int32 × (Nat → Int64)) :=
  if i_five_row_used ≤ i_six_row_used then
  if 128 < l3 then
  if l4 = 0 then
  if (1000 : Int32) = 1000 then
  if (1000 : Int32) = 1000 then
  some ((-2), i_five_row_used, i_five_row_held, i_five_row_many, v_five_row_words, i_five_share_order, v_five_share_points, v_five_share_cuts, v_five_share_queue, v_five_share_owners, v_five_share_takes, v_five_share_bases, v_five_share_ranked, v_five_share_starts, v_five_share_numbers, v_five_share_walk, i_six_row_used, i_six_row_held, i_six_row_many, v_six_row_words, i_six_share_order, v_six_share_points, v_six_share_cuts, v_six_share_queue, v_six_share_owners, v_six_share_takes, v_six_share_bases, v_six_share_ranked, v_six_share_starts, v_six_share_numbers, v_six_share_walk, v_weights, v_counts, i_p2_used, v_p2_words)
  else
  bd1 (f_Row_empty N i_p2_used) fun i_p2_used_15 =>
  if 1000 < (1000 : Int32) then
  bd2 (f_Writer_putStates N i_p2_room n_p2_words i_five_row_used n_five_row_words v_five_row_words i_p2_used_15 v_p2_words) fun i_p2_used_18 v_p2_words_19 =>
  f_Writer_describeCodes_b215 N i_five_order i_five_row_room n_five_row_words i_six_order i_six_row_room n_six_row_words i_p1_greatest i_p1_highest v_p1_lengths i_p2_room n_p2_words  i_five_row_used i_five_row_held i_five_row_many v_five_row_words i_five_share_order v_five_share_points v_five_share_cuts v_five_share_queue v_five_share_owners v_five_share_takes v_five_share_bases v_five_share_ranked v_five_share_starts v_five_share_numbers v_five_share_walk i_six_row_used i_six_row_held i_six_row_many v_six_row_words i_six_share_order v_six_share_points v_six_share_cuts v_six_share_queue v_six_share_owners v_six_share_takes v_six_share_bases v_six_share_ranked v_six_share_starts v_six_share_numbers v_six_share_walk v_weights v_counts i_p2_used_18 v_p2_words_19
  else
  bd2 (f_Writer_putDirect N v_weights i_p2_room n_p2_words l3 i_p2_used_15 v_p2_words) fun i_p2_used_21 v_p2_words_22 =>
  f_Writer_describeCodes_b215 N i_five_order i_five_row_room n_five_row_words i_six_order i_six_row_room n_six_row_words i_p1_greatest i_p1_highest v_p1_lengths i_p2_room n_p2_words  i_five_row_used i_five_row_held i_five_row_many v_five_row_words i_five_share_order v_five_share_points v_five_share_cuts v_five_share_queue v_five_share_owners v_five_share_takes v_five_share_bases v_five_share_ranked v_five_share_starts v_five_share_numbers v_five_share_walk i_six_row_used i_six_row_held i_six_row_many v_six_row_words i_six_share_order v_six_share_points v_six_share_cuts v_six_share_queue v_six_share_owners v_six_share_takes v_six_share_bases v_six_share_ranked v_six_share_starts v_six_share_numbers v_six_share_walk v_weights v_counts i_p2_used_21 v_p2_words_22
  else
  bd1 (f_Row_empty N i_p2_used) fun i_p2_used_5 =>
  if 1000 < (1000 : Int32) then
  bd2 (f_Writer_putStates N i_p2_room n_p2_words i_five_row_used n_five_row_words v_five_row_words i_p2_used_5 v_p2_words) fun i_p2_used_8 v_p2_words_9 =>
  f_Writer_describeCodes_b215 N i_five_order i_five_row_room n_five_row_words i_six_order i_six_row_room n_six_row_words i_p1_greatest i_p1_highest v_p1_lengths i_p2_room n_p2_words  i_five_row_used i_five_row_held i_five_row_many v_five_row_words i_five_share_order v_five_share_points v_five_share_cuts v_five_share_queue v_five_share_owners v_five_share_takes v_five_share_bases v_five_share_ranked v_five_share_starts v_five_share_numbers v_five_share_walk i_six_row_used i_six_row_held i_six_row_many v_six_row_words i_six_share_order v_six_share_points v_six_share_cuts v_six_share_queue v_six_share_owners v_six_share_takes v_six_share_bases v_six_share_ranked v_six_share_starts v_six_share_numbers v_six_share_walk v_weights v_counts i_p2_used_8 v_p2_words_9
  else
  bd2 (f_Writer_putDirect N v_weights i_p2_room n_p2_words l3 i_p2_used_5 v_p2_words) fun i_p2_used_11 v_p2_words_12 =>
  f_Writer_describeCodes_b215 N i_five_order i_five_row_room n_five_row_words i_six_order i_six_row_room n_six_row_words i_p1_greatest i_p1_highest v_p1_lengths i_p2_room n_p2_words  i_five_row_used i_five_row_held i_five_row_many v_five_row_words i_five_share_order v_five_share_points v_five_share_cuts v_five_share_queue v_five_share_owners v_five_share_takes v_five_share_bases v_five_share_ranked v_five_share_starts v_five_share_numbers v_five_share_walk i_six_row_used i_six_row_held i_six_row_many v_six_row_words i_six_share_order v_six_share_points v_six_share_cuts v_six_share_queue v_six_share_owners v_six_share_takes v_six_share_bases v_six_share_ranked v_six_share_starts v_six_share_numbers v_six_share_walk v_weights v_counts i_p2_used_11 v_p2_words_12
  else
  if 128 ≤ i_five_row_used then
  if (1000 : Int32) = 1000 then
  if (1000 : Int32) = 1000 then
  some ((-2), i_five_row_used, i_five_row_held, i_five_row_many, v_five_row_words, i_five_share_order, v_five_share_points, v_five_share_cuts, v_five_share_queue, v_five_share_owners, v_five_share_takes, v_five_share_bases, v_five_share_ranked, v_five_share_starts, v_five_share_numbers, v_five_share_walk, i_six_row_used, i_six_row_held, i_six_row_many, v_six_row_words, i_six_share_order, v_six_share_points, v_six_share_cuts, v_six_share_queue, v_six_share_owners, v_six_share_takes, v_six_share_bases, v_six_share_ranked, v_six_share_starts, v_six_share_numbers, v_six_share_walk, v_weights, v_counts, i_p2_used, v_p2_words)
  else
  bd1 (f_Row_empty N i_p2_used) fun i_p2_used_36 =>
  if 1000 < (1000 : Int32) then
  bd2 (f_Writer_putStates N i_p2_room n_p2_words i_five_row_used n_five_row_words v_five_row_words i_p2_used_36 v_p2_words) fun i_p2_used_39 v_p2_words_40 =>
  f_Writer_describeCodes_b215 N i_five_order i_five_row_room n_five_row_words i_six_order i_six_row_room n_six_row_words i_p1_greatest i_p1_highest v_p1_lengths i_p2_room n_p2_words  i_five_row_used i_five_row_held i_five_row_many v_five_row_words i_five_share_order v_five_share_points v_five_share_cuts v_five_share_queue v_five_share_owners v_five_share_takes v_five_share_bases v_five_share_ranked v_five_share_starts v_five_share_numbers v_five_share_walk i_six_row_used i_six_row_held i_six_row_many v_six_row_words i_six_share_order v_six_share_points v_six_share_cuts v_six_share_queue v_six_share_owners v_six_share_takes v_six_share_bases v_six_share_ranked v_six_share_starts v_six_share_numbers v_six_share_walk v_weights v_counts i_p2_used_39 v_p2_words_40
  else
  bd2 (f_Writer_putDirect N v_weights i_p2_room n_p2_words l3 i_p2_used_36 v_p2_words) fun i_p2_used_42 v_p2_words_43 =>
  f_Writer_describeCodes_b215 N i_five_order i_five_row_room n_five_row_words i_six_order i_six_row_room n_six_row_words i_p1_greatest i_p1_highest v_p1_lengths i_p2_room n_p2_words  i_five_row_used i_five_row_held i_five_row_many v_five_row_words i_five_share_order v_five_share_points v_five_share_cuts v_five_share_queue v_five_share_owners v_five_share_takes v_five_share_bases v_five_share_ranked v_five_share_starts v_five_share_numbers v_five_share_walk i_six_row_used i_six_row_held i_six_row_many v_six_row_words i_six_share_order v_six_share_points v_six_share_cuts v_six_share_queue v_six_share_owners v_six_share_takes v_six_share_bases v_six_share_ranked v_six_share_starts v_six_share_numbers v_six_share_walk v_weights v_counts i_p2_used_42 v_p2_words_43
  else
  bd1 (f_Row_empty N i_p2_used) fun i_p2_used_26 =>
  if 1000 < (1000 : Int32) then
  bd2 (f_Writer_putStates N i_p2_room n_p2_words i_five_row_used n_five_row_words v_five_row_words i_p2_used_26 v_p2_words) fun i_p2_used_29 v_p2_words_30 =>
  f_Writer_describeCodes_b215 N i_five_order i_five_row_room n_five_row_words i_six_order i_six_row_room n_six_row_words i_p1_greatest i_p1_highest v_p1_lengths i_p2_room n_p2_words  i_five_row_used i_five_row_held i_five_row_many v_five_row_words i_five_share_order v_five_share_points v_five_share_cuts v_five_share_queue v_five_share_owners v_five_share_takes v_five_share_bases v_five_share_ranked v_five_share_starts v_five_share_numbers v_five_share_walk i_six_row_used i_six_row_held i_six_row_many v_six_row_words i_six_share_order v_six_share_points v_six_share_cuts v_six_share_queue v_six_share_owners v_six_share_takes v_six_share_bases v_six_share_ranked v_six_share_starts v_six_share_numbers v_six_share_walk v_weights v_counts i_p2_used_29 v_p2_words_30
  else
  bd2 (f_Writer_putDirect N v_weights i_p2_room n_p2_words l3 i_p2_used_26 v_p2_words) fun i_p2_used_32 v_p2_words_33 =>
  f_Writer_describeCodes_b215 N i_five_order i_five_row_room n_five_row_words i_six_order i_six_row_room n_six_row_words i_p1_greatest i_p1_highest v_p1_lengths i_p2_room n_p2_words  i_five_row_used i_five_row_held i_five_row_many v_five_row_words i_five_share_order v_five_share_points v_five_share_cuts v_five_share_queue v_five_share_owners v_five_share_takes v_five_share_bases v_five_share_ranked v_five_share_starts v_five_share_numbers v_five_share_walk i_six_row_used i_six_row_held i_six_row_many v_six_row_words i_six_share_order v_six_share_points v_six_share_cuts v_six_share_queue v_six_share_owners v_six_share_takes v_six_share_bases v_six_share_ranked v_six_share_starts v_six_share_numbers v_six_share_walk v_weights v_counts i_p2_used_32 v_p2_words_33
  else
  nm (1 + i_five_row_used) fun l7_45 =>
  if (1000 : Int32) = 1000 then
  if l7_45 = 1000 then
  some ((-2), i_five_row_used, i_five_row_held, i_five_row_many, v_five_row_words, i_five_share_order, v_five_share_points, v_five_share_cuts, v_five_share_queue, v_five_share_owners, v_five_share_takes, v_five_share_bases, v_five_share_ranked, v_five_share_starts, v_five_share_numbers, v_five_share_walk, i_six_row_used, i_six_row_held, i_six_row_many, v_six_row_words, i_six_share_order, v_six_share_points, v_six_share_cuts, v_six_share_queue, v_six_share_owners, v_six_share_takes, v_six_share_bases, v_six_share_ranked, v_six_share_starts, v_six_share_numbers, v_six_share_walk, v_weights, v_counts, i_p2_used, v_p2_words)
  else
  bd1 (f_Row_empty N i_p2_used) fun i_p2_used_57 =>
  if l7_45 < 1000 then
  bd2 (f_Writer_putStates N i_p2_room n_p2_words i_five_row_used n_five_row_words v_five_row_words i_p2_used_57 v_p2_words) fun i_p2_used_60 v_p2_words_61 =>
  f_Writer_describeCodes_b215 N i_five_order i_five_row_room n_five_row_words i_six_order i_six_row_room n_six_row_words i_p1_greatest i_p1_highest v_p1_lengths i_p2_room n_p2_words  i_five_row_used i_five_row_held i_five_row_many v_five_row_words i_five_share_order v_five_share_points v_five_share_cuts v_five_share_queue v_five_share_owners v_five_share_takes v_five_share_bases v_five_share_ranked v_five_share_starts v_five_share_numbers v_five_share_walk i_six_row_used i_six_row_held i_six_row_many v_six_row_words i_six_share_order v_six_share_points v_six_share_cuts v_six_share_queue v_six_share_owners v_six_share_takes v_six_share_bases v_six_share_ranked v_six_share_starts v_six_share_numbers v_six_share_walk v_weights v_counts i_p2_used_60 v_p2_words_61
  else
  bd2 (f_Writer_putDirect N v_weights i_p2_room n_p2_words l3 i_p2_used_57 v_p2_words) fun i_p2_used_63 v_p2_words_64 =>
  f_Writer_describeCodes_b215 N i_five_order i_five_row_room n_five_row_words i_six_order i_six_row_room n_six_row_words i_p1_greatest i_p1_highest v_p1_lengths i_p2_room n_p2_words  i_five_row_used i_five_row_held i_five_row_many v_five_row_words i_five_share_order v_five_share_points v_five_share_cuts v_five_share_queue v_five_share_owners v_five_share_takes v_five_share_bases v_five_share_ranked v_five_share_starts v_five_share_numbers v_five_share_walk i_six_row_used i_six_row_held i_six_row_many v_six_row_words i_six_share_order v_six_share_points v_six_share_cuts v_six_share_queue v_six_share_owners v_six_share_takes v_six_share_bases v_six_share_ranked v_six_share_starts v_six_share_numbers v_six_share_walk v_weights v_counts i_p2_used_63 v_p2_words_64
  else
  bd1 (f_Row_empty N i_p2_used) fun i_p2_used_47 =>
  if l7_45 < 1000 then
  bd2 (f_Writer_putStates N i_p2_room n_p2_words i_five_row_used n_five_row_words v_five_row_words i_p2_used_47 v_p2_words) fun i_p2_used_50 v_p2_words_51 =>
  f_Writer_describeCodes_b215 N i_five_order i_five_row_room n_five_row_words i_six_order i_six_row_room n_six_row_words i_p1_greatest i_p1_highest v_p1_lengths i_p2_room n_p2_words  i_five_row_used i_five_row_held i_five_row_many v_five_row_words i_five_share_order v_five_share_points v_five_share_cuts v_five_share_queue v_five_share_owners v_five_share_takes v_five_share_bases v_five_share_ranked v_five_share_starts v_five_share_numbers v_five_share_walk i_six_row_used i_six_row_held i_six_row_many v_six_row_words i_six_share_order v_six_share_points v_six_share_cuts v_six_share_queue v_six_share_owners v_six_share_takes v_six_share_bases v_six_share_ranked v_six_share_starts v_six_share_numbers v_six_share_walk v_weights v_counts i_p2_used_50 v_p2_words_51
  else
  bd2 (f_Writer_putDirect N v_weights i_p2_room n_p2_words l3 i_p2_used_47 v_p2_words) fun i_p2_used_53 v_p2_words_54 =>
  f_Writer_describeCodes_b215 N i_five_order i_five_row_room n_five_row_words i_six_order i_six_row_room n_six_row_words i_p1_greatest i_p1_highest v_p1_lengths i_p2_room n_p2_words  i_five_row_used i_five_row_held i_five_row_many v_five_row_words i_five_share_order v_five_share_points v_five_share_cuts v_five_share_queue v_five_share_owners v_five_share_takes v_five_share_bases v_five_share_ranked v_five_share_starts v_five_share_numbers v_five_share_walk i_six_row_used i_six_row_held i_six_row_many v_six_row_words i_six_share_order v_six_share_points v_six_share_cuts v_six_share_queue v_six_share_owners v_six_share_takes v_six_share_bases v_six_share_ranked v_six_share_starts v_six_share_numbers v_six_share_walk v_weights v_counts i_p2_used_53 v_p2_words_54
  else
  nm (1 + ((l3 + 1) / 2)) fun l6_66 =>
  if l4 = 0 then
  if l6_66 = 1000 then
  if (1000 : Int32) = 1000 then
  some ((-2), i_five_row_used, i_five_row_held, i_five_row_many, v_five_row_words, i_five_share_order, v_five_share_points, v_five_share_cuts, v_five_share_queue, v_five_share_owners, v_five_share_takes, v_five_share_bases, v_five_share_ranked, v_five_share_starts, v_five_share_numbers, v_five_share_walk, i_six_row_used, i_six_row_held, i_six_row_many, v_six_row_words, i_six_share_order, v_six_share_points, v_six_share_cuts, v_six_share_queue, v_six_share_owners, v_six_share_takes, v_six_share_bases, v_six_share_ranked, v_six_share_starts, v_six_share_numbers, v_six_share_walk, v_weights, v_counts, i_p2_used, v_p2_words)
  else
  bd1 (f_Row_empty N i_p2_used) fun i_p2_used_79 =>
  if 1000 < l6_66 then
  bd2 (f_Writer_putStates N i_p2_room n_p2_words i_five_row_used n_five_row_words v_five_row_words i_p2_used_79 v_p2_words) fun i_p2_used_82 v_p2_words_83 =>
  f_Writer_describeCodes_b215 N i_five_order i_five_row_room n_five_row_words i_six_order i_six_row_room n_six_row_words i_p1_greatest i_p1_highest v_p1_lengths i_p2_room n_p2_words  i_five_row_used i_five_row_held i_five_row_many v_five_row_words i_five_share_order v_five_share_points v_five_share_cuts v_five_share_queue v_five_share_owners v_five_share_takes v_five_share_bases v_five_share_ranked v_five_share_starts v_five_share_numbers v_five_share_walk i_six_row_used i_six_row_held i_six_row_many v_six_row_words i_six_share_order v_six_share_points v_six_share_cuts v_six_share_queue v_six_share_owners v_six_share_takes v_six_share_bases v_six_share_ranked v_six_share_starts v_six_share_numbers v_six_share_walk v_weights v_counts i_p2_used_82 v_p2_words_83
  else
  bd2 (f_Writer_putDirect N v_weights i_p2_room n_p2_words l3 i_p2_used_79 v_p2_words) fun i_p2_used_85 v_p2_words_86 =>
  f_Writer_describeCodes_b215 N i_five_order i_five_row_room n_five_row_words i_six_order i_six_row_room n_six_row_words i_p1_greatest i_p1_highest v_p1_lengths i_p2_room n_p2_words  i_five_row_used i_five_row_held i_five_row_many v_five_row_words i_five_share_order v_five_share_points v_five_share_cuts v_five_share_queue v_five_share_owners v_five_share_takes v_five_share_bases v_five_share_ranked v_five_share_starts v_five_share_numbers v_five_share_walk i_six_row_used i_six_row_held i_six_row_many v_six_row_words i_six_share_order v_six_share_points v_six_share_cuts v_six_share_queue v_six_share_owners v_six_share_takes v_six_share_bases v_six_share_ranked v_six_share_starts v_six_share_numbers v_six_share_walk v_weights v_counts i_p2_used_85 v_p2_words_86
  else
  bd1 (f_Row_empty N i_p2_used) fun i_p2_used_69 =>
  if 1000 < l6_66 then
  bd2 (f_Writer_putStates N i_p2_room n_p2_words i_five_row_used n_five_row_words v_five_row_words i_p2_used_69 v_p2_words) fun i_p2_used_72 v_p2_words_73 =>
  f_Writer_describeCodes_b215 N i_five_order i_five_row_room n_five_row_words i_six_order i_six_row_room n_six_row_words i_p1_greatest i_p1_highest v_p1_lengths i_p2_room n_p2_words  i_five_row_used i_five_row_held i_five_row_many v_five_row_words i_five_share_order v_five_share_points v_five_share_cuts v_five_share_queue v_five_share_owners v_five_share_takes v_five_share_bases v_five_share_ranked v_five_share_starts v_five_share_numbers v_five_share_walk i_six_row_used i_six_row_held i_six_row_many v_six_row_words i_six_share_order v_six_share_points v_six_share_cuts v_six_share_queue v_six_share_owners v_six_share_takes v_six_share_bases v_six_share_ranked v_six_share_starts v_six_share_numbers v_six_share_walk v_weights v_counts i_p2_used_72 v_p2_words_73
  else
  bd2 (f_Writer_putDirect N v_weights i_p2_room n_p2_words l3 i_p2_used_69 v_p2_words) fun i_p2_used_75 v_p2_words_76 =>
  f_Writer_describeCodes_b215 N i_five_order i_five_row_room n_five_row_words i_six_order i_six_row_room n_six_row_words i_p1_greatest i_p1_highest v_p1_lengths i_p2_room n_p2_words  i_five_row_used i_five_row_held i_five_row_many v_five_row_words i_five_share_order v_five_share_points v_five_share_cuts v_five_share_queue v_five_share_owners v_five_share_takes v_five_share_bases v_five_share_ranked v_five_share_starts v_five_share_numbers v_five_share_walk i_six_row_used i_six_row_held i_six_row_many v_six_row_words i_six_share_order v_six_share_points v_six_share_cuts v_six_share_queue v_six_share_owners v_six_share_takes v_six_share_bases v_six_share_ranked v_six_share_starts v_six_share_numbers v_six_share_walk v_weights v_counts i_p2_used_75 v_p2_words_76
  else
  if 128 ≤ i_five_row_used then
  if l6_66 = 1000 then
  if (1000 : Int32) = 1000 then
  some ((-2), i_five_row_used, i_five_row_held, i_five_row_many, v_five_row_words, i_five_share_order, v_five_share_points, v_five_share_cuts, v_five_share_queue, v_five_share_owners, v_five_share_takes, v_five_share_bases, v_five_share_ranked, v_five_share_starts, v_five_share_numbers, v_five_share_walk, i_six_row_used, i_six_row_held, i_six_row_many, v_six_row_words, i_six_share_order, v_six_share_points, v_six_share_cuts, v_six_share_queue, v_six_share_owners, v_six_share_takes, v_six_share_bases, v_six_share_ranked, v_six_share_starts, v_six_share_numbers, v_six_share_walk, v_weights, v_counts, i_p2_used, v_p2_words)
  else
  bd1 (f_Row_empty N i_p2_used) fun i_p2_used_100 =>
  if 1000 < l6_66 then
  bd2 (f_Writer_putStates N i_p2_room n_p2_words i_five_row_used n_five_row_words v_five_row_words i_p2_used_100 v_p2_words) fun i_p2_used_103 v_p2_words_104 =>
  f_Writer_describeCodes_b215 N i_five_order i_five_row_room n_five_row_words i_six_order i_six_row_room n_six_row_words i_p1_greatest i_p1_highest v_p1_lengths i_p2_room n_p2_words  i_five_row_used i_five_row_held i_five_row_many v_five_row_words i_five_share_order v_five_share_points v_five_share_cuts v_five_share_queue v_five_share_owners v_five_share_takes v_five_share_bases v_five_share_ranked v_five_share_starts v_five_share_numbers v_five_share_walk i_six_row_used i_six_row_held i_six_row_many v_six_row_words i_six_share_order v_six_share_points v_six_share_cuts v_six_share_queue v_six_share_owners v_six_share_takes v_six_share_bases v_six_share_ranked v_six_share_starts v_six_share_numbers v_six_share_walk v_weights v_counts i_p2_used_103 v_p2_words_104
  else
  bd2 (f_Writer_putDirect N v_weights i_p2_room n_p2_words l3 i_p2_used_100 v_p2_words) fun i_p2_used_106 v_p2_words_107 =>
  f_Writer_describeCodes_b215 N i_five_order i_five_row_room n_five_row_words i_six_order i_six_row_room n_six_row_words i_p1_greatest i_p1_highest v_p1_lengths i_p2_room n_p2_words  i_five_row_used i_five_row_held i_five_row_many v_five_row_words i_five_share_order v_five_share_points v_five_share_cuts v_five_share_queue v_five_share_owners v_five_share_takes v_five_share_bases v_five_share_ranked v_five_share_starts v_five_share_numbers v_five_share_walk i_six_row_used i_six_row_held i_six_row_many v_six_row_words i_six_share_order v_six_share_points v_six_share_cuts v_six_share_queue v_six_share_owners v_six_share_takes v_six_share_bases v_six_share_ranked v_six_share_starts v_six_share_numbers v_six_share_walk v_weights v_counts i_p2_used_106 v_p2_words_107
  else
  bd1 (f_Row_empty N i_p2_used) fun i_p2_used_90 =>
  if 1000 < l6_66 then
  bd2 (f_Writer_putStates N i_p2_room n_p2_words i_five_row_used n_five_row_words v_five_row_words i_p2_used_90 v_p2_words) fun i_p2_used_93 v_p2_words_94 =>
  f_Writer_describeCodes_b215 N i_five_order i_five_row_room n_five_row_words i_six_order i_six_row_room n_six_row_words i_p1_greatest i_p1_highest v_p1_lengths i_p2_room n_p2_words  i_five_row_used i_five_row_held i_five_row_many v_five_row_words i_five_share_order v_five_share_points v_five_share_cuts v_five_share_queue v_five_share_owners v_five_share_takes v_five_share_bases v_five_share_ranked v_five_share_starts v_five_share_numbers v_five_share_walk i_six_row_used i_six_row_held i_six_row_many v_six_row_words i_six_share_order v_six_share_points v_six_share_cuts v_six_share_queue v_six_share_owners v_six_share_takes v_six_share_bases v_six_share_ranked v_six_share_starts v_six_share_numbers v_six_share_walk v_weights v_counts i_p2_used_93 v_p2_words_94
  else
  bd2 (f_Writer_putDirect N v_weights i_p2_room n_p2_words l3 i_p2_used_90 v_p2_words) fun i_p2_used_96 v_p2_words_97 =>
  f_Writer_describeCodes_b215 N i_five_order i_five_row_room n_five_row_words i_six_order i_six_row_room n_six_row_words i_p1_greatest i_p1_highest v_p1_lengths i_p2_room n_p2_words  i_five_row_used i_five_row_held i_five_row_many v_five_row_words i_five_share_order v_five_share_points v_five_share_cuts v_five_share_queue v_five_share_owners v_five_share_takes v_five_share_bases v_five_share_ranked v_five_share_starts v_five_share_numbers v_five_share_walk i_six_row_used i_six_row_held i_six_row_many v_six_row_words i_six_share_order v_six_share_points v_six_share_cuts v_six_share_queue v_six_share_owners v_six_share_takes v_six_share_bases v_six_share_ranked v_six_share_starts v_six_share_numbers v_six_share_walk v_weights v_counts i_p2_used_96 v_p2_words_97
  else
  nm (1 + i_five_row_used) fun l7_109 =>
  if l6_66 = 1000 then
  if l7_109 = 1000 then
  some ((-2), i_five_row_used, i_five_row_held, i_five_row_many, v_five_row_words, i_five_share_order, v_five_share_points, v_five_share_cuts, v_five_share_queue, v_five_share_owners, v_five_share_takes, v_five_share_bases, v_five_share_ranked, v_five_share_starts, v_five_share_numbers, v_five_share_walk, i_six_row_used, i_six_row_held, i_six_row_many, v_six_row_words, i_six_share_order, v_six_share_points, v_six_share_cuts, v_six_share_queue, v_six_share_owners, v_six_share_takes, v_six_share_bases, v_six_share_ranked, v_six_share_starts, v_six_share_numbers, v_six_share_walk, v_weights, v_counts, i_p2_used, v_p2_words)
  else
  bd1 (f_Row_empty N i_p2_used) fun i_p2_used_121 =>
  if l7_109 < l6_66 then
  bd2 (f_Writer_putStates N i_p2_room n_p2_words i_five_row_used n_five_row_words v_five_row_words i_p2_used_121 v_p2_words) fun i_p2_used_124 v_p2_words_125 =>
  f_Writer_describeCodes_b215 N i_five_order i_five_row_room n_five_row_words i_six_order i_six_row_room n_six_row_words i_p1_greatest i_p1_highest v_p1_lengths i_p2_room n_p2_words  i_five_row_used i_five_row_held i_five_row_many v_five_row_words i_five_share_order v_five_share_points v_five_share_cuts v_five_share_queue v_five_share_owners v_five_share_takes v_five_share_bases v_five_share_ranked v_five_share_starts v_five_share_numbers v_five_share_walk i_six_row_used i_six_row_held i_six_row_many v_six_row_words i_six_share_order v_six_share_points v_six_share_cuts v_six_share_queue v_six_share_owners v_six_share_takes v_six_share_bases v_six_share_ranked v_six_share_starts v_six_share_numbers v_six_share_walk v_weights v_counts i_p2_used_124 v_p2_words_125
  else
  bd2 (f_Writer_putDirect N v_weights i_p2_room n_p2_words l3 i_p2_used_121 v_p2_words) fun i_p2_used_127 v_p2_words_128 =>
  f_Writer_describeCodes_b215 N i_five_order i_five_row_room n_five_row_words i_six_order i_six_row_room n_six_row_words i_p1_greatest i_p1_highest v_p1_lengths i_p2_room n_p2_words  i_five_row_used i_five_row_held i_five_row_many v_five_row_words i_five_share_order v_five_share_points v_five_share_cuts v_five_share_queue v_five_share_owners v_five_share_takes v_five_share_bases v_five_share_ranked v_five_share_starts v_five_share_numbers v_five_share_walk i_six_row_used i_six_row_held i_six_row_many v_six_row_words i_six_share_order v_six_share_points v_six_share_cuts v_six_share_queue v_six_share_owners v_six_share_takes v_six_share_bases v_six_share_ranked v_six_share_starts v_six_share_numbers v_six_share_walk v_weights v_counts i_p2_used_127 v_p2_words_128
  else
  bd1 (f_Row_empty N i_p2_used) fun i_p2_used_111 =>
  if l7_109 < l6_66 then
  bd2 (f_Writer_putStates N i_p2_room n_p2_words i_five_row_used n_five_row_words v_five_row_words i_p2_used_111 v_p2_words) fun i_p2_used_114 v_p2_words_115 =>
  f_Writer_describeCodes_b215 N i_five_order i_five_row_room n_five_row_words i_six_order i_six_row_room n_six_row_words i_p1_greatest i_p1_highest v_p1_lengths i_p2_room n_p2_words  i_five_row_used i_five_row_held i_five_row_many v_five_row_words i_five_share_order v_five_share_points v_five_share_cuts v_five_share_queue v_five_share_owners v_five_share_takes v_five_share_bases v_five_share_ranked v_five_share_starts v_five_share_numbers v_five_share_walk i_six_row_used i_six_row_held i_six_row_many v_six_row_words i_six_share_order v_six_share_points v_six_share_cuts v_six_share_queue v_six_share_owners v_six_share_takes v_six_share_bases v_six_share_ranked v_six_share_starts v_six_share_numbers v_six_share_walk v_weights v_counts i_p2_used_114 v_p2_words_115
  else
  bd2 (f_Writer_putDirect N v_weights i_p2_room n_p2_words l3 i_p2_used_111 v_p2_words) fun i_p2_used_117 v_p2_words_118 =>
  f_Writer_describeCodes_b215 N i_five_order i_five_row_room n_five_row_words i_six_order i_six_row_room n_six_row_words i_p1_greatest i_p1_highest v_p1_lengths i_p2_room n_p2_words  i_five_row_used i_five_row_held i_five_row_many v_five_row_words i_five_share_order v_five_share_points v_five_share_cuts v_five_share_queue v_five_share_owners v_five_share_takes v_five_share_bases v_five_share_ranked v_five_share_starts v_five_share_numbers v_five_share_walk i_six_row_used i_six_row_held i_six_row_many v_six_row_words i_six_share_order v_six_share_points v_six_share_cuts v_six_share_queue v_six_share_owners v_six_share_takes v_six_share_bases v_six_share_ranked v_six_share_starts v_six_share_numbers v_six_share_walk v_weights v_counts i_p2_used_117 v_p2_words_118
  else
  if 128 < l3 then
  if l4 = 0 then
  if (1000 : Int32) = 1000 then
  if (1000 : Int32) = 1000 then
  some ((-2), i_five_row_used, i_five_row_held, i_five_row_many, v_five_row_words, i_five_share_order, v_five_share_points, v_five_share_cuts, v_five_share_queue, v_five_share_owners, v_five_share_takes, v_five_share_bases, v_five_share_ranked, v_five_share_starts, v_five_share_numbers, v_five_share_walk, i_six_row_used, i_six_row_held, i_six_row_many, v_six_row_words, i_six_share_order, v_six_share_points, v_six_share_cuts, v_six_share_queue, v_six_share_owners, v_six_share_takes, v_six_share_bases, v_six_share_ranked, v_six_share_starts, v_six_share_numbers, v_six_share_walk, v_weights, v_counts, i_p2_used, v_p2_words)
  else
  bd1 (f_Row_empty N i_p2_used) fun i_p2_used_143 =>
  if 1000 < (1000 : Int32) then
  bd2 (f_Writer_putStates N i_p2_room n_p2_words i_six_row_used n_six_row_words v_six_row_words i_p2_used_143 v_p2_words) fun i_p2_used_146 v_p2_words_147 =>
  f_Writer_describeCodes_b215 N i_five_order i_five_row_room n_five_row_words i_six_order i_six_row_room n_six_row_words i_p1_greatest i_p1_highest v_p1_lengths i_p2_room n_p2_words  i_five_row_used i_five_row_held i_five_row_many v_five_row_words i_five_share_order v_five_share_points v_five_share_cuts v_five_share_queue v_five_share_owners v_five_share_takes v_five_share_bases v_five_share_ranked v_five_share_starts v_five_share_numbers v_five_share_walk i_six_row_used i_six_row_held i_six_row_many v_six_row_words i_six_share_order v_six_share_points v_six_share_cuts v_six_share_queue v_six_share_owners v_six_share_takes v_six_share_bases v_six_share_ranked v_six_share_starts v_six_share_numbers v_six_share_walk v_weights v_counts i_p2_used_146 v_p2_words_147
  else
  bd2 (f_Writer_putDirect N v_weights i_p2_room n_p2_words l3 i_p2_used_143 v_p2_words) fun i_p2_used_149 v_p2_words_150 =>
  f_Writer_describeCodes_b215 N i_five_order i_five_row_room n_five_row_words i_six_order i_six_row_room n_six_row_words i_p1_greatest i_p1_highest v_p1_lengths i_p2_room n_p2_words  i_five_row_used i_five_row_held i_five_row_many v_five_row_words i_five_share_order v_five_share_points v_five_share_cuts v_five_share_queue v_five_share_owners v_five_share_takes v_five_share_bases v_five_share_ranked v_five_share_starts v_five_share_numbers v_five_share_walk i_six_row_used i_six_row_held i_six_row_many v_six_row_words i_six_share_order v_six_share_points v_six_share_cuts v_six_share_queue v_six_share_owners v_six_share_takes v_six_share_bases v_six_share_ranked v_six_share_starts v_six_share_numbers v_six_share_walk v_weights v_counts i_p2_used_149 v_p2_words_150
  else
  bd1 (f_Row_empty N i_p2_used) fun i_p2_used_133 =>
  if 1000 < (1000 : Int32) then
  bd2 (f_Writer_putStates N i_p2_room n_p2_words i_six_row_used n_six_row_words v_six_row_words i_p2_used_133 v_p2_words) fun i_p2_used_136 v_p2_words_137 =>
  f_Writer_describeCodes_b215 N i_five_order i_five_row_room n_five_row_words i_six_order i_six_row_room n_six_row_words i_p1_greatest i_p1_highest v_p1_lengths i_p2_room n_p2_words  i_five_row_used i_five_row_held i_five_row_many v_five_row_words i_five_share_order v_five_share_points v_five_share_cuts v_five_share_queue v_five_share_owners v_five_share_takes v_five_share_bases v_five_share_ranked v_five_share_starts v_five_share_numbers v_five_share_walk i_six_row_used i_six_row_held i_six_row_many v_six_row_words i_six_share_order v_six_share_points v_six_share_cuts v_six_share_queue v_six_share_owners v_six_share_takes v_six_share_bases v_six_share_ranked v_six_share_starts v_six_share_numbers v_six_share_walk v_weights v_counts i_p2_used_136 v_p2_words_137
  else
  bd2 (f_Writer_putDirect N v_weights i_p2_room n_p2_words l3 i_p2_used_133 v_p2_words) fun i_p2_used_139 v_p2_words_140 =>
  f_Writer_describeCodes_b215 N i_five_order i_five_row_room n_five_row_words i_six_order i_six_row_room n_six_row_words i_p1_greatest i_p1_highest v_p1_lengths i_p2_room n_p2_words  i_five_row_used i_five_row_held i_five_row_many v_five_row_words i_five_share_order v_five_share_points v_five_share_cuts v_five_share_queue v_five_share_owners v_five_share_takes v_five_share_bases v_five_share_ranked v_five_share_starts v_five_share_numbers v_five_share_walk i_six_row_used i_six_row_held i_six_row_many v_six_row_words i_six_share_order v_six_share_points v_six_share_cuts v_six_share_queue v_six_share_owners v_six_share_takes v_six_share_bases v_six_share_ranked v_six_share_starts v_six_share_numbers v_six_share_walk v_weights v_counts i_p2_used_139 v_p2_words_140
  else
  if 128 ≤ i_six_row_used then
  if (1000 : Int32) = 1000 then
  if (1000 : Int32) = 1000 then
  some ((-2), i_five_row_used, i_five_row_held, i_five_row_many, v_five_row_words, i_five_share_order, v_five_share_points, v_five_share_cuts, v_five_share_queue, v_five_share_owners, v_five_share_takes, v_five_share_bases, v_five_share_ranked, v_five_share_starts, v_five_share_numbers, v_five_share_walk, i_six_row_used, i_six_row_held, i_six_row_many, v_six_row_words, i_six_share_order, v_six_share_points, v_six_share_cuts, v_six_share_queue, v_six_share_owners, v_six_share_takes, v_six_share_bases, v_six_share_ranked, v_six_share_starts, v_six_share_numbers, v_six_share_walk, v_weights, v_counts, i_p2_used, v_p2_words)
  else
  bd1 (f_Row_empty N i_p2_used) fun i_p2_used_164 =>
  if 1000 < (1000 : Int32) then
  bd2 (f_Writer_putStates N i_p2_room n_p2_words i_six_row_used n_six_row_words v_six_row_words i_p2_used_164 v_p2_words) fun i_p2_used_167 v_p2_words_168 =>
  f_Writer_describeCodes_b215 N i_five_order i_five_row_room n_five_row_words i_six_order i_six_row_room n_six_row_words i_p1_greatest i_p1_highest v_p1_lengths i_p2_room n_p2_words  i_five_row_used i_five_row_held i_five_row_many v_five_row_words i_five_share_order v_five_share_points v_five_share_cuts v_five_share_queue v_five_share_owners v_five_share_takes v_five_share_bases v_five_share_ranked v_five_share_starts v_five_share_numbers v_five_share_walk i_six_row_used i_six_row_held i_six_row_many v_six_row_words i_six_share_order v_six_share_points v_six_share_cuts v_six_share_queue v_six_share_owners v_six_share_takes v_six_share_bases v_six_share_ranked v_six_share_starts v_six_share_numbers v_six_share_walk v_weights v_counts i_p2_used_167 v_p2_words_168
  else
  bd2 (f_Writer_putDirect N v_weights i_p2_room n_p2_words l3 i_p2_used_164 v_p2_words) fun i_p2_used_170 v_p2_words_171 =>
  f_Writer_describeCodes_b215 N i_five_order i_five_row_room n_five_row_words i_six_order i_six_row_room n_six_row_words i_p1_greatest i_p1_highest v_p1_lengths i_p2_room n_p2_words  i_five_row_used i_five_row_held i_five_row_many v_five_row_words i_five_share_order v_five_share_points v_five_share_cuts v_five_share_queue v_five_share_owners v_five_share_takes v_five_share_bases v_five_share_ranked v_five_share_starts v_five_share_numbers v_five_share_walk i_six_row_used i_six_row_held i_six_row_many v_six_row_words i_six_share_order v_six_share_points v_six_share_cuts v_six_share_queue v_six_share_owners v_six_share_takes v_six_share_bases v_six_share_ranked v_six_share_starts v_six_share_numbers v_six_share_walk v_weights v_counts i_p2_used_170 v_p2_words_171
  else
  bd1 (f_Row_empty N i_p2_used) fun i_p2_used_154 =>
  if 1000 < (1000 : Int32) then
  bd2 (f_Writer_putStates N i_p2_room n_p2_words i_six_row_used n_six_row_words v_six_row_words i_p2_used_154 v_p2_words) fun i_p2_used_157 v_p2_words_158 =>
  f_Writer_describeCodes_b215 N i_five_order i_five_row_room n_five_row_words i_six_order i_six_row_room n_six_row_words i_p1_greatest i_p1_highest v_p1_lengths i_p2_room n_p2_words  i_five_row_used i_five_row_held i_five_row_many v_five_row_words i_five_share_order v_five_share_points v_five_share_cuts v_five_share_queue v_five_share_owners v_five_share_takes v_five_share_bases v_five_share_ranked v_five_share_starts v_five_share_numbers v_five_share_walk i_six_row_used i_six_row_held i_six_row_many v_six_row_words i_six_share_order v_six_share_points v_six_share_cuts v_six_share_queue v_six_share_owners v_six_share_takes v_six_share_bases v_six_share_ranked v_six_share_starts v_six_share_numbers v_six_share_walk v_weights v_counts i_p2_used_157 v_p2_words_158
  else
  bd2 (f_Writer_putDirect N v_weights i_p2_room n_p2_words l3 i_p2_used_154 v_p2_words) fun i_p2_used_160 v_p2_words_161 =>
  f_Writer_describeCodes_b215 N i_five_order i_five_row_room n_five_row_words i_six_order i_six_row_room n_six_row_words i_p1_greatest i_p1_highest v_p1_lengths i_p2_room n_p2_words  i_five_row_used i_five_row_held i_five_row_many v_five_row_words i_five_share_order v_five_share_points v_five_share_cuts v_five_share_queue v_five_share_owners v_five_share_takes v_five_share_bases v_five_share_ranked v_five_share_starts v_five_share_numbers v_five_share_walk i_six_row_used i_six_row_held i_six_row_many v_six_row_words i_six_share_order v_six_share_points v_six_share_cuts v_six_share_queue v_six_share_owners v_six_share_takes v_six_share_bases v_six_share_ranked v_six_share_starts v_six_share_numbers v_six_share_walk v_weights v_counts i_p2_used_160 v_p2_words_161
  else
  nm (1 + i_six_row_used) fun l7_173 =>
  if (1000 : Int32) = 1000 then
  if l7_173 = 1000 then
  some ((-2), i_five_row_used, i_five_row_held, i_five_row_many, v_five_row_words, i_five_share_order, v_five_share_points, v_five_share_cuts, v_five_share_queue, v_five_share_owners, v_five_share_takes, v_five_share_bases, v_five_share_ranked, v_five_share_starts, v_five_share_numbers, v_five_share_walk, i_six_row_used, i_six_row_held, i_six_row_many, v_six_row_words, i_six_share_order, v_six_share_points, v_six_share_cuts, v_six_share_queue, v_six_share_owners, v_six_share_takes, v_six_share_bases, v_six_share_ranked, v_six_share_starts, v_six_share_numbers, v_six_share_walk, v_weights, v_counts, i_p2_used, v_p2_words)
  else
  bd1 (f_Row_empty N i_p2_used) fun i_p2_used_185 =>
  if l7_173 < 1000 then
  bd2 (f_Writer_putStates N i_p2_room n_p2_words i_six_row_used n_six_row_words v_six_row_words i_p2_used_185 v_p2_words) fun i_p2_used_188 v_p2_words_189 =>
  f_Writer_describeCodes_b215 N i_five_order i_five_row_room n_five_row_words i_six_order i_six_row_room n_six_row_words i_p1_greatest i_p1_highest v_p1_lengths i_p2_room n_p2_words  i_five_row_used i_five_row_held i_five_row_many v_five_row_words i_five_share_order v_five_share_points v_five_share_cuts v_five_share_queue v_five_share_owners v_five_share_takes v_five_share_bases v_five_share_ranked v_five_share_starts v_five_share_numbers v_five_share_walk i_six_row_used i_six_row_held i_six_row_many v_six_row_words i_six_share_order v_six_share_points v_six_share_cuts v_six_share_queue v_six_share_owners v_six_share_takes v_six_share_bases v_six_share_ranked v_six_share_starts v_six_share_numbers v_six_share_walk v_weights v_counts i_p2_used_188 v_p2_words_189
  else
  bd2 (f_Writer_putDirect N v_weights i_p2_room n_p2_words l3 i_p2_used_185 v_p2_words) fun i_p2_used_191 v_p2_words_192 =>
  f_Writer_describeCodes_b215 N i_five_order i_five_row_room n_five_row_words i_six_order i_six_row_room n_six_row_words i_p1_greatest i_p1_highest v_p1_lengths i_p2_room n_p2_words  i_five_row_used i_five_row_held i_five_row_many v_five_row_words i_five_share_order v_five_share_points v_five_share_cuts v_five_share_queue v_five_share_owners v_five_share_takes v_five_share_bases v_five_share_ranked v_five_share_starts v_five_share_numbers v_five_share_walk i_six_row_used i_six_row_held i_six_row_many v_six_row_words i_six_share_order v_six_share_points v_six_share_cuts v_six_share_queue v_six_share_owners v_six_share_takes v_six_share_bases v_six_share_ranked v_six_share_starts v_six_share_numbers v_six_share_walk v_weights v_counts i_p2_used_191 v_p2_words_192
  else
  bd1 (f_Row_empty N i_p2_used) fun i_p2_used_175 =>
  if l7_173 < 1000 then
  bd2 (f_Writer_putStates N i_p2_room n_p2_words i_six_row_used n_six_row_words v_six_row_words i_p2_used_175 v_p2_words) fun i_p2_used_178 v_p2_words_179 =>
  f_Writer_describeCodes_b215 N i_five_order i_five_row_room n_five_row_words i_six_order i_six_row_room n_six_row_words i_p1_greatest i_p1_highest v_p1_lengths i_p2_room n_p2_words  i_five_row_used i_five_row_held i_five_row_many v_five_row_words i_five_share_order v_five_share_points v_five_share_cuts v_five_share_queue v_five_share_owners v_five_share_takes v_five_share_bases v_five_share_ranked v_five_share_starts v_five_share_numbers v_five_share_walk i_six_row_used i_six_row_held i_six_row_many v_six_row_words i_six_share_order v_six_share_points v_six_share_cuts v_six_share_queue v_six_share_owners v_six_share_takes v_six_share_bases v_six_share_ranked v_six_share_starts v_six_share_numbers v_six_share_walk v_weights v_counts i_p2_used_178 v_p2_words_179
  else
  bd2 (f_Writer_putDirect N v_weights i_p2_room n_p2_words l3 i_p2_used_175 v_p2_words) fun i_p2_used_181 v_p2_words_182 =>
  f_Writer_describeCodes_b215 N i_five_order i_five_row_room n_five_row_words i_six_order i_six_row_room n_six_row_words i_p1_greatest i_p1_highest v_p1_lengths i_p2_room n_p2_words  i_five_row_used i_five_row_held i_five_row_many v_five_row_words i_five_share_order v_five_share_points v_five_share_cuts v_five_share_queue v_five_share_owners v_five_share_takes v_five_share_bases v_five_share_ranked v_five_share_starts v_five_share_numbers v_five_share_walk i_six_row_used i_six_row_held i_six_row_many v_six_row_words i_six_share_order v_six_share_points v_six_share_cuts v_six_share_queue v_six_share_owners v_six_share_takes v_six_share_bases v_six_share_ranked v_six_share_starts v_six_share_numbers v_six_share_walk v_weights v_counts i_p2_used_181 v_p2_words_182
  else
  nm (1 + ((l3 + 1) / 2)) fun l6_194 =>
  if l4 = 0 then
  if l6_194 = 1000 then
  if (1000 : Int32) = 1000 then
  some ((-2), i_five_row_used, i_five_row_held, i_five_row_many, v_five_row_words, i_five_share_order, v_five_share_points, v_five_share_cuts, v_five_share_queue, v_five_share_owners, v_five_share_takes, v_five_share_bases, v_five_share_ranked, v_five_share_starts, v_five_share_numbers, v_five_share_walk, i_six_row_used, i_six_row_held, i_six_row_many, v_six_row_words, i_six_share_order, v_six_share_points, v_six_share_cuts, v_six_share_queue, v_six_share_owners, v_six_share_takes, v_six_share_bases, v_six_share_ranked, v_six_share_starts, v_six_share_numbers, v_six_share_walk, v_weights, v_counts, i_p2_used, v_p2_words)
  else
  bd1 (f_Row_empty N i_p2_used) fun i_p2_used_207 =>
  if 1000 < l6_194 then
  bd2 (f_Writer_putStates N i_p2_room n_p2_words i_six_row_used n_six_row_words v_six_row_words i_p2_used_207 v_p2_words) fun i_p2_used_210 v_p2_words_211 =>
  f_Writer_describeCodes_b215 N i_five_order i_five_row_room n_five_row_words i_six_order i_six_row_room n_six_row_words i_p1_greatest i_p1_highest v_p1_lengths i_p2_room n_p2_words  i_five_row_used i_five_row_held i_five_row_many v_five_row_words i_five_share_order v_five_share_points v_five_share_cuts v_five_share_queue v_five_share_owners v_five_share_takes v_five_share_bases v_five_share_ranked v_five_share_starts v_five_share_numbers v_five_share_walk i_six_row_used i_six_row_held i_six_row_many v_six_row_words i_six_share_order v_six_share_points v_six_share_cuts v_six_share_queue v_six_share_owners v_six_share_takes v_six_share_bases v_six_share_ranked v_six_share_starts v_six_share_numbers v_six_share_walk v_weights v_counts i_p2_used_210 v_p2_words_211
  else
  bd2 (f_Writer_putDirect N v_weights i_p2_room n_p2_words l3 i_p2_used_207 v_p2_words) fun i_p2_used_213 v_p2_words_214 =>
  f_Writer_describeCodes_b215 N i_five_order i_five_row_room n_five_row_words i_six_order i_six_row_room n_six_row_words i_p1_greatest i_p1_highest v_p1_lengths i_p2_room n_p2_words  i_five_row_used i_five_row_held i_five_row_many v_five_row_words i_five_share_order v_five_share_points v_five_share_cuts v_five_share_queue v_five_share_owners v_five_share_takes v_five_share_bases v_five_share_ranked v_five_share_starts v_five_share_numbers v_five_share_walk i_six_row_used i_six_row_held i_six_row_many v_six_row_words i_six_share_order v_six_share_points v_six_share_cuts v_six_share_queue v_six_share_owners v_six_share_takes v_six_share_bases v_six_share_ranked v_six_share_starts v_six_share_numbers v_six_share_walk v_weights v_counts i_p2_used_213 v_p2_words_214
  else
  bd1 (f_Row_empty N i_p2_used) fun i_p2_used_197 =>
  if 1000 < l6_194 then
  bd2 (f_Writer_putStates N i_p2_room n_p2_words i_six_row_used n_six_row_words v_six_row_words i_p2_used_197 v_p2_words) fun i_p2_used_200 v_p2_words_201 =>
  f_Writer_describeCodes_b215 N i_five_order i_five_row_room n_five_row_words i_six_order i_six_row_room n_six_row_words i_p1_greatest i_p1_highest v_p1_lengths i_p2_room n_p2_words  i_five_row_used i_five_row_held i_five_row_many v_five_row_words i_five_share_order v_five_share_points v_five_share_cuts v_five_share_queue v_five_share_owners v_five_share_takes v_five_share_bases v_five_share_ranked v_five_share_starts v_five_share_numbers v_five_share_walk i_six_row_used i_six_row_held i_six_row_many v_six_row_words i_six_share_order v_six_share_points v_six_share_cuts v_six_share_queue v_six_share_owners v_six_share_takes v_six_share_bases v_six_share_ranked v_six_share_starts v_six_share_numbers v_six_share_walk v_weights v_counts i_p2_used_200 v_p2_words_201
  else
  bd2 (f_Writer_putDirect N v_weights i_p2_room n_p2_words l3 i_p2_used_197 v_p2_words) fun i_p2_used_203 v_p2_words_204 =>
  f_Writer_describeCodes_b215 N i_five_order i_five_row_room n_five_row_words i_six_order i_six_row_room n_six_row_words i_p1_greatest i_p1_highest v_p1_lengths i_p2_room n_p2_words  i_five_row_used i_five_row_held i_five_row_many v_five_row_words i_five_share_order v_five_share_points v_five_share_cuts v_five_share_queue v_five_share_owners v_five_share_takes v_five_share_bases v_five_share_ranked v_five_share_starts v_five_share_numbers v_five_share_walk i_six_row_used i_six_row_held i_six_row_many v_six_row_words i_six_share_order v_six_share_points v_six_share_cuts v_six_share_queue v_six_share_owners v_six_share_takes v_six_share_bases v_six_share_ranked v_six_share_starts v_six_share_numbers v_six_share_walk v_weights v_counts i_p2_used_203 v_p2_words_204
  else
  if 128 ≤ i_six_row_used then
  if l6_194 = 1000 then
  if (1000 : Int32) = 1000 then
  some ((-2), i_five_row_used, i_five_row_held, i_five_row_many, v_five_row_words, i_five_share_order, v_five_share_points, v_five_share_cuts, v_five_share_queue, v_five_share_owners, v_five_share_takes, v_five_share_bases, v_five_share_ranked, v_five_share_starts, v_five_share_numbers, v_five_share_walk, i_six_row_used, i_six_row_held, i_six_row_many, v_six_row_words, i_six_share_order, v_six_share_points, v_six_share_cuts, v_six_share_queue, v_six_share_owners, v_six_share_takes, v_six_share_bases, v_six_share_ranked, v_six_share_starts, v_six_share_numbers, v_six_share_walk, v_weights, v_counts, i_p2_used, v_p2_words)
  else
  bd1 (f_Row_empty N i_p2_used) fun i_p2_used_228 =>
  if 1000 < l6_194 then
  bd2 (f_Writer_putStates N i_p2_room n_p2_words i_six_row_used n_six_row_words v_six_row_words i_p2_used_228 v_p2_words) fun i_p2_used_231 v_p2_words_232 =>
  f_Writer_describeCodes_b215 N i_five_order i_five_row_room n_five_row_words i_six_order i_six_row_room n_six_row_words i_p1_greatest i_p1_highest v_p1_lengths i_p2_room n_p2_words  i_five_row_used i_five_row_held i_five_row_many v_five_row_words i_five_share_order v_five_share_points v_five_share_cuts v_five_share_queue v_five_share_owners v_five_share_takes v_five_share_bases v_five_share_ranked v_five_share_starts v_five_share_numbers v_five_share_walk i_six_row_used i_six_row_held i_six_row_many v_six_row_words i_six_share_order v_six_share_points v_six_share_cuts v_six_share_queue v_six_share_owners v_six_share_takes v_six_share_bases v_six_share_ranked v_six_share_starts v_six_share_numbers v_six_share_walk v_weights v_counts i_p2_used_231 v_p2_words_232
  else
  bd2 (f_Writer_putDirect N v_weights i_p2_room n_p2_words l3 i_p2_used_228 v_p2_words) fun i_p2_used_234 v_p2_words_235 =>
  f_Writer_describeCodes_b215 N i_five_order i_five_row_room n_five_row_words i_six_order i_six_row_room n_six_row_words i_p1_greatest i_p1_highest v_p1_lengths i_p2_room n_p2_words  i_five_row_used i_five_row_held i_five_row_many v_five_row_words i_five_share_order v_five_share_points v_five_share_cuts v_five_share_queue v_five_share_owners v_five_share_takes v_five_share_bases v_five_share_ranked v_five_share_starts v_five_share_numbers v_five_share_walk i_six_row_used i_six_row_held i_six_row_many v_six_row_words i_six_share_order v_six_share_points v_six_share_cuts v_six_share_queue v_six_share_owners v_six_share_takes v_six_share_bases v_six_share_ranked v_six_share_starts v_six_share_numbers v_six_share_walk v_weights v_counts i_p2_used_234 v_p2_words_235
  else
  bd1 (f_Row_empty N i_p2_used) fun i_p2_used_218 =>
  if 1000 < l6_194 then
  bd2 (f_Writer_putStates N i_p2_room n_p2_words i_six_row_used n_six_row_words v_six_row_words i_p2_used_218 v_p2_words) fun i_p2_used_221 v_p2_words_222 =>
  f_Writer_describeCodes_b215 N i_five_order i_five_row_room n_five_row_words i_six_order i_six_row_room n_six_row_words i_p1_greatest i_p1_highest v_p1_lengths i_p2_room n_p2_words  i_five_row_used i_five_row_held i_five_row_many v_five_row_words i_five_share_order v_five_share_points v_five_share_cuts v_five_share_queue v_five_share_owners v_five_share_takes v_five_share_bases v_five_share_ranked v_five_share_starts v_five_share_numbers v_five_share_walk i_six_row_used i_six_row_held i_six_row_many v_six_row_words i_six_share_order v_six_share_points v_six_share_cuts v_six_share_queue v_six_share_owners v_six_share_takes v_six_share_bases v_six_share_ranked v_six_share_starts v_six_share_numbers v_six_share_walk v_weights v_counts i_p2_used_221 v_p2_words_222
  else
  bd2 (f_Writer_putDirect N v_weights i_p2_room n_p2_words l3 i_p2_used_218 v_p2_words) fun i_p2_used_224 v_p2_words_225 =>
  f_Writer_describeCodes_b215 N i_five_order i_five_row_room n_five_row_words i_six_order i_six_row_room n_six_row_words i_p1_greatest i_p1_highest v_p1_lengths i_p2_room n_p2_words  i_five_row_used i_five_row_held i_five_row_many v_five_row_words i_five_share_order v_five_share_points v_five_share_cuts v_five_share_queue v_five_share_owners v_five_share_takes v_five_share_bases v_five_share_ranked v_five_share_starts v_five_share_numbers v_five_share_walk i_six_row_used i_six_row_held i_six_row_many v_six_row_words i_six_share_order v_six_share_points v_six_share_cuts v_six_share_queue v_six_share_owners v_six_share_takes v_six_share_bases v_six_share_ranked v_six_share_starts v_six_share_numbers v_six_share_walk v_weights v_counts i_p2_used_224 v_p2_words_225
  else
  nm (1 + i_six_row_used) fun l7_237 =>
  if l6_194 = 1000 then
  if l7_237 = 1000 then
  some ((-2), i_five_row_used, i_five_row_held, i_five_row_many, v_five_row_words, i_five_share_order, v_five_share_points, v_five_share_cuts, v_five_share_queue, v_five_share_owners, v_five_share_takes, v_five_share_bases, v_five_share_ranked, v_five_share_starts, v_five_share_numbers, v_five_share_walk, i_six_row_used, i_six_row_held, i_six_row_many, v_six_row_words, i_six_share_order, v_six_share_points, v_six_share_cuts, v_six_share_queue, v_six_share_owners, v_six_share_takes, v_six_share_bases, v_six_share_ranked, v_six_share_starts, v_six_share_numbers, v_six_share_walk, v_weights, v_counts, i_p2_used, v_p2_words)
  else
  bd1 (f_Row_empty N i_p2_used) fun i_p2_used_249 =>
  if l7_237 < l6_194 then
  bd2 (f_Writer_putStates N i_p2_room n_p2_words i_six_row_used n_six_row_words v_six_row_words i_p2_used_249 v_p2_words) fun i_p2_used_252 v_p2_words_253 =>
  f_Writer_describeCodes_b215 N i_five_order i_five_row_room n_five_row_words i_six_order i_six_row_room n_six_row_words i_p1_greatest i_p1_highest v_p1_lengths i_p2_room n_p2_words  i_five_row_used i_five_row_held i_five_row_many v_five_row_words i_five_share_order v_five_share_points v_five_share_cuts v_five_share_queue v_five_share_owners v_five_share_takes v_five_share_bases v_five_share_ranked v_five_share_starts v_five_share_numbers v_five_share_walk i_six_row_used i_six_row_held i_six_row_many v_six_row_words i_six_share_order v_six_share_points v_six_share_cuts v_six_share_queue v_six_share_owners v_six_share_takes v_six_share_bases v_six_share_ranked v_six_share_starts v_six_share_numbers v_six_share_walk v_weights v_counts i_p2_used_252 v_p2_words_253
  else
  bd2 (f_Writer_putDirect N v_weights i_p2_room n_p2_words l3 i_p2_used_249 v_p2_words) fun i_p2_used_255 v_p2_words_256 =>
  f_Writer_describeCodes_b215 N i_five_order i_five_row_room n_five_row_words i_six_order i_six_row_room n_six_row_words i_p1_greatest i_p1_highest v_p1_lengths i_p2_room n_p2_words  i_five_row_used i_five_row_held i_five_row_many v_five_row_words i_five_share_order v_five_share_points v_five_share_cuts v_five_share_queue v_five_share_owners v_five_share_takes v_five_share_bases v_five_share_ranked v_five_share_starts v_five_share_numbers v_five_share_walk i_six_row_used i_six_row_held i_six_row_many v_six_row_words i_six_share_order v_six_share_points v_six_share_cuts v_six_share_queue v_six_share_owners v_six_share_takes v_six_share_bases v_six_share_ranked v_six_share_starts v_six_share_numbers v_six_share_walk v_weights v_counts i_p2_used_255 v_p2_words_256
  else
  bd1 (f_Row_empty N i_p2_used) fun i_p2_used_239 =>
  if l7_237 < l6_194 then
  bd2 (f_Writer_putStates N i_p2_room n_p2_words i_six_row_used n_six_row_words v_six_row_words i_p2_used_239 v_p2_words) fun i_p2_used_242 v_p2_words_243 =>
  f_Writer_describeCodes_b215 N i_five_order i_five_row_room n_five_row_words i_six_order i_six_row_room n_six_row_words i_p1_greatest i_p1_highest v_p1_lengths i_p2_room n_p2_words  i_five_row_used i_five_row_held i_five_row_many v_five_row_words i_five_share_order v_five_share_points v_five_share_cuts v_five_share_queue v_five_share_owners v_five_share_takes v_five_share_bases v_five_share_ranked v_five_share_starts v_five_share_numbers v_five_share_walk i_six_row_used i_six_row_held i_six_row_many v_six_row_words i_six_share_order v_six_share_points v_six_share_cuts v_six_share_queue v_six_share_owners v_six_share_takes v_six_share_bases v_six_share_ranked v_six_share_starts v_six_share_numbers v_six_share_walk v_weights v_counts i_p2_used_242 v_p2_words_243
  else
  bd2 (f_Writer_putDirect N v_weights i_p2_room n_p2_words l3 i_p2_used_239 v_p2_words) fun i_p2_used_245 v_p2_words_246 =>
  f_Writer_describeCodes_b215 N i_five_order i_five_row_room n_five_row_words i_six_order i_six_row_room n_six_row_words i_p1_greatest i_p1_highest v_p1_lengths i_p2_room n_p2_words  i_five_row_used i_five_row_held i_five_row_many v_five_row_words i_five_share_order v_five_share_points v_five_share_cuts v_five_share_queue v_five_share_owners v_five_share_takes v_five_share_bases v_five_share_ranked v_five_share_starts v_five_share_numbers v_five_share_walk i_six_row_used i_six_row_held i_six_row_many v_six_row_words i_six_share_order v_six_share_points v_six_share_cuts v_six_share_queue v_six_share_owners v_six_share_takes v_six_share_bases v_six_share_ranked v_six_share_starts v_six_share_numbers v_six_share_walk v_weights v_counts i_p2_used_245 v_p2_words_246
def f_Writer_describeCodes_b36 (N : Nat) (i_five_order : Int32) (i_five_row_room : Int32) (n_five_row_words : Nat) (i_six_order : Int32) (i_six_row_room : Int32) (n_six_row_words : Nat) (i_p1_greatest : Int32) (i_p1_highest : Int32) (v_p1_lengths : Nat → Int32) (i_p2_room : Int32) (n_p2_words : Nat)  (l3 : Int32) (s0 : Int32) (i_five_row_used : Int32) (i_five_row_held : Int32) (i_five_row_many : Int32) (v_five_row_words : Nat → Int64) (i_five_share_order : Int32) (v_five_share_points : Nat → Int32) (v_five_share_cuts : Nat → Int32) (v_five_share_queue : Nat → Int32) (v_five_share_owners : Nat → Int32) (v_five_share_takes : Nat → Int32) (v_five_share_bases : Nat → Int32) (v_five_share_ranked : Nat → Int32) (v_five_share_starts : Nat → Int32) (v_five_share_numbers : Nat → Int32) (v_five_share_walk : Nat → Int32) (i_six_row_used : Int32) (i_six_row_held : Int32) (i_six_row_many : Int32) (v_six_row_words : Nat → Int64) (i_six_share_order : Int32) (v_six_share_points : Nat → Int32) (v_six_share_cuts : Nat → Int32) (v_six_share_queue : Nat → Int32) (v_six_share_owners : Nat → Int32) (v_six_share_takes : Nat → Int32) (v_six_share_bases : Nat → Int32) (v_six_share_ranked : Nat → Int32) (v_six_share_starts : Nat → Int32) (v_six_share_numbers : Nat → Int32) (v_six_share_walk : Nat → Int32) (v_weights : Nat → Int32) (v_counts : Nat → Int32) (i_p2_used : Int32) (v_p2_words : Nat → Int64) : Option (Int32 × Int32 × Int32 × Int32 × (Nat → Int64) × Int32 × (Nat → Int32) × (Nat → Int32) × (Nat → Int32) × (Nat → Int32) × (Nat → Int32) × (Nat → Int32) × (Nat → Int32) × (Nat → Int32) × (Nat → Int32) × (Nat → Int32) × Int32 × Int32 × Int32 × (Nat → Int64) × Int32 × (Nat → Int32) × (Nat → Int32) × (Nat → Int32) × (Nat → Int32) × (Nat → Int32) × (Nat → Int32) × (Nat → Int32) × (Nat → Int32) × (Nat → Int32) × (Nat → Int32) × (Nat → Int32) × (Nat → Int32) × Int32 × (Nat → Int64)) :=
  if s0 = 0 then
  f_Writer_describeCodes_b75 N i_five_order i_five_row_room n_five_row_words i_six_order i_six_row_room n_six_row_words i_p1_greatest i_p1_highest v_p1_lengths i_p2_room n_p2_words  l3 s0 i_five_row_used i_five_row_held i_five_row_many v_five_row_words i_five_share_order v_five_share_points v_five_share_cuts v_five_share_queue v_five_share_owners v_five_share_takes v_five_share_bases v_five_share_ranked v_five_share_starts v_five_share_numbers v_five_share_walk i_six_row_used i_six_row_held i_six_row_many v_six_row_words i_six_share_order v_six_share_points v_six_share_cuts v_six_share_queue v_six_share_owners v_six_share_takes v_six_share_bases v_six_share_ranked v_six_share_starts v_six_share_numbers v_six_share_walk v_weights v_counts i_p2_used v_p2_words
  else
  bd15 (f_Draft_compose N i_five_order i_five_row_room n_five_row_words 256 v_weights 12 v_counts l3 i_five_row_used i_five_row_held i_five_row_many v_five_row_words i_five_share_order v_five_share_points v_five_share_cuts v_five_share_queue v_five_share_owners v_five_share_takes v_five_share_bases v_five_share_ranked v_five_share_starts v_five_share_numbers v_five_share_walk) fun i_five_row_used_2 i_five_row_held_3 i_five_row_many_4 v_five_row_words_5 i_five_share_order_6 v_five_share_points_7 v_five_share_cuts_8 v_five_share_queue_9 v_five_share_owners_10 v_five_share_takes_11 v_five_share_bases_12 v_five_share_ranked_13 v_five_share_starts_14 v_five_share_numbers_15 v_five_share_walk_16 =>
  bd15 (f_Draft_compose N i_six_order i_six_row_room n_six_row_words 256 v_weights 12 v_counts l3 i_six_row_used i_six_row_held i_six_row_many v_six_row_words i_six_share_order v_six_share_points v_six_share_cuts v_six_share_queue v_six_share_owners v_six_share_takes v_six_share_bases v_six_share_ranked v_six_share_starts v_six_share_numbers v_six_share_walk) fun i_six_row_used_18 i_six_row_held_19 i_six_row_many_20 v_six_row_words_21 i_six_share_order_22 v_six_share_points_23 v_six_share_cuts_24 v_six_share_queue_25 v_six_share_owners_26 v_six_share_takes_27 v_six_share_bases_28 v_six_share_ranked_29 v_six_share_starts_30 v_six_share_numbers_31 v_six_share_walk_32 =>
  f_Writer_describeCodes_b75 N i_five_order i_five_row_room n_five_row_words i_six_order i_six_row_room n_six_row_words i_p1_greatest i_p1_highest v_p1_lengths i_p2_room n_p2_words  l3 s0 i_five_row_used_2 i_five_row_held_3 i_five_row_many_4 v_five_row_words_5 i_five_share_order_6 v_five_share_points_7 v_five_share_cuts_8 v_five_share_queue_9 v_five_share_owners_10 v_five_share_takes_11 v_five_share_bases_12 v_five_share_ranked_13 v_five_share_starts_14 v_five_share_numbers_15 v_five_share_walk_16 i_six_row_used_18 i_six_row_held_19 i_six_row_many_20 v_six_row_words_21 i_six_share_order_22 v_six_share_points_23 v_six_share_cuts_24 v_six_share_queue_25 v_six_share_owners_26 v_six_share_takes_27 v_six_share_bases_28 v_six_share_ranked_29 v_six_share_starts_30 v_six_share_numbers_31 v_six_share_walk_32 v_weights v_counts i_p2_used v_p2_words
def f_Writer_describeCodes_b35 (N : Nat) (i_five_order : Int32) (i_five_row_room : Int32) (n_five_row_words : Nat) (i_six_order : Int32) (i_six_row_room : Int32) (n_six_row_words : Nat) (i_p1_greatest : Int32) (i_p1_highest : Int32) (v_p1_lengths : Nat → Int32) (i_p2_room : Int32) (n_p2_words : Nat)  (l3 : Int32) (i_five_row_used : Int32) (i_five_row_held : Int32) (i_five_row_many : Int32) (v_five_row_words : Nat → Int64) (i_five_share_order : Int32) (v_five_share_points : Nat → Int32) (v_five_share_cuts : Nat → Int32) (v_five_share_queue : Nat → Int32) (v_five_share_owners : Nat → Int32) (v_five_share_takes : Nat → Int32) (v_five_share_bases : Nat → Int32) (v_five_share_ranked : Nat → Int32) (v_five_share_starts : Nat → Int32) (v_five_share_numbers : Nat → Int32) (v_five_share_walk : Nat → Int32) (i_six_row_used : Int32) (i_six_row_held : Int32) (i_six_row_many : Int32) (v_six_row_words : Nat → Int64) (i_six_share_order : Int32) (v_six_share_points : Nat → Int32) (v_six_share_cuts : Nat → Int32) (v_six_share_queue : Nat → Int32) (v_six_share_owners : Nat → Int32) (v_six_share_takes : Nat → Int32) (v_six_share_bases : Nat → Int32) (v_six_share_ranked : Nat → Int32) (v_six_share_starts : Nat → Int32) (v_six_share_numbers : Nat → Int32) (v_six_share_walk : Nat → Int32) (v_weights : Nat → Int32) (v_counts : Nat → Int32) (i_p2_used : Int32) (v_p2_words : Nat → Int64) : Option (Int32 × Int32 × Int32 × Int32 × (Nat → Int64) × Int32 × (Nat → Int32) × (Nat → Int32) × (Nat → Int32) × (Nat → Int32) × (Nat → Int32) × (Nat → Int32) × (Nat → Int32) × (Nat → Int32) × (Nat → Int32) × (Nat → Int32) × Int32 × Int32 × Int32 × (Nat → Int64) × Int32 × (Nat → Int32) × (Nat → Int32) × (Nat → Int32) × (Nat → Int32) × (Nat → Int32) × (Nat → Int32) × (Nat → Int32) × (Nat → Int32) × (Nat → Int32) × (Nat → Int32) × (Nat → Int32) × (Nat → Int32) × Int32 × (Nat → Int64)) :=
  f_Writer_describeCodes_b36 N i_five_order i_five_row_room n_five_row_words i_six_order i_six_row_room n_six_row_words i_p1_greatest i_p1_highest v_p1_lengths i_p2_room n_p2_words  l3 0 i_five_row_used i_five_row_held i_five_row_many v_five_row_words i_five_share_order v_five_share_points v_five_share_cuts v_five_share_queue v_five_share_owners v_five_share_takes v_five_share_bases v_five_share_ranked v_five_share_starts v_five_share_numbers v_five_share_walk i_six_row_used i_six_row_held i_six_row_many v_six_row_words i_six_share_order v_six_share_points v_six_share_cuts v_six_share_queue v_six_share_owners v_six_share_takes v_six_share_bases v_six_share_ranked v_six_share_starts v_six_share_numbers v_six_share_walk v_weights v_counts i_p2_used v_p2_words
def f_Writer_describeCodes (N : Nat) (i_five_order : Int32) (i_five_row_room : Int32) (n_five_row_words : Nat) (i_six_order : Int32) (i_six_row_room : Int32) (n_six_row_words : Nat) (i_p1_greatest : Int32) (i_p1_highest : Int32) (v_p1_lengths : Nat → Int32) (i_p2_room : Int32) (n_p2_words : Nat)  (i_five_row_used : Int32) (i_five_row_held : Int32) (i_five_row_many : Int32) (v_five_row_words : Nat → Int64) (i_five_share_order : Int32) (v_five_share_points : Nat → Int32) (v_five_share_cuts : Nat → Int32) (v_five_share_queue : Nat → Int32) (v_five_share_owners : Nat → Int32) (v_five_share_takes : Nat → Int32) (v_five_share_bases : Nat → Int32) (v_five_share_ranked : Nat → Int32) (v_five_share_starts : Nat → Int32) (v_five_share_numbers : Nat → Int32) (v_five_share_walk : Nat → Int32) (i_six_row_used : Int32) (i_six_row_held : Int32) (i_six_row_many : Int32) (v_six_row_words : Nat → Int64) (i_six_share_order : Int32) (v_six_share_points : Nat → Int32) (v_six_share_cuts : Nat → Int32) (v_six_share_queue : Nat → Int32) (v_six_share_owners : Nat → Int32) (v_six_share_takes : Nat → Int32) (v_six_share_bases : Nat → Int32) (v_six_share_ranked : Nat → Int32) (v_six_share_starts : Nat → Int32) (v_six_share_numbers : Nat → Int32) (v_six_share_walk : Nat → Int32) (v_weights : Nat → Int32) (v_counts : Nat → Int32) (i_p2_used : Int32) (v_p2_words : Nat → Int64) : Option (Int32 × Int32 × Int32 × Int32 × (Nat → Int64) × Int32 × (Nat → Int32) × (Nat → Int32) × (Nat → Int32) × (Nat → Int32) × (Nat → Int32) × (Nat → Int32) × (Nat → Int32) × (Nat → Int32) × (Nat → Int32) × (Nat → Int32) × Int32 × Int32 × Int32 × (Nat → Int64) × Int32 × (Nat → Int32) × (Nat → Int32) × (Nat → Int32) × (Nat → Int32) × (Nat → Int32) × (Nat → Int32) × (Nat → Int32) × (Nat → Int32) × (Nat → Int32) × (Nat → Int32) × (Nat → Int32) × (Nat → Int32) × Int32 × (Nat → Int64)) :=
  bd2 (f_Writer_takeWeights N i_p1_greatest v_p1_lengths i_p1_highest v_weights v_counts) fun v_weights_1 v_counts_2 =>
  if i_p1_highest < 2 then
  f_Writer_describeCodes_b35 N i_five_order i_five_row_room n_five_row_words i_six_order i_six_row_room n_six_row_words i_p1_greatest i_p1_highest v_p1_lengths i_p2_room n_p2_words  i_p1_highest i_five_row_used i_five_row_held i_five_row_many v_five_row_words i_five_share_order v_five_share_points v_five_share_cuts v_five_share_queue v_five_share_owners v_five_share_takes v_five_share_bases v_five_share_ranked v_five_share_starts v_five_share_numbers v_five_share_walk i_six_row_used i_six_row_held i_six_row_many v_six_row_words i_six_share_order v_six_share_points v_six_share_cuts v_six_share_queue v_six_share_owners v_six_share_takes v_six_share_bases v_six_share_ranked v_six_share_starts v_six_share_numbers v_six_share_walk v_weights_1 v_counts_2 i_p2_used v_p2_words
  else
  ck (inb 0 256) <|
  ck (inb (v_weights_1 (Int32.toNatClampNeg 0)) 12) <|
  if i_p1_highest ≤ (v_counts_2 (Int32.toNatClampNeg (v_weights_1 (Int32.toNatClampNeg 0)))) then
  f_Writer_describeCodes_b35 N i_five_order i_five_row_room n_five_row_words i_six_order i_six_row_room n_six_row_words i_p1_greatest i_p1_highest v_p1_lengths i_p2_room n_p2_words  i_p1_highest i_five_row_used i_five_row_held i_five_row_many v_five_row_words i_five_share_order v_five_share_points v_five_share_cuts v_five_share_queue v_five_share_owners v_five_share_takes v_five_share_bases v_five_share_ranked v_five_share_starts v_five_share_numbers v_five_share_walk i_six_row_used i_six_row_held i_six_row_many v_six_row_words i_six_share_order v_six_share_points v_six_share_cuts v_six_share_queue v_six_share_owners v_six_share_takes v_six_share_bases v_six_share_ranked v_six_share_starts v_six_share_numbers v_six_share_walk v_weights_1 v_counts_2 i_p2_used v_p2_words
  else
  f_Writer_describeCodes_b36 N i_five_order i_five_row_room n_five_row_words i_six_order i_six_row_room n_six_row_words i_p1_greatest i_p1_highest v_p1_lengths i_p2_room n_p2_words  i_p1_highest 1 i_five_row_used i_five_row_held i_five_row_many v_five_row_words i_five_share_order v_five_share_points v_five_share_cuts v_five_share_queue v_five_share_owners v_five_share_takes v_five_share_bases v_five_share_ranked v_five_share_starts v_five_share_numbers v_five_share_walk i_six_row_used i_six_row_held i_six_row_many v_six_row_words i_six_share_order v_six_share_points v_six_share_cuts v_six_share_queue v_six_share_owners v_six_share_takes v_six_share_bases v_six_share_ranked v_six_share_starts v_six_share_numbers v_six_share_walk v_weights_1 v_counts_2 i_p2_used v_p2_words
def f_PM_describe (N : Nat) (i_out_room : Int32) (n_out_words : Nat) (i_codes_greatest : Int32) (i_codes_highest : Int32) (v_codes_lengths : Nat → Int32) (i_writer_five_order : Int32) (i_writer_five_row_room : Int32) (n_writer_five_row_words : Nat) (i_writer_six_order : Int32) (i_writer_six_row_room : Int32) (n_writer_six_row_words : Nat)  (i_out_used : Int32) (v_out_words : Nat → Int64) (i_writer_five_row_used : Int32) (i_writer_five_row_held : Int32) (i_writer_five_row_many : Int32) (v_writer_five_row_words : Nat → Int64) (i_writer_five_share_order : Int32) (v_writer_five_share_points : Nat → Int32) (v_writer_five_share_cuts : Nat → Int32) (v_writer_five_share_queue : Nat → Int32) (v_writer_five_share_owners : Nat → Int32) (v_writer_five_share_takes : Nat → Int32) (v_writer_five_share_bases : Nat → Int32) (v_writer_five_share_ranked : Nat → Int32) (v_writer_five_share_starts : Nat → Int32) (v_writer_five_share_numbers : Nat → Int32) (v_writer_five_share_walk : Nat → Int32) (i_writer_six_row_used : Int32) (i_writer_six_row_held : Int32) (i_writer_six_row_many : Int32) (v_writer_six_row_words : Nat → Int64) (i_writer_six_share_order : Int32) (v_writer_six_share_points : Nat → Int32) (v_writer_six_share_cuts : Nat → Int32) (v_writer_six_share_queue : Nat → Int32) (v_writer_six_share_owners : Nat → Int32) (v_writer_six_share_takes : Nat → Int32) (v_writer_six_share_bases : Nat → Int32) (v_writer_six_share_ranked : Nat → Int32) (v_writer_six_share_starts : Nat → Int32) (v_writer_six_share_numbers : Nat → Int32) (v_writer_six_share_walk : Nat → Int32) (v_writer_weights : Nat → Int32) (v_writer_counts : Nat → Int32) : Option (Int32 × Int32 × (Nat → Int64) × Int32 × Int32 × Int32 × (Nat → Int64) × Int32 × (Nat → Int32) × (Nat → Int32) × (Nat → Int32) × (Nat → Int32) × (Nat → Int32) × (Nat → Int32) × (Nat → Int32) × (Nat → Int32) × (Nat → Int32) × (Nat → Int32) × Int32 × Int32 × Int32 × (Nat → Int64) × Int32 × (Nat → Int32) × (Nat → Int32) × (Nat → Int32) × (Nat → Int32) × (Nat → Int32) × (Nat → Int32) × (Nat → Int32) × (Nat → Int32) × (Nat → Int32) × (Nat → Int32) × (Nat → Int32) × (Nat → Int32)) :=
  bd1 (f_Codes_areThere N i_codes_greatest) fun r_1 =>
  if r_1 = 0 then
  some ((-1), i_out_used, v_out_words, i_writer_five_row_used, i_writer_five_row_held, i_writer_five_row_many, v_writer_five_row_words, i_writer_five_share_order, v_writer_five_share_points, v_writer_five_share_cuts, v_writer_five_share_queue, v_writer_five_share_owners, v_writer_five_share_takes, v_writer_five_share_bases, v_writer_five_share_ranked, v_writer_five_share_starts, v_writer_five_share_numbers, v_writer_five_share_walk, i_writer_six_row_used, i_writer_six_row_held, i_writer_six_row_many, v_writer_six_row_words, i_writer_six_share_order, v_writer_six_share_points, v_writer_six_share_cuts, v_writer_six_share_queue, v_writer_six_share_owners, v_writer_six_share_takes, v_writer_six_share_bases, v_writer_six_share_ranked, v_writer_six_share_starts, v_writer_six_share_numbers, v_writer_six_share_walk, v_writer_weights, v_writer_counts)
  else
  bd35 (f_Writer_describeCodes N i_writer_five_order i_writer_five_row_room n_writer_five_row_words i_writer_six_order i_writer_six_row_room n_writer_six_row_words i_codes_greatest i_codes_highest v_codes_lengths i_out_room n_out_words i_writer_five_row_used i_writer_five_row_held i_writer_five_row_many v_writer_five_row_words i_writer_five_share_order v_writer_five_share_points v_writer_five_share_cuts v_writer_five_share_queue v_writer_five_share_owners v_writer_five_share_takes v_writer_five_share_bases v_writer_five_share_ranked v_writer_five_share_starts v_writer_five_share_numbers v_writer_five_share_walk i_writer_six_row_used i_writer_six_row_held i_writer_six_row_many v_writer_six_row_words i_writer_six_share_order v_writer_six_share_points v_writer_six_share_cuts v_writer_six_share_queue v_writer_six_share_owners v_writer_six_share_takes v_writer_six_share_bases v_writer_six_share_ranked v_writer_six_share_starts v_writer_six_share_numbers v_writer_six_share_walk v_writer_weights v_writer_counts i_out_used v_out_words) fun r_4 i_writer_five_row_used_5 i_writer_five_row_held_6 i_writer_five_row_many_7 v_writer_five_row_words_8 i_writer_five_share_order_9 v_writer_five_share_points_10 v_writer_five_share_cuts_11 v_writer_five_share_queue_12 v_writer_five_share_owners_13 v_writer_five_share_takes_14 v_writer_five_share_bases_15 v_writer_five_share_ranked_16 v_writer_five_share_starts_17 v_writer_five_share_numbers_18 v_writer_five_share_walk_19 i_writer_six_row_used_20 i_writer_six_row_held_21 i_writer_six_row_many_22 v_writer_six_row_words_23 i_writer_six_share_order_24 v_writer_six_share_points_25 v_writer_six_share_cuts_26 v_writer_six_share_queue_27 v_writer_six_share_owners_28 v_writer_six_share_takes_29 v_writer_six_share_bases_30 v_writer_six_share_ranked_31 v_writer_six_share_starts_32 v_writer_six_share_numbers_33 v_writer_six_share_walk_34 v_writer_weights_35 v_writer_counts_36 i_out_used_37 v_out_words_38 =>
  some (r_4, i_out_used_37, v_out_words_38, i_writer_five_row_used_5, i_writer_five_row_held_6, i_writer_five_row_many_7, v_writer_five_row_words_8, i_writer_five_share_order_9, v_writer_five_share_points_10, v_writer_five_share_cuts_11, v_writer_five_share_queue_12, v_writer_five_share_owners_13, v_writer_five_share_takes_14, v_writer_five_share_bases_15, v_writer_five_share_ranked_16, v_writer_five_share_starts_17, v_writer_five_share_numbers_18, v_writer_five_share_walk_19, i_writer_six_row_used_20, i_writer_six_row_held_21, i_writer_six_row_many_22, v_writer_six_row_words_23, i_writer_six_share_order_24, v_writer_six_share_points_25, v_writer_six_share_cuts_26, v_writer_six_share_queue_27, v_writer_six_share_owners_28, v_writer_six_share_takes_29, v_writer_six_share_bases_30, v_writer_six_share_ranked_31, v_writer_six_share_starts_32, v_writer_six_share_numbers_33, v_writer_six_share_walk_34, v_writer_weights_35, v_writer_counts_36)
def f_Reader_takeDirect_b51 (N : Nat) (i_p1_used : Int32) (n_p1_words : Nat) (v_p1_words : Nat → Int64) (l2 : Int32) (l3 : Int32) (k8 : Int32 → Int32 → (Nat → Int32) → Option (Int32 × (Nat → Int32))) (l4 : Int32) (s0 : Int32) (s1 : Int32) (i_known : Int32) (v_weights : Nat → Int32) : Option (Int32 × (Nat → Int32)) :=
  ck (inb s1 256) <|
  nm (upd v_weights (Int32.toNatClampNeg s1) s0) fun v_weights_2 =>
  nm (l4 + 1) fun l4_3 =>
  k8 l4_3 i_known v_weights_2
def f_Reader_takeDirect_b8 (N : Nat) (i_p1_used : Int32) (n_p1_words : Nat) (v_p1_words : Nat → Int64) (l2 : Int32) (l3 : Int32)  : Nat → Int32 → Int32 → (Nat → Int32) → Option (Int32 × (Nat → Int32))
  | 0, _, _, _ => none
  | z + 1, l4, i_known, v_weights =>
  if l3 ≤ l4 then
  some (i_known, v_weights)
  else
  bd1 (f_Row_get N i_p1_used n_p1_words v_p1_words (l2 + (l4 / 2))) fun r_2 =>
  if (l4 - l4 / 2 * 2) = 0 then
  f_Reader_takeDirect_b51 N i_p1_used n_p1_words v_p1_words l2 l3 (f_Reader_takeDirect_b8 N i_p1_used n_p1_words v_p1_words l2 l3  z) l4 (r_2 >>> (4 &&& 31)) l4 i_known v_weights
  else
  f_Reader_takeDirect_b51 N i_p1_used n_p1_words v_p1_words l2 l3 (f_Reader_takeDirect_b8 N i_p1_used n_p1_words v_p1_words l2 l3  z) l4 (r_2 &&& 15) l4 i_known v_weights
def f_Reader_takeDirect (N : Nat) (i_p1_used : Int32) (n_p1_words : Nat) (v_p1_words : Nat → Int64) (l2 : Int32) (l3 : Int32)  (i_known : Int32) (v_weights : Nat → Int32) : Option (Int32 × (Nat → Int32)) :=
  f_Reader_takeDirect_b8 N i_p1_used n_p1_words v_p1_words l2 l3  N 0 l3 v_weights
def f_Row_bits_b36 (N : Nat) (i_used : Int32) (n_words : Nat) (v_words : Nat → Int64) (l1 : Int32) (l2 : Int32)  (l3 : Int32) : Option (Int32) :=
  some (((l3 >>> ((l1 &&& 7) &&& 31)) &&& ((1 <<< (l2 &&& 31)) - 1)))
def f_Row_bits_b5 (N : Nat) (i_used : Int32) (n_words : Nat) (v_words : Nat → Int64) (l1 : Int32) (l2 : Int32)  : Nat → Int32 → Int32 → Option (Int32)
  | 0, _, _ => none
  | z + 1, l3, l4 =>
  if l4 < 0 then
  f_Row_bits_b36 N i_used n_words v_words l1 l2  l3
  else
  bd1 (f_Row_get N i_used n_words v_words ((l1 >>> (3 &&& 31)) + l4)) fun r_2 =>
  bd1 (f_JMath_max N r_2 0) fun r_4 =>
  nm ((l3 <<< (8 &&& 31)) ||| r_4) fun l3_6 =>
  nm (l4 + (-1)) fun l4_7 =>
  f_Row_bits_b5 N i_used n_words v_words l1 l2  z l3_6 l4_7
def f_Row_bits (N : Nat) (i_used : Int32) (n_words : Nat) (v_words : Nat → Int64) (l1 : Int32) (l2 : Int32)   : Option (Int32) :=
  f_Row_bits_b5 N i_used n_words v_words l1 l2  N 0 2
def f_Share_takeBits (N : Nat) (i_p1_used : Int32) (n_p1_words : Nat) (v_p1_words : Nat → Int64) (l2 : Int32)  (i_next : Int32) : Option (Int32 × Int32) :=
  bd1 (f_Row_bits N i_p1_used n_p1_words v_p1_words i_next l2) fun r_1 =>
  nm (i_next + l2) fun i_next_3 =>
  some (r_1, i_next_3)
def f_Share_takePoints_b57 (N : Nat) (i_p1_used : Int32) (n_p1_words : Nat) (v_p1_words : Nat → Int64) (l2 : Int32)  (l6 : Int32) (i_next : Int32) : Option (Int32 × Int32) :=
  some ((l6 - 1), i_next)
def f_Share_takePoints (N : Nat) (i_p1_used : Int32) (n_p1_words : Nat) (v_p1_words : Nat → Int64) (l2 : Int32)  (i_next : Int32) : Option (Int32 × Int32) :=
  bd1 (f_PM_log2 N (l2 + 1)) fun r_1 =>
  nm (1 <<< (r_1 &&& 31)) fun l4_3 =>
  nm (((2 * l4_3) - 2) - l2) fun l5_4 =>
  bd2 (f_Share_takeBits N i_p1_used n_p1_words v_p1_words r_1 i_next) fun r_5 i_next_6 =>
  if r_5 < l5_4 then
  f_Share_takePoints_b57 N i_p1_used n_p1_words v_p1_words l2  r_5 i_next_6
  else
  bd2 (f_Share_takeBits N i_p1_used n_p1_words v_p1_words 1 i_next_6) fun r_9 i_next_10 =>
  if r_9 = 1 then
  nm (r_5 + (l4_3 - l5_4)) fun l6_13 =>
  f_Share_takePoints_b57 N i_p1_used n_p1_words v_p1_words l2  l6_13 i_next_10
  else
  f_Share_takePoints_b57 N i_p1_used n_p1_words v_p1_words l2  r_5 i_next_10
def f_Share_takeNone_b33 (N : Nat) (i_p1_used : Int32) (n_p1_words : Nat) (v_p1_words : Nat → Int64) (l2 : Int32)  (l3 : Int32) (i_next : Int32) : Option (Int32 × Int32) :=
  some (l3, i_next)
def f_Share_takeNone_b5 (N : Nat) (i_p1_used : Int32) (n_p1_words : Nat) (v_p1_words : Nat → Int64) (l2 : Int32)  : Nat → Int32 → Int32 → Int32 → Option (Int32 × Int32)
  | 0, _, _, _ => none
  | z + 1, l3, l4, i_next =>
  if l4 = 3 then
  if 12 ≤ l3 then
  f_Share_takeNone_b33 N i_p1_used n_p1_words v_p1_words l2  l3 i_next
  else
  bd2 (f_Share_takeBits N i_p1_used n_p1_words v_p1_words 2 i_next) fun r_3 i_next_4 =>
  nm (l3 + r_3) fun l3_6 =>
  f_Share_takeNone_b5 N i_p1_used n_p1_words v_p1_words l2  z l3_6 r_3 i_next_4
  else
  f_Share_takeNone_b33 N i_p1_used n_p1_words v_p1_words l2  l3 i_next
def f_Share_takeNone (N : Nat) (i_p1_used : Int32) (n_p1_words : Nat) (v_p1_words : Nat → Int64) (l2 : Int32)  (i_next : Int32) : Option (Int32 × Int32) :=
  f_Share_takeNone_b5 N i_p1_used n_p1_words v_p1_words l2  N l2 3 i_next
def f_Share_take_b113 (N : Nat) (i_p1_used : Int32) (n_p1_words : Nat) (v_p1_words : Nat → Int64) (l2 : Int32) (l3 : Int32) (k50 : Int32 → Int32 → Int32 → Int32 → (Nat → Int32) → (Nat → Int32) → (Nat → Int32) → (Nat → Int32) → (Nat → Int32) → (Nat → Int32) → (Nat → Int32) → (Nat → Int32) → Option (Int32 × Int32 × Int32 × (Nat → Int32) × (Nat → Int32) × (Nat → Int32) × (Nat → Int32) × (Nat → Int32) × (Nat → Int32) × (Nat → Int32) × (Nat → Int32))) (l4 : Int32) (s0 : Int32) (i_order : Int32) (i_next : Int32) (v_points : Nat → Int32) (v_owners : Nat → Int32) (v_takes : Nat → Int32) (v_bases : Nat → Int32) (v_ranked : Nat → Int32) (v_starts : Nat → Int32) (v_numbers : Nat → Int32) (v_walk : Nat → Int32) : Option (Int32 × Int32 × Int32 × (Nat → Int32) × (Nat → Int32) × (Nat → Int32) × (Nat → Int32) × (Nat → Int32) × (Nat → Int32) × (Nat → Int32) × (Nat → Int32)) :=
  k50 l4 s0 i_order i_next v_points v_owners v_takes v_bases v_ranked v_starts v_numbers v_walk
def f_Share_take_b134 (N : Nat) (i_p1_used : Int32) (n_p1_words : Nat) (v_p1_words : Nat → Int64) (l2 : Int32) (l3 : Int32)  (i_order : Int32) (i_next : Int32) (v_points : Nat → Int32) (v_owners : Nat → Int32) (v_takes : Nat → Int32) (v_bases : Nat → Int32) (v_ranked : Nat → Int32) (v_starts : Nat → Int32) (v_numbers : Nat → Int32) (v_walk : Nat → Int32) : Option (Int32 × Int32 × Int32 × (Nat → Int32) × (Nat → Int32) × (Nat → Int32) × (Nat → Int32) × (Nat → Int32) × (Nat → Int32) × (Nat → Int32) × (Nat → Int32)) :=
  some ((-1), i_order, i_next, v_points, v_owners, v_takes, v_bases, v_ranked, v_starts, v_numbers, v_walk)
def f_Share_take_b118 (N : Nat) (i_p1_used : Int32) (n_p1_words : Nat) (v_p1_words : Nat → Int64) (l2 : Int32) (l3 : Int32)  (l4 : Int32) (i_order : Int32) (i_next : Int32) (v_points : Nat → Int32) (v_owners : Nat → Int32) (v_takes : Nat → Int32) (v_bases : Nat → Int32) (v_ranked : Nat → Int32) (v_starts : Nat → Int32) (v_numbers : Nat → Int32) (v_walk : Nat → Int32) : Option (Int32 × Int32 × Int32 × (Nat → Int32) × (Nat → Int32) × (Nat → Int32) × (Nat → Int32) × (Nat → Int32) × (Nat → Int32) × (Nat → Int32) × (Nat → Int32)) :=
  if 0 < l4 then
  f_Share_take_b134 N i_p1_used n_p1_words v_p1_words l2 l3  i_order i_next v_points v_owners v_takes v_bases v_ranked v_starts v_numbers v_walk
  else
  if i_next ≤ (8 * l3) then
  bd7 (f_Share_layOut N i_order v_points v_owners v_takes v_bases v_ranked v_starts v_numbers v_walk) fun v_owners_3 v_takes_4 v_bases_5 v_ranked_6 v_starts_7 v_numbers_8 v_walk_9 =>
  some (((i_next + 7) / 8), i_order, i_next, v_points, v_owners_3, v_takes_4, v_bases_5, v_ranked_6, v_starts_7, v_numbers_8, v_walk_9)
  else
  f_Share_take_b134 N i_p1_used n_p1_words v_p1_words l2 l3  i_order i_next v_points v_owners v_takes v_bases v_ranked v_starts v_numbers v_walk
def f_Share_take_b50 (N : Nat) (i_p1_used : Int32) (n_p1_words : Nat) (v_p1_words : Nat → Int64) (l2 : Int32) (l3 : Int32)  : Nat → Int32 → Int32 → Int32 → Int32 → (Nat → Int32) → (Nat → Int32) → (Nat → Int32) → (Nat → Int32) → (Nat → Int32) → (Nat → Int32) → (Nat → Int32) → (Nat → Int32) → Option (Int32 × Int32 × Int32 × (Nat → Int32) × (Nat → Int32) × (Nat → Int32) × (Nat → Int32) × (Nat → Int32) × (Nat → Int32) × (Nat → Int32) × (Nat → Int32))
  | 0, _, _, _, _, _, _, _, _, _, _, _, _ => none
  | z + 1, l4, l5, i_order, i_next, v_points, v_owners, v_takes, v_bases, v_ranked, v_starts, v_numbers, v_walk =>
  if 12 ≤ l5 then
  f_Share_take_b118 N i_p1_used n_p1_words v_p1_words l2 l3  l4 i_order i_next v_points v_owners v_takes v_bases v_ranked v_starts v_numbers v_walk
  else
  if l4 ≤ 0 then
  f_Share_take_b118 N i_p1_used n_p1_words v_p1_words l2 l3  l4 i_order i_next v_points v_owners v_takes v_bases v_ranked v_starts v_numbers v_walk
  else
  bd2 (f_Share_takePoints N i_p1_used n_p1_words v_p1_words l4 i_next) fun r_3 i_next_4 =>
  ck (inb l5 12) <|
  nm (upd v_points (Int32.toNatClampNeg l5) r_3) fun v_points_7 =>
  bd1 (f_Share_massOf N v_points_7 l5) fun r_8 =>
  nm (l4 - r_8) fun l4_10 =>
  ck (inb l5 12) <|
  if (v_points_7 (Int32.toNatClampNeg l5)) = 0 then
  bd2 (f_Share_takeNone N i_p1_used n_p1_words v_p1_words (l5 + 1) i_next_4) fun r_13 i_next_14 =>
  f_Share_take_b113 N i_p1_used n_p1_words v_p1_words l2 l3 (f_Share_take_b50 N i_p1_used n_p1_words v_p1_words l2 l3  z) l4_10 r_13 i_order i_next_14 v_points_7 v_owners v_takes v_bases v_ranked v_starts v_numbers v_walk
  else
  f_Share_take_b113 N i_p1_used n_p1_words v_p1_words l2 l3 (f_Share_take_b50 N i_p1_used n_p1_words v_p1_words l2 l3  z) l4_10 (l5 + 1) i_order i_next_4 v_points_7 v_owners v_takes v_bases v_ranked v_starts v_numbers v_walk
def f_Share_take (N : Nat) (i_p1_used : Int32) (n_p1_words : Nat) (v_p1_words : Nat → Int64) (l2 : Int32) (l3 : Int32)  (i_order : Int32) (i_next : Int32) (v_points : Nat → Int32) (v_owners : Nat → Int32) (v_takes : Nat → Int32) (v_bases : Nat → Int32) (v_ranked : Nat → Int32) (v_starts : Nat → Int32) (v_numbers : Nat → Int32) (v_walk : Nat → Int32) : Option (Int32 × Int32 × Int32 × (Nat → Int32) × (Nat → Int32) × (Nat → Int32) × (Nat → Int32) × (Nat → Int32) × (Nat → Int32) × (Nat → Int32) × (Nat → Int32)) :=
  bd1 (f_JArr_fill N 12 0 v_points) fun v_points_1 =>
  nm (8 * l2) fun i_next_3 =>
  bd2 (f_Share_takeBits N i_p1_used n_p1_words v_p1_words 4 i_next_3) fun r_4 i_next_5 =>
  nm (5 + r_4) fun i_order_7 =>
  if i_order_7 ≤ 6 then
  nm (1 <<< (i_order_7 &&& 31)) fun l4_9 =>
  f_Share_take_b50 N i_p1_used n_p1_words v_p1_words l2 l3  N l4_9 0 i_order_7 i_next_5 v_points_1 v_owners v_takes v_bases v_ranked v_starts v_numbers v_walk
  else
  some ((-1), i_order_7, i_next_5, v_points_1, v_owners, v_takes, v_bases, v_ranked, v_starts, v_numbers, v_walk)
def f_Tail_open_b16 (N : Nat) (i_p1_used : Int32) (n_p1_words : Nat) (v_p1_words : Nat → Int64) (l2 : Int32) (l3 : Int32)  (s0 : Int32) (i_first : Int32) (i_left : Int32) : Option (Int32 × Int32 × Int32) :=
  if 0 < s0 then
  nm (8 * l2) fun i_first_2 =>
  bd1 (f_PM_log2 N s0) fun r_3 =>
  nm ((8 * ((l3 - 1) - l2)) + r_3) fun i_left_5 =>
  some (1, i_first_2, i_left_5)
  else
  some (0, i_first, i_left)
def f_Tail_open (N : Nat) (i_p1_used : Int32) (n_p1_words : Nat) (v_p1_words : Nat → Int64) (l2 : Int32) (l3 : Int32)  (i_first : Int32) (i_left : Int32) : Option (Int32 × Int32 × Int32) :=
  if l3 ≤ l2 then
  f_Tail_open_b16 N i_p1_used n_p1_words v_p1_words l2 l3  0 i_first i_left
  else
  bd1 (f_Row_get N i_p1_used n_p1_words v_p1_words (l3 - 1)) fun r_2 =>
  f_Tail_open_b16 N i_p1_used n_p1_words v_p1_words l2 l3  r_2 i_first i_left
def f_Tail_look (N : Nat) (i_first : Int32) (i_left : Int32) (i_p1_used : Int32) (n_p1_words : Nat) (v_p1_words : Nat → Int64) (l2 : Int32)   : Option (Int32) :=
  if i_left < l2 then
  bd1 (f_Row_bits N i_p1_used n_p1_words v_p1_words i_first i_left) fun r_2 =>
  some ((r_2 <<< ((l2 - i_left) &&& 31)))
  else
  bd1 (f_Row_bits N i_p1_used n_p1_words v_p1_words ((i_first + i_left) - l2) l2) fun r_4 =>
  some (r_4)
def f_Tail_drop (N : Nat) (l1 : Int32)  (i_left : Int32) : Option (Int32 × Int32) :=
  if l1 ≤ i_left then
  nm (i_left - l1) fun i_left_2 =>
  some (1, i_left_2)
  else
  some (0, i_left)
def f_Tail_take (N : Nat) (i_first : Int32) (i_p1_used : Int32) (n_p1_words : Nat) (v_p1_words : Nat → Int64) (l2 : Int32)  (i_left : Int32) : Option (Int32 × Int32) :=
  bd1 (f_Tail_look N i_first i_left i_p1_used n_p1_words v_p1_words l2) fun r_1 =>
  bd2 (f_Tail_drop N l2 i_left) fun r_3 i_left_4 =>
  some (r_1, i_left_4)
def f_Reader_takeRow_b35 (N : Nat) (i_end : Int32) (i_share_order : Int32) (v_share_owners : Nat → Int32) (v_share_takes : Nat → Int32) (v_share_bases : Nat → Int32) (i_p1_used : Int32) (n_p1_words : Nat) (v_p1_words : Nat → Int64) (l2 : Int32)  (i_known : Int32) (i_tail_first : Int32) (i_tail_left : Int32) (v_weights : Nat → Int32) : Option (Int32 × Int32 × Int32 × Int32 × (Nat → Int32)) :=
  some (0, i_known, i_tail_first, i_tail_left, v_weights)
def f_Reader_takeRow_b124 (N : Nat) (i_end : Int32) (i_share_order : Int32) (v_share_owners : Nat → Int32) (v_share_takes : Nat → Int32) (v_share_bases : Nat → Int32) (i_p1_used : Int32) (n_p1_words : Nat) (v_p1_words : Nat → Int64) (l2 : Int32)  (l4 : Int32) (i_known : Int32) (i_tail_first : Int32) (i_tail_left : Int32) (v_weights : Nat → Int32) : Option (Int32 × Int32 × Int32 × Int32 × (Nat → Int32)) :=
  ck (inb l4 64) <|
  ck (inb i_known 256) <|
  nm (upd v_weights (Int32.toNatClampNeg i_known) (v_share_owners (Int32.toNatClampNeg l4))) fun v_weights_3 =>
  nm (i_known + 1) fun i_known_4 =>
  some (1, i_known_4, i_tail_first, i_tail_left, v_weights_3)
def f_Reader_takeRow_b204 (N : Nat) (i_end : Int32) (i_share_order : Int32) (v_share_owners : Nat → Int32) (v_share_takes : Nat → Int32) (v_share_bases : Nat → Int32) (i_p1_used : Int32) (n_p1_words : Nat) (v_p1_words : Nat → Int64) (l2 : Int32)  (i_known : Int32) (i_tail_first : Int32) (i_tail_left : Int32) (v_weights : Nat → Int32) : Option (Int32 × Int32 × Int32 × Int32 × (Nat → Int32)) :=
  some (0, i_known, i_tail_first, i_tail_left, v_weights)
def f_Reader_takeRow_b75 (N : Nat) (i_end : Int32) (i_share_order : Int32) (v_share_owners : Nat → Int32) (v_share_takes : Nat → Int32) (v_share_bases : Nat → Int32) (i_p1_used : Int32) (n_p1_words : Nat) (v_p1_words : Nat → Int64) (l2 : Int32)  : Nat → Int32 → Int32 → Int32 → Int32 → Int32 → (Nat → Int32) → Option (Int32 × Int32 × Int32 × Int32 × (Nat → Int32))
  | 0, _, _, _, _, _, _ => none
  | z + 1, l3, l4, i_known, i_tail_first, i_tail_left, v_weights =>
  if 255 ≤ i_known then
  f_Reader_takeRow_b204 N i_end i_share_order v_share_owners v_share_takes v_share_bases i_p1_used n_p1_words v_p1_words l2  i_known i_tail_first i_tail_left v_weights
  else
  ck (inb l3 64) <|
  ck (inb (i_known - 1) 256) <|
  nm (upd v_weights (Int32.toNatClampNeg (i_known - 1)) (v_share_owners (Int32.toNatClampNeg l3))) fun v_weights_4 =>
  ck (inb l3 64) <|
  if (v_share_takes (Int32.toNatClampNeg l3)) ≤ i_tail_left then
  ck (inb l3 64) <|
  ck (inb l3 64) <|
  bd2 (f_Tail_take N i_tail_first i_p1_used n_p1_words v_p1_words (v_share_takes (Int32.toNatClampNeg l3)) i_tail_left) fun r_9 i_tail_left_10 =>
  nm ((v_share_bases (Int32.toNatClampNeg l3)) + r_9) fun l5_12 =>
  nm (i_known + 1) fun i_known_13 =>
  f_Reader_takeRow_b75 N i_end i_share_order v_share_owners v_share_takes v_share_bases i_p1_used n_p1_words v_p1_words l2  z l4 l5_12 i_known_13 i_tail_first i_tail_left_10 v_weights_4
  else
  f_Reader_takeRow_b124 N i_end i_share_order v_share_owners v_share_takes v_share_bases i_p1_used n_p1_words v_p1_words l2  l4 i_known i_tail_first i_tail_left v_weights_4
def f_Reader_takeRow (N : Nat) (i_end : Int32) (i_share_order : Int32) (v_share_owners : Nat → Int32) (v_share_takes : Nat → Int32) (v_share_bases : Nat → Int32) (i_p1_used : Int32) (n_p1_words : Nat) (v_p1_words : Nat → Int64) (l2 : Int32)  (i_known : Int32) (i_tail_first : Int32) (i_tail_left : Int32) (v_weights : Nat → Int32) : Option (Int32 × Int32 × Int32 × Int32 × (Nat → Int32)) :=
  bd3 (f_Tail_open N i_p1_used n_p1_words v_p1_words l2 i_end i_tail_first i_tail_left) fun r_1 i_tail_first_2 i_tail_left_3 =>
  if r_1 = 0 then
  f_Reader_takeRow_b35 N i_end i_share_order v_share_owners v_share_takes v_share_bases i_p1_used n_p1_words v_p1_words l2  i_known i_tail_first_2 i_tail_left_3 v_weights
  else
  if (2 * i_share_order) ≤ i_tail_left_3 then
  bd2 (f_Tail_take N i_tail_first_2 i_p1_used n_p1_words v_p1_words i_share_order i_tail_left_3) fun r_7 i_tail_left_8 =>
  bd2 (f_Tail_take N i_tail_first_2 i_p1_used n_p1_words v_p1_words i_share_order i_tail_left_8) fun r_10 i_tail_left_11 =>
  f_Reader_takeRow_b75 N i_end i_share_order v_share_owners v_share_takes v_share_bases i_p1_used n_p1_words v_p1_words l2  N r_7 r_10 1 i_tail_first_2 i_tail_left_11 v_weights
  else
  f_Reader_takeRow_b35 N i_end i_share_order v_share_owners v_share_takes v_share_bases i_p1_used n_p1_words v_p1_words l2  i_known i_tail_first_2 i_tail_left_3 v_weights
def f_Reader_takeLengths_b36 (N : Nat) (i_known : Int32) (k4 : Int32 → Int32 → (Nat → Int32) → (Nat → Int32) → Option (Int32 × (Nat → Int32) × (Nat → Int32))) (l2 : Int32) (s0 : Int32) (s1 : Int32) (v_weights : Nat → Int32) (v_lengths : Nat → Int32) : Option (Int32 × (Nat → Int32) × (Nat → Int32)) :=
  nm (s1 + s0) fun l1_1 =>
  nm (l2 + 1) fun l2_2 =>
  k4 l1_1 l2_2 v_weights v_lengths
def f_Reader_takeLengths_b75 (N : Nat) (i_known : Int32)  (v_weights : Nat → Int32) (v_lengths : Nat → Int32) : Option (Int32 × (Nat → Int32) × (Nat → Int32)) :=
  some (0, v_weights, v_lengths)
def f_Reader_takeLengths_b165 (N : Nat) (i_known : Int32) (k106 : Int32 → Int32 → Int32 → (Nat → Int32) → (Nat → Int32) → Option (Int32 × (Nat → Int32) × (Nat → Int32))) (l2 : Int32) (l5 : Int32) (s0 : Int32) (s1 : Int32) (v_weights : Nat → Int32) (v_lengths : Nat → Int32) : Option (Int32 × (Nat → Int32) × (Nat → Int32)) :=
  nm (s1 + s0) fun l4_1 =>
  nm (l5 + 1) fun l5_2 =>
  k106 l2 l4_1 l5_2 v_weights v_lengths
def f_Reader_takeLengths_b146 (N : Nat) (i_known : Int32) (k106 : Int32 → Int32 → Int32 → (Nat → Int32) → (Nat → Int32) → Option (Int32 × (Nat → Int32) × (Nat → Int32))) (l2 : Int32) (l4 : Int32) (l5 : Int32) (s0 : Int32) (s1 : Int32) (v_weights : Nat → Int32) (v_lengths : Nat → Int32) : Option (Int32 × (Nat → Int32) × (Nat → Int32)) :=
  ck (inb s1 256) <|
  nm (upd v_lengths (Int32.toNatClampNeg s1) s0) fun v_lengths_2 =>
  ck (inb l5 256) <|
  if (v_weights (Int32.toNatClampNeg l5)) = 1 then
  f_Reader_takeLengths_b165 N i_known k106 l2 l5 1 l4 v_weights v_lengths_2
  else
  f_Reader_takeLengths_b165 N i_known k106 l2 l5 0 l4 v_weights v_lengths_2
def f_Reader_takeLengths_b174 (N : Nat) (i_known : Int32)  (l4 : Int32) (v_weights : Nat → Int32) (v_lengths : Nat → Int32) : Option (Int32 × (Nat → Int32) × (Nat → Int32)) :=
  if l4 < 2 then
  some (0, v_weights, v_lengths)
  else
  some (1, v_weights, v_lengths)
def f_Reader_takeLengths_b106 (N : Nat) (i_known : Int32)  : Nat → Int32 → Int32 → Int32 → (Nat → Int32) → (Nat → Int32) → Option (Int32 × (Nat → Int32) × (Nat → Int32))
  | 0, _, _, _, _, _ => none
  | z + 1, l2, l4, l5, v_weights, v_lengths =>
  if i_known < l5 then
  f_Reader_takeLengths_b174 N i_known  l4 v_weights v_lengths
  else
  ck (inb l5 256) <|
  if (v_weights (Int32.toNatClampNeg l5)) ≤ 0 then
  f_Reader_takeLengths_b146 N i_known (f_Reader_takeLengths_b106 N i_known  z) l2 l4 l5 0 l5 v_weights v_lengths
  else
  ck (inb l5 256) <|
  f_Reader_takeLengths_b146 N i_known (f_Reader_takeLengths_b106 N i_known  z) l2 l4 l5 ((l2 + 1) - (v_weights (Int32.toNatClampNeg l5))) l5 v_weights v_lengths
def f_Reader_takeLengths_b44 (N : Nat) (i_known : Int32)  (l1 : Int32) (v_weights : Nat → Int32) (v_lengths : Nat → Int32) : Option (Int32 × (Nat → Int32) × (Nat → Int32)) :=
  bd1 (f_PM_log2 N l1) fun r_1 =>
  nm (r_1 + 1) fun l2_3 =>
  nm ((1 <<< (l2_3 &&& 31)) - l1) fun l3_4 =>
  if l1 = 0 then
  f_Reader_takeLengths_b75 N i_known  v_weights v_lengths
  else
  if 11 < l2_3 then
  f_Reader_takeLengths_b75 N i_known  v_weights v_lengths
  else
  if (l3_4 &&& (l3_4 - 1)) = 0 then
  bd1 (f_PM_log2 N l3_4) fun r_8 =>
  ck (inb i_known 256) <|
  nm (upd v_weights (Int32.toNatClampNeg i_known) (r_8 + 1)) fun v_weights_11 =>
  bd1 (f_JArr_fill N 256 0 v_lengths) fun v_lengths_12 =>
  f_Reader_takeLengths_b106 N i_known  N l2_3 0 0 v_weights_11 v_lengths_12
  else
  f_Reader_takeLengths_b75 N i_known  v_weights v_lengths
def f_Reader_takeLengths_b4 (N : Nat) (i_known : Int32)  : Nat → Int32 → Int32 → (Nat → Int32) → (Nat → Int32) → Option (Int32 × (Nat → Int32) × (Nat → Int32))
  | 0, _, _, _, _ => none
  | z + 1, l1, l2, v_weights, v_lengths =>
  if i_known ≤ l2 then
  f_Reader_takeLengths_b44 N i_known  l1 v_weights v_lengths
  else
  ck (inb l2 256) <|
  if (v_weights (Int32.toNatClampNeg l2)) ≤ 0 then
  f_Reader_takeLengths_b36 N i_known (f_Reader_takeLengths_b4 N i_known  z) l2 0 l1 v_weights v_lengths
  else
  ck (inb l2 256) <|
  f_Reader_takeLengths_b36 N i_known (f_Reader_takeLengths_b4 N i_known  z) l2 (1 <<< (((v_weights (Int32.toNatClampNeg l2)) - 1) &&& 31)) l1 v_weights v_lengths
def f_Reader_takeLengths (N : Nat) (i_known : Int32)  (v_weights : Nat → Int32) (v_lengths : Nat → Int32) : Option (Int32 × (Nat → Int32) × (Nat → Int32)) :=
  f_Reader_takeLengths_b4 N i_known  N 0 0 v_weights v_lengths
def f_Reader_readCodes_b53 (N : Nat) (i_p1_used : Int32) (n_p1_words : Nat) (v_p1_words : Nat → Int64) (l2 : Int32)  (i_known : Int32) (i_end : Int32) (i_tail_first : Int32) (i_tail_left : Int32) (i_share_order : Int32) (i_share_next : Int32) (v_share_points : Nat → Int32) (v_share_owners : Nat → Int32) (v_share_takes : Nat → Int32) (v_share_bases : Nat → Int32) (v_share_ranked : Nat → Int32) (v_share_starts : Nat → Int32) (v_share_numbers : Nat → Int32) (v_share_walk : Nat → Int32) (v_weights : Nat → Int32) (v_lengths : Nat → Int32) : Option (Int32 × Int32 × Int32 × Int32 × Int32 × Int32 × Int32 × (Nat → Int32) × (Nat → Int32) × (Nat → Int32) × (Nat → Int32) × (Nat → Int32) × (Nat → Int32) × (Nat → Int32) × (Nat → Int32) × (Nat → Int32) × (Nat → Int32)) :=
  some (1, i_known, i_end, i_tail_first, i_tail_left, i_share_order, i_share_next, v_share_points, v_share_owners, v_share_takes, v_share_bases, v_share_ranked, v_share_starts, v_share_numbers, v_share_walk, v_weights, v_lengths)
def f_Reader_readCodes_b114 (N : Nat) (i_p1_used : Int32) (n_p1_words : Nat) (v_p1_words : Nat → Int64) (l2 : Int32)  (i_known : Int32) (i_end : Int32) (i_tail_first : Int32) (i_tail_left : Int32) (i_share_order : Int32) (i_share_next : Int32) (v_share_points : Nat → Int32) (v_share_owners : Nat → Int32) (v_share_takes : Nat → Int32) (v_share_bases : Nat → Int32) (v_share_ranked : Nat → Int32) (v_share_starts : Nat → Int32) (v_share_numbers : Nat → Int32) (v_share_walk : Nat → Int32) (v_weights : Nat → Int32) (v_lengths : Nat → Int32) : Option (Int32 × Int32 × Int32 × Int32 × Int32 × Int32 × Int32 × (Nat → Int32) × (Nat → Int32) × (Nat → Int32) × (Nat → Int32) × (Nat → Int32) × (Nat → Int32) × (Nat → Int32) × (Nat → Int32) × (Nat → Int32) × (Nat → Int32)) :=
  bd3 (f_Reader_takeLengths N i_known v_weights v_lengths) fun r_1 v_weights_2 v_lengths_3 =>
  if r_1 = 0 then
  some (4, i_known, i_end, i_tail_first, i_tail_left, i_share_order, i_share_next, v_share_points, v_share_owners, v_share_takes, v_share_bases, v_share_ranked, v_share_starts, v_share_numbers, v_share_walk, v_weights_2, v_lengths_3)
  else
  some (0, i_known, i_end, i_tail_first, i_tail_left, i_share_order, i_share_next, v_share_points, v_share_owners, v_share_takes, v_share_bases, v_share_ranked, v_share_starts, v_share_numbers, v_share_walk, v_weights_2, v_lengths_3)
def f_Reader_readCodes_b34 (N : Nat) (i_p1_used : Int32) (n_p1_words : Nat) (v_p1_words : Nat → Int64) (l2 : Int32)  (l3 : Int32) (l4 : Int32) (s0 : Int32) (s1 : Int32) (i_known : Int32) (i_end : Int32) (i_tail_first : Int32) (i_tail_left : Int32) (i_share_order : Int32) (i_share_next : Int32) (v_share_points : Nat → Int32) (v_share_owners : Nat → Int32) (v_share_takes : Nat → Int32) (v_share_bases : Nat → Int32) (v_share_ranked : Nat → Int32) (v_share_starts : Nat → Int32) (v_share_numbers : Nat → Int32) (v_share_walk : Nat → Int32) (v_weights : Nat → Int32) (v_lengths : Nat → Int32) : Option (Int32 × Int32 × Int32 × Int32 × Int32 × Int32 × Int32 × (Nat → Int32) × (Nat → Int32) × (Nat → Int32) × (Nat → Int32) × (Nat → Int32) × (Nat → Int32) × (Nat → Int32) × (Nat → Int32) × (Nat → Int32) × (Nat → Int32)) :=
  nm (s1 + s0) fun i_end_1 =>
  if l3 < 0 then
  f_Reader_readCodes_b53 N i_p1_used n_p1_words v_p1_words l2  i_known i_end_1 i_tail_first i_tail_left i_share_order i_share_next v_share_points v_share_owners v_share_takes v_share_bases v_share_ranked v_share_starts v_share_numbers v_share_walk v_weights v_lengths
  else
  if i_end_1 ≤ i_p1_used then
  if l3 < 128 then
  bd11 (f_Share_take N i_p1_used n_p1_words v_p1_words l4 i_end_1 i_share_order i_share_next v_share_points v_share_owners v_share_takes v_share_bases v_share_ranked v_share_starts v_share_numbers v_share_walk) fun r_5 i_share_order_6 i_share_next_7 v_share_points_8 v_share_owners_9 v_share_takes_10 v_share_bases_11 v_share_ranked_12 v_share_starts_13 v_share_numbers_14 v_share_walk_15 =>
  if 0 ≤ r_5 then
  bd5 (f_Reader_takeRow N i_end_1 i_share_order_6 v_share_owners_9 v_share_takes_10 v_share_bases_11 i_p1_used n_p1_words v_p1_words r_5 i_known i_tail_first i_tail_left v_weights) fun r_18 i_known_19 i_tail_first_20 i_tail_left_21 v_weights_22 =>
  if r_18 = 0 then
  some (3, i_known_19, i_end_1, i_tail_first_20, i_tail_left_21, i_share_order_6, i_share_next_7, v_share_points_8, v_share_owners_9, v_share_takes_10, v_share_bases_11, v_share_ranked_12, v_share_starts_13, v_share_numbers_14, v_share_walk_15, v_weights_22, v_lengths)
  else
  f_Reader_readCodes_b114 N i_p1_used n_p1_words v_p1_words l2  i_known_19 i_end_1 i_tail_first_20 i_tail_left_21 i_share_order_6 i_share_next_7 v_share_points_8 v_share_owners_9 v_share_takes_10 v_share_bases_11 v_share_ranked_12 v_share_starts_13 v_share_numbers_14 v_share_walk_15 v_weights_22 v_lengths
  else
  some (2, i_known, i_end_1, i_tail_first, i_tail_left, i_share_order_6, i_share_next_7, v_share_points_8, v_share_owners_9, v_share_takes_10, v_share_bases_11, v_share_ranked_12, v_share_starts_13, v_share_numbers_14, v_share_walk_15, v_weights, v_lengths)
  else
  bd2 (f_Reader_takeDirect N i_p1_used n_p1_words v_p1_words l4 ((l3 - 128) + 1) i_known v_weights) fun i_known_25 v_weights_26 =>
  f_Reader_readCodes_b114 N i_p1_used n_p1_words v_p1_words l2  i_known_25 i_end_1 i_tail_first i_tail_left i_share_order i_share_next v_share_points v_share_owners v_share_takes v_share_bases v_share_ranked v_share_starts v_share_numbers v_share_walk v_weights_26 v_lengths
  else
  f_Reader_readCodes_b53 N i_p1_used n_p1_words v_p1_words l2  i_known i_end_1 i_tail_first i_tail_left i_share_order i_share_next v_share_points v_share_owners v_share_takes v_share_bases v_share_ranked v_share_starts v_share_numbers v_share_walk v_weights v_lengths
def f_Reader_readCodes (N : Nat) (i_p1_used : Int32) (n_p1_words : Nat) (v_p1_words : Nat → Int64) (l2 : Int32)  (i_known : Int32) (i_end : Int32) (i_tail_first : Int32) (i_tail_left : Int32) (i_share_order : Int32) (i_share_next : Int32) (v_share_points : Nat → Int32) (v_share_owners : Nat → Int32) (v_share_takes : Nat → Int32) (v_share_bases : Nat → Int32) (v_share_ranked : Nat → Int32) (v_share_starts : Nat → Int32) (v_share_numbers : Nat → Int32) (v_share_walk : Nat → Int32) (v_weights : Nat → Int32) (v_lengths : Nat → Int32) : Option (Int32 × Int32 × Int32 × Int32 × Int32 × Int32 × Int32 × (Nat → Int32) × (Nat → Int32) × (Nat → Int32) × (Nat → Int32) × (Nat → Int32) × (Nat → Int32) × (Nat → Int32) × (Nat → Int32) × (Nat → Int32) × (Nat → Int32)) :=
  bd1 (f_Row_get N i_p1_used n_p1_words v_p1_words l2) fun r_1 =>
  nm (l2 + 1) fun l4_3 =>
  if 128 ≤ r_1 then
  f_Reader_readCodes_b34 N i_p1_used n_p1_words v_p1_words l2  r_1 l4_3 (((r_1 - 128) + 2) / 2) l4_3 i_known i_end i_tail_first i_tail_left i_share_order i_share_next v_share_points v_share_owners v_share_takes v_share_bases v_share_ranked v_share_starts v_share_numbers v_share_walk v_weights v_lengths
  else
  f_Reader_readCodes_b34 N i_p1_used n_p1_words v_p1_words l2  r_1 l4_3 r_1 l4_3 i_known i_end i_tail_first i_tail_left i_share_order i_share_next v_share_points v_share_owners v_share_takes v_share_bases v_share_ranked v_share_starts v_share_numbers v_share_walk v_weights v_lengths
def f_PM_read (N : Nat) (i_in_used : Int32) (n_in_words : Nat) (v_in_words : Nat → Int64)  (i_place : Int32) (i_codes_greatest : Int32) (i_codes_known : Int32) (i_codes_highest : Int32) (v_codes_lengths : Nat → Int32) (v_codes_values : Nat → Int32) (v_codes_cells : Nat → Int32) (i_reader_known : Int32) (i_reader_end : Int32) (i_reader_tail_first : Int32) (i_reader_tail_left : Int32) (i_reader_share_order : Int32) (i_reader_share_next : Int32) (v_reader_share_points : Nat → Int32) (v_reader_share_owners : Nat → Int32) (v_reader_share_takes : Nat → Int32) (v_reader_share_bases : Nat → Int32) (v_reader_share_ranked : Nat → Int32) (v_reader_share_starts : Nat → Int32) (v_reader_share_numbers : Nat → Int32) (v_reader_share_walk : Nat → Int32) (v_reader_weights : Nat → Int32) (v_reader_lengths : Nat → Int32) : Option (Int32 × Int32 × Int32 × Int32 × Int32 × (Nat → Int32) × (Nat → Int32) × (Nat → Int32) × Int32 × Int32 × Int32 × Int32 × Int32 × Int32 × (Nat → Int32) × (Nat → Int32) × (Nat → Int32) × (Nat → Int32) × (Nat → Int32) × (Nat → Int32) × (Nat → Int32) × (Nat → Int32) × (Nat → Int32) × (Nat → Int32)) :=
  bd17 (f_Reader_readCodes N i_in_used n_in_words v_in_words i_place i_reader_known i_reader_end i_reader_tail_first i_reader_tail_left i_reader_share_order i_reader_share_next v_reader_share_points v_reader_share_owners v_reader_share_takes v_reader_share_bases v_reader_share_ranked v_reader_share_starts v_reader_share_numbers v_reader_share_walk v_reader_weights v_reader_lengths) fun r_1 i_reader_known_2 i_reader_end_3 i_reader_tail_first_4 i_reader_tail_left_5 i_reader_share_order_6 i_reader_share_next_7 v_reader_share_points_8 v_reader_share_owners_9 v_reader_share_takes_10 v_reader_share_bases_11 v_reader_share_ranked_12 v_reader_share_starts_13 v_reader_share_numbers_14 v_reader_share_walk_15 v_reader_weights_16 v_reader_lengths_17 =>
  if r_1 = 0 then
  bd7 (f_Codes_become N 256 v_reader_lengths_17 i_codes_greatest i_codes_known i_codes_highest v_codes_lengths v_codes_values v_codes_cells) fun r_20 i_codes_greatest_21 i_codes_known_22 i_codes_highest_23 v_codes_lengths_24 v_codes_values_25 v_codes_cells_26 =>
  some (r_20, i_reader_end_3, i_codes_greatest_21, i_codes_known_22, i_codes_highest_23, v_codes_lengths_24, v_codes_values_25, v_codes_cells_26, i_reader_known_2, i_reader_end_3, i_reader_tail_first_4, i_reader_tail_left_5, i_reader_share_order_6, i_reader_share_next_7, v_reader_share_points_8, v_reader_share_owners_9, v_reader_share_takes_10, v_reader_share_bases_11, v_reader_share_ranked_12, v_reader_share_starts_13, v_reader_share_numbers_14, v_reader_share_walk_15, v_reader_weights_16, v_reader_lengths_17)
  else
  some ((-r_1), i_place, i_codes_greatest, i_codes_known, i_codes_highest, v_codes_lengths, v_codes_values, v_codes_cells, i_reader_known_2, i_reader_end_3, i_reader_tail_first_4, i_reader_tail_left_5, i_reader_share_order_6, i_reader_share_next_7, v_reader_share_points_8, v_reader_share_owners_9, v_reader_share_takes_10, v_reader_share_bases_11, v_reader_share_ranked_12, v_reader_share_starts_13, v_reader_share_numbers_14, v_reader_share_walk_15, v_reader_weights_16, v_reader_lengths_17)
def f_Streams_bitsOf_b30 (N : Nat) (v_p1_lengths : Nat → Int32) (i_p2_used : Int32) (n_p2_words : Nat) (v_p2_words : Nat → Int64) (l2 : Int32) (l3 : Int32)   : Option (Int32) :=
  some ((-1))
def f_Streams_bitsOf_b45 (N : Nat) (v_p1_lengths : Nat → Int32) (i_p2_used : Int32) (n_p2_words : Nat) (v_p2_words : Nat → Int64) (l2 : Int32) (l3 : Int32)  (l4 : Int32) : Option (Int32) :=
  some (l4)
def f_Streams_bitsOf_b6 (N : Nat) (v_p1_lengths : Nat → Int32) (i_p2_used : Int32) (n_p2_words : Nat) (v_p2_words : Nat → Int64) (l2 : Int32) (l3 : Int32)  : Nat → Int32 → Int32 → Option (Int32)
  | 0, _, _ => none
  | z + 1, l4, l5 =>
  if l3 ≤ l5 then
  f_Streams_bitsOf_b45 N v_p1_lengths i_p2_used n_p2_words v_p2_words l2 l3  l4
  else
  bd1 (f_Row_get N i_p2_used n_p2_words v_p2_words l5) fun r_2 =>
  ck (inb r_2 256) <|
  nm (v_p1_lengths (Int32.toNatClampNeg r_2)) fun l6_5 =>
  if l6_5 = 0 then
  f_Streams_bitsOf_b30 N v_p1_lengths i_p2_used n_p2_words v_p2_words l2 l3  
  else
  nm (l4 + l6_5) fun l4_7 =>
  nm (l5 + 1) fun l5_8 =>
  f_Streams_bitsOf_b6 N v_p1_lengths i_p2_used n_p2_words v_p2_words l2 l3  z l4_7 l5_8
def f_Streams_bitsOf (N : Nat) (v_p1_lengths : Nat → Int32) (i_p2_used : Int32) (n_p2_words : Nat) (v_p2_words : Nat → Int64) (l2 : Int32) (l3 : Int32)   : Option (Int32) :=
  f_Streams_bitsOf_b6 N v_p1_lengths i_p2_used n_p2_words v_p2_words l2 l3  N 0 l2
def f_Streams_quarter (N : Nat) (l0 : Int32)   : Option (Int32) :=
  some (((l0 + 3) / 4))
def f_Streams_areFour (N : Nat) (l0 : Int32)   : Option (Int32) :=
  bd1 (f_Streams_quarter N l0) fun r_1 =>
  if l0 < (3 * r_1) then
  some (0)
  else
  some (1)
def f_Streams_bytesOf (N : Nat) (v_p1_lengths : Nat → Int32) (i_p2_used : Int32) (n_p2_words : Nat) (v_p2_words : Nat → Int64) (l2 : Int32) (l3 : Int32)   : Option (Int32) :=
  bd1 (f_Streams_bitsOf N v_p1_lengths i_p2_used n_p2_words v_p2_words l2 l3) fun r_1 =>
  some (((r_1 / 8) + 1))
def f_Streams_putStream_b44 (N : Nat) (v_p1_lengths : Nat → Int32) (v_p1_values : Nat → Int32) (i_p2_used : Int32) (n_p2_words : Nat) (v_p2_words : Nat → Int64) (i_p5_room : Int32) (n_p5_words : Nat) (l2 : Int32) (l3 : Int32)  (i_p5_used : Int32) (i_p5_held : Int32) (i_p5_many : Int32) (v_p5_words : Nat → Int64) : Option (Int32 × Int32 × Int32 × (Nat → Int64)) :=
  bd4 (f_Row_finish N i_p5_room n_p5_words i_p5_used i_p5_held i_p5_many v_p5_words) fun i_p5_used_1 i_p5_held_2 i_p5_many_3 v_p5_words_4 =>
  some (i_p5_used_1, i_p5_held_2, i_p5_many_3, v_p5_words_4)
def f_Streams_putStream_b5 (N : Nat) (v_p1_lengths : Nat → Int32) (v_p1_values : Nat → Int32) (i_p2_used : Int32) (n_p2_words : Nat) (v_p2_words : Nat → Int64) (i_p5_room : Int32) (n_p5_words : Nat) (l2 : Int32) (l3 : Int32)  : Nat → Int32 → Int32 → Int32 → Int32 → (Nat → Int64) → Option (Int32 × Int32 × Int32 × (Nat → Int64))
  | 0, _, _, _, _, _ => none
  | z + 1, l5, i_p5_used, i_p5_held, i_p5_many, v_p5_words =>
  if l5 < l2 then
  f_Streams_putStream_b44 N v_p1_lengths v_p1_values i_p2_used n_p2_words v_p2_words i_p5_room n_p5_words l2 l3  i_p5_used i_p5_held i_p5_many v_p5_words
  else
  bd1 (f_Row_get N i_p2_used n_p2_words v_p2_words l5) fun r_2 =>
  ck (inb r_2 256) <|
  ck (inb r_2 256) <|
  bd4 (f_Row_put N i_p5_room n_p5_words (v_p1_values (Int32.toNatClampNeg r_2)) (v_p1_lengths (Int32.toNatClampNeg r_2)) i_p5_used i_p5_held i_p5_many v_p5_words) fun i_p5_used_6 i_p5_held_7 i_p5_many_8 v_p5_words_9 =>
  nm (l5 + (-1)) fun l5_11 =>
  f_Streams_putStream_b5 N v_p1_lengths v_p1_values i_p2_used n_p2_words v_p2_words i_p5_room n_p5_words l2 l3  z l5_11 i_p5_used_6 i_p5_held_7 i_p5_many_8 v_p5_words_9
def f_Streams_putStream (N : Nat) (v_p1_lengths : Nat → Int32) (v_p1_values : Nat → Int32) (i_p2_used : Int32) (n_p2_words : Nat) (v_p2_words : Nat → Int64) (i_p5_room : Int32) (n_p5_words : Nat) (l2 : Int32) (l3 : Int32)  (i_p5_used : Int32) (i_p5_held : Int32) (i_p5_many : Int32) (v_p5_words : Nat → Int64) : Option (Int32 × Int32 × Int32 × (Nat → Int64)) :=
  nm (l3 - 1) fun l5_1 =>
  f_Streams_putStream_b5 N v_p1_lengths v_p1_values i_p2_used n_p2_words v_p2_words i_p5_room n_p5_words l2 l3  N l5_1 i_p5_used i_p5_held i_p5_many v_p5_words
def f_Streams_encodeFour (N : Nat) (v_p1_lengths : Nat → Int32) (v_p1_values : Nat → Int32) (i_p2_used : Int32) (n_p2_words : Nat) (v_p2_words : Nat → Int64) (i_p4_room : Int32) (n_p4_words : Nat) (l2 : Int32)  (i_p4_used : Int32) (i_p4_held : Int32) (i_p4_many : Int32) (v_p4_words : Nat → Int64) : Option (Int32 × Int32 × Int32 × Int32 × (Nat → Int64)) :=
  nm (i_p2_used - l2) fun l4_1 =>
  bd1 (f_Streams_areFour N l4_1) fun r_2 =>
  if r_2 = 0 then
  some ((-3), i_p4_used, i_p4_held, i_p4_many, v_p4_words)
  else
  bd1 (f_Streams_quarter N l4_1) fun r_5 =>
  nm (l2 + r_5) fun l5_7 =>
  bd1 (f_Streams_quarter N l4_1) fun r_8 =>
  nm (l5_7 + r_8) fun l6_10 =>
  bd1 (f_Streams_quarter N l4_1) fun r_11 =>
  nm (l6_10 + r_11) fun l7_13 =>
  bd1 (f_Streams_bytesOf N v_p1_lengths i_p2_used n_p2_words v_p2_words l2 l5_7) fun r_14 =>
  bd1 (f_Streams_bytesOf N v_p1_lengths i_p2_used n_p2_words v_p2_words l5_7 l6_10) fun r_16 =>
  bd1 (f_Streams_bytesOf N v_p1_lengths i_p2_used n_p2_words v_p2_words l6_10 l7_13) fun r_18 =>
  bd1 (f_Streams_bytesOf N v_p1_lengths i_p2_used n_p2_words v_p2_words l7_13 i_p2_used) fun r_20 =>
  if ((((6 + r_14) + r_16) + r_18) + r_20) ≤ 6000 then
  bd1 (f_Row_empty N i_p4_used) fun i_p4_used_23 =>
  bd4 (f_Row_put N i_p4_room n_p4_words r_14 16 i_p4_used_23 i_p4_held i_p4_many v_p4_words) fun i_p4_used_25 i_p4_held_26 i_p4_many_27 v_p4_words_28 =>
  bd4 (f_Row_put N i_p4_room n_p4_words r_16 16 i_p4_used_25 i_p4_held_26 i_p4_many_27 v_p4_words_28) fun i_p4_used_30 i_p4_held_31 i_p4_many_32 v_p4_words_33 =>
  bd4 (f_Row_put N i_p4_room n_p4_words r_18 16 i_p4_used_30 i_p4_held_31 i_p4_many_32 v_p4_words_33) fun i_p4_used_35 i_p4_held_36 i_p4_many_37 v_p4_words_38 =>
  bd4 (f_Streams_putStream N v_p1_lengths v_p1_values i_p2_used n_p2_words v_p2_words i_p4_room n_p4_words l2 l5_7 i_p4_used_35 i_p4_held_36 i_p4_many_37 v_p4_words_38) fun i_p4_used_40 i_p4_held_41 i_p4_many_42 v_p4_words_43 =>
  bd4 (f_Streams_putStream N v_p1_lengths v_p1_values i_p2_used n_p2_words v_p2_words i_p4_room n_p4_words l5_7 l6_10 i_p4_used_40 i_p4_held_41 i_p4_many_42 v_p4_words_43) fun i_p4_used_45 i_p4_held_46 i_p4_many_47 v_p4_words_48 =>
  bd4 (f_Streams_putStream N v_p1_lengths v_p1_values i_p2_used n_p2_words v_p2_words i_p4_room n_p4_words l6_10 l7_13 i_p4_used_45 i_p4_held_46 i_p4_many_47 v_p4_words_48) fun i_p4_used_50 i_p4_held_51 i_p4_many_52 v_p4_words_53 =>
  bd4 (f_Streams_putStream N v_p1_lengths v_p1_values i_p2_used n_p2_words v_p2_words i_p4_room n_p4_words l7_13 i_p2_used i_p4_used_50 i_p4_held_51 i_p4_many_52 v_p4_words_53) fun i_p4_used_55 i_p4_held_56 i_p4_many_57 v_p4_words_58 =>
  some (i_p4_used_55, i_p4_used_55, i_p4_held_56, i_p4_many_57, v_p4_words_58)
  else
  some ((-4), i_p4_used, i_p4_held, i_p4_many, v_p4_words)
def f_Streams_encodeOne (N : Nat) (v_p1_lengths : Nat → Int32) (v_p1_values : Nat → Int32) (i_p2_used : Int32) (n_p2_words : Nat) (v_p2_words : Nat → Int64) (i_p4_room : Int32) (n_p4_words : Nat) (l2 : Int32)  (i_p4_used : Int32) (i_p4_held : Int32) (i_p4_many : Int32) (v_p4_words : Nat → Int64) : Option (Int32 × Int32 × Int32 × Int32 × (Nat → Int64)) :=
  bd1 (f_Streams_bytesOf N v_p1_lengths i_p2_used n_p2_words v_p2_words l2 i_p2_used) fun r_1 =>
  if r_1 ≤ 6000 then
  bd1 (f_Row_empty N i_p4_used) fun i_p4_used_4 =>
  bd4 (f_Streams_putStream N v_p1_lengths v_p1_values i_p2_used n_p2_words v_p2_words i_p4_room n_p4_words l2 i_p2_used i_p4_used_4 i_p4_held i_p4_many v_p4_words) fun i_p4_used_6 i_p4_held_7 i_p4_many_8 v_p4_words_9 =>
  some (i_p4_used_6, i_p4_used_6, i_p4_held_7, i_p4_many_8, v_p4_words_9)
  else
  some ((-4), i_p4_used, i_p4_held, i_p4_many, v_p4_words)
def f_PM_encode (N : Nat) (i_place : Int32) (i_in_used : Int32) (n_in_words : Nat) (v_in_words : Nat → Int64) (i_out_room : Int32) (n_out_words : Nat) (i_codes_greatest : Int32) (v_codes_lengths : Nat → Int32) (v_codes_values : Nat → Int32) (l1 : Int32)  (i_out_used : Int32) (i_out_held : Int32) (i_out_many : Int32) (v_out_words : Nat → Int64) : Option (Int32 × Int32 × Int32 × Int32 × (Nat → Int64)) :=
  bd1 (f_Codes_areThere N i_codes_greatest) fun r_1 =>
  if r_1 = 0 then
  some ((-1), i_out_used, i_out_held, i_out_many, v_out_words)
  else
  bd1 (f_Streams_bitsOf N v_codes_lengths i_in_used n_in_words v_in_words i_place i_in_used) fun r_4 =>
  if 0 ≤ r_4 then
  if l1 = 0 then
  bd5 (f_Streams_encodeOne N v_codes_lengths v_codes_values i_in_used n_in_words v_in_words i_out_room n_out_words i_place i_out_used i_out_held i_out_many v_out_words) fun r_8 i_out_used_9 i_out_held_10 i_out_many_11 v_out_words_12 =>
  some (r_8, i_out_used_9, i_out_held_10, i_out_many_11, v_out_words_12)
  else
  bd5 (f_Streams_encodeFour N v_codes_lengths v_codes_values i_in_used n_in_words v_in_words i_out_room n_out_words i_place i_out_used i_out_held i_out_many v_out_words) fun r_14 i_out_used_15 i_out_held_16 i_out_many_17 v_out_words_18 =>
  some (r_14, i_out_used_15, i_out_held_16, i_out_many_17, v_out_words_18)
  else
  some ((-2), i_out_used, i_out_held, i_out_many, v_out_words)
def f_Streams_takeStream_b63 (N : Nat) (i_symbols_room : Int32) (n_symbols_words : Nat) (i_p1_greatest : Int32) (v_p1_lengths : Nat → Int32) (v_p1_cells : Nat → Int32) (i_p2_used : Int32) (n_p2_words : Nat) (v_p2_words : Nat → Int64) (l3 : Int32) (l4 : Int32) (l5 : Int32)  (i_symbols_used : Int32) (v_symbols_words : Nat → Int64) (i_tail_first : Int32) (i_tail_left : Int32) : Option (Int32 × Int32 × (Nat → Int64) × Int32 × Int32) :=
  some ((-4), i_symbols_used, v_symbols_words, i_tail_first, i_tail_left)
def f_Streams_takeStream_b81 (N : Nat) (i_symbols_room : Int32) (n_symbols_words : Nat) (i_p1_greatest : Int32) (v_p1_lengths : Nat → Int32) (v_p1_cells : Nat → Int32) (i_p2_used : Int32) (n_p2_words : Nat) (v_p2_words : Nat → Int64) (l3 : Int32) (l4 : Int32) (l5 : Int32)  (i_symbols_used : Int32) (v_symbols_words : Nat → Int64) (i_tail_first : Int32) (i_tail_left : Int32) : Option (Int32 × Int32 × (Nat → Int64) × Int32 × Int32) :=
  if i_tail_left = 0 then
  some (0, i_symbols_used, v_symbols_words, i_tail_first, i_tail_left)
  else
  some ((-4), i_symbols_used, v_symbols_words, i_tail_first, i_tail_left)
def f_Streams_takeStream_b20 (N : Nat) (i_symbols_room : Int32) (n_symbols_words : Nat) (i_p1_greatest : Int32) (v_p1_lengths : Nat → Int32) (v_p1_cells : Nat → Int32) (i_p2_used : Int32) (n_p2_words : Nat) (v_p2_words : Nat → Int64) (l3 : Int32) (l4 : Int32) (l5 : Int32)  : Nat → Int32 → Int32 → (Nat → Int64) → Int32 → Int32 → Option (Int32 × Int32 × (Nat → Int64) × Int32 × Int32)
  | 0, _, _, _, _, _ => none
  | z + 1, l6, i_symbols_used, v_symbols_words, i_tail_first, i_tail_left =>
  if l5 ≤ l6 then
  f_Streams_takeStream_b81 N i_symbols_room n_symbols_words i_p1_greatest v_p1_lengths v_p1_cells i_p2_used n_p2_words v_p2_words l3 l4 l5  i_symbols_used v_symbols_words i_tail_first i_tail_left
  else
  bd1 (f_Tail_look N i_tail_first i_tail_left i_p2_used n_p2_words v_p2_words i_p1_greatest) fun r_2 =>
  ck (inb r_2 2048) <|
  nm (v_p1_cells (Int32.toNatClampNeg r_2)) fun l7_5 =>
  ck (inb l7_5 256) <|
  bd2 (f_Tail_drop N (v_p1_lengths (Int32.toNatClampNeg l7_5)) i_tail_left) fun r_7 i_tail_left_8 =>
  if r_7 = 0 then
  f_Streams_takeStream_b63 N i_symbols_room n_symbols_words i_p1_greatest v_p1_lengths v_p1_cells i_p2_used n_p2_words v_p2_words l3 l4 l5  i_symbols_used v_symbols_words i_tail_first i_tail_left_8
  else
  bd2 (f_Row_add N i_symbols_room n_symbols_words l7_5 i_symbols_used v_symbols_words) fun i_symbols_used_11 v_symbols_words_12 =>
  nm (l6 + 1) fun l6_14 =>
  f_Streams_takeStream_b20 N i_symbols_room n_symbols_words i_p1_greatest v_p1_lengths v_p1_cells i_p2_used n_p2_words v_p2_words l3 l4 l5  z l6_14 i_symbols_used_11 v_symbols_words_12 i_tail_first i_tail_left_8
def f_Streams_takeStream (N : Nat) (i_symbols_room : Int32) (n_symbols_words : Nat) (i_p1_greatest : Int32) (v_p1_lengths : Nat → Int32) (v_p1_cells : Nat → Int32) (i_p2_used : Int32) (n_p2_words : Nat) (v_p2_words : Nat → Int64) (l3 : Int32) (l4 : Int32) (l5 : Int32)  (i_symbols_used : Int32) (v_symbols_words : Nat → Int64) (i_tail_first : Int32) (i_tail_left : Int32) : Option (Int32 × Int32 × (Nat → Int64) × Int32 × Int32) :=
  bd3 (f_Tail_open N i_p2_used n_p2_words v_p2_words l3 l4 i_tail_first i_tail_left) fun r_1 i_tail_first_2 i_tail_left_3 =>
  if r_1 = 0 then
  some ((-3), i_symbols_used, v_symbols_words, i_tail_first_2, i_tail_left_3)
  else
  f_Streams_takeStream_b20 N i_symbols_room n_symbols_words i_p1_greatest v_p1_lengths v_p1_cells i_p2_used n_p2_words v_p2_words l3 l4 l5  N 0 i_symbols_used v_symbols_words i_tail_first_2 i_tail_left_3
def f_Streams_decodeFour_b173 (N : Nat) (i_symbols_room : Int32) (n_symbols_words : Nat) (i_p1_greatest : Int32) (v_p1_lengths : Nat → Int32) (v_p1_cells : Nat → Int32) (i_p2_used : Int32) (n_p2_words : Nat) (v_p2_words : Nat → Int64) (l3 : Int32) (l4 : Int32)  (l10 : Int32) (i_symbols_used : Int32) (v_symbols_words : Nat → Int64) (i_tail_first : Int32) (i_tail_left : Int32) : Option (Int32 × Int32 × (Nat → Int64) × Int32 × Int32) :=
  some (l10, i_symbols_used, v_symbols_words, i_tail_first, i_tail_left)
def f_Streams_decodeFour_b147 (N : Nat) (i_symbols_room : Int32) (n_symbols_words : Nat) (i_p1_greatest : Int32) (v_p1_lengths : Nat → Int32) (v_p1_cells : Nat → Int32) (i_p2_used : Int32) (n_p2_words : Nat) (v_p2_words : Nat → Int64) (l3 : Int32) (l4 : Int32)  (l8 : Int32) (l9 : Int32) (l10 : Int32) (i_symbols_used : Int32) (v_symbols_words : Nat → Int64) (i_tail_first : Int32) (i_tail_left : Int32) : Option (Int32 × Int32 × (Nat → Int64) × Int32 × Int32) :=
  if l10 = 0 then
  bd5 (f_Streams_takeStream N i_symbols_room n_symbols_words i_p1_greatest v_p1_lengths v_p1_cells i_p2_used n_p2_words v_p2_words l8 i_p2_used (l4 - (3 * l9)) i_symbols_used v_symbols_words i_tail_first i_tail_left) fun r_2 i_symbols_used_3 v_symbols_words_4 i_tail_first_5 i_tail_left_6 =>
  f_Streams_decodeFour_b173 N i_symbols_room n_symbols_words i_p1_greatest v_p1_lengths v_p1_cells i_p2_used n_p2_words v_p2_words l3 l4  r_2 i_symbols_used_3 v_symbols_words_4 i_tail_first_5 i_tail_left_6
  else
  f_Streams_decodeFour_b173 N i_symbols_room n_symbols_words i_p1_greatest v_p1_lengths v_p1_cells i_p2_used n_p2_words v_p2_words l3 l4  l10 i_symbols_used v_symbols_words i_tail_first i_tail_left
def f_Streams_decodeFour_b128 (N : Nat) (i_symbols_room : Int32) (n_symbols_words : Nat) (i_p1_greatest : Int32) (v_p1_lengths : Nat → Int32) (v_p1_cells : Nat → Int32) (i_p2_used : Int32) (n_p2_words : Nat) (v_p2_words : Nat → Int64) (l3 : Int32) (l4 : Int32)  (l7 : Int32) (l8 : Int32) (l9 : Int32) (l10 : Int32) (i_symbols_used : Int32) (v_symbols_words : Nat → Int64) (i_tail_first : Int32) (i_tail_left : Int32) : Option (Int32 × Int32 × (Nat → Int64) × Int32 × Int32) :=
  if l10 = 0 then
  bd5 (f_Streams_takeStream N i_symbols_room n_symbols_words i_p1_greatest v_p1_lengths v_p1_cells i_p2_used n_p2_words v_p2_words l7 l8 l9 i_symbols_used v_symbols_words i_tail_first i_tail_left) fun r_2 i_symbols_used_3 v_symbols_words_4 i_tail_first_5 i_tail_left_6 =>
  f_Streams_decodeFour_b147 N i_symbols_room n_symbols_words i_p1_greatest v_p1_lengths v_p1_cells i_p2_used n_p2_words v_p2_words l3 l4  l8 l9 r_2 i_symbols_used_3 v_symbols_words_4 i_tail_first_5 i_tail_left_6
  else
  f_Streams_decodeFour_b147 N i_symbols_room n_symbols_words i_p1_greatest v_p1_lengths v_p1_cells i_p2_used n_p2_words v_p2_words l3 l4  l8 l9 l10 i_symbols_used v_symbols_words i_tail_first i_tail_left
def f_Streams_decodeFour (N : Nat) (i_symbols_room : Int32) (n_symbols_words : Nat) (i_p1_greatest : Int32) (v_p1_lengths : Nat → Int32) (v_p1_cells : Nat → Int32) (i_p2_used : Int32) (n_p2_words : Nat) (v_p2_words : Nat → Int64) (l3 : Int32) (l4 : Int32)  (i_symbols_used : Int32) (v_symbols_words : Nat → Int64) (i_tail_first : Int32) (i_tail_left : Int32) : Option (Int32 × Int32 × (Nat → Int64) × Int32 × Int32) :=
  nm (l3 + 6) fun l5_1 =>
  if l5_1 ≤ i_p2_used then
  bd1 (f_Row_bits N i_p2_used n_p2_words v_p2_words (8 * l3) 16) fun r_3 =>
  nm (l5_1 + r_3) fun l6_5 =>
  bd1 (f_Row_bits N i_p2_used n_p2_words v_p2_words ((8 * l3) + 16) 16) fun r_6 =>
  nm (l6_5 + r_6) fun l7_8 =>
  bd1 (f_Row_bits N i_p2_used n_p2_words v_p2_words ((8 * l3) + 32) 16) fun r_9 =>
  nm (l7_8 + r_9) fun l8_11 =>
  if l8_11 ≤ i_p2_used then
  bd1 (f_Streams_quarter N l4) fun r_13 =>
  bd1 (f_Row_empty N i_symbols_used) fun i_symbols_used_15 =>
  bd5 (f_Streams_takeStream N i_symbols_room n_symbols_words i_p1_greatest v_p1_lengths v_p1_cells i_p2_used n_p2_words v_p2_words l5_1 l6_5 r_13 i_symbols_used_15 v_symbols_words i_tail_first i_tail_left) fun r_17 i_symbols_used_18 v_symbols_words_19 i_tail_first_20 i_tail_left_21 =>
  if r_17 = 0 then
  bd5 (f_Streams_takeStream N i_symbols_room n_symbols_words i_p1_greatest v_p1_lengths v_p1_cells i_p2_used n_p2_words v_p2_words l6_5 l7_8 r_13 i_symbols_used_18 v_symbols_words_19 i_tail_first_20 i_tail_left_21) fun r_24 i_symbols_used_25 v_symbols_words_26 i_tail_first_27 i_tail_left_28 =>
  f_Streams_decodeFour_b128 N i_symbols_room n_symbols_words i_p1_greatest v_p1_lengths v_p1_cells i_p2_used n_p2_words v_p2_words l3 l4  l7_8 l8_11 r_13 r_24 i_symbols_used_25 v_symbols_words_26 i_tail_first_27 i_tail_left_28
  else
  f_Streams_decodeFour_b128 N i_symbols_room n_symbols_words i_p1_greatest v_p1_lengths v_p1_cells i_p2_used n_p2_words v_p2_words l3 l4  l7_8 l8_11 r_13 r_17 i_symbols_used_18 v_symbols_words_19 i_tail_first_20 i_tail_left_21
  else
  some ((-2), i_symbols_used, v_symbols_words, i_tail_first, i_tail_left)
  else
  some ((-2), i_symbols_used, v_symbols_words, i_tail_first, i_tail_left)
def f_Streams_decodeOne (N : Nat) (i_symbols_room : Int32) (n_symbols_words : Nat) (i_p1_greatest : Int32) (v_p1_lengths : Nat → Int32) (v_p1_cells : Nat → Int32) (i_p2_used : Int32) (n_p2_words : Nat) (v_p2_words : Nat → Int64) (l3 : Int32) (l4 : Int32)  (i_symbols_used : Int32) (v_symbols_words : Nat → Int64) (i_tail_first : Int32) (i_tail_left : Int32) : Option (Int32 × Int32 × (Nat → Int64) × Int32 × Int32) :=
  bd1 (f_Row_empty N i_symbols_used) fun i_symbols_used_1 =>
  bd5 (f_Streams_takeStream N i_symbols_room n_symbols_words i_p1_greatest v_p1_lengths v_p1_cells i_p2_used n_p2_words v_p2_words l3 i_p2_used l4 i_symbols_used_1 v_symbols_words i_tail_first i_tail_left) fun r_3 i_symbols_used_4 v_symbols_words_5 i_tail_first_6 i_tail_left_7 =>
  some (r_3, i_symbols_used_4, v_symbols_words_5, i_tail_first_6, i_tail_left_7)
def f_PM_decode_b32 (N : Nat) (i_place : Int32) (i_in_used : Int32) (n_in_words : Nat) (v_in_words : Nat → Int64) (i_out_room : Int32) (n_out_words : Nat) (i_codes_greatest : Int32) (v_codes_lengths : Nat → Int32) (v_codes_cells : Nat → Int32) (i_streams_symbols_room : Int32) (n_streams_symbols_words : Nat) (l1 : Int32) (l2 : Int32)  (i_out_used : Int32) (v_out_words : Nat → Int64) (i_streams_symbols_used : Int32) (v_streams_symbols_words : Nat → Int64) (i_streams_tail_first : Int32) (i_streams_tail_left : Int32) : Option (Int32 × Int32 × (Nat → Int64) × Int32 × (Nat → Int64) × Int32 × Int32) :=
  some ((-1), i_out_used, v_out_words, i_streams_symbols_used, v_streams_symbols_words, i_streams_tail_first, i_streams_tail_left)
def f_PM_decode_b81 (N : Nat) (i_place : Int32) (i_in_used : Int32) (n_in_words : Nat) (v_in_words : Nat → Int64) (i_out_room : Int32) (n_out_words : Nat) (i_codes_greatest : Int32) (v_codes_lengths : Nat → Int32) (v_codes_cells : Nat → Int32) (i_streams_symbols_room : Int32) (n_streams_symbols_words : Nat) (l1 : Int32) (l2 : Int32)  (s0 : Int32) (i_out_used : Int32) (v_out_words : Nat → Int64) (i_streams_symbols_used : Int32) (v_streams_symbols_words : Nat → Int64) (i_streams_tail_first : Int32) (i_streams_tail_left : Int32) : Option (Int32 × Int32 × (Nat → Int64) × Int32 × (Nat → Int64) × Int32 × Int32) :=
  if s0 = 0 then
  bd2 (f_Row_copy N i_out_room n_out_words i_streams_symbols_used n_streams_symbols_words v_streams_symbols_words i_out_used v_out_words) fun i_out_used_2 v_out_words_3 =>
  some (l1, i_out_used_2, v_out_words_3, i_streams_symbols_used, v_streams_symbols_words, i_streams_tail_first, i_streams_tail_left)
  else
  some (s0, i_out_used, v_out_words, i_streams_symbols_used, v_streams_symbols_words, i_streams_tail_first, i_streams_tail_left)
def f_PM_decode_b34 (N : Nat) (i_place : Int32) (i_in_used : Int32) (n_in_words : Nat) (v_in_words : Nat → Int64) (i_out_room : Int32) (n_out_words : Nat) (i_codes_greatest : Int32) (v_codes_lengths : Nat → Int32) (v_codes_cells : Nat → Int32) (i_streams_symbols_room : Int32) (n_streams_symbols_words : Nat) (l1 : Int32) (l2 : Int32)  (i_out_used : Int32) (v_out_words : Nat → Int64) (i_streams_symbols_used : Int32) (v_streams_symbols_words : Nat → Int64) (i_streams_tail_first : Int32) (i_streams_tail_left : Int32) : Option (Int32 × Int32 × (Nat → Int64) × Int32 × (Nat → Int64) × Int32 × Int32) :=
  if l2 = 0 then
  bd5 (f_Streams_decodeOne N i_streams_symbols_room n_streams_symbols_words i_codes_greatest v_codes_lengths v_codes_cells i_in_used n_in_words v_in_words i_place l1 i_streams_symbols_used v_streams_symbols_words i_streams_tail_first i_streams_tail_left) fun r_2 i_streams_symbols_used_3 v_streams_symbols_words_4 i_streams_tail_first_5 i_streams_tail_left_6 =>
  f_PM_decode_b81 N i_place i_in_used n_in_words v_in_words i_out_room n_out_words i_codes_greatest v_codes_lengths v_codes_cells i_streams_symbols_room n_streams_symbols_words l1 l2  r_2 i_out_used v_out_words i_streams_symbols_used_3 v_streams_symbols_words_4 i_streams_tail_first_5 i_streams_tail_left_6
  else
  bd5 (f_Streams_decodeFour N i_streams_symbols_room n_streams_symbols_words i_codes_greatest v_codes_lengths v_codes_cells i_in_used n_in_words v_in_words i_place l1 i_streams_symbols_used v_streams_symbols_words i_streams_tail_first i_streams_tail_left) fun r_8 i_streams_symbols_used_9 v_streams_symbols_words_10 i_streams_tail_first_11 i_streams_tail_left_12 =>
  f_PM_decode_b81 N i_place i_in_used n_in_words v_in_words i_out_room n_out_words i_codes_greatest v_codes_lengths v_codes_cells i_streams_symbols_room n_streams_symbols_words l1 l2  r_8 i_out_used v_out_words i_streams_symbols_used_9 v_streams_symbols_words_10 i_streams_tail_first_11 i_streams_tail_left_12
def f_PM_decode (N : Nat) (i_place : Int32) (i_in_used : Int32) (n_in_words : Nat) (v_in_words : Nat → Int64) (i_out_room : Int32) (n_out_words : Nat) (i_codes_greatest : Int32) (v_codes_lengths : Nat → Int32) (v_codes_cells : Nat → Int32) (i_streams_symbols_room : Int32) (n_streams_symbols_words : Nat) (l1 : Int32) (l2 : Int32)  (i_out_used : Int32) (v_out_words : Nat → Int64) (i_streams_symbols_used : Int32) (v_streams_symbols_words : Nat → Int64) (i_streams_tail_first : Int32) (i_streams_tail_left : Int32) : Option (Int32 × Int32 × (Nat → Int64) × Int32 × (Nat → Int64) × Int32 × Int32) :=
  bd1 (f_Codes_areThere N i_codes_greatest) fun r_1 =>
  if r_1 = 0 then
  f_PM_decode_b32 N i_place i_in_used n_in_words v_in_words i_out_room n_out_words i_codes_greatest v_codes_lengths v_codes_cells i_streams_symbols_room n_streams_symbols_words l1 l2  i_out_used v_out_words i_streams_symbols_used v_streams_symbols_words i_streams_tail_first i_streams_tail_left
  else
  if l1 < 0 then
  f_PM_decode_b32 N i_place i_in_used n_in_words v_in_words i_out_room n_out_words i_codes_greatest v_codes_lengths v_codes_cells i_streams_symbols_room n_streams_symbols_words l1 l2  i_out_used v_out_words i_streams_symbols_used v_streams_symbols_words i_streams_tail_first i_streams_tail_left
  else
  if 6000 < l1 then
  f_PM_decode_b32 N i_place i_in_used n_in_words v_in_words i_out_room n_out_words i_codes_greatest v_codes_lengths v_codes_cells i_streams_symbols_room n_streams_symbols_words l1 l2  i_out_used v_out_words i_streams_symbols_used v_streams_symbols_words i_streams_tail_first i_streams_tail_left
  else
  if l2 = 0 then
  f_PM_decode_b34 N i_place i_in_used n_in_words v_in_words i_out_room n_out_words i_codes_greatest v_codes_lengths v_codes_cells i_streams_symbols_room n_streams_symbols_words l1 l2  i_out_used v_out_words i_streams_symbols_used v_streams_symbols_words i_streams_tail_first i_streams_tail_left
  else
  bd1 (f_Streams_areFour N l1) fun r_7 =>
  if r_7 = 0 then
  f_PM_decode_b32 N i_place i_in_used n_in_words v_in_words i_out_room n_out_words i_codes_greatest v_codes_lengths v_codes_cells i_streams_symbols_room n_streams_symbols_words l1 l2  i_out_used v_out_words i_streams_symbols_used v_streams_symbols_words i_streams_tail_first i_streams_tail_left
  else
  f_PM_decode_b34 N i_place i_in_used n_in_words v_in_words i_out_room n_out_words i_codes_greatest v_codes_lengths v_codes_cells i_streams_symbols_room n_streams_symbols_words l1 l2  i_out_used v_out_words i_streams_symbols_used v_streams_symbols_words i_streams_tail_first i_streams_tail_left
def f_PM_about (N : Nat) (i_place : Int32) (i_in_used : Int32) (n_in_words : Nat) (v_in_words : Nat → Int64) (i_codes_greatest : Int32) (i_codes_known : Int32) (v_codes_lengths : Nat → Int32) (l1 : Int32)   : Option (Int32) :=
  bd1 (f_Codes_areThere N i_codes_greatest) fun r_1 =>
  if r_1 = 0 then
  some ((-1))
  else
  if l1 = 0 then
  some (i_codes_greatest)
  else
  if l1 = 1 then
  some (i_codes_known)
  else
  if l1 = 2 then
  bd1 (f_Streams_bitsOf N v_codes_lengths i_in_used n_in_words v_in_words i_place i_in_used) fun r_7 =>
  some (r_7)
  else
  some ((-1))
def f_PM_code_b29 (N : Nat) (i_codes_greatest : Int32) (v_codes_lengths : Nat → Int32) (v_codes_values : Nat → Int32) (l1 : Int32) (l2 : Int32)   : Option (Int32) :=
  some ((-1))
def f_PM_code (N : Nat) (i_codes_greatest : Int32) (v_codes_lengths : Nat → Int32) (v_codes_values : Nat → Int32) (l1 : Int32) (l2 : Int32)   : Option (Int32) :=
  bd1 (f_Codes_areThere N i_codes_greatest) fun r_1 =>
  if r_1 = 0 then
  f_PM_code_b29 N i_codes_greatest v_codes_lengths v_codes_values l1 l2  
  else
  bd1 (f_PM_isSymbol N l1) fun r_4 =>
  if r_4 = 0 then
  f_PM_code_b29 N i_codes_greatest v_codes_lengths v_codes_values l1 l2  
  else
  ck (inb l1 256) <|
  if (v_codes_lengths (Int32.toNatClampNeg l1)) = 0 then
  f_PM_code_b29 N i_codes_greatest v_codes_lengths v_codes_values l1 l2  
  else
  if l2 = 0 then
  ck (inb l1 256) <|
  some ((v_codes_lengths (Int32.toNatClampNeg l1)))
  else
  if l2 = 1 then
  ck (inb l1 256) <|
  some ((v_codes_values (Int32.toNatClampNeg l1)))
  else
  some ((-1))
def f_PM_size (N : Nat) (i_out_used : Int32)   : Option (Int32) :=
  some (i_out_used)
def f_PM_byteAt (N : Nat) (i_out_used : Int32) (n_out_words : Nat) (v_out_words : Nat → Int64) (l1 : Int32)   : Option (Int32) :=
  bd1 (f_Row_get N i_out_used n_out_words v_out_words l1) fun r_1 =>
  some (r_1)
