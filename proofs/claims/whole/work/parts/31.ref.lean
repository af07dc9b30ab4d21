abbrev b_MM_takeStream : ByteArray := prog_12_method_28_code
def ws_MM_takeStream : List Cond := .code ({ cls := "PrefixMillModel", name := "takeStream", desc := "(IIII)I" } : Jvm.MethodName) b_MM_takeStream 10 (some .int) :: tt
theorem d_MM_takeStream_0 : decode b_MM_takeStream 0 = .ok (.iload_n 1, 1) := by decide +kernel
theorem d_MM_takeStream_1 : decode b_MM_takeStream 1 = .ok (.iload_n 2, 1) := by decide +kernel
theorem d_MM_takeStream_2 : decode b_MM_takeStream 2 = .ok (.if_icmp .ge 14, 3) := by decide +kernel
theorem d_MM_takeStream_5 : decode b_MM_takeStream 5 = .ok (.aload_n 0, 1) := by decide +kernel
theorem d_MM_takeStream_6 : decode b_MM_takeStream 6 = .ok (.getfield 7, 3) := by decide +kernel
theorem d_MM_takeStream_9 : decode b_MM_takeStream 9 = .ok (.iload_n 2, 1) := by decide +kernel
theorem d_MM_takeStream_10 : decode b_MM_takeStream 10 = .ok (.iconst 1, 1) := by decide +kernel
theorem d_MM_takeStream_11 : decode b_MM_takeStream 11 = .ok (.isub, 1) := by decide +kernel
theorem d_MM_takeStream_12 : decode b_MM_takeStream 12 = .ok (.iaload, 1) := by decide +kernel
theorem d_MM_takeStream_13 : decode b_MM_takeStream 13 = .ok (.ifCond .ne 6, 3) := by decide +kernel
theorem d_MM_takeStream_16 : decode b_MM_takeStream 16 = .ok (.bipush (-3), 2) := by decide +kernel
theorem d_MM_takeStream_18 : decode b_MM_takeStream 18 = .ok (.ireturn, 1) := by decide +kernel
theorem d_MM_takeStream_19 : decode b_MM_takeStream 19 = .ok (.bipush 8, 2) := by decide +kernel
theorem d_MM_takeStream_21 : decode b_MM_takeStream 21 = .ok (.iload_n 2, 1) := by decide +kernel
theorem d_MM_takeStream_22 : decode b_MM_takeStream 22 = .ok (.imul, 1) := by decide +kernel
theorem d_MM_takeStream_23 : decode b_MM_takeStream 23 = .ok (.iconst 1, 1) := by decide +kernel
theorem d_MM_takeStream_24 : decode b_MM_takeStream 24 = .ok (.isub, 1) := by decide +kernel
theorem d_MM_takeStream_25 : decode b_MM_takeStream 25 = .ok (.istore 5, 2) := by decide +kernel
theorem d_MM_takeStream_27 : decode b_MM_takeStream 27 = .ok (.aload_n 0, 1) := by decide +kernel
theorem d_MM_takeStream_28 : decode b_MM_takeStream 28 = .ok (.iload 5, 2) := by decide +kernel
theorem d_MM_takeStream_30 : decode b_MM_takeStream 30 = .ok (.invokevirtual 118, 3) := by decide +kernel
theorem d_MM_takeStream_33 : decode b_MM_takeStream 33 = .ok (.ifCond .ne 9, 3) := by decide +kernel
theorem d_MM_takeStream_36 : decode b_MM_takeStream 36 = .ok (.iinc 5 (-1), 3) := by decide +kernel
theorem d_MM_takeStream_39 : decode b_MM_takeStream 39 = .ok (.goto (-12), 3) := by decide +kernel
theorem d_MM_takeStream_42 : decode b_MM_takeStream 42 = .ok (.iload 5, 2) := by decide +kernel
theorem d_MM_takeStream_44 : decode b_MM_takeStream 44 = .ok (.bipush 8, 2) := by decide +kernel
theorem d_MM_takeStream_46 : decode b_MM_takeStream 46 = .ok (.iload_n 1, 1) := by decide +kernel
theorem d_MM_takeStream_47 : decode b_MM_takeStream 47 = .ok (.imul, 1) := by decide +kernel
theorem d_MM_takeStream_48 : decode b_MM_takeStream 48 = .ok (.isub, 1) := by decide +kernel
theorem d_MM_takeStream_49 : decode b_MM_takeStream 49 = .ok (.istore 6, 2) := by decide +kernel
theorem d_MM_takeStream_51 : decode b_MM_takeStream 51 = .ok (.iconst 0, 1) := by decide +kernel
theorem d_MM_takeStream_52 : decode b_MM_takeStream 52 = .ok (.istore 7, 2) := by decide +kernel
theorem d_MM_takeStream_54 : decode b_MM_takeStream 54 = .ok (.iload 7, 2) := by decide +kernel
theorem d_MM_takeStream_56 : decode b_MM_takeStream 56 = .ok (.iload_n 3, 1) := by decide +kernel
theorem d_MM_takeStream_57 : decode b_MM_takeStream 57 = .ok (.if_icmp .ge 103, 3) := by decide +kernel
theorem d_MM_takeStream_60 : decode b_MM_takeStream 60 = .ok (.iconst 0, 1) := by decide +kernel
theorem d_MM_takeStream_61 : decode b_MM_takeStream 61 = .ok (.istore 8, 2) := by decide +kernel
theorem d_MM_takeStream_63 : decode b_MM_takeStream 63 = .ok (.iconst 1, 1) := by decide +kernel
theorem d_MM_takeStream_64 : decode b_MM_takeStream 64 = .ok (.istore 9, 2) := by decide +kernel
theorem d_MM_takeStream_66 : decode b_MM_takeStream 66 = .ok (.iload 9, 2) := by decide +kernel
theorem d_MM_takeStream_68 : decode b_MM_takeStream 68 = .ok (.aload_n 0, 1) := by decide +kernel
theorem d_MM_takeStream_69 : decode b_MM_takeStream 69 = .ok (.getfield 69, 3) := by decide +kernel
theorem d_MM_takeStream_72 : decode b_MM_takeStream 72 = .ok (.if_icmp .gt 41, 3) := by decide +kernel
theorem d_MM_takeStream_75 : decode b_MM_takeStream 75 = .ok (.iconst 2, 1) := by decide +kernel
theorem d_MM_takeStream_76 : decode b_MM_takeStream 76 = .ok (.iload 8, 2) := by decide +kernel
theorem d_MM_takeStream_78 : decode b_MM_takeStream 78 = .ok (.imul, 1) := by decide +kernel
theorem d_MM_takeStream_79 : decode b_MM_takeStream 79 = .ok (.iload 6, 2) := by decide +kernel
theorem d_MM_takeStream_81 : decode b_MM_takeStream 81 = .ok (.iload 9, 2) := by decide +kernel
theorem d_MM_takeStream_83 : decode b_MM_takeStream 83 = .ok (.if_icmp .lt 20, 3) := by decide +kernel
theorem d_MM_takeStream_86 : decode b_MM_takeStream 86 = .ok (.aload_n 0, 1) := by decide +kernel
theorem d_MM_takeStream_87 : decode b_MM_takeStream 87 = .ok (.bipush 8, 2) := by decide +kernel
theorem d_MM_takeStream_89 : decode b_MM_takeStream 89 = .ok (.iload_n 1, 1) := by decide +kernel
theorem d_MM_takeStream_90 : decode b_MM_takeStream 90 = .ok (.imul, 1) := by decide +kernel
theorem d_MM_takeStream_91 : decode b_MM_takeStream 91 = .ok (.iload 6, 2) := by decide +kernel
theorem d_MM_takeStream_93 : decode b_MM_takeStream 93 = .ok (.iadd, 1) := by decide +kernel
theorem d_MM_takeStream_94 : decode b_MM_takeStream 94 = .ok (.iload 9, 2) := by decide +kernel
theorem d_MM_takeStream_96 : decode b_MM_takeStream 96 = .ok (.isub, 1) := by decide +kernel
theorem d_MM_takeStream_97 : decode b_MM_takeStream 97 = .ok (.invokevirtual 118, 3) := by decide +kernel
theorem d_MM_takeStream_100 : decode b_MM_takeStream 100 = .ok (.goto 4, 3) := by decide +kernel
theorem d_MM_takeStream_103 : decode b_MM_takeStream 103 = .ok (.iconst 0, 1) := by decide +kernel
theorem d_MM_takeStream_104 : decode b_MM_takeStream 104 = .ok (.iadd, 1) := by decide +kernel
theorem d_MM_takeStream_105 : decode b_MM_takeStream 105 = .ok (.istore 8, 2) := by decide +kernel
theorem d_MM_takeStream_107 : decode b_MM_takeStream 107 = .ok (.iinc 9 1, 3) := by decide +kernel
theorem d_MM_takeStream_110 : decode b_MM_takeStream 110 = .ok (.goto (-44), 3) := by decide +kernel
theorem d_MM_takeStream_113 : decode b_MM_takeStream 113 = .ok (.aload_n 0, 1) := by decide +kernel
theorem d_MM_takeStream_114 : decode b_MM_takeStream 114 = .ok (.getfield 22, 3) := by decide +kernel
theorem d_MM_takeStream_117 : decode b_MM_takeStream 117 = .ok (.iload 8, 2) := by decide +kernel
theorem d_MM_takeStream_119 : decode b_MM_takeStream 119 = .ok (.iaload, 1) := by decide +kernel
theorem d_MM_takeStream_120 : decode b_MM_takeStream 120 = .ok (.istore 9, 2) := by decide +kernel
theorem d_MM_takeStream_122 : decode b_MM_takeStream 122 = .ok (.aload_n 0, 1) := by decide +kernel
theorem d_MM_takeStream_123 : decode b_MM_takeStream 123 = .ok (.getfield 37, 3) := by decide +kernel
theorem d_MM_takeStream_126 : decode b_MM_takeStream 126 = .ok (.iload 4, 2) := by decide +kernel
theorem d_MM_takeStream_128 : decode b_MM_takeStream 128 = .ok (.iload 7, 2) := by decide +kernel
theorem d_MM_takeStream_130 : decode b_MM_takeStream 130 = .ok (.iadd, 1) := by decide +kernel
theorem d_MM_takeStream_131 : decode b_MM_takeStream 131 = .ok (.iload 9, 2) := by decide +kernel
theorem d_MM_takeStream_133 : decode b_MM_takeStream 133 = .ok (.iastore, 1) := by decide +kernel
theorem d_MM_takeStream_134 : decode b_MM_takeStream 134 = .ok (.iload 6, 2) := by decide +kernel
theorem d_MM_takeStream_136 : decode b_MM_takeStream 136 = .ok (.aload_n 0, 1) := by decide +kernel
theorem d_MM_takeStream_137 : decode b_MM_takeStream 137 = .ok (.getfield 19, 3) := by decide +kernel
theorem d_MM_takeStream_140 : decode b_MM_takeStream 140 = .ok (.iload 9, 2) := by decide +kernel
theorem d_MM_takeStream_142 : decode b_MM_takeStream 142 = .ok (.iaload, 1) := by decide +kernel
theorem d_MM_takeStream_143 : decode b_MM_takeStream 143 = .ok (.isub, 1) := by decide +kernel
theorem d_MM_takeStream_144 : decode b_MM_takeStream 144 = .ok (.istore 6, 2) := by decide +kernel
theorem d_MM_takeStream_146 : decode b_MM_takeStream 146 = .ok (.iload 6, 2) := by decide +kernel
theorem d_MM_takeStream_148 : decode b_MM_takeStream 148 = .ok (.ifCond .ge 6, 3) := by decide +kernel
theorem d_MM_takeStream_151 : decode b_MM_takeStream 151 = .ok (.bipush (-4), 2) := by decide +kernel
theorem d_MM_takeStream_153 : decode b_MM_takeStream 153 = .ok (.ireturn, 1) := by decide +kernel
theorem d_MM_takeStream_154 : decode b_MM_takeStream 154 = .ok (.iinc 7 1, 3) := by decide +kernel
theorem d_MM_takeStream_157 : decode b_MM_takeStream 157 = .ok (.goto (-103), 3) := by decide +kernel
theorem d_MM_takeStream_160 : decode b_MM_takeStream 160 = .ok (.iload 6, 2) := by decide +kernel
theorem d_MM_takeStream_162 : decode b_MM_takeStream 162 = .ok (.ifCond .ne 7, 3) := by decide +kernel
theorem d_MM_takeStream_165 : decode b_MM_takeStream 165 = .ok (.iconst 0, 1) := by decide +kernel
theorem d_MM_takeStream_166 : decode b_MM_takeStream 166 = .ok (.goto 5, 3) := by decide +kernel
theorem d_MM_takeStream_169 : decode b_MM_takeStream 169 = .ok (.bipush (-4), 2) := by decide +kernel
theorem d_MM_takeStream_171 : decode b_MM_takeStream 171 = .ok (.ireturn, 1) := by decide +kernel
def f_MM_takeStream_b16 (N : Nat) (i_greatest : Int32) (v_in : Nat → Int32) (v_length : Nat → Int32) (v_symbolOf : Nat → Int32) (l1 : Int32) (l2 : Int32) (l3 : Int32) (l4 : Int32)  (v_made : Nat → Int32) : Option (Int32 × (Nat → Int32)) :=
  some ((-3), v_made)
def f_MM_takeStream_b104 (N : Nat) (i_greatest : Int32) (v_in : Nat → Int32) (v_length : Nat → Int32) (v_symbolOf : Nat → Int32) (l1 : Int32) (l2 : Int32) (l3 : Int32) (l4 : Int32) (k54 : Int32 → Int32 → (Nat → Int32) → Option (Int32 × (Nat → Int32))) (k66 : Int32 → Int32 → Int32 → Int32 → (Nat → Int32) → Option (Int32 × (Nat → Int32))) (l6 : Int32) (l7 : Int32) (l9 : Int32) (s0 : Int32) (s1 : Int32) (v_made : Nat → Int32) : Option (Int32 × (Nat → Int32)) :=
  nm (s1 + s0) fun l8_1 =>
  nm (l9 + 1) fun l9_2 =>
  k66 l6 l7 l8_1 l9_2 v_made
def f_MM_takeStream_b151 (N : Nat) (i_greatest : Int32) (v_in : Nat → Int32) (v_length : Nat → Int32) (v_symbolOf : Nat → Int32) (l1 : Int32) (l2 : Int32) (l3 : Int32) (l4 : Int32)  (v_made : Nat → Int32) : Option (Int32 × (Nat → Int32)) :=
  some ((-4), v_made)
def f_MM_takeStream_b113 (N : Nat) (i_greatest : Int32) (v_in : Nat → Int32) (v_length : Nat → Int32) (v_symbolOf : Nat → Int32) (l1 : Int32) (l2 : Int32) (l3 : Int32) (l4 : Int32) (k54 : Int32 → Int32 → (Nat → Int32) → Option (Int32 × (Nat → Int32))) (l6 : Int32) (l7 : Int32) (l8 : Int32) (v_made : Nat → Int32) : Option (Int32 × (Nat → Int32)) :=
  ck (inb l8 2048) <|
  nm (v_symbolOf (Int32.toNatClampNeg l8)) fun l9_2 =>
  ck (inb (l4 + l7) 6000) <|
  nm (upd v_made (Int32.toNatClampNeg (l4 + l7)) l9_2) fun v_made_4 =>
  ck (inb l9_2 256) <|
  nm (l6 - (v_length (Int32.toNatClampNeg l9_2))) fun l6_6 =>
  if 0 ≤ l6_6 then
  nm (l7 + 1) fun l7_8 =>
  k54 l6_6 l7_8 v_made_4
  else
  f_MM_takeStream_b151 N i_greatest v_in v_length v_symbolOf l1 l2 l3 l4  v_made_4
def f_MM_takeStream_b66 (N : Nat) (i_greatest : Int32) (v_in : Nat → Int32) (v_length : Nat → Int32) (v_symbolOf : Nat → Int32) (l1 : Int32) (l2 : Int32) (l3 : Int32) (l4 : Int32) (k54 : Int32 → Int32 → (Nat → Int32) → Option (Int32 × (Nat → Int32))) : Nat → Int32 → Int32 → Int32 → Int32 → (Nat → Int32) → Option (Int32 × (Nat → Int32))
  | 0, _, _, _, _, _ => none
  | z + 1, l6, l7, l8, l9, v_made =>
  if i_greatest < l9 then
  f_MM_takeStream_b113 N i_greatest v_in v_length v_symbolOf l1 l2 l3 l4 k54 l6 l7 l8 v_made
  else
  if l6 < l9 then
  f_MM_takeStream_b104 N i_greatest v_in v_length v_symbolOf l1 l2 l3 l4 k54 (f_MM_takeStream_b66 N i_greatest v_in v_length v_symbolOf l1 l2 l3 l4 k54 z) l6 l7 l9 0 (2 * l8) v_made
  else
  bd1 (f_MM_bitAt N v_in (((8 * l1) + l6) - l9)) fun r_3 =>
  f_MM_takeStream_b104 N i_greatest v_in v_length v_symbolOf l1 l2 l3 l4 k54 (f_MM_takeStream_b66 N i_greatest v_in v_length v_symbolOf l1 l2 l3 l4 k54 z) l6 l7 l9 r_3 (2 * l8) v_made
def f_MM_takeStream_b160 (N : Nat) (i_greatest : Int32) (v_in : Nat → Int32) (v_length : Nat → Int32) (v_symbolOf : Nat → Int32) (l1 : Int32) (l2 : Int32) (l3 : Int32) (l4 : Int32)  (l6 : Int32) (v_made : Nat → Int32) : Option (Int32 × (Nat → Int32)) :=
  if l6 = 0 then
  some (0, v_made)
  else
  some ((-4), v_made)
def f_MM_takeStream_b54 (N : Nat) (i_greatest : Int32) (v_in : Nat → Int32) (v_length : Nat → Int32) (v_symbolOf : Nat → Int32) (l1 : Int32) (l2 : Int32) (l3 : Int32) (l4 : Int32)  : Nat → Int32 → Int32 → (Nat → Int32) → Option (Int32 × (Nat → Int32))
  | 0, _, _, _ => none
  | z + 1, l6, l7, v_made =>
  if l3 ≤ l7 then
  f_MM_takeStream_b160 N i_greatest v_in v_length v_symbolOf l1 l2 l3 l4  l6 v_made
  else
  f_MM_takeStream_b66 N i_greatest v_in v_length v_symbolOf l1 l2 l3 l4 (f_MM_takeStream_b54 N i_greatest v_in v_length v_symbolOf l1 l2 l3 l4  z) N l6 l7 0 1 v_made
def f_MM_takeStream_b42 (N : Nat) (i_greatest : Int32) (v_in : Nat → Int32) (v_length : Nat → Int32) (v_symbolOf : Nat → Int32) (l1 : Int32) (l2 : Int32) (l3 : Int32) (l4 : Int32)  (l5 : Int32) (v_made : Nat → Int32) : Option (Int32 × (Nat → Int32)) :=
  nm (l5 - (8 * l1)) fun l6_1 =>
  f_MM_takeStream_b54 N i_greatest v_in v_length v_symbolOf l1 l2 l3 l4  N l6_1 0 v_made
def f_MM_takeStream_b27 (N : Nat) (i_greatest : Int32) (v_in : Nat → Int32) (v_length : Nat → Int32) (v_symbolOf : Nat → Int32) (l1 : Int32) (l2 : Int32) (l3 : Int32) (l4 : Int32)  : Nat → Int32 → (Nat → Int32) → Option (Int32 × (Nat → Int32))
  | 0, _, _ => none
  | z + 1, l5, v_made =>
  bd1 (f_MM_bitAt N v_in l5) fun r_1 =>
  if r_1 = 0 then
  nm (l5 + (-1)) fun l5_4 =>
  f_MM_takeStream_b27 N i_greatest v_in v_length v_symbolOf l1 l2 l3 l4  z l5_4 v_made
  else
  f_MM_takeStream_b42 N i_greatest v_in v_length v_symbolOf l1 l2 l3 l4  l5 v_made
def f_MM_takeStream (N : Nat) (i_greatest : Int32) (v_in : Nat → Int32) (v_length : Nat → Int32) (v_symbolOf : Nat → Int32) (l1 : Int32) (l2 : Int32) (l3 : Int32) (l4 : Int32)  (v_made : Nat → Int32) : Option (Int32 × (Nat → Int32)) :=
  if l2 ≤ l1 then
  f_MM_takeStream_b16 N i_greatest v_in v_length v_symbolOf l1 l2 l3 l4  v_made
  else
  ck (inb (l2 - 1) 6000) <|
  if (v_in (Int32.toNatClampNeg (l2 - 1))) = 0 then
  f_MM_takeStream_b16 N i_greatest v_in v_length v_symbolOf l1 l2 l3 l4  v_made
  else
  nm ((8 * l2) - 1) fun l5_4 =>
  f_MM_takeStream_b27 N i_greatest v_in v_length v_symbolOf l1 l2 l3 l4  N l5_4 v_made
abbrev R_MM_takeStream : Room := ({ frames := 1, cells := 0, slots := 0, locals := 21 } : Room)
def E_MM_takeStream (p : Program) (l : Launch) (e : Env) (s : State) (m : MethodId) (args : Array Value) (below : List Frame) (meth : Method) (c : Code) (Q : State → Prop) (A : Nat → Prop) (D : va_G) (cI cL cZ : ClassId) (a_this : Nat) (a_in : Nat) (a_length : Nat) (a_symbolOf : Nat) (a_made : Nat) (o_out : Nat) (o_counts : Nat) (o_draft : Nat) (o_knot : Nat) (o_inSum : Nat) (o_halved : Nat) (o_weight : Nat) (o_points : Nat) (o_cutOff : Nat) (o_had : Nat) (o_placeOf : Nat) (i_inLong : Int32) (i_goesOn : Int32) (i_outLong : Int32) (i_greatest : Int32) (i_knots : Int32) (i_bitsMade : Int32) (i_weights : Int32) (i_order : Int32) (i_bit : Int32) (i_bitEnd : Int32) (v_in : Nat → Int32) (v_length : Nat → Int32) (v_symbolOf : Nat → Int32) (l1 : Int32) (l2 : Int32) (l3 : Int32) (l4 : Int32) (res : Int32 × (Nat → Int32)) : Prop := ∀ (pc : Nat) (H : Heap) (locs : List Loc) (ls : Array Slot) (rv : Int32) (v_made : Nat → Int32), some (rv, v_made) = some res → decode b_MM_takeStream pc = .ok (.ireturn, 1) → va_P D classes [(a_this, .inr (1, [.ref a_in, .int i_inLong, .int i_goesOn, .ref o_out, .int i_outLong, .ref o_counts, .int i_greatest, .ref a_length, .ref a_symbolOf, .ref o_draft, .ref o_knot, .ref o_inSum, .int i_knots, .ref o_halved, .ref a_made, .int i_bitsMade, .ref o_weight, .int i_weights, .int i_order, .ref o_points, .ref o_cutOff, .ref o_had, .ref o_placeOf, .int i_bit, .int i_bitEnd])), (a_in, .inl (cI, 6000, .inl v_in)), (a_length, .inl (cI, 256, .inl v_length)), (a_symbolOf, .inl (cI, 2048, .inl v_symbolOf)), (a_made, .inl (cI, 6000, .inl v_made))] H → va_D A [(a_this, .inr (1, [.ref a_in, .int i_inLong, .int i_goesOn, .ref o_out, .int i_outLong, .ref o_counts, .int i_greatest, .ref a_length, .ref a_symbolOf, .ref o_draft, .ref o_knot, .ref o_inSum, .int i_knots, .ref o_halved, .ref a_made, .int i_bitsMade, .ref o_weight, .int i_weights, .int i_order, .ref o_points, .ref o_cutOff, .ref o_had, .ref o_placeOf, .int i_bit, .int i_bitEnd])), (a_in, .inl (cI, 6000, .inl v_in)), (a_length, .inl (cI, 256, .inl v_length)), (a_symbolOf, .inl (cI, 2048, .inl v_symbolOf)), (a_made, .inl (cI, 6000, .inl v_made))] → va_S A s.heap H locs → W p l e R_MM_takeStream s m args below meth c H locs 0 0 Q (F0 m pc ls [.int rv])
def I_MM_takeStream_b16 (p : Program) (l : Launch) (e : Env) (s : State) (m : MethodId) (args : Array Value) (below : List Frame) (meth : Method) (c : Code) (Q : State → Prop) (A : Nat → Prop) (D : va_G) (cI cL cZ : ClassId) (a_this : Nat) (a_in : Nat) (a_length : Nat) (a_symbolOf : Nat) (a_made : Nat) (o_out : Nat) (o_counts : Nat) (o_draft : Nat) (o_knot : Nat) (o_inSum : Nat) (o_halved : Nat) (o_weight : Nat) (o_points : Nat) (o_cutOff : Nat) (o_had : Nat) (o_placeOf : Nat) (i_inLong : Int32) (i_goesOn : Int32) (i_outLong : Int32) (i_greatest : Int32) (i_knots : Int32) (i_bitsMade : Int32) (i_weights : Int32) (i_order : Int32) (i_bit : Int32) (i_bitEnd : Int32) (v_in : Nat → Int32) (v_length : Nat → Int32) (v_symbolOf : Nat → Int32) (l1 : Int32) (l2 : Int32) (l3 : Int32) (l4 : Int32) (res : Int32 × (Nat → Int32)) (kf : (Nat → Int32) → Option (Int32 × (Nat → Int32))) : Prop := ∀ (v_made : Nat → Int32), kf v_made = some res → ∀ (H : Heap) (locs : List Loc) (ls : Array Slot), lv_has ls 10 [] → va_P D classes [(a_this, .inr (1, [.ref a_in, .int i_inLong, .int i_goesOn, .ref o_out, .int i_outLong, .ref o_counts, .int i_greatest, .ref a_length, .ref a_symbolOf, .ref o_draft, .ref o_knot, .ref o_inSum, .int i_knots, .ref o_halved, .ref a_made, .int i_bitsMade, .ref o_weight, .int i_weights, .int i_order, .ref o_points, .ref o_cutOff, .ref o_had, .ref o_placeOf, .int i_bit, .int i_bitEnd])), (a_in, .inl (cI, 6000, .inl v_in)), (a_length, .inl (cI, 256, .inl v_length)), (a_symbolOf, .inl (cI, 2048, .inl v_symbolOf)), (a_made, .inl (cI, 6000, .inl v_made))] H → va_D A [(a_this, .inr (1, [.ref a_in, .int i_inLong, .int i_goesOn, .ref o_out, .int i_outLong, .ref o_counts, .int i_greatest, .ref a_length, .ref a_symbolOf, .ref o_draft, .ref o_knot, .ref o_inSum, .int i_knots, .ref o_halved, .ref a_made, .int i_bitsMade, .ref o_weight, .int i_weights, .int i_order, .ref o_points, .ref o_cutOff, .ref o_had, .ref o_placeOf, .int i_bit, .int i_bitEnd])), (a_in, .inl (cI, 6000, .inl v_in)), (a_length, .inl (cI, 256, .inl v_length)), (a_symbolOf, .inl (cI, 2048, .inl v_symbolOf)), (a_made, .inl (cI, 6000, .inl v_made))] → va_S A s.heap H locs → W p l e R_MM_takeStream s m args below meth c H locs 0 0 Q (F0 m 16 ls [])
def I_MM_takeStream_b104 (p : Program) (l : Launch) (e : Env) (s : State) (m : MethodId) (args : Array Value) (below : List Frame) (meth : Method) (c : Code) (Q : State → Prop) (A : Nat → Prop) (D : va_G) (cI cL cZ : ClassId) (a_this : Nat) (a_in : Nat) (a_length : Nat) (a_symbolOf : Nat) (a_made : Nat) (o_out : Nat) (o_counts : Nat) (o_draft : Nat) (o_knot : Nat) (o_inSum : Nat) (o_halved : Nat) (o_weight : Nat) (o_points : Nat) (o_cutOff : Nat) (o_had : Nat) (o_placeOf : Nat) (i_inLong : Int32) (i_goesOn : Int32) (i_outLong : Int32) (i_greatest : Int32) (i_knots : Int32) (i_bitsMade : Int32) (i_weights : Int32) (i_order : Int32) (i_bit : Int32) (i_bitEnd : Int32) (v_in : Nat → Int32) (v_length : Nat → Int32) (v_symbolOf : Nat → Int32) (l1 : Int32) (l2 : Int32) (l3 : Int32) (l4 : Int32) (res : Int32 × (Nat → Int32)) (kf : Int32 → Int32 → Int32 → Int32 → Int32 → (Nat → Int32) → Option (Int32 × (Nat → Int32))) : Prop := ∀ (l6 : Int32) (l7 : Int32) (l9 : Int32) (s0 : Int32) (s1 : Int32) (v_made : Nat → Int32), kf l6 l7 l9 s0 s1 v_made = some res → ∀ (H : Heap) (locs : List Loc) (ls : Array Slot), lv_has ls 10 [(0, .ref a_this), (1, .int l1), (3, .int l3), (4, .int l4), (6, .int l6), (7, .int l7), (9, .int l9)] → va_P D classes [(a_this, .inr (1, [.ref a_in, .int i_inLong, .int i_goesOn, .ref o_out, .int i_outLong, .ref o_counts, .int i_greatest, .ref a_length, .ref a_symbolOf, .ref o_draft, .ref o_knot, .ref o_inSum, .int i_knots, .ref o_halved, .ref a_made, .int i_bitsMade, .ref o_weight, .int i_weights, .int i_order, .ref o_points, .ref o_cutOff, .ref o_had, .ref o_placeOf, .int i_bit, .int i_bitEnd])), (a_in, .inl (cI, 6000, .inl v_in)), (a_length, .inl (cI, 256, .inl v_length)), (a_symbolOf, .inl (cI, 2048, .inl v_symbolOf)), (a_made, .inl (cI, 6000, .inl v_made))] H → va_D A [(a_this, .inr (1, [.ref a_in, .int i_inLong, .int i_goesOn, .ref o_out, .int i_outLong, .ref o_counts, .int i_greatest, .ref a_length, .ref a_symbolOf, .ref o_draft, .ref o_knot, .ref o_inSum, .int i_knots, .ref o_halved, .ref a_made, .int i_bitsMade, .ref o_weight, .int i_weights, .int i_order, .ref o_points, .ref o_cutOff, .ref o_had, .ref o_placeOf, .int i_bit, .int i_bitEnd])), (a_in, .inl (cI, 6000, .inl v_in)), (a_length, .inl (cI, 256, .inl v_length)), (a_symbolOf, .inl (cI, 2048, .inl v_symbolOf)), (a_made, .inl (cI, 6000, .inl v_made))] → va_S A s.heap H locs → W p l e R_MM_takeStream s m args below meth c H locs 0 0 Q (F0 m 104 ls [.int s0, .int s1])
def I_MM_takeStream_b151 (p : Program) (l : Launch) (e : Env) (s : State) (m : MethodId) (args : Array Value) (below : List Frame) (meth : Method) (c : Code) (Q : State → Prop) (A : Nat → Prop) (D : va_G) (cI cL cZ : ClassId) (a_this : Nat) (a_in : Nat) (a_length : Nat) (a_symbolOf : Nat) (a_made : Nat) (o_out : Nat) (o_counts : Nat) (o_draft : Nat) (o_knot : Nat) (o_inSum : Nat) (o_halved : Nat) (o_weight : Nat) (o_points : Nat) (o_cutOff : Nat) (o_had : Nat) (o_placeOf : Nat) (i_inLong : Int32) (i_goesOn : Int32) (i_outLong : Int32) (i_greatest : Int32) (i_knots : Int32) (i_bitsMade : Int32) (i_weights : Int32) (i_order : Int32) (i_bit : Int32) (i_bitEnd : Int32) (v_in : Nat → Int32) (v_length : Nat → Int32) (v_symbolOf : Nat → Int32) (l1 : Int32) (l2 : Int32) (l3 : Int32) (l4 : Int32) (res : Int32 × (Nat → Int32)) (kf : (Nat → Int32) → Option (Int32 × (Nat → Int32))) : Prop := ∀ (v_made : Nat → Int32), kf v_made = some res → ∀ (H : Heap) (locs : List Loc) (ls : Array Slot), lv_has ls 10 [] → va_P D classes [(a_this, .inr (1, [.ref a_in, .int i_inLong, .int i_goesOn, .ref o_out, .int i_outLong, .ref o_counts, .int i_greatest, .ref a_length, .ref a_symbolOf, .ref o_draft, .ref o_knot, .ref o_inSum, .int i_knots, .ref o_halved, .ref a_made, .int i_bitsMade, .ref o_weight, .int i_weights, .int i_order, .ref o_points, .ref o_cutOff, .ref o_had, .ref o_placeOf, .int i_bit, .int i_bitEnd])), (a_in, .inl (cI, 6000, .inl v_in)), (a_length, .inl (cI, 256, .inl v_length)), (a_symbolOf, .inl (cI, 2048, .inl v_symbolOf)), (a_made, .inl (cI, 6000, .inl v_made))] H → va_D A [(a_this, .inr (1, [.ref a_in, .int i_inLong, .int i_goesOn, .ref o_out, .int i_outLong, .ref o_counts, .int i_greatest, .ref a_length, .ref a_symbolOf, .ref o_draft, .ref o_knot, .ref o_inSum, .int i_knots, .ref o_halved, .ref a_made, .int i_bitsMade, .ref o_weight, .int i_weights, .int i_order, .ref o_points, .ref o_cutOff, .ref o_had, .ref o_placeOf, .int i_bit, .int i_bitEnd])), (a_in, .inl (cI, 6000, .inl v_in)), (a_length, .inl (cI, 256, .inl v_length)), (a_symbolOf, .inl (cI, 2048, .inl v_symbolOf)), (a_made, .inl (cI, 6000, .inl v_made))] → va_S A s.heap H locs → W p l e R_MM_takeStream s m args below meth c H locs 0 0 Q (F0 m 151 ls [])
def I_MM_takeStream_b113 (p : Program) (l : Launch) (e : Env) (s : State) (m : MethodId) (args : Array Value) (below : List Frame) (meth : Method) (c : Code) (Q : State → Prop) (A : Nat → Prop) (D : va_G) (cI cL cZ : ClassId) (a_this : Nat) (a_in : Nat) (a_length : Nat) (a_symbolOf : Nat) (a_made : Nat) (o_out : Nat) (o_counts : Nat) (o_draft : Nat) (o_knot : Nat) (o_inSum : Nat) (o_halved : Nat) (o_weight : Nat) (o_points : Nat) (o_cutOff : Nat) (o_had : Nat) (o_placeOf : Nat) (i_inLong : Int32) (i_goesOn : Int32) (i_outLong : Int32) (i_greatest : Int32) (i_knots : Int32) (i_bitsMade : Int32) (i_weights : Int32) (i_order : Int32) (i_bit : Int32) (i_bitEnd : Int32) (v_in : Nat → Int32) (v_length : Nat → Int32) (v_symbolOf : Nat → Int32) (l1 : Int32) (l2 : Int32) (l3 : Int32) (l4 : Int32) (res : Int32 × (Nat → Int32)) (kf : Int32 → Int32 → Int32 → (Nat → Int32) → Option (Int32 × (Nat → Int32))) : Prop := ∀ (l6 : Int32) (l7 : Int32) (l8 : Int32) (v_made : Nat → Int32), kf l6 l7 l8 v_made = some res → ∀ (H : Heap) (locs : List Loc) (ls : Array Slot), lv_has ls 10 [(0, .ref a_this), (1, .int l1), (3, .int l3), (4, .int l4), (6, .int l6), (7, .int l7), (8, .int l8)] → va_P D classes [(a_this, .inr (1, [.ref a_in, .int i_inLong, .int i_goesOn, .ref o_out, .int i_outLong, .ref o_counts, .int i_greatest, .ref a_length, .ref a_symbolOf, .ref o_draft, .ref o_knot, .ref o_inSum, .int i_knots, .ref o_halved, .ref a_made, .int i_bitsMade, .ref o_weight, .int i_weights, .int i_order, .ref o_points, .ref o_cutOff, .ref o_had, .ref o_placeOf, .int i_bit, .int i_bitEnd])), (a_in, .inl (cI, 6000, .inl v_in)), (a_length, .inl (cI, 256, .inl v_length)), (a_symbolOf, .inl (cI, 2048, .inl v_symbolOf)), (a_made, .inl (cI, 6000, .inl v_made))] H → va_D A [(a_this, .inr (1, [.ref a_in, .int i_inLong, .int i_goesOn, .ref o_out, .int i_outLong, .ref o_counts, .int i_greatest, .ref a_length, .ref a_symbolOf, .ref o_draft, .ref o_knot, .ref o_inSum, .int i_knots, .ref o_halved, .ref a_made, .int i_bitsMade, .ref o_weight, .int i_weights, .int i_order, .ref o_points, .ref o_cutOff, .ref o_had, .ref o_placeOf, .int i_bit, .int i_bitEnd])), (a_in, .inl (cI, 6000, .inl v_in)), (a_length, .inl (cI, 256, .inl v_length)), (a_symbolOf, .inl (cI, 2048, .inl v_symbolOf)), (a_made, .inl (cI, 6000, .inl v_made))] → va_S A s.heap H locs → W p l e R_MM_takeStream s m args below meth c H locs 0 0 Q (F0 m 113 ls [])
def I_MM_takeStream_b66 (p : Program) (l : Launch) (e : Env) (s : State) (m : MethodId) (args : Array Value) (below : List Frame) (meth : Method) (c : Code) (Q : State → Prop) (A : Nat → Prop) (D : va_G) (cI cL cZ : ClassId) (a_this : Nat) (a_in : Nat) (a_length : Nat) (a_symbolOf : Nat) (a_made : Nat) (o_out : Nat) (o_counts : Nat) (o_draft : Nat) (o_knot : Nat) (o_inSum : Nat) (o_halved : Nat) (o_weight : Nat) (o_points : Nat) (o_cutOff : Nat) (o_had : Nat) (o_placeOf : Nat) (i_inLong : Int32) (i_goesOn : Int32) (i_outLong : Int32) (i_greatest : Int32) (i_knots : Int32) (i_bitsMade : Int32) (i_weights : Int32) (i_order : Int32) (i_bit : Int32) (i_bitEnd : Int32) (v_in : Nat → Int32) (v_length : Nat → Int32) (v_symbolOf : Nat → Int32) (l1 : Int32) (l2 : Int32) (l3 : Int32) (l4 : Int32) (res : Int32 × (Nat → Int32)) (kf : Int32 → Int32 → Int32 → Int32 → (Nat → Int32) → Option (Int32 × (Nat → Int32))) : Prop := ∀ (l6 : Int32) (l7 : Int32) (l8 : Int32) (l9 : Int32) (v_made : Nat → Int32), kf l6 l7 l8 l9 v_made = some res → ∀ (H : Heap) (locs : List Loc) (ls : Array Slot), lv_has ls 10 [(0, .ref a_this), (1, .int l1), (3, .int l3), (4, .int l4), (6, .int l6), (7, .int l7), (8, .int l8), (9, .int l9)] → va_P D classes [(a_this, .inr (1, [.ref a_in, .int i_inLong, .int i_goesOn, .ref o_out, .int i_outLong, .ref o_counts, .int i_greatest, .ref a_length, .ref a_symbolOf, .ref o_draft, .ref o_knot, .ref o_inSum, .int i_knots, .ref o_halved, .ref a_made, .int i_bitsMade, .ref o_weight, .int i_weights, .int i_order, .ref o_points, .ref o_cutOff, .ref o_had, .ref o_placeOf, .int i_bit, .int i_bitEnd])), (a_in, .inl (cI, 6000, .inl v_in)), (a_length, .inl (cI, 256, .inl v_length)), (a_symbolOf, .inl (cI, 2048, .inl v_symbolOf)), (a_made, .inl (cI, 6000, .inl v_made))] H → va_D A [(a_this, .inr (1, [.ref a_in, .int i_inLong, .int i_goesOn, .ref o_out, .int i_outLong, .ref o_counts, .int i_greatest, .ref a_length, .ref a_symbolOf, .ref o_draft, .ref o_knot, .ref o_inSum, .int i_knots, .ref o_halved, .ref a_made, .int i_bitsMade, .ref o_weight, .int i_weights, .int i_order, .ref o_points, .ref o_cutOff, .ref o_had, .ref o_placeOf, .int i_bit, .int i_bitEnd])), (a_in, .inl (cI, 6000, .inl v_in)), (a_length, .inl (cI, 256, .inl v_length)), (a_symbolOf, .inl (cI, 2048, .inl v_symbolOf)), (a_made, .inl (cI, 6000, .inl v_made))] → va_S A s.heap H locs → W p l e R_MM_takeStream s m args below meth c H locs 0 0 Q (F0 m 66 ls [])
def I_MM_takeStream_b160 (p : Program) (l : Launch) (e : Env) (s : State) (m : MethodId) (args : Array Value) (below : List Frame) (meth : Method) (c : Code) (Q : State → Prop) (A : Nat → Prop) (D : va_G) (cI cL cZ : ClassId) (a_this : Nat) (a_in : Nat) (a_length : Nat) (a_symbolOf : Nat) (a_made : Nat) (o_out : Nat) (o_counts : Nat) (o_draft : Nat) (o_knot : Nat) (o_inSum : Nat) (o_halved : Nat) (o_weight : Nat) (o_points : Nat) (o_cutOff : Nat) (o_had : Nat) (o_placeOf : Nat) (i_inLong : Int32) (i_goesOn : Int32) (i_outLong : Int32) (i_greatest : Int32) (i_knots : Int32) (i_bitsMade : Int32) (i_weights : Int32) (i_order : Int32) (i_bit : Int32) (i_bitEnd : Int32) (v_in : Nat → Int32) (v_length : Nat → Int32) (v_symbolOf : Nat → Int32) (l1 : Int32) (l2 : Int32) (l3 : Int32) (l4 : Int32) (res : Int32 × (Nat → Int32)) (kf : Int32 → (Nat → Int32) → Option (Int32 × (Nat → Int32))) : Prop := ∀ (l6 : Int32) (v_made : Nat → Int32), kf l6 v_made = some res → ∀ (H : Heap) (locs : List Loc) (ls : Array Slot), lv_has ls 10 [(6, .int l6)] → va_P D classes [(a_this, .inr (1, [.ref a_in, .int i_inLong, .int i_goesOn, .ref o_out, .int i_outLong, .ref o_counts, .int i_greatest, .ref a_length, .ref a_symbolOf, .ref o_draft, .ref o_knot, .ref o_inSum, .int i_knots, .ref o_halved, .ref a_made, .int i_bitsMade, .ref o_weight, .int i_weights, .int i_order, .ref o_points, .ref o_cutOff, .ref o_had, .ref o_placeOf, .int i_bit, .int i_bitEnd])), (a_in, .inl (cI, 6000, .inl v_in)), (a_length, .inl (cI, 256, .inl v_length)), (a_symbolOf, .inl (cI, 2048, .inl v_symbolOf)), (a_made, .inl (cI, 6000, .inl v_made))] H → va_D A [(a_this, .inr (1, [.ref a_in, .int i_inLong, .int i_goesOn, .ref o_out, .int i_outLong, .ref o_counts, .int i_greatest, .ref a_length, .ref a_symbolOf, .ref o_draft, .ref o_knot, .ref o_inSum, .int i_knots, .ref o_halved, .ref a_made, .int i_bitsMade, .ref o_weight, .int i_weights, .int i_order, .ref o_points, .ref o_cutOff, .ref o_had, .ref o_placeOf, .int i_bit, .int i_bitEnd])), (a_in, .inl (cI, 6000, .inl v_in)), (a_length, .inl (cI, 256, .inl v_length)), (a_symbolOf, .inl (cI, 2048, .inl v_symbolOf)), (a_made, .inl (cI, 6000, .inl v_made))] → va_S A s.heap H locs → W p l e R_MM_takeStream s m args below meth c H locs 0 0 Q (F0 m 160 ls [])
def I_MM_takeStream_b54 (p : Program) (l : Launch) (e : Env) (s : State) (m : MethodId) (args : Array Value) (below : List Frame) (meth : Method) (c : Code) (Q : State → Prop) (A : Nat → Prop) (D : va_G) (cI cL cZ : ClassId) (a_this : Nat) (a_in : Nat) (a_length : Nat) (a_symbolOf : Nat) (a_made : Nat) (o_out : Nat) (o_counts : Nat) (o_draft : Nat) (o_knot : Nat) (o_inSum : Nat) (o_halved : Nat) (o_weight : Nat) (o_points : Nat) (o_cutOff : Nat) (o_had : Nat) (o_placeOf : Nat) (i_inLong : Int32) (i_goesOn : Int32) (i_outLong : Int32) (i_greatest : Int32) (i_knots : Int32) (i_bitsMade : Int32) (i_weights : Int32) (i_order : Int32) (i_bit : Int32) (i_bitEnd : Int32) (v_in : Nat → Int32) (v_length : Nat → Int32) (v_symbolOf : Nat → Int32) (l1 : Int32) (l2 : Int32) (l3 : Int32) (l4 : Int32) (res : Int32 × (Nat → Int32)) (kf : Int32 → Int32 → (Nat → Int32) → Option (Int32 × (Nat → Int32))) : Prop := ∀ (l6 : Int32) (l7 : Int32) (v_made : Nat → Int32), kf l6 l7 v_made = some res → ∀ (H : Heap) (locs : List Loc) (ls : Array Slot), lv_has ls 10 [(0, .ref a_this), (1, .int l1), (3, .int l3), (4, .int l4), (6, .int l6), (7, .int l7)] → va_P D classes [(a_this, .inr (1, [.ref a_in, .int i_inLong, .int i_goesOn, .ref o_out, .int i_outLong, .ref o_counts, .int i_greatest, .ref a_length, .ref a_symbolOf, .ref o_draft, .ref o_knot, .ref o_inSum, .int i_knots, .ref o_halved, .ref a_made, .int i_bitsMade, .ref o_weight, .int i_weights, .int i_order, .ref o_points, .ref o_cutOff, .ref o_had, .ref o_placeOf, .int i_bit, .int i_bitEnd])), (a_in, .inl (cI, 6000, .inl v_in)), (a_length, .inl (cI, 256, .inl v_length)), (a_symbolOf, .inl (cI, 2048, .inl v_symbolOf)), (a_made, .inl (cI, 6000, .inl v_made))] H → va_D A [(a_this, .inr (1, [.ref a_in, .int i_inLong, .int i_goesOn, .ref o_out, .int i_outLong, .ref o_counts, .int i_greatest, .ref a_length, .ref a_symbolOf, .ref o_draft, .ref o_knot, .ref o_inSum, .int i_knots, .ref o_halved, .ref a_made, .int i_bitsMade, .ref o_weight, .int i_weights, .int i_order, .ref o_points, .ref o_cutOff, .ref o_had, .ref o_placeOf, .int i_bit, .int i_bitEnd])), (a_in, .inl (cI, 6000, .inl v_in)), (a_length, .inl (cI, 256, .inl v_length)), (a_symbolOf, .inl (cI, 2048, .inl v_symbolOf)), (a_made, .inl (cI, 6000, .inl v_made))] → va_S A s.heap H locs → W p l e R_MM_takeStream s m args below meth c H locs 0 0 Q (F0 m 54 ls [])
def I_MM_takeStream_b42 (p : Program) (l : Launch) (e : Env) (s : State) (m : MethodId) (args : Array Value) (below : List Frame) (meth : Method) (c : Code) (Q : State → Prop) (A : Nat → Prop) (D : va_G) (cI cL cZ : ClassId) (a_this : Nat) (a_in : Nat) (a_length : Nat) (a_symbolOf : Nat) (a_made : Nat) (o_out : Nat) (o_counts : Nat) (o_draft : Nat) (o_knot : Nat) (o_inSum : Nat) (o_halved : Nat) (o_weight : Nat) (o_points : Nat) (o_cutOff : Nat) (o_had : Nat) (o_placeOf : Nat) (i_inLong : Int32) (i_goesOn : Int32) (i_outLong : Int32) (i_greatest : Int32) (i_knots : Int32) (i_bitsMade : Int32) (i_weights : Int32) (i_order : Int32) (i_bit : Int32) (i_bitEnd : Int32) (v_in : Nat → Int32) (v_length : Nat → Int32) (v_symbolOf : Nat → Int32) (l1 : Int32) (l2 : Int32) (l3 : Int32) (l4 : Int32) (res : Int32 × (Nat → Int32)) (kf : Int32 → (Nat → Int32) → Option (Int32 × (Nat → Int32))) : Prop := ∀ (l5 : Int32) (v_made : Nat → Int32), kf l5 v_made = some res → ∀ (H : Heap) (locs : List Loc) (ls : Array Slot), lv_has ls 10 [(0, .ref a_this), (1, .int l1), (3, .int l3), (4, .int l4), (5, .int l5)] → va_P D classes [(a_this, .inr (1, [.ref a_in, .int i_inLong, .int i_goesOn, .ref o_out, .int i_outLong, .ref o_counts, .int i_greatest, .ref a_length, .ref a_symbolOf, .ref o_draft, .ref o_knot, .ref o_inSum, .int i_knots, .ref o_halved, .ref a_made, .int i_bitsMade, .ref o_weight, .int i_weights, .int i_order, .ref o_points, .ref o_cutOff, .ref o_had, .ref o_placeOf, .int i_bit, .int i_bitEnd])), (a_in, .inl (cI, 6000, .inl v_in)), (a_length, .inl (cI, 256, .inl v_length)), (a_symbolOf, .inl (cI, 2048, .inl v_symbolOf)), (a_made, .inl (cI, 6000, .inl v_made))] H → va_D A [(a_this, .inr (1, [.ref a_in, .int i_inLong, .int i_goesOn, .ref o_out, .int i_outLong, .ref o_counts, .int i_greatest, .ref a_length, .ref a_symbolOf, .ref o_draft, .ref o_knot, .ref o_inSum, .int i_knots, .ref o_halved, .ref a_made, .int i_bitsMade, .ref o_weight, .int i_weights, .int i_order, .ref o_points, .ref o_cutOff, .ref o_had, .ref o_placeOf, .int i_bit, .int i_bitEnd])), (a_in, .inl (cI, 6000, .inl v_in)), (a_length, .inl (cI, 256, .inl v_length)), (a_symbolOf, .inl (cI, 2048, .inl v_symbolOf)), (a_made, .inl (cI, 6000, .inl v_made))] → va_S A s.heap H locs → W p l e R_MM_takeStream s m args below meth c H locs 0 0 Q (F0 m 42 ls [])
def I_MM_takeStream_b27 (p : Program) (l : Launch) (e : Env) (s : State) (m : MethodId) (args : Array Value) (below : List Frame) (meth : Method) (c : Code) (Q : State → Prop) (A : Nat → Prop) (D : va_G) (cI cL cZ : ClassId) (a_this : Nat) (a_in : Nat) (a_length : Nat) (a_symbolOf : Nat) (a_made : Nat) (o_out : Nat) (o_counts : Nat) (o_draft : Nat) (o_knot : Nat) (o_inSum : Nat) (o_halved : Nat) (o_weight : Nat) (o_points : Nat) (o_cutOff : Nat) (o_had : Nat) (o_placeOf : Nat) (i_inLong : Int32) (i_goesOn : Int32) (i_outLong : Int32) (i_greatest : Int32) (i_knots : Int32) (i_bitsMade : Int32) (i_weights : Int32) (i_order : Int32) (i_bit : Int32) (i_bitEnd : Int32) (v_in : Nat → Int32) (v_length : Nat → Int32) (v_symbolOf : Nat → Int32) (l1 : Int32) (l2 : Int32) (l3 : Int32) (l4 : Int32) (res : Int32 × (Nat → Int32)) (kf : Int32 → (Nat → Int32) → Option (Int32 × (Nat → Int32))) : Prop := ∀ (l5 : Int32) (v_made : Nat → Int32), kf l5 v_made = some res → ∀ (H : Heap) (locs : List Loc) (ls : Array Slot), lv_has ls 10 [(0, .ref a_this), (1, .int l1), (3, .int l3), (4, .int l4), (5, .int l5)] → va_P D classes [(a_this, .inr (1, [.ref a_in, .int i_inLong, .int i_goesOn, .ref o_out, .int i_outLong, .ref o_counts, .int i_greatest, .ref a_length, .ref a_symbolOf, .ref o_draft, .ref o_knot, .ref o_inSum, .int i_knots, .ref o_halved, .ref a_made, .int i_bitsMade, .ref o_weight, .int i_weights, .int i_order, .ref o_points, .ref o_cutOff, .ref o_had, .ref o_placeOf, .int i_bit, .int i_bitEnd])), (a_in, .inl (cI, 6000, .inl v_in)), (a_length, .inl (cI, 256, .inl v_length)), (a_symbolOf, .inl (cI, 2048, .inl v_symbolOf)), (a_made, .inl (cI, 6000, .inl v_made))] H → va_D A [(a_this, .inr (1, [.ref a_in, .int i_inLong, .int i_goesOn, .ref o_out, .int i_outLong, .ref o_counts, .int i_greatest, .ref a_length, .ref a_symbolOf, .ref o_draft, .ref o_knot, .ref o_inSum, .int i_knots, .ref o_halved, .ref a_made, .int i_bitsMade, .ref o_weight, .int i_weights, .int i_order, .ref o_points, .ref o_cutOff, .ref o_had, .ref o_placeOf, .int i_bit, .int i_bitEnd])), (a_in, .inl (cI, 6000, .inl v_in)), (a_length, .inl (cI, 256, .inl v_length)), (a_symbolOf, .inl (cI, 2048, .inl v_symbolOf)), (a_made, .inl (cI, 6000, .inl v_made))] → va_S A s.heap H locs → W p l e R_MM_takeStream s m args below meth c H locs 0 0 Q (F0 m 27 ls [])
def I_MM_takeStream_b0 (p : Program) (l : Launch) (e : Env) (s : State) (m : MethodId) (args : Array Value) (below : List Frame) (meth : Method) (c : Code) (Q : State → Prop) (A : Nat → Prop) (D : va_G) (cI cL cZ : ClassId) (a_this : Nat) (a_in : Nat) (a_length : Nat) (a_symbolOf : Nat) (a_made : Nat) (o_out : Nat) (o_counts : Nat) (o_draft : Nat) (o_knot : Nat) (o_inSum : Nat) (o_halved : Nat) (o_weight : Nat) (o_points : Nat) (o_cutOff : Nat) (o_had : Nat) (o_placeOf : Nat) (i_inLong : Int32) (i_goesOn : Int32) (i_outLong : Int32) (i_greatest : Int32) (i_knots : Int32) (i_bitsMade : Int32) (i_weights : Int32) (i_order : Int32) (i_bit : Int32) (i_bitEnd : Int32) (v_in : Nat → Int32) (v_length : Nat → Int32) (v_symbolOf : Nat → Int32) (l1 : Int32) (l2 : Int32) (l3 : Int32) (l4 : Int32) (res : Int32 × (Nat → Int32)) (kf : (Nat → Int32) → Option (Int32 × (Nat → Int32))) : Prop := ∀ (v_made : Nat → Int32), kf v_made = some res → ∀ (H : Heap) (locs : List Loc) (ls : Array Slot), lv_has ls 10 [(0, .ref a_this), (1, .int l1), (2, .int l2), (3, .int l3), (4, .int l4)] → va_P D classes [(a_this, .inr (1, [.ref a_in, .int i_inLong, .int i_goesOn, .ref o_out, .int i_outLong, .ref o_counts, .int i_greatest, .ref a_length, .ref a_symbolOf, .ref o_draft, .ref o_knot, .ref o_inSum, .int i_knots, .ref o_halved, .ref a_made, .int i_bitsMade, .ref o_weight, .int i_weights, .int i_order, .ref o_points, .ref o_cutOff, .ref o_had, .ref o_placeOf, .int i_bit, .int i_bitEnd])), (a_in, .inl (cI, 6000, .inl v_in)), (a_length, .inl (cI, 256, .inl v_length)), (a_symbolOf, .inl (cI, 2048, .inl v_symbolOf)), (a_made, .inl (cI, 6000, .inl v_made))] H → va_D A [(a_this, .inr (1, [.ref a_in, .int i_inLong, .int i_goesOn, .ref o_out, .int i_outLong, .ref o_counts, .int i_greatest, .ref a_length, .ref a_symbolOf, .ref o_draft, .ref o_knot, .ref o_inSum, .int i_knots, .ref o_halved, .ref a_made, .int i_bitsMade, .ref o_weight, .int i_weights, .int i_order, .ref o_points, .ref o_cutOff, .ref o_had, .ref o_placeOf, .int i_bit, .int i_bitEnd])), (a_in, .inl (cI, 6000, .inl v_in)), (a_length, .inl (cI, 256, .inl v_length)), (a_symbolOf, .inl (cI, 2048, .inl v_symbolOf)), (a_made, .inl (cI, 6000, .inl v_made))] → va_S A s.heap H locs → W p l e R_MM_takeStream s m args below meth c H locs 0 0 Q (F0 m 0 ls [])
set_option maxHeartbeats 4000000 in
set_option maxRecDepth 100000 in
theorem w_MM_takeStream_b16 {p : Program} {l : Launch} {e : Env} {s : State} {m : MethodId} {args : Array Value} {below : List Frame} {meth : Method} {c : Code} {Q : State → Prop} {A : Nat → Prop} {D : va_G} {cI cL cZ : ClassId} {a_this : Nat} {a_in : Nat} {a_length : Nat} {a_symbolOf : Nat} {a_made : Nat} {o_out : Nat} {o_counts : Nat} {o_draft : Nat} {o_knot : Nat} {o_inSum : Nat} {o_halved : Nat} {o_weight : Nat} {o_points : Nat} {o_cutOff : Nat} {o_had : Nat} {o_placeOf : Nat} {i_inLong : Int32} {i_goesOn : Int32} {i_outLong : Int32} {i_greatest : Int32} {i_knots : Int32} {i_bitsMade : Int32} {i_weights : Int32} {i_order : Int32} {i_bit : Int32} {i_bitEnd : Int32} {v_in : Nat → Int32} {v_length : Nat → Int32} {v_symbolOf : Nat → Int32} {l1 : Int32} {l2 : Int32} {l3 : Int32} {l4 : Int32} {N : Nat} {res : Int32 × (Nat → Int32)}  (C : Cx p s m args c b_MM_takeStream 10 "PrefixMillModel" D [(cI, .int), (cL, .long), (cZ, .boolean)] A) (hret : E_MM_takeStream p l e s m args below meth c Q A D cI cL cZ a_this a_in a_length a_symbolOf a_made o_out o_counts o_draft o_knot o_inSum o_halved o_weight o_points o_cutOff o_had o_placeOf i_inLong i_goesOn i_outLong i_greatest i_knots i_bitsMade i_weights i_order i_bit i_bitEnd v_in v_length v_symbolOf l1 l2 l3 l4 res)  : I_MM_takeStream_b16 p l e s m args below meth c Q A D cI cL cZ a_this a_in a_length a_symbolOf a_made o_out o_counts o_draft o_knot o_inSum o_halved o_weight o_points o_cutOff o_had o_placeOf i_inLong i_goesOn i_outLong i_greatest i_knots i_bitsMade i_weights i_order i_bit i_bitEnd v_in v_length v_symbolOf l1 l2 l3 l4 res (f_MM_takeStream_b16 N i_greatest v_in v_length v_symbolOf l1 l2 l3 l4 ) := by
  obtain ⟨hx, hb, hml, hown, hts, hK, hA⟩ := C
  intro v_made h H locs ls hl hP hD hS
  unfold f_MM_takeStream_b16 at h
  refine lv_bipush (v := (-3)) hx hb d_MM_takeStream_16 (by decide) ?_
  exact hret _ _ _ _ (-3) v_made h d_MM_takeStream_18 hP hD hS
set_option maxHeartbeats 4000000 in
set_option maxRecDepth 100000 in
theorem w_MM_takeStream_b104 {p : Program} {l : Launch} {e : Env} {s : State} {m : MethodId} {args : Array Value} {below : List Frame} {meth : Method} {c : Code} {Q : State → Prop} {A : Nat → Prop} {D : va_G} {cI cL cZ : ClassId} {a_this : Nat} {a_in : Nat} {a_length : Nat} {a_symbolOf : Nat} {a_made : Nat} {o_out : Nat} {o_counts : Nat} {o_draft : Nat} {o_knot : Nat} {o_inSum : Nat} {o_halved : Nat} {o_weight : Nat} {o_points : Nat} {o_cutOff : Nat} {o_had : Nat} {o_placeOf : Nat} {i_inLong : Int32} {i_goesOn : Int32} {i_outLong : Int32} {i_greatest : Int32} {i_knots : Int32} {i_bitsMade : Int32} {i_weights : Int32} {i_order : Int32} {i_bit : Int32} {i_bitEnd : Int32} {v_in : Nat → Int32} {v_length : Nat → Int32} {v_symbolOf : Nat → Int32} {l1 : Int32} {l2 : Int32} {l3 : Int32} {l4 : Int32} {N : Nat} {res : Int32 × (Nat → Int32)} {k54 : Int32 → Int32 → (Nat → Int32) → Option (Int32 × (Nat → Int32))} {k66 : Int32 → Int32 → Int32 → Int32 → (Nat → Int32) → Option (Int32 × (Nat → Int32))} (C : Cx p s m args c b_MM_takeStream 10 "PrefixMillModel" D [(cI, .int), (cL, .long), (cZ, .boolean)] A) (hret : E_MM_takeStream p l e s m args below meth c Q A D cI cL cZ a_this a_in a_length a_symbolOf a_made o_out o_counts o_draft o_knot o_inSum o_halved o_weight o_points o_cutOff o_had o_placeOf i_inLong i_goesOn i_outLong i_greatest i_knots i_bitsMade i_weights i_order i_bit i_bitEnd v_in v_length v_symbolOf l1 l2 l3 l4 res) (hk54 : I_MM_takeStream_b54 p l e s m args below meth c Q A D cI cL cZ a_this a_in a_length a_symbolOf a_made o_out o_counts o_draft o_knot o_inSum o_halved o_weight o_points o_cutOff o_had o_placeOf i_inLong i_goesOn i_outLong i_greatest i_knots i_bitsMade i_weights i_order i_bit i_bitEnd v_in v_length v_symbolOf l1 l2 l3 l4 res k54) (hk66 : I_MM_takeStream_b66 p l e s m args below meth c Q A D cI cL cZ a_this a_in a_length a_symbolOf a_made o_out o_counts o_draft o_knot o_inSum o_halved o_weight o_points o_cutOff o_had o_placeOf i_inLong i_goesOn i_outLong i_greatest i_knots i_bitsMade i_weights i_order i_bit i_bitEnd v_in v_length v_symbolOf l1 l2 l3 l4 res k66) : I_MM_takeStream_b104 p l e s m args below meth c Q A D cI cL cZ a_this a_in a_length a_symbolOf a_made o_out o_counts o_draft o_knot o_inSum o_halved o_weight o_points o_cutOff o_had o_placeOf i_inLong i_goesOn i_outLong i_greatest i_knots i_bitsMade i_weights i_order i_bit i_bitEnd v_in v_length v_symbolOf l1 l2 l3 l4 res (f_MM_takeStream_b104 N i_greatest v_in v_length v_symbolOf l1 l2 l3 l4 k54 k66) := by
  obtain ⟨hx, hb, hml, hown, hts, hK, hA⟩ := C
  intro l6 l7 l9 s0 s1 v_made h H locs ls hl hP hD hS
  unfold f_MM_takeStream_b104 at h
  refine lv_iadd hx hb d_MM_takeStream_104 ?_
  refine lv_topi (fun l8_1 el8_1 => ?_)
  replace h := nm_s h el8_1
  refine lv_istore (lv' := [(8, .int l8_1), (0, .ref a_this), (1, .int l1), (3, .int l3), (4, .int l4), (6, .int l6), (7, .int l7), (9, .int l9)]) hx hb d_MM_takeStream_105 hl (by decide) rfl (fun ls hl => ?_)
  obtain ⟨l9_2, el9_2⟩ : ∃ y : Int32, y = l9 + 1 := ⟨_, rfl⟩
  replace h := nm_s h el9_2
  refine lv_iinc (v := l9_2) (lv' := [(9, .int l9_2), (8, .int l8_1), (0, .ref a_this), (1, .int l1), (3, .int l3), (4, .int l4), (6, .int l6), (7, .int l7)]) hx hb d_MM_takeStream_107 hl (k := 7) rfl (by rw [el9_2]; rfl) (by decide) rfl (fun ls hl => ?_)
  refine lv_goto (tgt := 66) hx hb d_MM_takeStream_110 (by decide) ?_
  exact hk66 _ _ _ _ _ h H locs ls (lv_sub hl [2, 3, 4, 5, 6, 7, 1, 0] rfl) hP hD hS
set_option maxHeartbeats 4000000 in
set_option maxRecDepth 100000 in
theorem w_MM_takeStream_b151 {p : Program} {l : Launch} {e : Env} {s : State} {m : MethodId} {args : Array Value} {below : List Frame} {meth : Method} {c : Code} {Q : State → Prop} {A : Nat → Prop} {D : va_G} {cI cL cZ : ClassId} {a_this : Nat} {a_in : Nat} {a_length : Nat} {a_symbolOf : Nat} {a_made : Nat} {o_out : Nat} {o_counts : Nat} {o_draft : Nat} {o_knot : Nat} {o_inSum : Nat} {o_halved : Nat} {o_weight : Nat} {o_points : Nat} {o_cutOff : Nat} {o_had : Nat} {o_placeOf : Nat} {i_inLong : Int32} {i_goesOn : Int32} {i_outLong : Int32} {i_greatest : Int32} {i_knots : Int32} {i_bitsMade : Int32} {i_weights : Int32} {i_order : Int32} {i_bit : Int32} {i_bitEnd : Int32} {v_in : Nat → Int32} {v_length : Nat → Int32} {v_symbolOf : Nat → Int32} {l1 : Int32} {l2 : Int32} {l3 : Int32} {l4 : Int32} {N : Nat} {res : Int32 × (Nat → Int32)}  (C : Cx p s m args c b_MM_takeStream 10 "PrefixMillModel" D [(cI, .int), (cL, .long), (cZ, .boolean)] A) (hret : E_MM_takeStream p l e s m args below meth c Q A D cI cL cZ a_this a_in a_length a_symbolOf a_made o_out o_counts o_draft o_knot o_inSum o_halved o_weight o_points o_cutOff o_had o_placeOf i_inLong i_goesOn i_outLong i_greatest i_knots i_bitsMade i_weights i_order i_bit i_bitEnd v_in v_length v_symbolOf l1 l2 l3 l4 res)  : I_MM_takeStream_b151 p l e s m args below meth c Q A D cI cL cZ a_this a_in a_length a_symbolOf a_made o_out o_counts o_draft o_knot o_inSum o_halved o_weight o_points o_cutOff o_had o_placeOf i_inLong i_goesOn i_outLong i_greatest i_knots i_bitsMade i_weights i_order i_bit i_bitEnd v_in v_length v_symbolOf l1 l2 l3 l4 res (f_MM_takeStream_b151 N i_greatest v_in v_length v_symbolOf l1 l2 l3 l4 ) := by
  obtain ⟨hx, hb, hml, hown, hts, hK, hA⟩ := C
  intro v_made h H locs ls hl hP hD hS
  unfold f_MM_takeStream_b151 at h
  refine lv_bipush (v := (-4)) hx hb d_MM_takeStream_151 (by decide) ?_
  exact hret _ _ _ _ (-4) v_made h d_MM_takeStream_153 hP hD hS
set_option maxHeartbeats 4000000 in
set_option maxRecDepth 100000 in
theorem w_MM_takeStream_b113 {p : Program} {l : Launch} {e : Env} {s : State} {m : MethodId} {args : Array Value} {below : List Frame} {meth : Method} {c : Code} {Q : State → Prop} {A : Nat → Prop} {D : va_G} {cI cL cZ : ClassId} {a_this : Nat} {a_in : Nat} {a_length : Nat} {a_symbolOf : Nat} {a_made : Nat} {o_out : Nat} {o_counts : Nat} {o_draft : Nat} {o_knot : Nat} {o_inSum : Nat} {o_halved : Nat} {o_weight : Nat} {o_points : Nat} {o_cutOff : Nat} {o_had : Nat} {o_placeOf : Nat} {i_inLong : Int32} {i_goesOn : Int32} {i_outLong : Int32} {i_greatest : Int32} {i_knots : Int32} {i_bitsMade : Int32} {i_weights : Int32} {i_order : Int32} {i_bit : Int32} {i_bitEnd : Int32} {v_in : Nat → Int32} {v_length : Nat → Int32} {v_symbolOf : Nat → Int32} {l1 : Int32} {l2 : Int32} {l3 : Int32} {l4 : Int32} {N : Nat} {res : Int32 × (Nat → Int32)} {k54 : Int32 → Int32 → (Nat → Int32) → Option (Int32 × (Nat → Int32))} (C : Cx p s m args c b_MM_takeStream 10 "PrefixMillModel" D [(cI, .int), (cL, .long), (cZ, .boolean)] A) (hret : E_MM_takeStream p l e s m args below meth c Q A D cI cL cZ a_this a_in a_length a_symbolOf a_made o_out o_counts o_draft o_knot o_inSum o_halved o_weight o_points o_cutOff o_had o_placeOf i_inLong i_goesOn i_outLong i_greatest i_knots i_bitsMade i_weights i_order i_bit i_bitEnd v_in v_length v_symbolOf l1 l2 l3 l4 res) (hk54 : I_MM_takeStream_b54 p l e s m args below meth c Q A D cI cL cZ a_this a_in a_length a_symbolOf a_made o_out o_counts o_draft o_knot o_inSum o_halved o_weight o_points o_cutOff o_had o_placeOf i_inLong i_goesOn i_outLong i_greatest i_knots i_bitsMade i_weights i_order i_bit i_bitEnd v_in v_length v_symbolOf l1 l2 l3 l4 res k54) : I_MM_takeStream_b113 p l e s m args below meth c Q A D cI cL cZ a_this a_in a_length a_symbolOf a_made o_out o_counts o_draft o_knot o_inSum o_halved o_weight o_points o_cutOff o_had o_placeOf i_inLong i_goesOn i_outLong i_greatest i_knots i_bitsMade i_weights i_order i_bit i_bitEnd v_in v_length v_symbolOf l1 l2 l3 l4 res (f_MM_takeStream_b113 N i_greatest v_in v_length v_symbolOf l1 l2 l3 l4 k54) := by
  obtain ⟨hx, hb, hml, hown, hts, hK, hA⟩ := C
  intro l6 l7 l8 v_made h H locs ls hl hP hD hS
  unfold f_MM_takeStream_b113 at h
  refine lv_aload_n hx hb d_MM_takeStream_113 rfl (lv_at hl 0 rfl) ?_
  refine va_get hx hb hts in_MM hown hK hP 0 rfl rfl 8 (by decide) (hts _ m_761) (fun _ h9 => h9) rfl d_MM_takeStream_114 ?_
  refine lv_iload hx hb d_MM_takeStream_117 (lv_at hl 6 rfl) ?_
  obtain ⟨g_1, h⟩ := ck_s h
  refine va_iald hx hb hK hP 3 0 rfl rfl (inb_s g_1) d_MM_takeStream_119 ?_
  refine lv_topi (fun l9_2 el9_2 => ?_)
  replace h := nm_s h el9_2
  refine lv_istore (lv' := [(9, .int l9_2), (0, .ref a_this), (1, .int l1), (3, .int l3), (4, .int l4), (6, .int l6), (7, .int l7), (8, .int l8)]) hx hb d_MM_takeStream_120 hl (by decide) rfl (fun ls hl => ?_)
  refine lv_aload_n hx hb d_MM_takeStream_122 rfl (lv_at hl 1 rfl) ?_
  refine va_get hx hb hts in_MM hown hK hP 0 rfl rfl 14 (by decide) (hts _ m_767) (fun _ h9 => h9) rfl d_MM_takeStream_123 ?_
  refine lv_iload hx hb d_MM_takeStream_126 (lv_at hl 4 rfl) ?_
  refine lv_iload hx hb d_MM_takeStream_128 (lv_at hl 6 rfl) ?_
  refine lv_iadd hx hb d_MM_takeStream_130 ?_
  refine lv_iload hx hb d_MM_takeStream_131 (lv_at hl 0 rfl) ?_
  obtain ⟨g_3, h⟩ := ck_s h
  refine va_iast hx hb hK hP hD hS 4 0 rfl rfl (inb_s g_3) d_MM_takeStream_133 (fun H locs hP hD hS => ?_)
  obtain ⟨v_made_4, ev_made_4⟩ : ∃ y, y = (upd v_made (Int32.toNatClampNeg (l4 + l7)) l9_2) := ⟨_, rfl⟩
  replace h := nm_s h ev_made_4
  have hP : va_P D classes [(a_this, .inr (1, [.ref a_in, .int i_inLong, .int i_goesOn, .ref o_out, .int i_outLong, .ref o_counts, .int i_greatest, .ref a_length, .ref a_symbolOf, .ref o_draft, .ref o_knot, .ref o_inSum, .int i_knots, .ref o_halved, .ref a_made, .int i_bitsMade, .ref o_weight, .int i_weights, .int i_order, .ref o_points, .ref o_cutOff, .ref o_had, .ref o_placeOf, .int i_bit, .int i_bitEnd])), (a_in, .inl (cI, 6000, .inl v_in)), (a_length, .inl (cI, 256, .inl v_length)), (a_symbolOf, .inl (cI, 2048, .inl v_symbolOf)), (a_made, .inl (cI, 6000, .inl v_made_4))] H := by rw [ev_made_4]; exact hP
  have hD : va_D A [(a_this, .inr (1, [.ref a_in, .int i_inLong, .int i_goesOn, .ref o_out, .int i_outLong, .ref o_counts, .int i_greatest, .ref a_length, .ref a_symbolOf, .ref o_draft, .ref o_knot, .ref o_inSum, .int i_knots, .ref o_halved, .ref a_made, .int i_bitsMade, .ref o_weight, .int i_weights, .int i_order, .ref o_points, .ref o_cutOff, .ref o_had, .ref o_placeOf, .int i_bit, .int i_bitEnd])), (a_in, .inl (cI, 6000, .inl v_in)), (a_length, .inl (cI, 256, .inl v_length)), (a_symbolOf, .inl (cI, 2048, .inl v_symbolOf)), (a_made, .inl (cI, 6000, .inl v_made_4))] := by rw [ev_made_4]; exact hD
  refine lv_iload hx hb d_MM_takeStream_134 (lv_at hl 5 rfl) ?_
  refine lv_aload_n hx hb d_MM_takeStream_136 rfl (lv_at hl 1 rfl) ?_
  refine va_get hx hb hts in_MM hown hK hP 0 rfl rfl 7 (by decide) (hts _ m_760) (fun _ h9 => h9) rfl d_MM_takeStream_137 ?_
  refine lv_iload hx hb d_MM_takeStream_140 (lv_at hl 0 rfl) ?_
  obtain ⟨g_5, h⟩ := ck_s h
  refine va_iald hx hb hK hP 2 0 rfl rfl (inb_s g_5) d_MM_takeStream_142 ?_
  refine lv_isub hx hb d_MM_takeStream_143 ?_
  refine lv_topi (fun l6_6 el6_6 => ?_)
  replace h := nm_s h el6_6
  refine lv_istore (lv' := [(6, .int l6_6), (9, .int l9_2), (0, .ref a_this), (1, .int l1), (3, .int l3), (4, .int l4), (7, .int l7), (8, .int l8)]) hx hb d_MM_takeStream_144 hl (by decide) rfl (fun ls hl => ?_)
  refine lv_iload hx hb d_MM_takeStream_146 (lv_at hl 0 rfl) ?_
  refine lv_if_ge (tgt := 154) hx hb d_MM_takeStream_148 (by decide) (fun c_7 => ?_) (fun c_7 => ?_)
  · replace h := if_t h c_7
    obtain ⟨l7_8, el7_8⟩ : ∃ y : Int32, y = l7 + 1 := ⟨_, rfl⟩
    replace h := nm_s h el7_8
    refine lv_iinc (v := l7_8) (lv' := [(7, .int l7_8), (6, .int l6_6), (9, .int l9_2), (0, .ref a_this), (1, .int l1), (3, .int l3), (4, .int l4), (8, .int l8)]) hx hb d_MM_takeStream_154 hl (k := 6) rfl (by rw [el7_8]; rfl) (by decide) rfl (fun ls hl => ?_)
    refine lv_goto (tgt := 54) hx hb d_MM_takeStream_157 (by decide) ?_
    exact hk54 _ _ _ h H locs ls (lv_sub hl [3, 4, 5, 6, 1, 0] rfl) hP hD hS
  · replace h := if_f h c_7
    exact w_MM_takeStream_b151 ⟨hx, hb, hml, hown, hts, hK, hA⟩ hret  _ h H locs ls (lv_sub hl [] rfl) hP hD hS
set_option maxHeartbeats 4000000 in
set_option maxRecDepth 100000 in
theorem w_MM_takeStream_b66 {p : Program} {l : Launch} {e : Env} {s : State} {m : MethodId} {args : Array Value} {below : List Frame} {meth : Method} {c : Code} {Q : State → Prop} {A : Nat → Prop} {D : va_G} {cI cL cZ : ClassId} {a_this : Nat} {a_in : Nat} {a_length : Nat} {a_symbolOf : Nat} {a_made : Nat} {o_out : Nat} {o_counts : Nat} {o_draft : Nat} {o_knot : Nat} {o_inSum : Nat} {o_halved : Nat} {o_weight : Nat} {o_points : Nat} {o_cutOff : Nat} {o_had : Nat} {o_placeOf : Nat} {i_inLong : Int32} {i_goesOn : Int32} {i_outLong : Int32} {i_greatest : Int32} {i_knots : Int32} {i_bitsMade : Int32} {i_weights : Int32} {i_order : Int32} {i_bit : Int32} {i_bitEnd : Int32} {v_in : Nat → Int32} {v_length : Nat → Int32} {v_symbolOf : Nat → Int32} {l1 : Int32} {l2 : Int32} {l3 : Int32} {l4 : Int32} {N : Nat} {res : Int32 × (Nat → Int32)} {k54 : Int32 → Int32 → (Nat → Int32) → Option (Int32 × (Nat → Int32))} (C : Cx p s m args c b_MM_takeStream 10 "PrefixMillModel" D [(cI, .int), (cL, .long), (cZ, .boolean)] A) (hret : E_MM_takeStream p l e s m args below meth c Q A D cI cL cZ a_this a_in a_length a_symbolOf a_made o_out o_counts o_draft o_knot o_inSum o_halved o_weight o_points o_cutOff o_had o_placeOf i_inLong i_goesOn i_outLong i_greatest i_knots i_bitsMade i_weights i_order i_bit i_bitEnd v_in v_length v_symbolOf l1 l2 l3 l4 res) (hk54 : I_MM_takeStream_b54 p l e s m args below meth c Q A D cI cL cZ a_this a_in a_length a_symbolOf a_made o_out o_counts o_draft o_knot o_inSum o_halved o_weight o_points o_cutOff o_had o_placeOf i_inLong i_goesOn i_outLong i_greatest i_knots i_bitsMade i_weights i_order i_bit i_bitEnd v_in v_length v_symbolOf l1 l2 l3 l4 res k54) : ∀ z : Nat, I_MM_takeStream_b66 p l e s m args below meth c Q A D cI cL cZ a_this a_in a_length a_symbolOf a_made o_out o_counts o_draft o_knot o_inSum o_halved o_weight o_points o_cutOff o_had o_placeOf i_inLong i_goesOn i_outLong i_greatest i_knots i_bitsMade i_weights i_order i_bit i_bitEnd v_in v_length v_symbolOf l1 l2 l3 l4 res (f_MM_takeStream_b66 N i_greatest v_in v_length v_symbolOf l1 l2 l3 l4 k54 z) := by
  obtain ⟨hx, hb, hml, hown, hts, hK, hA⟩ := C
  intro z
  induction z with
  | zero => intro l6 l7 l8 l9 v_made h; cases h
  | succ z ih =>
    intro l6 l7 l8 l9 v_made h H locs ls hl hP hD hS
    refine lv_iload hx hb d_MM_takeStream_66 (lv_at hl 7 rfl) ?_
    refine lv_aload_n hx hb d_MM_takeStream_68 rfl (lv_at hl 0 rfl) ?_
    refine va_get hx hb hts in_MM hown hK hP 0 rfl rfl 6 (by decide) (hts _ m_759) (fun _ h9 => h9) rfl d_MM_takeStream_69 ?_
    refine lv_icmp_gt (tgt := 113) hx hb d_MM_takeStream_72 (by decide) (fun c_1 => ?_) (fun c_1 => ?_)
    · replace h := if_t h c_1
      exact w_MM_takeStream_b113 ⟨hx, hb, hml, hown, hts, hK, hA⟩ hret hk54 _ _ _ _ h H locs ls (lv_sub hl [0, 1, 2, 3, 4, 5, 6] rfl) hP hD hS
    · replace h := if_f h c_1
      refine lv_iconst (v := 2) hx hb d_MM_takeStream_75 (by decide) ?_
      refine lv_iload hx hb d_MM_takeStream_76 (lv_at hl 6 rfl) ?_
      refine lv_imul hx hb d_MM_takeStream_78 ?_
      refine lv_iload hx hb d_MM_takeStream_79 (lv_at hl 4 rfl) ?_
      refine lv_iload hx hb d_MM_takeStream_81 (lv_at hl 7 rfl) ?_
      refine lv_icmp_lt (tgt := 103) hx hb d_MM_takeStream_83 (by decide) (fun c_2 => ?_) (fun c_2 => ?_)
      · replace h := if_t h c_2
        refine lv_iconst (v := 0) hx hb d_MM_takeStream_103 (by decide) ?_
        exact w_MM_takeStream_b104 ⟨hx, hb, hml, hown, hts, hK, hA⟩ hret hk54 ih _ _ _ _ _ _ h H locs ls (lv_sub hl [0, 1, 2, 3, 4, 5, 7] rfl) hP hD hS
      · replace h := if_f h c_2
        refine lv_aload_n hx hb d_MM_takeStream_86 rfl (lv_at hl 0 rfl) ?_
        refine lv_bipush (v := 8) hx hb d_MM_takeStream_87 (by decide) ?_
        refine lv_iload_n hx hb d_MM_takeStream_89 rfl (lv_at hl 1 rfl) ?_
        refine lv_imul hx hb d_MM_takeStream_90 ?_
        refine lv_iload hx hb d_MM_takeStream_91 (lv_at hl 4 rfl) ?_
        refine lv_iadd hx hb d_MM_takeStream_93 ?_
        refine lv_iload hx hb d_MM_takeStream_94 (lv_at hl 7 rfl) ?_
        refine lv_isub hx hb d_MM_takeStream_96 ?_
        obtain ⟨r_3, hc_4, h⟩ := bd1_s h
        have hPc := hP.sub (ws' := [(a_this, .inr (1, [.ref a_in, .int i_inLong, .int i_goesOn, .ref o_out, .int i_outLong, .ref o_counts, .int i_greatest, .ref a_length, .ref a_symbolOf, .ref o_draft, .ref o_knot, .ref o_inSum, .int i_knots, .ref o_halved, .ref a_made, .int i_bitsMade, .ref o_weight, .int i_weights, .int i_order, .ref o_points, .ref o_cutOff, .ref o_had, .ref o_placeOf, .int i_bit, .int i_bitEnd])), (a_in, .inl (cI, 6000, .inl v_in))]) [0, 1] rfl
        have hDc := hD.sub (ws' := [(a_this, .inr (1, [.ref a_in, .int i_inLong, .int i_goesOn, .ref o_out, .int i_outLong, .ref o_counts, .int i_greatest, .ref a_length, .ref a_symbolOf, .ref o_draft, .ref o_knot, .ref o_inSum, .int i_knots, .ref o_halved, .ref a_made, .int i_bitsMade, .ref o_weight, .int i_weights, .int i_order, .ref o_points, .ref o_cutOff, .ref o_had, .ref o_placeOf, .int i_bit, .int i_bitEnd])), (a_in, .inl (cI, 6000, .inl v_in))]) [0, 1] (by decide) rfl
        have hFc := va_free (wc := [(a_this, .inr (1, [.ref a_in, .int i_inLong, .int i_goesOn, .ref o_out, .int i_outLong, .ref o_counts, .int i_greatest, .ref a_length, .ref a_symbolOf, .ref o_draft, .ref o_knot, .ref o_inSum, .int i_knots, .ref o_halved, .ref a_made, .int i_bitsMade, .ref o_weight, .int i_weights, .int i_order, .ref o_points, .ref o_cutOff, .ref o_had, .ref o_placeOf, .int i_bit, .int i_bitEnd])), (a_in, .inl (cI, 6000, .inl v_in))]) hD hS hA [0, 1] rfl
        refine va_calli (va_runV (As := [.int (((8 * l1) + l6) - l9)]) (rest := [.int (2 * l8)]) ⟨hx, hb, hml, hown, hts⟩ (c_MM_bitAt l D cI cL cZ H.size N a_this a_in o_out o_counts a_length a_symbolOf o_draft o_knot o_inSum o_halved a_made o_weight o_points o_cutOff o_had o_placeOf i_inLong i_goesOn i_outLong i_greatest i_knots i_bitsMade i_weights i_order i_bit i_bitEnd v_in (((8 * l1) + l6) - l9) r_3 hc_4) ⟨(my_cb 1 hts m_947 rfl rfl (hts _ m_76) (hts _ m_944) (by decide +kernel) ⟨Nat.le_of_ble_eq_true rfl, Nat.le_of_ble_eq_true rfl⟩), hts _ m_946, hts _ m_41⟩ ⟨fun a U g mk q => by obtain ⟨q0, q1, qP, qK, qD⟩ := q; exact ⟨q0, q1, qP, va_K.moved (u := U) (U := U.calling g mk a) (Vm.Alike.refl U.vm) qK, qD⟩, va_recv hK hPc (ci := 1) (q0 := 0) rfl rfl, fun U hU hW => ⟨rfl, by rw [hU], by rw [hU]; exact hPc, va_K.moved hW.alike hK, hDc.weaken (fun _ _ _ _ => trivial)⟩⟩ rfl rfl hl.1 rfl (lv_room (Nat.le_of_ble_eq_true rfl)) d_MM_takeStream_97 ⟨Nat.zero_le _, Nat.zero_le _⟩) hS (fun q _ h => hFc q h) hFc (fun rr u t H1 locs ht hvm hw hB hz1 hk1 hS => ?_)
        obtain ⟨hP1, hK1, hD1⟩ := hB
        rw [ht] at hP1
        subst hw
        obtain ⟨hP, hD⟩ := va_join (wr := [(a_length, .inl (cI, 256, .inl v_length)), (a_symbolOf, .inl (cI, 2048, .inl v_symbolOf)), (a_made, .inl (cI, 6000, .inl v_made))]) (w1 := [(a_this, .inr (1, [.ref a_in, .int i_inLong, .int i_goesOn, .ref o_out, .int i_outLong, .ref o_counts, .int i_greatest, .ref a_length, .ref a_symbolOf, .ref o_draft, .ref o_knot, .ref o_inSum, .int i_knots, .ref o_halved, .ref a_made, .int i_bitsMade, .ref o_weight, .int i_weights, .int i_order, .ref o_points, .ref o_cutOff, .ref o_had, .ref o_placeOf, .int i_bit, .int i_bitEnd])), (a_in, .inl (cI, 6000, .inl v_in))]) hP hD [0, 1] [2, 3, 4] rfl rfl (by decide) (by decide) hk1 hFc hP1 hD1
        clear hPc hDc hFc hk1 hP1 hD1 hK1
        generalize H1 = H at hP hS ⊢
        have hP : va_P D classes [(a_this, .inr (1, [.ref a_in, .int i_inLong, .int i_goesOn, .ref o_out, .int i_outLong, .ref o_counts, .int i_greatest, .ref a_length, .ref a_symbolOf, .ref o_draft, .ref o_knot, .ref o_inSum, .int i_knots, .ref o_halved, .ref a_made, .int i_bitsMade, .ref o_weight, .int i_weights, .int i_order, .ref o_points, .ref o_cutOff, .ref o_had, .ref o_placeOf, .int i_bit, .int i_bitEnd])), (a_in, .inl (cI, 6000, .inl v_in)), (a_length, .inl (cI, 256, .inl v_length)), (a_symbolOf, .inl (cI, 2048, .inl v_symbolOf)), (a_made, .inl (cI, 6000, .inl v_made))] H := hP.sub [3, 4, 0, 1, 2] rfl
        have hD : va_D A [(a_this, .inr (1, [.ref a_in, .int i_inLong, .int i_goesOn, .ref o_out, .int i_outLong, .ref o_counts, .int i_greatest, .ref a_length, .ref a_symbolOf, .ref o_draft, .ref o_knot, .ref o_inSum, .int i_knots, .ref o_halved, .ref a_made, .int i_bitsMade, .ref o_weight, .int i_weights, .int i_order, .ref o_points, .ref o_cutOff, .ref o_had, .ref o_placeOf, .int i_bit, .int i_bitEnd])), (a_in, .inl (cI, 6000, .inl v_in)), (a_length, .inl (cI, 256, .inl v_length)), (a_symbolOf, .inl (cI, 2048, .inl v_symbolOf)), (a_made, .inl (cI, 6000, .inl v_made))] := hD.sub [3, 4, 0, 1, 2] (by decide) rfl
        refine lv_goto (tgt := 104) hx hb d_MM_takeStream_100 (by decide) ?_
        exact w_MM_takeStream_b104 ⟨hx, hb, hml, hown, hts, hK, hA⟩ hret hk54 ih _ _ _ _ _ _ h H locs ls (lv_sub hl [0, 1, 2, 3, 4, 5, 7] rfl) hP hD hS
set_option maxHeartbeats 4000000 in
set_option maxRecDepth 100000 in
theorem w_MM_takeStream_b160 {p : Program} {l : Launch} {e : Env} {s : State} {m : MethodId} {args : Array Value} {below : List Frame} {meth : Method} {c : Code} {Q : State → Prop} {A : Nat → Prop} {D : va_G} {cI cL cZ : ClassId} {a_this : Nat} {a_in : Nat} {a_length : Nat} {a_symbolOf : Nat} {a_made : Nat} {o_out : Nat} {o_counts : Nat} {o_draft : Nat} {o_knot : Nat} {o_inSum : Nat} {o_halved : Nat} {o_weight : Nat} {o_points : Nat} {o_cutOff : Nat} {o_had : Nat} {o_placeOf : Nat} {i_inLong : Int32} {i_goesOn : Int32} {i_outLong : Int32} {i_greatest : Int32} {i_knots : Int32} {i_bitsMade : Int32} {i_weights : Int32} {i_order : Int32} {i_bit : Int32} {i_bitEnd : Int32} {v_in : Nat → Int32} {v_length : Nat → Int32} {v_symbolOf : Nat → Int32} {l1 : Int32} {l2 : Int32} {l3 : Int32} {l4 : Int32} {N : Nat} {res : Int32 × (Nat → Int32)}  (C : Cx p s m args c b_MM_takeStream 10 "PrefixMillModel" D [(cI, .int), (cL, .long), (cZ, .boolean)] A) (hret : E_MM_takeStream p l e s m args below meth c Q A D cI cL cZ a_this a_in a_length a_symbolOf a_made o_out o_counts o_draft o_knot o_inSum o_halved o_weight o_points o_cutOff o_had o_placeOf i_inLong i_goesOn i_outLong i_greatest i_knots i_bitsMade i_weights i_order i_bit i_bitEnd v_in v_length v_symbolOf l1 l2 l3 l4 res)  : I_MM_takeStream_b160 p l e s m args below meth c Q A D cI cL cZ a_this a_in a_length a_symbolOf a_made o_out o_counts o_draft o_knot o_inSum o_halved o_weight o_points o_cutOff o_had o_placeOf i_inLong i_goesOn i_outLong i_greatest i_knots i_bitsMade i_weights i_order i_bit i_bitEnd v_in v_length v_symbolOf l1 l2 l3 l4 res (f_MM_takeStream_b160 N i_greatest v_in v_length v_symbolOf l1 l2 l3 l4 ) := by
  obtain ⟨hx, hb, hml, hown, hts, hK, hA⟩ := C
  intro l6 v_made h H locs ls hl hP hD hS
  unfold f_MM_takeStream_b160 at h
  refine lv_iload hx hb d_MM_takeStream_160 (lv_at hl 0 rfl) ?_
  refine lv_if_ne (tgt := 169) hx hb d_MM_takeStream_162 (by decide) (fun c_1 => ?_) (fun c_1 => ?_)
  · replace h := if_f h c_1
    refine lv_bipush (v := (-4)) hx hb d_MM_takeStream_169 (by decide) ?_
    exact hret _ _ _ _ (-4) v_made h d_MM_takeStream_171 hP hD hS
  · replace h := if_t h c_1
    refine lv_iconst (v := 0) hx hb d_MM_takeStream_165 (by decide) ?_
    refine lv_goto (tgt := 171) hx hb d_MM_takeStream_166 (by decide) ?_
    exact hret _ _ _ _ 0 v_made h d_MM_takeStream_171 hP hD hS
set_option maxHeartbeats 4000000 in
set_option maxRecDepth 100000 in
theorem w_MM_takeStream_b54 {p : Program} {l : Launch} {e : Env} {s : State} {m : MethodId} {args : Array Value} {below : List Frame} {meth : Method} {c : Code} {Q : State → Prop} {A : Nat → Prop} {D : va_G} {cI cL cZ : ClassId} {a_this : Nat} {a_in : Nat} {a_length : Nat} {a_symbolOf : Nat} {a_made : Nat} {o_out : Nat} {o_counts : Nat} {o_draft : Nat} {o_knot : Nat} {o_inSum : Nat} {o_halved : Nat} {o_weight : Nat} {o_points : Nat} {o_cutOff : Nat} {o_had : Nat} {o_placeOf : Nat} {i_inLong : Int32} {i_goesOn : Int32} {i_outLong : Int32} {i_greatest : Int32} {i_knots : Int32} {i_bitsMade : Int32} {i_weights : Int32} {i_order : Int32} {i_bit : Int32} {i_bitEnd : Int32} {v_in : Nat → Int32} {v_length : Nat → Int32} {v_symbolOf : Nat → Int32} {l1 : Int32} {l2 : Int32} {l3 : Int32} {l4 : Int32} {N : Nat} {res : Int32 × (Nat → Int32)}  (C : Cx p s m args c b_MM_takeStream 10 "PrefixMillModel" D [(cI, .int), (cL, .long), (cZ, .boolean)] A) (hret : E_MM_takeStream p l e s m args below meth c Q A D cI cL cZ a_this a_in a_length a_symbolOf a_made o_out o_counts o_draft o_knot o_inSum o_halved o_weight o_points o_cutOff o_had o_placeOf i_inLong i_goesOn i_outLong i_greatest i_knots i_bitsMade i_weights i_order i_bit i_bitEnd v_in v_length v_symbolOf l1 l2 l3 l4 res)  : ∀ z : Nat, I_MM_takeStream_b54 p l e s m args below meth c Q A D cI cL cZ a_this a_in a_length a_symbolOf a_made o_out o_counts o_draft o_knot o_inSum o_halved o_weight o_points o_cutOff o_had o_placeOf i_inLong i_goesOn i_outLong i_greatest i_knots i_bitsMade i_weights i_order i_bit i_bitEnd v_in v_length v_symbolOf l1 l2 l3 l4 res (f_MM_takeStream_b54 N i_greatest v_in v_length v_symbolOf l1 l2 l3 l4  z) := by
  obtain ⟨hx, hb, hml, hown, hts, hK, hA⟩ := C
  intro z
  induction z with
  | zero => intro l6 l7 v_made h; cases h
  | succ z ih =>
    intro l6 l7 v_made h H locs ls hl hP hD hS
    refine lv_iload hx hb d_MM_takeStream_54 (lv_at hl 5 rfl) ?_
    refine lv_iload_n hx hb d_MM_takeStream_56 rfl (lv_at hl 2 rfl) ?_
    refine lv_icmp_ge (tgt := 160) hx hb d_MM_takeStream_57 (by decide) (fun c_1 => ?_) (fun c_1 => ?_)
    · replace h := if_t h c_1
      exact w_MM_takeStream_b160 ⟨hx, hb, hml, hown, hts, hK, hA⟩ hret  _ _ h H locs ls (lv_sub hl [4] rfl) hP hD hS
    · replace h := if_f h c_1
      refine lv_iconst (v := 0) hx hb d_MM_takeStream_60 (by decide) ?_
      refine lv_istore (lv' := [(8, .int 0), (0, .ref a_this), (1, .int l1), (3, .int l3), (4, .int l4), (6, .int l6), (7, .int l7)]) hx hb d_MM_takeStream_61 hl (by decide) rfl (fun ls hl => ?_)
      refine lv_iconst (v := 1) hx hb d_MM_takeStream_63 (by decide) ?_
      refine lv_istore (lv' := [(9, .int 1), (8, .int 0), (0, .ref a_this), (1, .int l1), (3, .int l3), (4, .int l4), (6, .int l6), (7, .int l7)]) hx hb d_MM_takeStream_64 hl (by decide) rfl (fun ls hl => ?_)
      exact w_MM_takeStream_b66 ⟨hx, hb, hml, hown, hts, hK, hA⟩ hret ih N _ _ _ _ _ h H locs ls (lv_sub hl [2, 3, 4, 5, 6, 7, 1, 0] rfl) hP hD hS
set_option maxHeartbeats 4000000 in
set_option maxRecDepth 100000 in
theorem w_MM_takeStream_b42 {p : Program} {l : Launch} {e : Env} {s : State} {m : MethodId} {args : Array Value} {below : List Frame} {meth : Method} {c : Code} {Q : State → Prop} {A : Nat → Prop} {D : va_G} {cI cL cZ : ClassId} {a_this : Nat} {a_in : Nat} {a_length : Nat} {a_symbolOf : Nat} {a_made : Nat} {o_out : Nat} {o_counts : Nat} {o_draft : Nat} {o_knot : Nat} {o_inSum : Nat} {o_halved : Nat} {o_weight : Nat} {o_points : Nat} {o_cutOff : Nat} {o_had : Nat} {o_placeOf : Nat} {i_inLong : Int32} {i_goesOn : Int32} {i_outLong : Int32} {i_greatest : Int32} {i_knots : Int32} {i_bitsMade : Int32} {i_weights : Int32} {i_order : Int32} {i_bit : Int32} {i_bitEnd : Int32} {v_in : Nat → Int32} {v_length : Nat → Int32} {v_symbolOf : Nat → Int32} {l1 : Int32} {l2 : Int32} {l3 : Int32} {l4 : Int32} {N : Nat} {res : Int32 × (Nat → Int32)}  (C : Cx p s m args c b_MM_takeStream 10 "PrefixMillModel" D [(cI, .int), (cL, .long), (cZ, .boolean)] A) (hret : E_MM_takeStream p l e s m args below meth c Q A D cI cL cZ a_this a_in a_length a_symbolOf a_made o_out o_counts o_draft o_knot o_inSum o_halved o_weight o_points o_cutOff o_had o_placeOf i_inLong i_goesOn i_outLong i_greatest i_knots i_bitsMade i_weights i_order i_bit i_bitEnd v_in v_length v_symbolOf l1 l2 l3 l4 res)  : I_MM_takeStream_b42 p l e s m args below meth c Q A D cI cL cZ a_this a_in a_length a_symbolOf a_made o_out o_counts o_draft o_knot o_inSum o_halved o_weight o_points o_cutOff o_had o_placeOf i_inLong i_goesOn i_outLong i_greatest i_knots i_bitsMade i_weights i_order i_bit i_bitEnd v_in v_length v_symbolOf l1 l2 l3 l4 res (f_MM_takeStream_b42 N i_greatest v_in v_length v_symbolOf l1 l2 l3 l4 ) := by
  obtain ⟨hx, hb, hml, hown, hts, hK, hA⟩ := C
  intro l5 v_made h H locs ls hl hP hD hS
  unfold f_MM_takeStream_b42 at h
  refine lv_iload hx hb d_MM_takeStream_42 (lv_at hl 4 rfl) ?_
  refine lv_bipush (v := 8) hx hb d_MM_takeStream_44 (by decide) ?_
  refine lv_iload_n hx hb d_MM_takeStream_46 rfl (lv_at hl 1 rfl) ?_
  refine lv_imul hx hb d_MM_takeStream_47 ?_
  refine lv_isub hx hb d_MM_takeStream_48 ?_
  refine lv_topi (fun l6_1 el6_1 => ?_)
  replace h := nm_s h el6_1
  refine lv_istore (lv' := [(6, .int l6_1), (0, .ref a_this), (1, .int l1), (3, .int l3), (4, .int l4), (5, .int l5)]) hx hb d_MM_takeStream_49 hl (by decide) rfl (fun ls hl => ?_)
  refine lv_iconst (v := 0) hx hb d_MM_takeStream_51 (by decide) ?_
  refine lv_istore (lv' := [(7, .int 0), (6, .int l6_1), (0, .ref a_this), (1, .int l1), (3, .int l3), (4, .int l4), (5, .int l5)]) hx hb d_MM_takeStream_52 hl (by decide) rfl (fun ls hl => ?_)
  exact w_MM_takeStream_b54 ⟨hx, hb, hml, hown, hts, hK, hA⟩ hret  N _ _ _ h H locs ls (lv_sub hl [2, 3, 4, 5, 1, 0] rfl) hP hD hS
set_option maxHeartbeats 4000000 in
set_option maxRecDepth 100000 in
theorem w_MM_takeStream_b27 {p : Program} {l : Launch} {e : Env} {s : State} {m : MethodId} {args : Array Value} {below : List Frame} {meth : Method} {c : Code} {Q : State → Prop} {A : Nat → Prop} {D : va_G} {cI cL cZ : ClassId} {a_this : Nat} {a_in : Nat} {a_length : Nat} {a_symbolOf : Nat} {a_made : Nat} {o_out : Nat} {o_counts : Nat} {o_draft : Nat} {o_knot : Nat} {o_inSum : Nat} {o_halved : Nat} {o_weight : Nat} {o_points : Nat} {o_cutOff : Nat} {o_had : Nat} {o_placeOf : Nat} {i_inLong : Int32} {i_goesOn : Int32} {i_outLong : Int32} {i_greatest : Int32} {i_knots : Int32} {i_bitsMade : Int32} {i_weights : Int32} {i_order : Int32} {i_bit : Int32} {i_bitEnd : Int32} {v_in : Nat → Int32} {v_length : Nat → Int32} {v_symbolOf : Nat → Int32} {l1 : Int32} {l2 : Int32} {l3 : Int32} {l4 : Int32} {N : Nat} {res : Int32 × (Nat → Int32)}  (C : Cx p s m args c b_MM_takeStream 10 "PrefixMillModel" D [(cI, .int), (cL, .long), (cZ, .boolean)] A) (hret : E_MM_takeStream p l e s m args below meth c Q A D cI cL cZ a_this a_in a_length a_symbolOf a_made o_out o_counts o_draft o_knot o_inSum o_halved o_weight o_points o_cutOff o_had o_placeOf i_inLong i_goesOn i_outLong i_greatest i_knots i_bitsMade i_weights i_order i_bit i_bitEnd v_in v_length v_symbolOf l1 l2 l3 l4 res)  : ∀ z : Nat, I_MM_takeStream_b27 p l e s m args below meth c Q A D cI cL cZ a_this a_in a_length a_symbolOf a_made o_out o_counts o_draft o_knot o_inSum o_halved o_weight o_points o_cutOff o_had o_placeOf i_inLong i_goesOn i_outLong i_greatest i_knots i_bitsMade i_weights i_order i_bit i_bitEnd v_in v_length v_symbolOf l1 l2 l3 l4 res (f_MM_takeStream_b27 N i_greatest v_in v_length v_symbolOf l1 l2 l3 l4  z) := by
  obtain ⟨hx, hb, hml, hown, hts, hK, hA⟩ := C
  intro z
  induction z with
  | zero => intro l5 v_made h; cases h
  | succ z ih =>
    intro l5 v_made h H locs ls hl hP hD hS
    refine lv_aload_n hx hb d_MM_takeStream_27 rfl (lv_at hl 0 rfl) ?_
    refine lv_iload hx hb d_MM_takeStream_28 (lv_at hl 4 rfl) ?_
    obtain ⟨r_1, hc_2, h⟩ := bd1_s h
    have hPc := hP.sub (ws' := [(a_this, .inr (1, [.ref a_in, .int i_inLong, .int i_goesOn, .ref o_out, .int i_outLong, .ref o_counts, .int i_greatest, .ref a_length, .ref a_symbolOf, .ref o_draft, .ref o_knot, .ref o_inSum, .int i_knots, .ref o_halved, .ref a_made, .int i_bitsMade, .ref o_weight, .int i_weights, .int i_order, .ref o_points, .ref o_cutOff, .ref o_had, .ref o_placeOf, .int i_bit, .int i_bitEnd])), (a_in, .inl (cI, 6000, .inl v_in))]) [0, 1] rfl
    have hDc := hD.sub (ws' := [(a_this, .inr (1, [.ref a_in, .int i_inLong, .int i_goesOn, .ref o_out, .int i_outLong, .ref o_counts, .int i_greatest, .ref a_length, .ref a_symbolOf, .ref o_draft, .ref o_knot, .ref o_inSum, .int i_knots, .ref o_halved, .ref a_made, .int i_bitsMade, .ref o_weight, .int i_weights, .int i_order, .ref o_points, .ref o_cutOff, .ref o_had, .ref o_placeOf, .int i_bit, .int i_bitEnd])), (a_in, .inl (cI, 6000, .inl v_in))]) [0, 1] (by decide) rfl
    have hFc := va_free (wc := [(a_this, .inr (1, [.ref a_in, .int i_inLong, .int i_goesOn, .ref o_out, .int i_outLong, .ref o_counts, .int i_greatest, .ref a_length, .ref a_symbolOf, .ref o_draft, .ref o_knot, .ref o_inSum, .int i_knots, .ref o_halved, .ref a_made, .int i_bitsMade, .ref o_weight, .int i_weights, .int i_order, .ref o_points, .ref o_cutOff, .ref o_had, .ref o_placeOf, .int i_bit, .int i_bitEnd])), (a_in, .inl (cI, 6000, .inl v_in))]) hD hS hA [0, 1] rfl
    refine va_calli (va_runV (As := [.int l5]) (rest := []) ⟨hx, hb, hml, hown, hts⟩ (c_MM_bitAt l D cI cL cZ H.size N a_this a_in o_out o_counts a_length a_symbolOf o_draft o_knot o_inSum o_halved a_made o_weight o_points o_cutOff o_had o_placeOf i_inLong i_goesOn i_outLong i_greatest i_knots i_bitsMade i_weights i_order i_bit i_bitEnd v_in l5 r_1 hc_2) ⟨(my_cb 1 hts m_947 rfl rfl (hts _ m_76) (hts _ m_944) (by decide +kernel) ⟨Nat.le_of_ble_eq_true rfl, Nat.le_of_ble_eq_true rfl⟩), hts _ m_946, hts _ m_41⟩ ⟨fun a U g mk q => by obtain ⟨q0, q1, qP, qK, qD⟩ := q; exact ⟨q0, q1, qP, va_K.moved (u := U) (U := U.calling g mk a) (Vm.Alike.refl U.vm) qK, qD⟩, va_recv hK hPc (ci := 1) (q0 := 0) rfl rfl, fun U hU hW => ⟨rfl, by rw [hU], by rw [hU]; exact hPc, va_K.moved hW.alike hK, hDc.weaken (fun _ _ _ _ => trivial)⟩⟩ rfl rfl hl.1 rfl (lv_room (Nat.le_of_ble_eq_true rfl)) d_MM_takeStream_30 ⟨Nat.zero_le _, Nat.zero_le _⟩) hS (fun q _ h => hFc q h) hFc (fun rr u t H1 locs ht hvm hw hB hz1 hk1 hS => ?_)
    obtain ⟨hP1, hK1, hD1⟩ := hB
    rw [ht] at hP1
    subst hw
    obtain ⟨hP, hD⟩ := va_join (wr := [(a_length, .inl (cI, 256, .inl v_length)), (a_symbolOf, .inl (cI, 2048, .inl v_symbolOf)), (a_made, .inl (cI, 6000, .inl v_made))]) (w1 := [(a_this, .inr (1, [.ref a_in, .int i_inLong, .int i_goesOn, .ref o_out, .int i_outLong, .ref o_counts, .int i_greatest, .ref a_length, .ref a_symbolOf, .ref o_draft, .ref o_knot, .ref o_inSum, .int i_knots, .ref o_halved, .ref a_made, .int i_bitsMade, .ref o_weight, .int i_weights, .int i_order, .ref o_points, .ref o_cutOff, .ref o_had, .ref o_placeOf, .int i_bit, .int i_bitEnd])), (a_in, .inl (cI, 6000, .inl v_in))]) hP hD [0, 1] [2, 3, 4] rfl rfl (by decide) (by decide) hk1 hFc hP1 hD1
    clear hPc hDc hFc hk1 hP1 hD1 hK1
    generalize H1 = H at hP hS ⊢
    have hP : va_P D classes [(a_this, .inr (1, [.ref a_in, .int i_inLong, .int i_goesOn, .ref o_out, .int i_outLong, .ref o_counts, .int i_greatest, .ref a_length, .ref a_symbolOf, .ref o_draft, .ref o_knot, .ref o_inSum, .int i_knots, .ref o_halved, .ref a_made, .int i_bitsMade, .ref o_weight, .int i_weights, .int i_order, .ref o_points, .ref o_cutOff, .ref o_had, .ref o_placeOf, .int i_bit, .int i_bitEnd])), (a_in, .inl (cI, 6000, .inl v_in)), (a_length, .inl (cI, 256, .inl v_length)), (a_symbolOf, .inl (cI, 2048, .inl v_symbolOf)), (a_made, .inl (cI, 6000, .inl v_made))] H := hP.sub [3, 4, 0, 1, 2] rfl
    have hD : va_D A [(a_this, .inr (1, [.ref a_in, .int i_inLong, .int i_goesOn, .ref o_out, .int i_outLong, .ref o_counts, .int i_greatest, .ref a_length, .ref a_symbolOf, .ref o_draft, .ref o_knot, .ref o_inSum, .int i_knots, .ref o_halved, .ref a_made, .int i_bitsMade, .ref o_weight, .int i_weights, .int i_order, .ref o_points, .ref o_cutOff, .ref o_had, .ref o_placeOf, .int i_bit, .int i_bitEnd])), (a_in, .inl (cI, 6000, .inl v_in)), (a_length, .inl (cI, 256, .inl v_length)), (a_symbolOf, .inl (cI, 2048, .inl v_symbolOf)), (a_made, .inl (cI, 6000, .inl v_made))] := hD.sub [3, 4, 0, 1, 2] (by decide) rfl
    refine lv_if_ne (tgt := 42) hx hb d_MM_takeStream_33 (by decide) (fun c_3 => ?_) (fun c_3 => ?_)
    · replace h := if_f h c_3
      exact w_MM_takeStream_b42 ⟨hx, hb, hml, hown, hts, hK, hA⟩ hret  _ _ h H locs ls (lv_sub hl [0, 1, 2, 3, 4] rfl) hP hD hS
    · replace h := if_t h c_3
      obtain ⟨l5_4, el5_4⟩ : ∃ y : Int32, y = l5 + (-1) := ⟨_, rfl⟩
      replace h := nm_s h el5_4
      refine lv_iinc (v := l5_4) (lv' := [(5, .int l5_4), (0, .ref a_this), (1, .int l1), (3, .int l3), (4, .int l4)]) hx hb d_MM_takeStream_36 hl (k := 4) rfl (by rw [el5_4]; rfl) (by decide) rfl (fun ls hl => ?_)
      refine lv_goto (tgt := 27) hx hb d_MM_takeStream_39 (by decide) ?_
      exact ih _ _ h H locs ls (lv_sub hl [1, 2, 3, 4, 0] rfl) hP hD hS
set_option maxHeartbeats 4000000 in
set_option maxRecDepth 100000 in
theorem w_MM_takeStream_b0 {p : Program} {l : Launch} {e : Env} {s : State} {m : MethodId} {args : Array Value} {below : List Frame} {meth : Method} {c : Code} {Q : State → Prop} {A : Nat → Prop} {D : va_G} {cI cL cZ : ClassId} {a_this : Nat} {a_in : Nat} {a_length : Nat} {a_symbolOf : Nat} {a_made : Nat} {o_out : Nat} {o_counts : Nat} {o_draft : Nat} {o_knot : Nat} {o_inSum : Nat} {o_halved : Nat} {o_weight : Nat} {o_points : Nat} {o_cutOff : Nat} {o_had : Nat} {o_placeOf : Nat} {i_inLong : Int32} {i_goesOn : Int32} {i_outLong : Int32} {i_greatest : Int32} {i_knots : Int32} {i_bitsMade : Int32} {i_weights : Int32} {i_order : Int32} {i_bit : Int32} {i_bitEnd : Int32} {v_in : Nat → Int32} {v_length : Nat → Int32} {v_symbolOf : Nat → Int32} {l1 : Int32} {l2 : Int32} {l3 : Int32} {l4 : Int32} {N : Nat} {res : Int32 × (Nat → Int32)}  (C : Cx p s m args c b_MM_takeStream 10 "PrefixMillModel" D [(cI, .int), (cL, .long), (cZ, .boolean)] A) (hret : E_MM_takeStream p l e s m args below meth c Q A D cI cL cZ a_this a_in a_length a_symbolOf a_made o_out o_counts o_draft o_knot o_inSum o_halved o_weight o_points o_cutOff o_had o_placeOf i_inLong i_goesOn i_outLong i_greatest i_knots i_bitsMade i_weights i_order i_bit i_bitEnd v_in v_length v_symbolOf l1 l2 l3 l4 res)  : I_MM_takeStream_b0 p l e s m args below meth c Q A D cI cL cZ a_this a_in a_length a_symbolOf a_made o_out o_counts o_draft o_knot o_inSum o_halved o_weight o_points o_cutOff o_had o_placeOf i_inLong i_goesOn i_outLong i_greatest i_knots i_bitsMade i_weights i_order i_bit i_bitEnd v_in v_length v_symbolOf l1 l2 l3 l4 res (f_MM_takeStream N i_greatest v_in v_length v_symbolOf l1 l2 l3 l4 ) := by
  obtain ⟨hx, hb, hml, hown, hts, hK, hA⟩ := C
  intro v_made h H locs ls hl hP hD hS
  unfold f_MM_takeStream at h
  refine lv_iload_n hx hb d_MM_takeStream_0 rfl (lv_at hl 1 rfl) ?_
  refine lv_iload_n hx hb d_MM_takeStream_1 rfl (lv_at hl 2 rfl) ?_
  refine lv_icmp_ge (tgt := 16) hx hb d_MM_takeStream_2 (by decide) (fun c_1 => ?_) (fun c_1 => ?_)
  · replace h := if_t h c_1
    exact w_MM_takeStream_b16 ⟨hx, hb, hml, hown, hts, hK, hA⟩ hret  _ h H locs ls (lv_sub hl [] rfl) hP hD hS
  · replace h := if_f h c_1
    refine lv_aload_n hx hb d_MM_takeStream_5 rfl (lv_at hl 0 rfl) ?_
    refine va_get hx hb hts in_MM hown hK hP 0 rfl rfl 0 (by decide) (hts _ m_753) (fun _ h9 => h9) rfl d_MM_takeStream_6 ?_
    refine lv_iload_n hx hb d_MM_takeStream_9 rfl (lv_at hl 2 rfl) ?_
    refine lv_iconst (v := 1) hx hb d_MM_takeStream_10 (by decide) ?_
    refine lv_isub hx hb d_MM_takeStream_11 ?_
    obtain ⟨g_2, h⟩ := ck_s h
    refine va_iald hx hb hK hP 1 0 rfl rfl (inb_s g_2) d_MM_takeStream_12 ?_
    refine lv_if_ne (tgt := 19) hx hb d_MM_takeStream_13 (by decide) (fun c_3 => ?_) (fun c_3 => ?_)
    · replace h := if_f h c_3
      refine lv_bipush (v := 8) hx hb d_MM_takeStream_19 (by decide) ?_
      refine lv_iload_n hx hb d_MM_takeStream_21 rfl (lv_at hl 2 rfl) ?_
      refine lv_imul hx hb d_MM_takeStream_22 ?_
      refine lv_iconst (v := 1) hx hb d_MM_takeStream_23 (by decide) ?_
      refine lv_isub hx hb d_MM_takeStream_24 ?_
      refine lv_topi (fun l5_4 el5_4 => ?_)
      replace h := nm_s h el5_4
      refine lv_istore (lv' := [(5, .int l5_4), (0, .ref a_this), (1, .int l1), (2, .int l2), (3, .int l3), (4, .int l4)]) hx hb d_MM_takeStream_25 hl (by decide) rfl (fun ls hl => ?_)
      exact w_MM_takeStream_b27 ⟨hx, hb, hml, hown, hts, hK, hA⟩ hret  N _ _ h H locs ls (lv_sub hl [1, 2, 4, 5, 0] rfl) hP hD hS
    · replace h := if_t h c_3
      exact w_MM_takeStream_b16 ⟨hx, hb, hml, hown, hts, hK, hA⟩ hret  _ h H locs ls (lv_sub hl [] rfl) hP hD hS
set_option maxHeartbeats 4000000 in
set_option maxRecDepth 100000 in
theorem c_MM_takeStream (l : Launch) (D : va_G) (cI cL cZ : ClassId) (sz N : Nat) (a_this : Nat) (a_in : Nat) (a_length : Nat) (a_symbolOf : Nat) (a_made : Nat) (o_out : Nat) (o_counts : Nat) (o_draft : Nat) (o_knot : Nat) (o_inSum : Nat) (o_halved : Nat) (o_weight : Nat) (o_points : Nat) (o_cutOff : Nat) (o_had : Nat) (o_placeOf : Nat) (i_inLong : Int32) (i_goesOn : Int32) (i_outLong : Int32) (i_greatest : Int32) (i_knots : Int32) (i_bitsMade : Int32) (i_weights : Int32) (i_order : Int32) (i_bit : Int32) (i_bitEnd : Int32) (v_in : Nat → Int32) (v_length : Nat → Int32) (v_symbolOf : Nat → Int32) (v_made : Nat → Int32) (l1 : Int32) (l2 : Int32) (l3 : Int32) (l4 : Int32) (rv : Int32) (v_made' : Nat → Int32) (h : f_MM_takeStream N i_greatest v_in v_length v_symbolOf l1 l2 l3 l4 v_made = some (rv, v_made')) : Met l ({ cls := "PrefixMillModel", name := "takeStream", desc := "(IIII)I" } : Jvm.MethodName) ws_MM_takeStream R_MM_takeStream (va_Pc [.ref a_this, .int l1, .int l2, .int l3, .int l4] (fun U => U.heap.size = sz ∧ va_P D classes [(a_this, .inr (1, [.ref a_in, .int i_inLong, .int i_goesOn, .ref o_out, .int i_outLong, .ref o_counts, .int i_greatest, .ref a_length, .ref a_symbolOf, .ref o_draft, .ref o_knot, .ref o_inSum, .int i_knots, .ref o_halved, .ref a_made, .int i_bitsMade, .ref o_weight, .int i_weights, .int i_order, .ref o_points, .ref o_cutOff, .ref o_had, .ref o_placeOf, .int i_bit, .int i_bitEnd])), (a_in, .inl (cI, 6000, .inl v_in)), (a_length, .inl (cI, 256, .inl v_length)), (a_symbolOf, .inl (cI, 2048, .inl v_symbolOf)), (a_made, .inl (cI, 6000, .inl v_made))] U.heap ∧ va_K D classes [(cI, .int), (cL, .long), (cZ, .boolean)] U ∧ va_D (fun _ => True) [(a_this, .inr (1, [.ref a_in, .int i_inLong, .int i_goesOn, .ref o_out, .int i_outLong, .ref o_counts, .int i_greatest, .ref a_length, .ref a_symbolOf, .ref o_draft, .ref o_knot, .ref o_inSum, .int i_knots, .ref o_halved, .ref a_made, .int i_bitsMade, .ref o_weight, .int i_weights, .int i_order, .ref o_points, .ref o_cutOff, .ref o_had, .ref o_placeOf, .int i_bit, .int i_bitEnd])), (a_in, .inl (cI, 6000, .inl v_in)), (a_length, .inl (cI, 256, .inl v_length)), (a_symbolOf, .inl (cI, 2048, .inl v_symbolOf)), (a_made, .inl (cI, 6000, .inl v_made))])) (va_Qi (fun (r0 : Int32) (_ : Unit) => rv = r0) (fun _ t => va_P D classes [(a_this, .inr (1, [.ref a_in, .int i_inLong, .int i_goesOn, .ref o_out, .int i_outLong, .ref o_counts, .int i_greatest, .ref a_length, .ref a_symbolOf, .ref o_draft, .ref o_knot, .ref o_inSum, .int i_knots, .ref o_halved, .ref a_made, .int i_bitsMade, .ref o_weight, .int i_weights, .int i_order, .ref o_points, .ref o_cutOff, .ref o_had, .ref o_placeOf, .int i_bit, .int i_bitEnd])), (a_in, .inl (cI, 6000, .inl v_in)), (a_length, .inl (cI, 256, .inl v_length)), (a_symbolOf, .inl (cI, 2048, .inl v_symbolOf)), (a_made, .inl (cI, 6000, .inl v_made'))] t.heap ∧ va_K D classes [(cI, .int), (cL, .long), (cZ, .boolean)] t ∧ va_D (va_A [(a_this, .inr (1, [.ref a_in, .int i_inLong, .int i_goesOn, .ref o_out, .int i_outLong, .ref o_counts, .int i_greatest, .ref a_length, .ref a_symbolOf, .ref o_draft, .ref o_knot, .ref o_inSum, .int i_knots, .ref o_halved, .ref a_made, .int i_bitsMade, .ref o_weight, .int i_weights, .int i_order, .ref o_points, .ref o_cutOff, .ref o_had, .ref o_placeOf, .int i_bit, .int i_bitEnd])), (a_in, .inl (cI, 6000, .inl v_in)), (a_length, .inl (cI, 256, .inl v_length)), (a_symbolOf, .inl (cI, 2048, .inl v_symbolOf)), (a_made, .inl (cI, 6000, .inl v_made))] sz) [(a_this, .inr (1, [.ref a_in, .int i_inLong, .int i_goesOn, .ref o_out, .int i_outLong, .ref o_counts, .int i_greatest, .ref a_length, .ref a_symbolOf, .ref o_draft, .ref o_knot, .ref o_inSum, .int i_knots, .ref o_halved, .ref a_made, .int i_bitsMade, .ref o_weight, .int i_weights, .int i_order, .ref o_points, .ref o_cutOff, .ref o_had, .ref o_placeOf, .int i_bit, .int i_bitEnd])), (a_in, .inl (cI, 6000, .inl v_in)), (a_length, .inl (cI, 256, .inl v_length)), (a_symbolOf, .inl (cI, 2048, .inl v_symbolOf)), (a_made, .inl (cI, 6000, .inl v_made'))]) (va_A [(a_this, .inr (1, [.ref a_in, .int i_inLong, .int i_goesOn, .ref o_out, .int i_outLong, .ref o_counts, .int i_greatest, .ref a_length, .ref a_symbolOf, .ref o_draft, .ref o_knot, .ref o_inSum, .int i_knots, .ref o_halved, .ref a_made, .int i_bitsMade, .ref o_weight, .int i_weights, .int i_order, .ref o_points, .ref o_cutOff, .ref o_had, .ref o_placeOf, .int i_bit, .int i_bitEnd])), (a_in, .inl (cI, 6000, .inl v_in)), (a_length, .inl (cI, 256, .inl v_length)), (a_symbolOf, .inl (cI, 2048, .inl v_symbolOf)), (a_made, .inl (cI, 6000, .inl v_made))] sz)) 0 0 (va_A [(a_this, .inr (1, [.ref a_in, .int i_inLong, .int i_goesOn, .ref o_out, .int i_outLong, .ref o_counts, .int i_greatest, .ref a_length, .ref a_symbolOf, .ref o_draft, .ref o_knot, .ref o_inSum, .int i_knots, .ref o_halved, .ref a_made, .int i_bitsMade, .ref o_weight, .int i_weights, .int i_order, .ref o_points, .ref o_cutOff, .ref o_had, .ref o_placeOf, .int i_bit, .int i_bitEnd])), (a_in, .inl (cI, 6000, .inl v_in)), (a_length, .inl (cI, 256, .inl v_length)), (a_symbolOf, .inl (cI, 2048, .inl v_symbolOf)), (a_made, .inl (cI, 6000, .inl v_made))] sz) := by
  refine Met.ofW (cc := b_MM_takeStream) (maxL := 10) (ret := (some .int)) (by decide) rfl ?_
  intro p e s m args below meth c s₁ B hml hv
  obtain ⟨rfl, hsz, hP, hK, hD0⟩ := hv
  have hx := B.exec
  have hb := B.bytes
  have hr := B.returns
  have hts0 := atoms_spec (ws := ws_MM_takeStream) B.pre
  have hts := gd_tl hts0
  clear hts0
  have hown : s.vm.findClass "PrefixMillModel" = some m.cls := findClass_of_methodNamed B.named
  have hlocks := B.notSynchronized
  subst hsz
  have hD := hD0.self (sz := s.heap.size)
  generalize hAe : va_A [(a_this, .inr (1, [.ref a_in, .int i_inLong, .int i_goesOn, .ref o_out, .int i_outLong, .ref o_counts, .int i_greatest, .ref a_length, .ref a_symbolOf, .ref o_draft, .ref o_knot, .ref o_inSum, .int i_knots, .ref o_halved, .ref a_made, .int i_bitsMade, .ref o_weight, .int i_weights, .int i_order, .ref o_points, .ref o_cutOff, .ref o_had, .ref o_placeOf, .int i_bit, .int i_bitEnd])), (a_in, .inl (cI, 6000, .inl v_in)), (a_length, .inl (cI, 256, .inl v_length)), (a_symbolOf, .inl (cI, 2048, .inl v_symbolOf)), (a_made, .inl (cI, 6000, .inl v_made))] s.heap.size = A at hD ⊢
  have hA : ∀ q : Nat, s.heap.size ≤ q → A q := fun q h => by rw [← hAe]; exact Or.inr h
  have hS : va_S A s.heap s.heap [] := va_S.rf
  have hP : va_P D classes [(a_this, .inr (1, [.ref a_in, .int i_inLong, .int i_goesOn, .ref o_out, .int i_outLong, .ref o_counts, .int i_greatest, .ref a_length, .ref a_symbolOf, .ref o_draft, .ref o_knot, .ref o_inSum, .int i_knots, .ref o_halved, .ref a_made, .int i_bitsMade, .ref o_weight, .int i_weights, .int i_order, .ref o_points, .ref o_cutOff, .ref o_had, .ref o_placeOf, .int i_bit, .int i_bitEnd])), (a_in, .inl (cI, 6000, .inl v_in)), (a_length, .inl (cI, 256, .inl v_length)), (a_symbolOf, .inl (cI, 2048, .inl v_symbolOf)), (a_made, .inl (cI, 6000, .inl v_made))] s.heap := hP
  have hl := lv_entry ([.ref a_this, .int l1, .int l2, .int l3, .int l4]) (n := 10) (Nat.le_of_ble_eq_true rfl)
  rw [lg_entry_eq]
  generalize (lg_sl ([.ref a_this, .int l1, .int l2, .int l3, .int l4]) ++ List.replicate (10 - (lg_sl ([.ref a_this, .int l1, .int l2, .int l3, .int l4])).length) Slot.unset).toArray = ls at hl ⊢
  have hl : lv_has ls 10 [(0, .ref a_this), (1, .int l1), (2, .int l2), (3, .int l3), (4, .int l4)] := hl
  have C : Cx p s m ([.ref a_this, .int l1, .int l2, .int l3, .int l4] : List Value).toArray c b_MM_takeStream 10 "PrefixMillModel" D [(cI, .int), (cL, .long), (cZ, .boolean)] A := ⟨hx, hb, hml, hown, hts, hK, hA⟩
  refine w_MM_takeStream_b0 (res := (rv, v_made')) C ?_ _ h s.heap [] ls hl hP hD hS
  intro pc9 H9 locs9 ls9 rv9 v_made9 e9 d9 hP9 hD9 hS9
  cases e9
  exact W.iret (v := rv) hx hb hr (fun t ht hW => ⟨⟨rv, (), rfl, rfl, by rw [ht]; exact hP9, va_K.moved hW.alike hK, hD9⟩, hS9.F ht⟩) hS9.2.2 d9
abbrev b_MM_takeFour : ByteArray := prog_12_method_29_code
def ws_MM_takeFour : List Cond := .code ({ cls := "PrefixMillModel", name := "takeFour", desc := "(II)I" } : Jvm.MethodName) b_MM_takeFour 8 (some .int) :: tt
theorem d_MM_takeFour_0 : decode b_MM_takeFour 0 = .ok (.aload_n 0, 1) := by decide +kernel
theorem d_MM_takeFour_1 : decode b_MM_takeFour 1 = .ok (.getfield 56, 3) := by decide +kernel
theorem d_MM_takeFour_4 : decode b_MM_takeFour 4 = .ok (.aload_n 0, 1) := by decide +kernel
theorem d_MM_takeFour_5 : decode b_MM_takeFour 5 = .ok (.getfield 65, 3) := by decide +kernel
theorem d_MM_takeFour_8 : decode b_MM_takeFour 8 = .ok (.isub, 1) := by decide +kernel
theorem d_MM_takeFour_9 : decode b_MM_takeFour 9 = .ok (.bipush 6, 2) := by decide +kernel
theorem d_MM_takeFour_11 : decode b_MM_takeFour 11 = .ok (.if_icmp .ge 6, 3) := by decide +kernel
theorem d_MM_takeFour_14 : decode b_MM_takeFour 14 = .ok (.bipush (-2), 2) := by decide +kernel
theorem d_MM_takeFour_16 : decode b_MM_takeFour 16 = .ok (.ireturn, 1) := by decide +kernel
theorem d_MM_takeFour_17 : decode b_MM_takeFour 17 = .ok (.aload_n 0, 1) := by decide +kernel
theorem d_MM_takeFour_18 : decode b_MM_takeFour 18 = .ok (.getfield 65, 3) := by decide +kernel
theorem d_MM_takeFour_21 : decode b_MM_takeFour 21 = .ok (.bipush 6, 2) := by decide +kernel
theorem d_MM_takeFour_23 : decode b_MM_takeFour 23 = .ok (.iadd, 1) := by decide +kernel
theorem d_MM_takeFour_24 : decode b_MM_takeFour 24 = .ok (.istore_n 3, 1) := by decide +kernel
theorem d_MM_takeFour_25 : decode b_MM_takeFour 25 = .ok (.iload_n 3, 1) := by decide +kernel
theorem d_MM_takeFour_26 : decode b_MM_takeFour 26 = .ok (.istore 4, 2) := by decide +kernel
theorem d_MM_takeFour_28 : decode b_MM_takeFour 28 = .ok (.iconst 0, 1) := by decide +kernel
theorem d_MM_takeFour_29 : decode b_MM_takeFour 29 = .ok (.istore 5, 2) := by decide +kernel
theorem d_MM_takeFour_31 : decode b_MM_takeFour 31 = .ok (.iload 5, 2) := by decide +kernel
theorem d_MM_takeFour_33 : decode b_MM_takeFour 33 = .ok (.iconst 3, 1) := by decide +kernel
theorem d_MM_takeFour_34 : decode b_MM_takeFour 34 = .ok (.if_icmp .ge 49, 3) := by decide +kernel
theorem d_MM_takeFour_37 : decode b_MM_takeFour 37 = .ok (.iload 4, 2) := by decide +kernel
theorem d_MM_takeFour_39 : decode b_MM_takeFour 39 = .ok (.aload_n 0, 1) := by decide +kernel
theorem d_MM_takeFour_40 : decode b_MM_takeFour 40 = .ok (.getfield 7, 3) := by decide +kernel
theorem d_MM_takeFour_43 : decode b_MM_takeFour 43 = .ok (.aload_n 0, 1) := by decide +kernel
theorem d_MM_takeFour_44 : decode b_MM_takeFour 44 = .ok (.getfield 65, 3) := by decide +kernel
theorem d_MM_takeFour_47 : decode b_MM_takeFour 47 = .ok (.iconst 2, 1) := by decide +kernel
theorem d_MM_takeFour_48 : decode b_MM_takeFour 48 = .ok (.iload 5, 2) := by decide +kernel
theorem d_MM_takeFour_50 : decode b_MM_takeFour 50 = .ok (.imul, 1) := by decide +kernel
theorem d_MM_takeFour_51 : decode b_MM_takeFour 51 = .ok (.iadd, 1) := by decide +kernel
theorem d_MM_takeFour_52 : decode b_MM_takeFour 52 = .ok (.iaload, 1) := by decide +kernel
theorem d_MM_takeFour_53 : decode b_MM_takeFour 53 = .ok (.sipush 256, 3) := by decide +kernel
theorem d_MM_takeFour_56 : decode b_MM_takeFour 56 = .ok (.aload_n 0, 1) := by decide +kernel
theorem d_MM_takeFour_57 : decode b_MM_takeFour 57 = .ok (.getfield 7, 3) := by decide +kernel
theorem d_MM_takeFour_60 : decode b_MM_takeFour 60 = .ok (.aload_n 0, 1) := by decide +kernel
theorem d_MM_takeFour_61 : decode b_MM_takeFour 61 = .ok (.getfield 65, 3) := by decide +kernel
theorem d_MM_takeFour_64 : decode b_MM_takeFour 64 = .ok (.iconst 2, 1) := by decide +kernel
theorem d_MM_takeFour_65 : decode b_MM_takeFour 65 = .ok (.iload 5, 2) := by decide +kernel
theorem d_MM_takeFour_67 : decode b_MM_takeFour 67 = .ok (.imul, 1) := by decide +kernel
theorem d_MM_takeFour_68 : decode b_MM_takeFour 68 = .ok (.iadd, 1) := by decide +kernel
theorem d_MM_takeFour_69 : decode b_MM_takeFour 69 = .ok (.iconst 1, 1) := by decide +kernel
theorem d_MM_takeFour_70 : decode b_MM_takeFour 70 = .ok (.iadd, 1) := by decide +kernel
theorem d_MM_takeFour_71 : decode b_MM_takeFour 71 = .ok (.iaload, 1) := by decide +kernel
theorem d_MM_takeFour_72 : decode b_MM_takeFour 72 = .ok (.imul, 1) := by decide +kernel
theorem d_MM_takeFour_73 : decode b_MM_takeFour 73 = .ok (.iadd, 1) := by decide +kernel
theorem d_MM_takeFour_74 : decode b_MM_takeFour 74 = .ok (.iadd, 1) := by decide +kernel
theorem d_MM_takeFour_75 : decode b_MM_takeFour 75 = .ok (.istore 4, 2) := by decide +kernel
theorem d_MM_takeFour_77 : decode b_MM_takeFour 77 = .ok (.iinc 5 1, 3) := by decide +kernel
theorem d_MM_takeFour_80 : decode b_MM_takeFour 80 = .ok (.goto (-49), 3) := by decide +kernel
theorem d_MM_takeFour_83 : decode b_MM_takeFour 83 = .ok (.iload 4, 2) := by decide +kernel
theorem d_MM_takeFour_85 : decode b_MM_takeFour 85 = .ok (.aload_n 0, 1) := by decide +kernel
theorem d_MM_takeFour_86 : decode b_MM_takeFour 86 = .ok (.getfield 56, 3) := by decide +kernel
theorem d_MM_takeFour_89 : decode b_MM_takeFour 89 = .ok (.if_icmp .le 6, 3) := by decide +kernel
theorem d_MM_takeFour_92 : decode b_MM_takeFour 92 = .ok (.bipush (-2), 2) := by decide +kernel
theorem d_MM_takeFour_94 : decode b_MM_takeFour 94 = .ok (.ireturn, 1) := by decide +kernel
theorem d_MM_takeFour_95 : decode b_MM_takeFour 95 = .ok (.iconst 0, 1) := by decide +kernel
theorem d_MM_takeFour_96 : decode b_MM_takeFour 96 = .ok (.istore 5, 2) := by decide +kernel
theorem d_MM_takeFour_98 : decode b_MM_takeFour 98 = .ok (.iload 5, 2) := by decide +kernel
theorem d_MM_takeFour_100 : decode b_MM_takeFour 100 = .ok (.iconst 3, 1) := by decide +kernel
theorem d_MM_takeFour_101 : decode b_MM_takeFour 101 = .ok (.if_icmp .ge 75, 3) := by decide +kernel
theorem d_MM_takeFour_104 : decode b_MM_takeFour 104 = .ok (.aload_n 0, 1) := by decide +kernel
theorem d_MM_takeFour_105 : decode b_MM_takeFour 105 = .ok (.getfield 7, 3) := by decide +kernel
theorem d_MM_takeFour_108 : decode b_MM_takeFour 108 = .ok (.aload_n 0, 1) := by decide +kernel
theorem d_MM_takeFour_109 : decode b_MM_takeFour 109 = .ok (.getfield 65, 3) := by decide +kernel
theorem d_MM_takeFour_112 : decode b_MM_takeFour 112 = .ok (.iconst 2, 1) := by decide +kernel
theorem d_MM_takeFour_113 : decode b_MM_takeFour 113 = .ok (.iload 5, 2) := by decide +kernel
theorem d_MM_takeFour_115 : decode b_MM_takeFour 115 = .ok (.imul, 1) := by decide +kernel
theorem d_MM_takeFour_116 : decode b_MM_takeFour 116 = .ok (.iadd, 1) := by decide +kernel
theorem d_MM_takeFour_117 : decode b_MM_takeFour 117 = .ok (.iaload, 1) := by decide +kernel
theorem d_MM_takeFour_118 : decode b_MM_takeFour 118 = .ok (.sipush 256, 3) := by decide +kernel
theorem d_MM_takeFour_121 : decode b_MM_takeFour 121 = .ok (.aload_n 0, 1) := by decide +kernel
theorem d_MM_takeFour_122 : decode b_MM_takeFour 122 = .ok (.getfield 7, 3) := by decide +kernel
theorem d_MM_takeFour_125 : decode b_MM_takeFour 125 = .ok (.aload_n 0, 1) := by decide +kernel
theorem d_MM_takeFour_126 : decode b_MM_takeFour 126 = .ok (.getfield 65, 3) := by decide +kernel
theorem d_MM_takeFour_129 : decode b_MM_takeFour 129 = .ok (.iconst 2, 1) := by decide +kernel
theorem d_MM_takeFour_130 : decode b_MM_takeFour 130 = .ok (.iload 5, 2) := by decide +kernel
theorem d_MM_takeFour_132 : decode b_MM_takeFour 132 = .ok (.imul, 1) := by decide +kernel
theorem d_MM_takeFour_133 : decode b_MM_takeFour 133 = .ok (.iadd, 1) := by decide +kernel
theorem d_MM_takeFour_134 : decode b_MM_takeFour 134 = .ok (.iconst 1, 1) := by decide +kernel
theorem d_MM_takeFour_135 : decode b_MM_takeFour 135 = .ok (.iadd, 1) := by decide +kernel
theorem d_MM_takeFour_136 : decode b_MM_takeFour 136 = .ok (.iaload, 1) := by decide +kernel
theorem d_MM_takeFour_137 : decode b_MM_takeFour 137 = .ok (.imul, 1) := by decide +kernel
theorem d_MM_takeFour_138 : decode b_MM_takeFour 138 = .ok (.iadd, 1) := by decide +kernel
theorem d_MM_takeFour_139 : decode b_MM_takeFour 139 = .ok (.istore 6, 2) := by decide +kernel
theorem d_MM_takeFour_141 : decode b_MM_takeFour 141 = .ok (.aload_n 0, 1) := by decide +kernel
theorem d_MM_takeFour_142 : decode b_MM_takeFour 142 = .ok (.iload_n 3, 1) := by decide +kernel
theorem d_MM_takeFour_143 : decode b_MM_takeFour 143 = .ok (.iload_n 3, 1) := by decide +kernel
theorem d_MM_takeFour_144 : decode b_MM_takeFour 144 = .ok (.iload 6, 2) := by decide +kernel
theorem d_MM_takeFour_146 : decode b_MM_takeFour 146 = .ok (.iadd, 1) := by decide +kernel
theorem d_MM_takeFour_147 : decode b_MM_takeFour 147 = .ok (.iload_n 2, 1) := by decide +kernel
theorem d_MM_takeFour_148 : decode b_MM_takeFour 148 = .ok (.iload 5, 2) := by decide +kernel
theorem d_MM_takeFour_150 : decode b_MM_takeFour 150 = .ok (.iload_n 2, 1) := by decide +kernel
theorem d_MM_takeFour_151 : decode b_MM_takeFour 151 = .ok (.imul, 1) := by decide +kernel
theorem d_MM_takeFour_152 : decode b_MM_takeFour 152 = .ok (.invokevirtual 121, 3) := by decide +kernel
theorem d_MM_takeFour_155 : decode b_MM_takeFour 155 = .ok (.istore 7, 2) := by decide +kernel
theorem d_MM_takeFour_157 : decode b_MM_takeFour 157 = .ok (.iload 7, 2) := by decide +kernel
theorem d_MM_takeFour_159 : decode b_MM_takeFour 159 = .ok (.ifCond .eq 6, 3) := by decide +kernel
theorem d_MM_takeFour_162 : decode b_MM_takeFour 162 = .ok (.iload 7, 2) := by decide +kernel
theorem d_MM_takeFour_164 : decode b_MM_takeFour 164 = .ok (.ireturn, 1) := by decide +kernel
theorem d_MM_takeFour_165 : decode b_MM_takeFour 165 = .ok (.iload_n 3, 1) := by decide +kernel
theorem d_MM_takeFour_166 : decode b_MM_takeFour 166 = .ok (.iload 6, 2) := by decide +kernel
theorem d_MM_takeFour_168 : decode b_MM_takeFour 168 = .ok (.iadd, 1) := by decide +kernel
theorem d_MM_takeFour_169 : decode b_MM_takeFour 169 = .ok (.istore_n 3, 1) := by decide +kernel
theorem d_MM_takeFour_170 : decode b_MM_takeFour 170 = .ok (.iinc 5 1, 3) := by decide +kernel
theorem d_MM_takeFour_173 : decode b_MM_takeFour 173 = .ok (.goto (-75), 3) := by decide +kernel
theorem d_MM_takeFour_176 : decode b_MM_takeFour 176 = .ok (.aload_n 0, 1) := by decide +kernel
theorem d_MM_takeFour_177 : decode b_MM_takeFour 177 = .ok (.iload_n 3, 1) := by decide +kernel
theorem d_MM_takeFour_178 : decode b_MM_takeFour 178 = .ok (.aload_n 0, 1) := by decide +kernel
theorem d_MM_takeFour_179 : decode b_MM_takeFour 179 = .ok (.getfield 56, 3) := by decide +kernel
theorem d_MM_takeFour_182 : decode b_MM_takeFour 182 = .ok (.iload_n 1, 1) := by decide +kernel
theorem d_MM_takeFour_183 : decode b_MM_takeFour 183 = .ok (.iconst 3, 1) := by decide +kernel
theorem d_MM_takeFour_184 : decode b_MM_takeFour 184 = .ok (.iload_n 2, 1) := by decide +kernel
theorem d_MM_takeFour_185 : decode b_MM_takeFour 185 = .ok (.imul, 1) := by decide +kernel
theorem d_MM_takeFour_186 : decode b_MM_takeFour 186 = .ok (.isub, 1) := by decide +kernel
theorem d_MM_takeFour_187 : decode b_MM_takeFour 187 = .ok (.iconst 3, 1) := by decide +kernel
theorem d_MM_takeFour_188 : decode b_MM_takeFour 188 = .ok (.iload_n 2, 1) := by decide +kernel
theorem d_MM_takeFour_189 : decode b_MM_takeFour 189 = .ok (.imul, 1) := by decide +kernel
theorem d_MM_takeFour_190 : decode b_MM_takeFour 190 = .ok (.invokevirtual 121, 3) := by decide +kernel
theorem d_MM_takeFour_193 : decode b_MM_takeFour 193 = .ok (.ireturn, 1) := by decide +kernel
def f_MM_takeFour_b162 (N : Nat) (i_inLong : Int32) (i_goesOn : Int32) (i_greatest : Int32) (v_in : Nat → Int32) (v_length : Nat → Int32) (v_symbolOf : Nat → Int32) (l1 : Int32) (l2 : Int32)  (l7 : Int32) (v_made : Nat → Int32) : Option (Int32 × (Nat → Int32)) :=
  some (l7, v_made)
def f_MM_takeFour_b176 (N : Nat) (i_inLong : Int32) (i_goesOn : Int32) (i_greatest : Int32) (v_in : Nat → Int32) (v_length : Nat → Int32) (v_symbolOf : Nat → Int32) (l1 : Int32) (l2 : Int32)  (l3 : Int32) (v_made : Nat → Int32) : Option (Int32 × (Nat → Int32)) :=
  bd2 (f_MM_takeStream N i_greatest v_in v_length v_symbolOf l3 i_inLong (l1 - (3 * l2)) (3 * l2) v_made) fun r_1 v_made_2 =>
  some (r_1, v_made_2)
def f_MM_takeFour_b98 (N : Nat) (i_inLong : Int32) (i_goesOn : Int32) (i_greatest : Int32) (v_in : Nat → Int32) (v_length : Nat → Int32) (v_symbolOf : Nat → Int32) (l1 : Int32) (l2 : Int32)  : Nat → Int32 → Int32 → (Nat → Int32) → Option (Int32 × (Nat → Int32))
  | 0, _, _, _ => none
  | z + 1, l3, l5, v_made =>
  if 3 ≤ l5 then
  f_MM_takeFour_b176 N i_inLong i_goesOn i_greatest v_in v_length v_symbolOf l1 l2  l3 v_made
  else
  ck (inb (i_goesOn + (2 * l5)) 6000) <|
  ck (inb ((i_goesOn + (2 * l5)) + 1) 6000) <|
  nm ((v_in (Int32.toNatClampNeg (i_goesOn + (2 * l5)))) + (256 * (v_in (Int32.toNatClampNeg ((i_goesOn + (2 * l5)) + 1))))) fun l6_4 =>
  bd2 (f_MM_takeStream N i_greatest v_in v_length v_symbolOf l3 (l3 + l6_4) l2 (l5 * l2) v_made) fun r_5 v_made_6 =>
  if r_5 = 0 then
  nm (l3 + l6_4) fun l3_9 =>
  nm (l5 + 1) fun l5_10 =>
  f_MM_takeFour_b98 N i_inLong i_goesOn i_greatest v_in v_length v_symbolOf l1 l2  z l3_9 l5_10 v_made_6
  else
  f_MM_takeFour_b162 N i_inLong i_goesOn i_greatest v_in v_length v_symbolOf l1 l2  r_5 v_made_6
def f_MM_takeFour_b83 (N : Nat) (i_inLong : Int32) (i_goesOn : Int32) (i_greatest : Int32) (v_in : Nat → Int32) (v_length : Nat → Int32) (v_symbolOf : Nat → Int32) (l1 : Int32) (l2 : Int32)  (l3 : Int32) (l4 : Int32) (v_made : Nat → Int32) : Option (Int32 × (Nat → Int32)) :=
  if l4 ≤ i_inLong then
  f_MM_takeFour_b98 N i_inLong i_goesOn i_greatest v_in v_length v_symbolOf l1 l2  N l3 0 v_made
  else
  some ((-2), v_made)
def f_MM_takeFour_b31 (N : Nat) (i_inLong : Int32) (i_goesOn : Int32) (i_greatest : Int32) (v_in : Nat → Int32) (v_length : Nat → Int32) (v_symbolOf : Nat → Int32) (l1 : Int32) (l2 : Int32)  : Nat → Int32 → Int32 → Int32 → (Nat → Int32) → Option (Int32 × (Nat → Int32))
  | 0, _, _, _, _ => none
  | z + 1, l3, l4, l5, v_made =>
  if 3 ≤ l5 then
  f_MM_takeFour_b83 N i_inLong i_goesOn i_greatest v_in v_length v_symbolOf l1 l2  l3 l4 v_made
  else
  ck (inb (i_goesOn + (2 * l5)) 6000) <|
  ck (inb ((i_goesOn + (2 * l5)) + 1) 6000) <|
  nm (l4 + ((v_in (Int32.toNatClampNeg (i_goesOn + (2 * l5)))) + (256 * (v_in (Int32.toNatClampNeg ((i_goesOn + (2 * l5)) + 1)))))) fun l4_4 =>
  nm (l5 + 1) fun l5_5 =>
  f_MM_takeFour_b31 N i_inLong i_goesOn i_greatest v_in v_length v_symbolOf l1 l2  z l3 l4_4 l5_5 v_made
def f_MM_takeFour (N : Nat) (i_inLong : Int32) (i_goesOn : Int32) (i_greatest : Int32) (v_in : Nat → Int32) (v_length : Nat → Int32) (v_symbolOf : Nat → Int32) (l1 : Int32) (l2 : Int32)  (v_made : Nat → Int32) : Option (Int32 × (Nat → Int32)) :=
  if 6 ≤ (i_inLong - i_goesOn) then
  nm (i_goesOn + 6) fun l3_2 =>
  f_MM_takeFour_b31 N i_inLong i_goesOn i_greatest v_in v_length v_symbolOf l1 l2  N l3_2 l3_2 0 v_made
  else
  some ((-2), v_made)
abbrev R_MM_takeFour : Room := ({ frames := 2, cells := 0, slots := 0, locals := 50 } : Room)
def E_MM_takeFour (p : Program) (l : Launch) (e : Env) (s : State) (m : MethodId) (args : Array Value) (below : List Frame) (meth : Method) (c : Code) (Q : State → Prop) (A : Nat → Prop) (D : va_G) (cI cL cZ : ClassId) (a_this : Nat) (a_in : Nat) (a_length : Nat) (a_symbolOf : Nat) (a_made : Nat) (o_out : Nat) (o_counts : Nat) (o_draft : Nat) (o_knot : Nat) (o_inSum : Nat) (o_halved : Nat) (o_weight : Nat) (o_points : Nat) (o_cutOff : Nat) (o_had : Nat) (o_placeOf : Nat) (i_inLong : Int32) (i_goesOn : Int32) (i_outLong : Int32) (i_greatest : Int32) (i_knots : Int32) (i_bitsMade : Int32) (i_weights : Int32) (i_order : Int32) (i_bit : Int32) (i_bitEnd : Int32) (v_in : Nat → Int32) (v_length : Nat → Int32) (v_symbolOf : Nat → Int32) (l1 : Int32) (l2 : Int32) (res : Int32 × (Nat → Int32)) : Prop := ∀ (pc : Nat) (H : Heap) (locs : List Loc) (ls : Array Slot) (rv : Int32) (v_made : Nat → Int32), some (rv, v_made) = some res → decode b_MM_takeFour pc = .ok (.ireturn, 1) → va_P D classes [(a_this, .inr (1, [.ref a_in, .int i_inLong, .int i_goesOn, .ref o_out, .int i_outLong, .ref o_counts, .int i_greatest, .ref a_length, .ref a_symbolOf, .ref o_draft, .ref o_knot, .ref o_inSum, .int i_knots, .ref o_halved, .ref a_made, .int i_bitsMade, .ref o_weight, .int i_weights, .int i_order, .ref o_points, .ref o_cutOff, .ref o_had, .ref o_placeOf, .int i_bit, .int i_bitEnd])), (a_in, .inl (cI, 6000, .inl v_in)), (a_length, .inl (cI, 256, .inl v_length)), (a_symbolOf, .inl (cI, 2048, .inl v_symbolOf)), (a_made, .inl (cI, 6000, .inl v_made))] H → va_D A [(a_this, .inr (1, [.ref a_in, .int i_inLong, .int i_goesOn, .ref o_out, .int i_outLong, .ref o_counts, .int i_greatest, .ref a_length, .ref a_symbolOf, .ref o_draft, .ref o_knot, .ref o_inSum, .int i_knots, .ref o_halved, .ref a_made, .int i_bitsMade, .ref o_weight, .int i_weights, .int i_order, .ref o_points, .ref o_cutOff, .ref o_had, .ref o_placeOf, .int i_bit, .int i_bitEnd])), (a_in, .inl (cI, 6000, .inl v_in)), (a_length, .inl (cI, 256, .inl v_length)), (a_symbolOf, .inl (cI, 2048, .inl v_symbolOf)), (a_made, .inl (cI, 6000, .inl v_made))] → va_S A s.heap H locs → W p l e R_MM_takeFour s m args below meth c H locs 0 0 Q (F0 m pc ls [.int rv])
def I_MM_takeFour_b162 (p : Program) (l : Launch) (e : Env) (s : State) (m : MethodId) (args : Array Value) (below : List Frame) (meth : Method) (c : Code) (Q : State → Prop) (A : Nat → Prop) (D : va_G) (cI cL cZ : ClassId) (a_this : Nat) (a_in : Nat) (a_length : Nat) (a_symbolOf : Nat) (a_made : Nat) (o_out : Nat) (o_counts : Nat) (o_draft : Nat) (o_knot : Nat) (o_inSum : Nat) (o_halved : Nat) (o_weight : Nat) (o_points : Nat) (o_cutOff : Nat) (o_had : Nat) (o_placeOf : Nat) (i_inLong : Int32) (i_goesOn : Int32) (i_outLong : Int32) (i_greatest : Int32) (i_knots : Int32) (i_bitsMade : Int32) (i_weights : Int32) (i_order : Int32) (i_bit : Int32) (i_bitEnd : Int32) (v_in : Nat → Int32) (v_length : Nat → Int32) (v_symbolOf : Nat → Int32) (l1 : Int32) (l2 : Int32) (res : Int32 × (Nat → Int32)) (kf : Int32 → (Nat → Int32) → Option (Int32 × (Nat → Int32))) : Prop := ∀ (l7 : Int32) (v_made : Nat → Int32), kf l7 v_made = some res → ∀ (H : Heap) (locs : List Loc) (ls : Array Slot), lv_has ls 8 [(7, .int l7)] → va_P D classes [(a_this, .inr (1, [.ref a_in, .int i_inLong, .int i_goesOn, .ref o_out, .int i_outLong, .ref o_counts, .int i_greatest, .ref a_length, .ref a_symbolOf, .ref o_draft, .ref o_knot, .ref o_inSum, .int i_knots, .ref o_halved, .ref a_made, .int i_bitsMade, .ref o_weight, .int i_weights, .int i_order, .ref o_points, .ref o_cutOff, .ref o_had, .ref o_placeOf, .int i_bit, .int i_bitEnd])), (a_in, .inl (cI, 6000, .inl v_in)), (a_length, .inl (cI, 256, .inl v_length)), (a_symbolOf, .inl (cI, 2048, .inl v_symbolOf)), (a_made, .inl (cI, 6000, .inl v_made))] H → va_D A [(a_this, .inr (1, [.ref a_in, .int i_inLong, .int i_goesOn, .ref o_out, .int i_outLong, .ref o_counts, .int i_greatest, .ref a_length, .ref a_symbolOf, .ref o_draft, .ref o_knot, .ref o_inSum, .int i_knots, .ref o_halved, .ref a_made, .int i_bitsMade, .ref o_weight, .int i_weights, .int i_order, .ref o_points, .ref o_cutOff, .ref o_had, .ref o_placeOf, .int i_bit, .int i_bitEnd])), (a_in, .inl (cI, 6000, .inl v_in)), (a_length, .inl (cI, 256, .inl v_length)), (a_symbolOf, .inl (cI, 2048, .inl v_symbolOf)), (a_made, .inl (cI, 6000, .inl v_made))] → va_S A s.heap H locs → W p l e R_MM_takeFour s m args below meth c H locs 0 0 Q (F0 m 162 ls [])
def I_MM_takeFour_b176 (p : Program) (l : Launch) (e : Env) (s : State) (m : MethodId) (args : Array Value) (below : List Frame) (meth : Method) (c : Code) (Q : State → Prop) (A : Nat → Prop) (D : va_G) (cI cL cZ : ClassId) (a_this : Nat) (a_in : Nat) (a_length : Nat) (a_symbolOf : Nat) (a_made : Nat) (o_out : Nat) (o_counts : Nat) (o_draft : Nat) (o_knot : Nat) (o_inSum : Nat) (o_halved : Nat) (o_weight : Nat) (o_points : Nat) (o_cutOff : Nat) (o_had : Nat) (o_placeOf : Nat) (i_inLong : Int32) (i_goesOn : Int32) (i_outLong : Int32) (i_greatest : Int32) (i_knots : Int32) (i_bitsMade : Int32) (i_weights : Int32) (i_order : Int32) (i_bit : Int32) (i_bitEnd : Int32) (v_in : Nat → Int32) (v_length : Nat → Int32) (v_symbolOf : Nat → Int32) (l1 : Int32) (l2 : Int32) (res : Int32 × (Nat → Int32)) (kf : Int32 → (Nat → Int32) → Option (Int32 × (Nat → Int32))) : Prop := ∀ (l3 : Int32) (v_made : Nat → Int32), kf l3 v_made = some res → ∀ (H : Heap) (locs : List Loc) (ls : Array Slot), lv_has ls 8 [(0, .ref a_this), (1, .int l1), (2, .int l2), (3, .int l3)] → va_P D classes [(a_this, .inr (1, [.ref a_in, .int i_inLong, .int i_goesOn, .ref o_out, .int i_outLong, .ref o_counts, .int i_greatest, .ref a_length, .ref a_symbolOf, .ref o_draft, .ref o_knot, .ref o_inSum, .int i_knots, .ref o_halved, .ref a_made, .int i_bitsMade, .ref o_weight, .int i_weights, .int i_order, .ref o_points, .ref o_cutOff, .ref o_had, .ref o_placeOf, .int i_bit, .int i_bitEnd])), (a_in, .inl (cI, 6000, .inl v_in)), (a_length, .inl (cI, 256, .inl v_length)), (a_symbolOf, .inl (cI, 2048, .inl v_symbolOf)), (a_made, .inl (cI, 6000, .inl v_made))] H → va_D A [(a_this, .inr (1, [.ref a_in, .int i_inLong, .int i_goesOn, .ref o_out, .int i_outLong, .ref o_counts, .int i_greatest, .ref a_length, .ref a_symbolOf, .ref o_draft, .ref o_knot, .ref o_inSum, .int i_knots, .ref o_halved, .ref a_made, .int i_bitsMade, .ref o_weight, .int i_weights, .int i_order, .ref o_points, .ref o_cutOff, .ref o_had, .ref o_placeOf, .int i_bit, .int i_bitEnd])), (a_in, .inl (cI, 6000, .inl v_in)), (a_length, .inl (cI, 256, .inl v_length)), (a_symbolOf, .inl (cI, 2048, .inl v_symbolOf)), (a_made, .inl (cI, 6000, .inl v_made))] → va_S A s.heap H locs → W p l e R_MM_takeFour s m args below meth c H locs 0 0 Q (F0 m 176 ls [])
def I_MM_takeFour_b98 (p : Program) (l : Launch) (e : Env) (s : State) (m : MethodId) (args : Array Value) (below : List Frame) (meth : Method) (c : Code) (Q : State → Prop) (A : Nat → Prop) (D : va_G) (cI cL cZ : ClassId) (a_this : Nat) (a_in : Nat) (a_length : Nat) (a_symbolOf : Nat) (a_made : Nat) (o_out : Nat) (o_counts : Nat) (o_draft : Nat) (o_knot : Nat) (o_inSum : Nat) (o_halved : Nat) (o_weight : Nat) (o_points : Nat) (o_cutOff : Nat) (o_had : Nat) (o_placeOf : Nat) (i_inLong : Int32) (i_goesOn : Int32) (i_outLong : Int32) (i_greatest : Int32) (i_knots : Int32) (i_bitsMade : Int32) (i_weights : Int32) (i_order : Int32) (i_bit : Int32) (i_bitEnd : Int32) (v_in : Nat → Int32) (v_length : Nat → Int32) (v_symbolOf : Nat → Int32) (l1 : Int32) (l2 : Int32) (res : Int32 × (Nat → Int32)) (kf : Int32 → Int32 → (Nat → Int32) → Option (Int32 × (Nat → Int32))) : Prop := ∀ (l3 : Int32) (l5 : Int32) (v_made : Nat → Int32), kf l3 l5 v_made = some res → ∀ (H : Heap) (locs : List Loc) (ls : Array Slot), lv_has ls 8 [(0, .ref a_this), (1, .int l1), (2, .int l2), (3, .int l3), (5, .int l5)] → va_P D classes [(a_this, .inr (1, [.ref a_in, .int i_inLong, .int i_goesOn, .ref o_out, .int i_outLong, .ref o_counts, .int i_greatest, .ref a_length, .ref a_symbolOf, .ref o_draft, .ref o_knot, .ref o_inSum, .int i_knots, .ref o_halved, .ref a_made, .int i_bitsMade, .ref o_weight, .int i_weights, .int i_order, .ref o_points, .ref o_cutOff, .ref o_had, .ref o_placeOf, .int i_bit, .int i_bitEnd])), (a_in, .inl (cI, 6000, .inl v_in)), (a_length, .inl (cI, 256, .inl v_length)), (a_symbolOf, .inl (cI, 2048, .inl v_symbolOf)), (a_made, .inl (cI, 6000, .inl v_made))] H → va_D A [(a_this, .inr (1, [.ref a_in, .int i_inLong, .int i_goesOn, .ref o_out, .int i_outLong, .ref o_counts, .int i_greatest, .ref a_length, .ref a_symbolOf, .ref o_draft, .ref o_knot, .ref o_inSum, .int i_knots, .ref o_halved, .ref a_made, .int i_bitsMade, .ref o_weight, .int i_weights, .int i_order, .ref o_points, .ref o_cutOff, .ref o_had, .ref o_placeOf, .int i_bit, .int i_bitEnd])), (a_in, .inl (cI, 6000, .inl v_in)), (a_length, .inl (cI, 256, .inl v_length)), (a_symbolOf, .inl (cI, 2048, .inl v_symbolOf)), (a_made, .inl (cI, 6000, .inl v_made))] → va_S A s.heap H locs → W p l e R_MM_takeFour s m args below meth c H locs 0 0 Q (F0 m 98 ls [])
def I_MM_takeFour_b83 (p : Program) (l : Launch) (e : Env) (s : State) (m : MethodId) (args : Array Value) (below : List Frame) (meth : Method) (c : Code) (Q : State → Prop) (A : Nat → Prop) (D : va_G) (cI cL cZ : ClassId) (a_this : Nat) (a_in : Nat) (a_length : Nat) (a_symbolOf : Nat) (a_made : Nat) (o_out : Nat) (o_counts : Nat) (o_draft : Nat) (o_knot : Nat) (o_inSum : Nat) (o_halved : Nat) (o_weight : Nat) (o_points : Nat) (o_cutOff : Nat) (o_had : Nat) (o_placeOf : Nat) (i_inLong : Int32) (i_goesOn : Int32) (i_outLong : Int32) (i_greatest : Int32) (i_knots : Int32) (i_bitsMade : Int32) (i_weights : Int32) (i_order : Int32) (i_bit : Int32) (i_bitEnd : Int32) (v_in : Nat → Int32) (v_length : Nat → Int32) (v_symbolOf : Nat → Int32) (l1 : Int32) (l2 : Int32) (res : Int32 × (Nat → Int32)) (kf : Int32 → Int32 → (Nat → Int32) → Option (Int32 × (Nat → Int32))) : Prop := ∀ (l3 : Int32) (l4 : Int32) (v_made : Nat → Int32), kf l3 l4 v_made = some res → ∀ (H : Heap) (locs : List Loc) (ls : Array Slot), lv_has ls 8 [(0, .ref a_this), (1, .int l1), (2, .int l2), (3, .int l3), (4, .int l4)] → va_P D classes [(a_this, .inr (1, [.ref a_in, .int i_inLong, .int i_goesOn, .ref o_out, .int i_outLong, .ref o_counts, .int i_greatest, .ref a_length, .ref a_symbolOf, .ref o_draft, .ref o_knot, .ref o_inSum, .int i_knots, .ref o_halved, .ref a_made, .int i_bitsMade, .ref o_weight, .int i_weights, .int i_order, .ref o_points, .ref o_cutOff, .ref o_had, .ref o_placeOf, .int i_bit, .int i_bitEnd])), (a_in, .inl (cI, 6000, .inl v_in)), (a_length, .inl (cI, 256, .inl v_length)), (a_symbolOf, .inl (cI, 2048, .inl v_symbolOf)), (a_made, .inl (cI, 6000, .inl v_made))] H → va_D A [(a_this, .inr (1, [.ref a_in, .int i_inLong, .int i_goesOn, .ref o_out, .int i_outLong, .ref o_counts, .int i_greatest, .ref a_length, .ref a_symbolOf, .ref o_draft, .ref o_knot, .ref o_inSum, .int i_knots, .ref o_halved, .ref a_made, .int i_bitsMade, .ref o_weight, .int i_weights, .int i_order, .ref o_points, .ref o_cutOff, .ref o_had, .ref o_placeOf, .int i_bit, .int i_bitEnd])), (a_in, .inl (cI, 6000, .inl v_in)), (a_length, .inl (cI, 256, .inl v_length)), (a_symbolOf, .inl (cI, 2048, .inl v_symbolOf)), (a_made, .inl (cI, 6000, .inl v_made))] → va_S A s.heap H locs → W p l e R_MM_takeFour s m args below meth c H locs 0 0 Q (F0 m 83 ls [])
def I_MM_takeFour_b31 (p : Program) (l : Launch) (e : Env) (s : State) (m : MethodId) (args : Array Value) (below : List Frame) (meth : Method) (c : Code) (Q : State → Prop) (A : Nat → Prop) (D : va_G) (cI cL cZ : ClassId) (a_this : Nat) (a_in : Nat) (a_length : Nat) (a_symbolOf : Nat) (a_made : Nat) (o_out : Nat) (o_counts : Nat) (o_draft : Nat) (o_knot : Nat) (o_inSum : Nat) (o_halved : Nat) (o_weight : Nat) (o_points : Nat) (o_cutOff : Nat) (o_had : Nat) (o_placeOf : Nat) (i_inLong : Int32) (i_goesOn : Int32) (i_outLong : Int32) (i_greatest : Int32) (i_knots : Int32) (i_bitsMade : Int32) (i_weights : Int32) (i_order : Int32) (i_bit : Int32) (i_bitEnd : Int32) (v_in : Nat → Int32) (v_length : Nat → Int32) (v_symbolOf : Nat → Int32) (l1 : Int32) (l2 : Int32) (res : Int32 × (Nat → Int32)) (kf : Int32 → Int32 → Int32 → (Nat → Int32) → Option (Int32 × (Nat → Int32))) : Prop := ∀ (l3 : Int32) (l4 : Int32) (l5 : Int32) (v_made : Nat → Int32), kf l3 l4 l5 v_made = some res → ∀ (H : Heap) (locs : List Loc) (ls : Array Slot), lv_has ls 8 [(0, .ref a_this), (1, .int l1), (2, .int l2), (3, .int l3), (4, .int l4), (5, .int l5)] → va_P D classes [(a_this, .inr (1, [.ref a_in, .int i_inLong, .int i_goesOn, .ref o_out, .int i_outLong, .ref o_counts, .int i_greatest, .ref a_length, .ref a_symbolOf, .ref o_draft, .ref o_knot, .ref o_inSum, .int i_knots, .ref o_halved, .ref a_made, .int i_bitsMade, .ref o_weight, .int i_weights, .int i_order, .ref o_points, .ref o_cutOff, .ref o_had, .ref o_placeOf, .int i_bit, .int i_bitEnd])), (a_in, .inl (cI, 6000, .inl v_in)), (a_length, .inl (cI, 256, .inl v_length)), (a_symbolOf, .inl (cI, 2048, .inl v_symbolOf)), (a_made, .inl (cI, 6000, .inl v_made))] H → va_D A [(a_this, .inr (1, [.ref a_in, .int i_inLong, .int i_goesOn, .ref o_out, .int i_outLong, .ref o_counts, .int i_greatest, .ref a_length, .ref a_symbolOf, .ref o_draft, .ref o_knot, .ref o_inSum, .int i_knots, .ref o_halved, .ref a_made, .int i_bitsMade, .ref o_weight, .int i_weights, .int i_order, .ref o_points, .ref o_cutOff, .ref o_had, .ref o_placeOf, .int i_bit, .int i_bitEnd])), (a_in, .inl (cI, 6000, .inl v_in)), (a_length, .inl (cI, 256, .inl v_length)), (a_symbolOf, .inl (cI, 2048, .inl v_symbolOf)), (a_made, .inl (cI, 6000, .inl v_made))] → va_S A s.heap H locs → W p l e R_MM_takeFour s m args below meth c H locs 0 0 Q (F0 m 31 ls [])
def I_MM_takeFour_b0 (p : Program) (l : Launch) (e : Env) (s : State) (m : MethodId) (args : Array Value) (below : List Frame) (meth : Method) (c : Code) (Q : State → Prop) (A : Nat → Prop) (D : va_G) (cI cL cZ : ClassId) (a_this : Nat) (a_in : Nat) (a_length : Nat) (a_symbolOf : Nat) (a_made : Nat) (o_out : Nat) (o_counts : Nat) (o_draft : Nat) (o_knot : Nat) (o_inSum : Nat) (o_halved : Nat) (o_weight : Nat) (o_points : Nat) (o_cutOff : Nat) (o_had : Nat) (o_placeOf : Nat) (i_inLong : Int32) (i_goesOn : Int32) (i_outLong : Int32) (i_greatest : Int32) (i_knots : Int32) (i_bitsMade : Int32) (i_weights : Int32) (i_order : Int32) (i_bit : Int32) (i_bitEnd : Int32) (v_in : Nat → Int32) (v_length : Nat → Int32) (v_symbolOf : Nat → Int32) (l1 : Int32) (l2 : Int32) (res : Int32 × (Nat → Int32)) (kf : (Nat → Int32) → Option (Int32 × (Nat → Int32))) : Prop := ∀ (v_made : Nat → Int32), kf v_made = some res → ∀ (H : Heap) (locs : List Loc) (ls : Array Slot), lv_has ls 8 [(0, .ref a_this), (1, .int l1), (2, .int l2)] → va_P D classes [(a_this, .inr (1, [.ref a_in, .int i_inLong, .int i_goesOn, .ref o_out, .int i_outLong, .ref o_counts, .int i_greatest, .ref a_length, .ref a_symbolOf, .ref o_draft, .ref o_knot, .ref o_inSum, .int i_knots, .ref o_halved, .ref a_made, .int i_bitsMade, .ref o_weight, .int i_weights, .int i_order, .ref o_points, .ref o_cutOff, .ref o_had, .ref o_placeOf, .int i_bit, .int i_bitEnd])), (a_in, .inl (cI, 6000, .inl v_in)), (a_length, .inl (cI, 256, .inl v_length)), (a_symbolOf, .inl (cI, 2048, .inl v_symbolOf)), (a_made, .inl (cI, 6000, .inl v_made))] H → va_D A [(a_this, .inr (1, [.ref a_in, .int i_inLong, .int i_goesOn, .ref o_out, .int i_outLong, .ref o_counts, .int i_greatest, .ref a_length, .ref a_symbolOf, .ref o_draft, .ref o_knot, .ref o_inSum, .int i_knots, .ref o_halved, .ref a_made, .int i_bitsMade, .ref o_weight, .int i_weights, .int i_order, .ref o_points, .ref o_cutOff, .ref o_had, .ref o_placeOf, .int i_bit, .int i_bitEnd])), (a_in, .inl (cI, 6000, .inl v_in)), (a_length, .inl (cI, 256, .inl v_length)), (a_symbolOf, .inl (cI, 2048, .inl v_symbolOf)), (a_made, .inl (cI, 6000, .inl v_made))] → va_S A s.heap H locs → W p l e R_MM_takeFour s m args below meth c H locs 0 0 Q (F0 m 0 ls [])
set_option maxHeartbeats 4000000 in
set_option maxRecDepth 100000 in
theorem w_MM_takeFour_b162 {p : Program} {l : Launch} {e : Env} {s : State} {m : MethodId} {args : Array Value} {below : List Frame} {meth : Method} {c : Code} {Q : State → Prop} {A : Nat → Prop} {D : va_G} {cI cL cZ : ClassId} {a_this : Nat} {a_in : Nat} {a_length : Nat} {a_symbolOf : Nat} {a_made : Nat} {o_out : Nat} {o_counts : Nat} {o_draft : Nat} {o_knot : Nat} {o_inSum : Nat} {o_halved : Nat} {o_weight : Nat} {o_points : Nat} {o_cutOff : Nat} {o_had : Nat} {o_placeOf : Nat} {i_inLong : Int32} {i_goesOn : Int32} {i_outLong : Int32} {i_greatest : Int32} {i_knots : Int32} {i_bitsMade : Int32} {i_weights : Int32} {i_order : Int32} {i_bit : Int32} {i_bitEnd : Int32} {v_in : Nat → Int32} {v_length : Nat → Int32} {v_symbolOf : Nat → Int32} {l1 : Int32} {l2 : Int32} {N : Nat} {res : Int32 × (Nat → Int32)}  (C : Cx p s m args c b_MM_takeFour 8 "PrefixMillModel" D [(cI, .int), (cL, .long), (cZ, .boolean)] A) (hret : E_MM_takeFour p l e s m args below meth c Q A D cI cL cZ a_this a_in a_length a_symbolOf a_made o_out o_counts o_draft o_knot o_inSum o_halved o_weight o_points o_cutOff o_had o_placeOf i_inLong i_goesOn i_outLong i_greatest i_knots i_bitsMade i_weights i_order i_bit i_bitEnd v_in v_length v_symbolOf l1 l2 res)  : I_MM_takeFour_b162 p l e s m args below meth c Q A D cI cL cZ a_this a_in a_length a_symbolOf a_made o_out o_counts o_draft o_knot o_inSum o_halved o_weight o_points o_cutOff o_had o_placeOf i_inLong i_goesOn i_outLong i_greatest i_knots i_bitsMade i_weights i_order i_bit i_bitEnd v_in v_length v_symbolOf l1 l2 res (f_MM_takeFour_b162 N i_inLong i_goesOn i_greatest v_in v_length v_symbolOf l1 l2 ) := by
  obtain ⟨hx, hb, hml, hown, hts, hK, hA⟩ := C
  intro l7 v_made h H locs ls hl hP hD hS
  unfold f_MM_takeFour_b162 at h
  refine lv_iload hx hb d_MM_takeFour_162 (lv_at hl 0 rfl) ?_
  exact hret _ _ _ _ l7 v_made h d_MM_takeFour_164 hP hD hS
set_option maxHeartbeats 4000000 in
set_option maxRecDepth 100000 in
theorem w_MM_takeFour_b176 {p : Program} {l : Launch} {e : Env} {s : State} {m : MethodId} {args : Array Value} {below : List Frame} {meth : Method} {c : Code} {Q : State → Prop} {A : Nat → Prop} {D : va_G} {cI cL cZ : ClassId} {a_this : Nat} {a_in : Nat} {a_length : Nat} {a_symbolOf : Nat} {a_made : Nat} {o_out : Nat} {o_counts : Nat} {o_draft : Nat} {o_knot : Nat} {o_inSum : Nat} {o_halved : Nat} {o_weight : Nat} {o_points : Nat} {o_cutOff : Nat} {o_had : Nat} {o_placeOf : Nat} {i_inLong : Int32} {i_goesOn : Int32} {i_outLong : Int32} {i_greatest : Int32} {i_knots : Int32} {i_bitsMade : Int32} {i_weights : Int32} {i_order : Int32} {i_bit : Int32} {i_bitEnd : Int32} {v_in : Nat → Int32} {v_length : Nat → Int32} {v_symbolOf : Nat → Int32} {l1 : Int32} {l2 : Int32} {N : Nat} {res : Int32 × (Nat → Int32)}  (C : Cx p s m args c b_MM_takeFour 8 "PrefixMillModel" D [(cI, .int), (cL, .long), (cZ, .boolean)] A) (hret : E_MM_takeFour p l e s m args below meth c Q A D cI cL cZ a_this a_in a_length a_symbolOf a_made o_out o_counts o_draft o_knot o_inSum o_halved o_weight o_points o_cutOff o_had o_placeOf i_inLong i_goesOn i_outLong i_greatest i_knots i_bitsMade i_weights i_order i_bit i_bitEnd v_in v_length v_symbolOf l1 l2 res)  : I_MM_takeFour_b176 p l e s m args below meth c Q A D cI cL cZ a_this a_in a_length a_symbolOf a_made o_out o_counts o_draft o_knot o_inSum o_halved o_weight o_points o_cutOff o_had o_placeOf i_inLong i_goesOn i_outLong i_greatest i_knots i_bitsMade i_weights i_order i_bit i_bitEnd v_in v_length v_symbolOf l1 l2 res (f_MM_takeFour_b176 N i_inLong i_goesOn i_greatest v_in v_length v_symbolOf l1 l2 ) := by
  obtain ⟨hx, hb, hml, hown, hts, hK, hA⟩ := C
  intro l3 v_made h H locs ls hl hP hD hS
  unfold f_MM_takeFour_b176 at h
  refine lv_aload_n hx hb d_MM_takeFour_176 rfl (lv_at hl 0 rfl) ?_
  refine lv_iload_n hx hb d_MM_takeFour_177 rfl (lv_at hl 3 rfl) ?_
  refine lv_aload_n hx hb d_MM_takeFour_178 rfl (lv_at hl 0 rfl) ?_
  refine va_get hx hb hts in_MM hown hK hP 0 rfl rfl 1 (by decide) (hts _ m_754) (fun _ h9 => h9) rfl d_MM_takeFour_179 ?_
  refine lv_iload_n hx hb d_MM_takeFour_182 rfl (lv_at hl 1 rfl) ?_
  refine lv_iconst (v := 3) hx hb d_MM_takeFour_183 (by decide) ?_
  refine lv_iload_n hx hb d_MM_takeFour_184 rfl (lv_at hl 2 rfl) ?_
  refine lv_imul hx hb d_MM_takeFour_185 ?_
  refine lv_isub hx hb d_MM_takeFour_186 ?_
  refine lv_iconst (v := 3) hx hb d_MM_takeFour_187 (by decide) ?_
  refine lv_iload_n hx hb d_MM_takeFour_188 rfl (lv_at hl 2 rfl) ?_
  refine lv_imul hx hb d_MM_takeFour_189 ?_
  obtain ⟨r_1, v_made_2, hc_3, h⟩ := bd2_s h
  have hPc := hP.sub (ws' := [(a_this, .inr (1, [.ref a_in, .int i_inLong, .int i_goesOn, .ref o_out, .int i_outLong, .ref o_counts, .int i_greatest, .ref a_length, .ref a_symbolOf, .ref o_draft, .ref o_knot, .ref o_inSum, .int i_knots, .ref o_halved, .ref a_made, .int i_bitsMade, .ref o_weight, .int i_weights, .int i_order, .ref o_points, .ref o_cutOff, .ref o_had, .ref o_placeOf, .int i_bit, .int i_bitEnd])), (a_in, .inl (cI, 6000, .inl v_in)), (a_length, .inl (cI, 256, .inl v_length)), (a_symbolOf, .inl (cI, 2048, .inl v_symbolOf)), (a_made, .inl (cI, 6000, .inl v_made))]) [0, 1, 2, 3, 4] rfl
  have hDc := hD.sub (ws' := [(a_this, .inr (1, [.ref a_in, .int i_inLong, .int i_goesOn, .ref o_out, .int i_outLong, .ref o_counts, .int i_greatest, .ref a_length, .ref a_symbolOf, .ref o_draft, .ref o_knot, .ref o_inSum, .int i_knots, .ref o_halved, .ref a_made, .int i_bitsMade, .ref o_weight, .int i_weights, .int i_order, .ref o_points, .ref o_cutOff, .ref o_had, .ref o_placeOf, .int i_bit, .int i_bitEnd])), (a_in, .inl (cI, 6000, .inl v_in)), (a_length, .inl (cI, 256, .inl v_length)), (a_symbolOf, .inl (cI, 2048, .inl v_symbolOf)), (a_made, .inl (cI, 6000, .inl v_made))]) [0, 1, 2, 3, 4] (by decide) rfl
  have hFc := va_free (wc := [(a_this, .inr (1, [.ref a_in, .int i_inLong, .int i_goesOn, .ref o_out, .int i_outLong, .ref o_counts, .int i_greatest, .ref a_length, .ref a_symbolOf, .ref o_draft, .ref o_knot, .ref o_inSum, .int i_knots, .ref o_halved, .ref a_made, .int i_bitsMade, .ref o_weight, .int i_weights, .int i_order, .ref o_points, .ref o_cutOff, .ref o_had, .ref o_placeOf, .int i_bit, .int i_bitEnd])), (a_in, .inl (cI, 6000, .inl v_in)), (a_length, .inl (cI, 256, .inl v_length)), (a_symbolOf, .inl (cI, 2048, .inl v_symbolOf)), (a_made, .inl (cI, 6000, .inl v_made))]) hD hS hA [0, 1, 2, 3, 4] rfl
  refine va_calli (va_runV (As := [.int l3, .int i_inLong, .int (l1 - (3 * l2)), .int (3 * l2)]) (rest := []) ⟨hx, hb, hml, hown, hts⟩ (c_MM_takeStream l D cI cL cZ H.size N a_this a_in a_length a_symbolOf a_made o_out o_counts o_draft o_knot o_inSum o_halved o_weight o_points o_cutOff o_had o_placeOf i_inLong i_goesOn i_outLong i_greatest i_knots i_bitsMade i_weights i_order i_bit i_bitEnd v_in v_length v_symbolOf v_made l3 i_inLong (l1 - (3 * l2)) (3 * l2) r_1 v_made_2 hc_3) ⟨(my_cb 4 hts m_943 rfl rfl (hts _ m_76) (hts _ m_940) (by decide +kernel) ⟨Nat.le_of_ble_eq_true rfl, Nat.le_of_ble_eq_true rfl⟩), hts _ m_942, hts _ m_40⟩ ⟨fun a U g mk q => by obtain ⟨q0, q1, qP, qK, qD⟩ := q; exact ⟨q0, q1, qP, va_K.moved (u := U) (U := U.calling g mk a) (Vm.Alike.refl U.vm) qK, qD⟩, va_recv hK hPc (ci := 1) (q0 := 0) rfl rfl, fun U hU hW => ⟨rfl, by rw [hU], by rw [hU]; exact hPc, va_K.moved hW.alike hK, hDc.weaken (fun _ _ _ _ => trivial)⟩⟩ rfl rfl hl.1 rfl (lv_room (Nat.le_of_ble_eq_true rfl)) d_MM_takeFour_190 ⟨Nat.zero_le _, Nat.zero_le _⟩) hS (fun q _ h => hFc q h) hFc (fun rr u t H1 locs ht hvm hw hB hz1 hk1 hS => ?_)
  obtain ⟨hP1, hK1, hD1⟩ := hB
  rw [ht] at hP1
  subst hw
  obtain ⟨hP, hD⟩ := va_join (wr := []) (w1 := [(a_this, .inr (1, [.ref a_in, .int i_inLong, .int i_goesOn, .ref o_out, .int i_outLong, .ref o_counts, .int i_greatest, .ref a_length, .ref a_symbolOf, .ref o_draft, .ref o_knot, .ref o_inSum, .int i_knots, .ref o_halved, .ref a_made, .int i_bitsMade, .ref o_weight, .int i_weights, .int i_order, .ref o_points, .ref o_cutOff, .ref o_had, .ref o_placeOf, .int i_bit, .int i_bitEnd])), (a_in, .inl (cI, 6000, .inl v_in)), (a_length, .inl (cI, 256, .inl v_length)), (a_symbolOf, .inl (cI, 2048, .inl v_symbolOf)), (a_made, .inl (cI, 6000, .inl v_made_2))]) hP hD [0, 1, 2, 3, 4] [] rfl rfl (by decide) (by decide) hk1 hFc hP1 hD1
  clear hPc hDc hFc hk1 hP1 hD1 hK1
  generalize H1 = H at hP hS ⊢
  have hP : va_P D classes [(a_this, .inr (1, [.ref a_in, .int i_inLong, .int i_goesOn, .ref o_out, .int i_outLong, .ref o_counts, .int i_greatest, .ref a_length, .ref a_symbolOf, .ref o_draft, .ref o_knot, .ref o_inSum, .int i_knots, .ref o_halved, .ref a_made, .int i_bitsMade, .ref o_weight, .int i_weights, .int i_order, .ref o_points, .ref o_cutOff, .ref o_had, .ref o_placeOf, .int i_bit, .int i_bitEnd])), (a_in, .inl (cI, 6000, .inl v_in)), (a_length, .inl (cI, 256, .inl v_length)), (a_symbolOf, .inl (cI, 2048, .inl v_symbolOf)), (a_made, .inl (cI, 6000, .inl v_made_2))] H := hP.sub [0, 1, 2, 3, 4] rfl
  have hD : va_D A [(a_this, .inr (1, [.ref a_in, .int i_inLong, .int i_goesOn, .ref o_out, .int i_outLong, .ref o_counts, .int i_greatest, .ref a_length, .ref a_symbolOf, .ref o_draft, .ref o_knot, .ref o_inSum, .int i_knots, .ref o_halved, .ref a_made, .int i_bitsMade, .ref o_weight, .int i_weights, .int i_order, .ref o_points, .ref o_cutOff, .ref o_had, .ref o_placeOf, .int i_bit, .int i_bitEnd])), (a_in, .inl (cI, 6000, .inl v_in)), (a_length, .inl (cI, 256, .inl v_length)), (a_symbolOf, .inl (cI, 2048, .inl v_symbolOf)), (a_made, .inl (cI, 6000, .inl v_made_2))] := hD.sub [0, 1, 2, 3, 4] (by decide) rfl
  exact hret _ _ _ _ r_1 v_made_2 h d_MM_takeFour_193 hP hD hS
set_option maxHeartbeats 4000000 in
set_option maxRecDepth 100000 in
theorem w_MM_takeFour_b98 {p : Program} {l : Launch} {e : Env} {s : State} {m : MethodId} {args : Array Value} {below : List Frame} {meth : Method} {c : Code} {Q : State → Prop} {A : Nat → Prop} {D : va_G} {cI cL cZ : ClassId} {a_this : Nat} {a_in : Nat} {a_length : Nat} {a_symbolOf : Nat} {a_made : Nat} {o_out : Nat} {o_counts : Nat} {o_draft : Nat} {o_knot : Nat} {o_inSum : Nat} {o_halved : Nat} {o_weight : Nat} {o_points : Nat} {o_cutOff : Nat} {o_had : Nat} {o_placeOf : Nat} {i_inLong : Int32} {i_goesOn : Int32} {i_outLong : Int32} {i_greatest : Int32} {i_knots : Int32} {i_bitsMade : Int32} {i_weights : Int32} {i_order : Int32} {i_bit : Int32} {i_bitEnd : Int32} {v_in : Nat → Int32} {v_length : Nat → Int32} {v_symbolOf : Nat → Int32} {l1 : Int32} {l2 : Int32} {N : Nat} {res : Int32 × (Nat → Int32)}  (C : Cx p s m args c b_MM_takeFour 8 "PrefixMillModel" D [(cI, .int), (cL, .long), (cZ, .boolean)] A) (hret : E_MM_takeFour p l e s m args below meth c Q A D cI cL cZ a_this a_in a_length a_symbolOf a_made o_out o_counts o_draft o_knot o_inSum o_halved o_weight o_points o_cutOff o_had o_placeOf i_inLong i_goesOn i_outLong i_greatest i_knots i_bitsMade i_weights i_order i_bit i_bitEnd v_in v_length v_symbolOf l1 l2 res)  : ∀ z : Nat, I_MM_takeFour_b98 p l e s m args below meth c Q A D cI cL cZ a_this a_in a_length a_symbolOf a_made o_out o_counts o_draft o_knot o_inSum o_halved o_weight o_points o_cutOff o_had o_placeOf i_inLong i_goesOn i_outLong i_greatest i_knots i_bitsMade i_weights i_order i_bit i_bitEnd v_in v_length v_symbolOf l1 l2 res (f_MM_takeFour_b98 N i_inLong i_goesOn i_greatest v_in v_length v_symbolOf l1 l2  z) := by
  obtain ⟨hx, hb, hml, hown, hts, hK, hA⟩ := C
  intro z
  induction z with
  | zero => intro l3 l5 v_made h; cases h
  | succ z ih =>
    intro l3 l5 v_made h H locs ls hl hP hD hS
    refine lv_iload hx hb d_MM_takeFour_98 (lv_at hl 4 rfl) ?_
    refine lv_iconst (v := 3) hx hb d_MM_takeFour_100 (by decide) ?_
    refine lv_icmp_ge (tgt := 176) hx hb d_MM_takeFour_101 (by decide) (fun c_1 => ?_) (fun c_1 => ?_)
    · replace h := if_t h c_1
      exact w_MM_takeFour_b176 ⟨hx, hb, hml, hown, hts, hK, hA⟩ hret  _ _ h H locs ls (lv_sub hl [0, 1, 2, 3] rfl) hP hD hS
    · replace h := if_f h c_1
      refine lv_aload_n hx hb d_MM_takeFour_104 rfl (lv_at hl 0 rfl) ?_
      refine va_get hx hb hts in_MM hown hK hP 0 rfl rfl 0 (by decide) (hts _ m_753) (fun _ h9 => h9) rfl d_MM_takeFour_105 ?_
      refine lv_aload_n hx hb d_MM_takeFour_108 rfl (lv_at hl 0 rfl) ?_
      refine va_get hx hb hts in_MM hown hK hP 0 rfl rfl 2 (by decide) (hts _ m_755) (fun _ h9 => h9) rfl d_MM_takeFour_109 ?_
      refine lv_iconst (v := 2) hx hb d_MM_takeFour_112 (by decide) ?_
      refine lv_iload hx hb d_MM_takeFour_113 (lv_at hl 4 rfl) ?_
      refine lv_imul hx hb d_MM_takeFour_115 ?_
      refine lv_iadd hx hb d_MM_takeFour_116 ?_
      obtain ⟨g_2, h⟩ := ck_s h
      refine va_iald hx hb hK hP 1 0 rfl rfl (inb_s g_2) d_MM_takeFour_117 ?_
      refine lv_sipush (v := 256) hx hb d_MM_takeFour_118 (by decide) ?_
      refine lv_aload_n hx hb d_MM_takeFour_121 rfl (lv_at hl 0 rfl) ?_
      refine va_get hx hb hts in_MM hown hK hP 0 rfl rfl 0 (by decide) (hts _ m_753) (fun _ h9 => h9) rfl d_MM_takeFour_122 ?_
      refine lv_aload_n hx hb d_MM_takeFour_125 rfl (lv_at hl 0 rfl) ?_
      refine va_get hx hb hts in_MM hown hK hP 0 rfl rfl 2 (by decide) (hts _ m_755) (fun _ h9 => h9) rfl d_MM_takeFour_126 ?_
      refine lv_iconst (v := 2) hx hb d_MM_takeFour_129 (by decide) ?_
      refine lv_iload hx hb d_MM_takeFour_130 (lv_at hl 4 rfl) ?_
      refine lv_imul hx hb d_MM_takeFour_132 ?_
      refine lv_iadd hx hb d_MM_takeFour_133 ?_
      refine lv_iconst (v := 1) hx hb d_MM_takeFour_134 (by decide) ?_
      refine lv_iadd hx hb d_MM_takeFour_135 ?_
      obtain ⟨g_3, h⟩ := ck_s h
      refine va_iald hx hb hK hP 1 0 rfl rfl (inb_s g_3) d_MM_takeFour_136 ?_
      refine lv_imul hx hb d_MM_takeFour_137 ?_
      refine lv_iadd hx hb d_MM_takeFour_138 ?_
      refine lv_topi (fun l6_4 el6_4 => ?_)
      replace h := nm_s h el6_4
      refine lv_istore (lv' := [(6, .int l6_4), (0, .ref a_this), (1, .int l1), (2, .int l2), (3, .int l3), (5, .int l5)]) hx hb d_MM_takeFour_139 hl (by decide) rfl (fun ls hl => ?_)
      refine lv_aload_n hx hb d_MM_takeFour_141 rfl (lv_at hl 1 rfl) ?_
      refine lv_iload_n hx hb d_MM_takeFour_142 rfl (lv_at hl 4 rfl) ?_
      refine lv_iload_n hx hb d_MM_takeFour_143 rfl (lv_at hl 4 rfl) ?_
      refine lv_iload hx hb d_MM_takeFour_144 (lv_at hl 0 rfl) ?_
      refine lv_iadd hx hb d_MM_takeFour_146 ?_
      refine lv_iload_n hx hb d_MM_takeFour_147 rfl (lv_at hl 3 rfl) ?_
      refine lv_iload hx hb d_MM_takeFour_148 (lv_at hl 5 rfl) ?_
      refine lv_iload_n hx hb d_MM_takeFour_150 rfl (lv_at hl 3 rfl) ?_
      refine lv_imul hx hb d_MM_takeFour_151 ?_
      obtain ⟨r_5, v_made_6, hc_7, h⟩ := bd2_s h
      have hPc := hP.sub (ws' := [(a_this, .inr (1, [.ref a_in, .int i_inLong, .int i_goesOn, .ref o_out, .int i_outLong, .ref o_counts, .int i_greatest, .ref a_length, .ref a_symbolOf, .ref o_draft, .ref o_knot, .ref o_inSum, .int i_knots, .ref o_halved, .ref a_made, .int i_bitsMade, .ref o_weight, .int i_weights, .int i_order, .ref o_points, .ref o_cutOff, .ref o_had, .ref o_placeOf, .int i_bit, .int i_bitEnd])), (a_in, .inl (cI, 6000, .inl v_in)), (a_length, .inl (cI, 256, .inl v_length)), (a_symbolOf, .inl (cI, 2048, .inl v_symbolOf)), (a_made, .inl (cI, 6000, .inl v_made))]) [0, 1, 2, 3, 4] rfl
      have hDc := hD.sub (ws' := [(a_this, .inr (1, [.ref a_in, .int i_inLong, .int i_goesOn, .ref o_out, .int i_outLong, .ref o_counts, .int i_greatest, .ref a_length, .ref a_symbolOf, .ref o_draft, .ref o_knot, .ref o_inSum, .int i_knots, .ref o_halved, .ref a_made, .int i_bitsMade, .ref o_weight, .int i_weights, .int i_order, .ref o_points, .ref o_cutOff, .ref o_had, .ref o_placeOf, .int i_bit, .int i_bitEnd])), (a_in, .inl (cI, 6000, .inl v_in)), (a_length, .inl (cI, 256, .inl v_length)), (a_symbolOf, .inl (cI, 2048, .inl v_symbolOf)), (a_made, .inl (cI, 6000, .inl v_made))]) [0, 1, 2, 3, 4] (by decide) rfl
      have hFc := va_free (wc := [(a_this, .inr (1, [.ref a_in, .int i_inLong, .int i_goesOn, .ref o_out, .int i_outLong, .ref o_counts, .int i_greatest, .ref a_length, .ref a_symbolOf, .ref o_draft, .ref o_knot, .ref o_inSum, .int i_knots, .ref o_halved, .ref a_made, .int i_bitsMade, .ref o_weight, .int i_weights, .int i_order, .ref o_points, .ref o_cutOff, .ref o_had, .ref o_placeOf, .int i_bit, .int i_bitEnd])), (a_in, .inl (cI, 6000, .inl v_in)), (a_length, .inl (cI, 256, .inl v_length)), (a_symbolOf, .inl (cI, 2048, .inl v_symbolOf)), (a_made, .inl (cI, 6000, .inl v_made))]) hD hS hA [0, 1, 2, 3, 4] rfl
      refine va_calli (va_runV (As := [.int l3, .int (l3 + l6_4), .int l2, .int (l5 * l2)]) (rest := []) ⟨hx, hb, hml, hown, hts⟩ (c_MM_takeStream l D cI cL cZ H.size N a_this a_in a_length a_symbolOf a_made o_out o_counts o_draft o_knot o_inSum o_halved o_weight o_points o_cutOff o_had o_placeOf i_inLong i_goesOn i_outLong i_greatest i_knots i_bitsMade i_weights i_order i_bit i_bitEnd v_in v_length v_symbolOf v_made l3 (l3 + l6_4) l2 (l5 * l2) r_5 v_made_6 hc_7) ⟨(my_cb 4 hts m_943 rfl rfl (hts _ m_76) (hts _ m_940) (by decide +kernel) ⟨Nat.le_of_ble_eq_true rfl, Nat.le_of_ble_eq_true rfl⟩), hts _ m_942, hts _ m_40⟩ ⟨fun a U g mk q => by obtain ⟨q0, q1, qP, qK, qD⟩ := q; exact ⟨q0, q1, qP, va_K.moved (u := U) (U := U.calling g mk a) (Vm.Alike.refl U.vm) qK, qD⟩, va_recv hK hPc (ci := 1) (q0 := 0) rfl rfl, fun U hU hW => ⟨rfl, by rw [hU], by rw [hU]; exact hPc, va_K.moved hW.alike hK, hDc.weaken (fun _ _ _ _ => trivial)⟩⟩ rfl rfl hl.1 rfl (lv_room (Nat.le_of_ble_eq_true rfl)) d_MM_takeFour_152 ⟨Nat.zero_le _, Nat.zero_le _⟩) hS (fun q _ h => hFc q h) hFc (fun rr u t H1 locs ht hvm hw hB hz1 hk1 hS => ?_)
      obtain ⟨hP1, hK1, hD1⟩ := hB
      rw [ht] at hP1
      subst hw
      obtain ⟨hP, hD⟩ := va_join (wr := []) (w1 := [(a_this, .inr (1, [.ref a_in, .int i_inLong, .int i_goesOn, .ref o_out, .int i_outLong, .ref o_counts, .int i_greatest, .ref a_length, .ref a_symbolOf, .ref o_draft, .ref o_knot, .ref o_inSum, .int i_knots, .ref o_halved, .ref a_made, .int i_bitsMade, .ref o_weight, .int i_weights, .int i_order, .ref o_points, .ref o_cutOff, .ref o_had, .ref o_placeOf, .int i_bit, .int i_bitEnd])), (a_in, .inl (cI, 6000, .inl v_in)), (a_length, .inl (cI, 256, .inl v_length)), (a_symbolOf, .inl (cI, 2048, .inl v_symbolOf)), (a_made, .inl (cI, 6000, .inl v_made_6))]) hP hD [0, 1, 2, 3, 4] [] rfl rfl (by decide) (by decide) hk1 hFc hP1 hD1
      clear hPc hDc hFc hk1 hP1 hD1 hK1
      generalize H1 = H at hP hS ⊢
      have hP : va_P D classes [(a_this, .inr (1, [.ref a_in, .int i_inLong, .int i_goesOn, .ref o_out, .int i_outLong, .ref o_counts, .int i_greatest, .ref a_length, .ref a_symbolOf, .ref o_draft, .ref o_knot, .ref o_inSum, .int i_knots, .ref o_halved, .ref a_made, .int i_bitsMade, .ref o_weight, .int i_weights, .int i_order, .ref o_points, .ref o_cutOff, .ref o_had, .ref o_placeOf, .int i_bit, .int i_bitEnd])), (a_in, .inl (cI, 6000, .inl v_in)), (a_length, .inl (cI, 256, .inl v_length)), (a_symbolOf, .inl (cI, 2048, .inl v_symbolOf)), (a_made, .inl (cI, 6000, .inl v_made_6))] H := hP.sub [0, 1, 2, 3, 4] rfl
      have hD : va_D A [(a_this, .inr (1, [.ref a_in, .int i_inLong, .int i_goesOn, .ref o_out, .int i_outLong, .ref o_counts, .int i_greatest, .ref a_length, .ref a_symbolOf, .ref o_draft, .ref o_knot, .ref o_inSum, .int i_knots, .ref o_halved, .ref a_made, .int i_bitsMade, .ref o_weight, .int i_weights, .int i_order, .ref o_points, .ref o_cutOff, .ref o_had, .ref o_placeOf, .int i_bit, .int i_bitEnd])), (a_in, .inl (cI, 6000, .inl v_in)), (a_length, .inl (cI, 256, .inl v_length)), (a_symbolOf, .inl (cI, 2048, .inl v_symbolOf)), (a_made, .inl (cI, 6000, .inl v_made_6))] := hD.sub [0, 1, 2, 3, 4] (by decide) rfl
      refine lv_istore (lv' := [(7, .int r_5), (6, .int l6_4), (0, .ref a_this), (1, .int l1), (2, .int l2), (3, .int l3), (5, .int l5)]) hx hb d_MM_takeFour_155 hl (by decide) rfl (fun ls hl => ?_)
      refine lv_iload hx hb d_MM_takeFour_157 (lv_at hl 0 rfl) ?_
      refine lv_if_eq (tgt := 165) hx hb d_MM_takeFour_159 (by decide) (fun c_8 => ?_) (fun c_8 => ?_)
      · replace h := if_t h c_8
        refine lv_iload_n hx hb d_MM_takeFour_165 rfl (lv_at hl 5 rfl) ?_
        refine lv_iload hx hb d_MM_takeFour_166 (lv_at hl 1 rfl) ?_
        refine lv_iadd hx hb d_MM_takeFour_168 ?_
        refine lv_topi (fun l3_9 el3_9 => ?_)
        replace h := nm_s h el3_9
        refine lv_istore_n (lv' := [(3, .int l3_9), (7, .int r_5), (6, .int l6_4), (0, .ref a_this), (1, .int l1), (2, .int l2), (5, .int l5)]) hx hb d_MM_takeFour_169 rfl hl (by decide) rfl (fun ls hl => ?_)
        obtain ⟨l5_10, el5_10⟩ : ∃ y : Int32, y = l5 + 1 := ⟨_, rfl⟩
        replace h := nm_s h el5_10
        refine lv_iinc (v := l5_10) (lv' := [(5, .int l5_10), (3, .int l3_9), (7, .int r_5), (6, .int l6_4), (0, .ref a_this), (1, .int l1), (2, .int l2)]) hx hb d_MM_takeFour_170 hl (k := 6) rfl (by rw [el5_10]; rfl) (by decide) rfl (fun ls hl => ?_)
        refine lv_goto (tgt := 98) hx hb d_MM_takeFour_173 (by decide) ?_
        exact ih _ _ _ h H locs ls (lv_sub hl [4, 5, 6, 1, 0] rfl) hP hD hS
      · replace h := if_f h c_8
        exact w_MM_takeFour_b162 ⟨hx, hb, hml, hown, hts, hK, hA⟩ hret  _ _ h H locs ls (lv_sub hl [0] rfl) hP hD hS
set_option maxHeartbeats 4000000 in
set_option maxRecDepth 100000 in
theorem w_MM_takeFour_b83 {p : Program} {l : Launch} {e : Env} {s : State} {m : MethodId} {args : Array Value} {below : List Frame} {meth : Method} {c : Code} {Q : State → Prop} {A : Nat → Prop} {D : va_G} {cI cL cZ : ClassId} {a_this : Nat} {a_in : Nat} {a_length : Nat} {a_symbolOf : Nat} {a_made : Nat} {o_out : Nat} {o_counts : Nat} {o_draft : Nat} {o_knot : Nat} {o_inSum : Nat} {o_halved : Nat} {o_weight : Nat} {o_points : Nat} {o_cutOff : Nat} {o_had : Nat} {o_placeOf : Nat} {i_inLong : Int32} {i_goesOn : Int32} {i_outLong : Int32} {i_greatest : Int32} {i_knots : Int32} {i_bitsMade : Int32} {i_weights : Int32} {i_order : Int32} {i_bit : Int32} {i_bitEnd : Int32} {v_in : Nat → Int32} {v_length : Nat → Int32} {v_symbolOf : Nat → Int32} {l1 : Int32} {l2 : Int32} {N : Nat} {res : Int32 × (Nat → Int32)}  (C : Cx p s m args c b_MM_takeFour 8 "PrefixMillModel" D [(cI, .int), (cL, .long), (cZ, .boolean)] A) (hret : E_MM_takeFour p l e s m args below meth c Q A D cI cL cZ a_this a_in a_length a_symbolOf a_made o_out o_counts o_draft o_knot o_inSum o_halved o_weight o_points o_cutOff o_had o_placeOf i_inLong i_goesOn i_outLong i_greatest i_knots i_bitsMade i_weights i_order i_bit i_bitEnd v_in v_length v_symbolOf l1 l2 res)  : I_MM_takeFour_b83 p l e s m args below meth c Q A D cI cL cZ a_this a_in a_length a_symbolOf a_made o_out o_counts o_draft o_knot o_inSum o_halved o_weight o_points o_cutOff o_had o_placeOf i_inLong i_goesOn i_outLong i_greatest i_knots i_bitsMade i_weights i_order i_bit i_bitEnd v_in v_length v_symbolOf l1 l2 res (f_MM_takeFour_b83 N i_inLong i_goesOn i_greatest v_in v_length v_symbolOf l1 l2 ) := by
  obtain ⟨hx, hb, hml, hown, hts, hK, hA⟩ := C
  intro l3 l4 v_made h H locs ls hl hP hD hS
  unfold f_MM_takeFour_b83 at h
  refine lv_iload hx hb d_MM_takeFour_83 (lv_at hl 4 rfl) ?_
  refine lv_aload_n hx hb d_MM_takeFour_85 rfl (lv_at hl 0 rfl) ?_
  refine va_get hx hb hts in_MM hown hK hP 0 rfl rfl 1 (by decide) (hts _ m_754) (fun _ h9 => h9) rfl d_MM_takeFour_86 ?_
  refine lv_icmp_le (tgt := 95) hx hb d_MM_takeFour_89 (by decide) (fun c_1 => ?_) (fun c_1 => ?_)
  · replace h := if_t h c_1
    refine lv_iconst (v := 0) hx hb d_MM_takeFour_95 (by decide) ?_
    refine lv_istore (lv' := [(5, .int 0), (0, .ref a_this), (1, .int l1), (2, .int l2), (3, .int l3), (4, .int l4)]) hx hb d_MM_takeFour_96 hl (by decide) rfl (fun ls hl => ?_)
    exact w_MM_takeFour_b98 ⟨hx, hb, hml, hown, hts, hK, hA⟩ hret  N _ _ _ h H locs ls (lv_sub hl [1, 2, 3, 4, 0] rfl) hP hD hS
  · replace h := if_f h c_1
    refine lv_bipush (v := (-2)) hx hb d_MM_takeFour_92 (by decide) ?_
    exact hret _ _ _ _ (-2) v_made h d_MM_takeFour_94 hP hD hS
set_option maxHeartbeats 4000000 in
set_option maxRecDepth 100000 in
theorem w_MM_takeFour_b31 {p : Program} {l : Launch} {e : Env} {s : State} {m : MethodId} {args : Array Value} {below : List Frame} {meth : Method} {c : Code} {Q : State → Prop} {A : Nat → Prop} {D : va_G} {cI cL cZ : ClassId} {a_this : Nat} {a_in : Nat} {a_length : Nat} {a_symbolOf : Nat} {a_made : Nat} {o_out : Nat} {o_counts : Nat} {o_draft : Nat} {o_knot : Nat} {o_inSum : Nat} {o_halved : Nat} {o_weight : Nat} {o_points : Nat} {o_cutOff : Nat} {o_had : Nat} {o_placeOf : Nat} {i_inLong : Int32} {i_goesOn : Int32} {i_outLong : Int32} {i_greatest : Int32} {i_knots : Int32} {i_bitsMade : Int32} {i_weights : Int32} {i_order : Int32} {i_bit : Int32} {i_bitEnd : Int32} {v_in : Nat → Int32} {v_length : Nat → Int32} {v_symbolOf : Nat → Int32} {l1 : Int32} {l2 : Int32} {N : Nat} {res : Int32 × (Nat → Int32)}  (C : Cx p s m args c b_MM_takeFour 8 "PrefixMillModel" D [(cI, .int), (cL, .long), (cZ, .boolean)] A) (hret : E_MM_takeFour p l e s m args below meth c Q A D cI cL cZ a_this a_in a_length a_symbolOf a_made o_out o_counts o_draft o_knot o_inSum o_halved o_weight o_points o_cutOff o_had o_placeOf i_inLong i_goesOn i_outLong i_greatest i_knots i_bitsMade i_weights i_order i_bit i_bitEnd v_in v_length v_symbolOf l1 l2 res)  : ∀ z : Nat, I_MM_takeFour_b31 p l e s m args below meth c Q A D cI cL cZ a_this a_in a_length a_symbolOf a_made o_out o_counts o_draft o_knot o_inSum o_halved o_weight o_points o_cutOff o_had o_placeOf i_inLong i_goesOn i_outLong i_greatest i_knots i_bitsMade i_weights i_order i_bit i_bitEnd v_in v_length v_symbolOf l1 l2 res (f_MM_takeFour_b31 N i_inLong i_goesOn i_greatest v_in v_length v_symbolOf l1 l2  z) := by
  obtain ⟨hx, hb, hml, hown, hts, hK, hA⟩ := C
  intro z
  induction z with
  | zero => intro l3 l4 l5 v_made h; cases h
  | succ z ih =>
    intro l3 l4 l5 v_made h H locs ls hl hP hD hS
    refine lv_iload hx hb d_MM_takeFour_31 (lv_at hl 5 rfl) ?_
    refine lv_iconst (v := 3) hx hb d_MM_takeFour_33 (by decide) ?_
    refine lv_icmp_ge (tgt := 83) hx hb d_MM_takeFour_34 (by decide) (fun c_1 => ?_) (fun c_1 => ?_)
    · replace h := if_t h c_1
      exact w_MM_takeFour_b83 ⟨hx, hb, hml, hown, hts, hK, hA⟩ hret  _ _ _ h H locs ls (lv_sub hl [0, 1, 2, 3, 4] rfl) hP hD hS
    · replace h := if_f h c_1
      refine lv_iload hx hb d_MM_takeFour_37 (lv_at hl 4 rfl) ?_
      refine lv_aload_n hx hb d_MM_takeFour_39 rfl (lv_at hl 0 rfl) ?_
      refine va_get hx hb hts in_MM hown hK hP 0 rfl rfl 0 (by decide) (hts _ m_753) (fun _ h9 => h9) rfl d_MM_takeFour_40 ?_
      refine lv_aload_n hx hb d_MM_takeFour_43 rfl (lv_at hl 0 rfl) ?_
      refine va_get hx hb hts in_MM hown hK hP 0 rfl rfl 2 (by decide) (hts _ m_755) (fun _ h9 => h9) rfl d_MM_takeFour_44 ?_
      refine lv_iconst (v := 2) hx hb d_MM_takeFour_47 (by decide) ?_
      refine lv_iload hx hb d_MM_takeFour_48 (lv_at hl 5 rfl) ?_
      refine lv_imul hx hb d_MM_takeFour_50 ?_
      refine lv_iadd hx hb d_MM_takeFour_51 ?_
      obtain ⟨g_2, h⟩ := ck_s h
      refine va_iald hx hb hK hP 1 0 rfl rfl (inb_s g_2) d_MM_takeFour_52 ?_
      refine lv_sipush (v := 256) hx hb d_MM_takeFour_53 (by decide) ?_
      refine lv_aload_n hx hb d_MM_takeFour_56 rfl (lv_at hl 0 rfl) ?_
      refine va_get hx hb hts in_MM hown hK hP 0 rfl rfl 0 (by decide) (hts _ m_753) (fun _ h9 => h9) rfl d_MM_takeFour_57 ?_
      refine lv_aload_n hx hb d_MM_takeFour_60 rfl (lv_at hl 0 rfl) ?_
      refine va_get hx hb hts in_MM hown hK hP 0 rfl rfl 2 (by decide) (hts _ m_755) (fun _ h9 => h9) rfl d_MM_takeFour_61 ?_
      refine lv_iconst (v := 2) hx hb d_MM_takeFour_64 (by decide) ?_
      refine lv_iload hx hb d_MM_takeFour_65 (lv_at hl 5 rfl) ?_
      refine lv_imul hx hb d_MM_takeFour_67 ?_
      refine lv_iadd hx hb d_MM_takeFour_68 ?_
      refine lv_iconst (v := 1) hx hb d_MM_takeFour_69 (by decide) ?_
      refine lv_iadd hx hb d_MM_takeFour_70 ?_
      obtain ⟨g_3, h⟩ := ck_s h
      refine va_iald hx hb hK hP 1 0 rfl rfl (inb_s g_3) d_MM_takeFour_71 ?_
      refine lv_imul hx hb d_MM_takeFour_72 ?_
      refine lv_iadd hx hb d_MM_takeFour_73 ?_
      refine lv_iadd hx hb d_MM_takeFour_74 ?_
      refine lv_topi (fun l4_4 el4_4 => ?_)
      replace h := nm_s h el4_4
      refine lv_istore (lv' := [(4, .int l4_4), (0, .ref a_this), (1, .int l1), (2, .int l2), (3, .int l3), (5, .int l5)]) hx hb d_MM_takeFour_75 hl (by decide) rfl (fun ls hl => ?_)
      obtain ⟨l5_5, el5_5⟩ : ∃ y : Int32, y = l5 + 1 := ⟨_, rfl⟩
      replace h := nm_s h el5_5
      refine lv_iinc (v := l5_5) (lv' := [(5, .int l5_5), (4, .int l4_4), (0, .ref a_this), (1, .int l1), (2, .int l2), (3, .int l3)]) hx hb d_MM_takeFour_77 hl (k := 5) rfl (by rw [el5_5]; rfl) (by decide) rfl (fun ls hl => ?_)
      refine lv_goto (tgt := 31) hx hb d_MM_takeFour_80 (by decide) ?_
      exact ih _ _ _ _ h H locs ls (lv_sub hl [2, 3, 4, 5, 1, 0] rfl) hP hD hS
set_option maxHeartbeats 4000000 in
set_option maxRecDepth 100000 in
theorem w_MM_takeFour_b0 {p : Program} {l : Launch} {e : Env} {s : State} {m : MethodId} {args : Array Value} {below : List Frame} {meth : Method} {c : Code} {Q : State → Prop} {A : Nat → Prop} {D : va_G} {cI cL cZ : ClassId} {a_this : Nat} {a_in : Nat} {a_length : Nat} {a_symbolOf : Nat} {a_made : Nat} {o_out : Nat} {o_counts : Nat} {o_draft : Nat} {o_knot : Nat} {o_inSum : Nat} {o_halved : Nat} {o_weight : Nat} {o_points : Nat} {o_cutOff : Nat} {o_had : Nat} {o_placeOf : Nat} {i_inLong : Int32} {i_goesOn : Int32} {i_outLong : Int32} {i_greatest : Int32} {i_knots : Int32} {i_bitsMade : Int32} {i_weights : Int32} {i_order : Int32} {i_bit : Int32} {i_bitEnd : Int32} {v_in : Nat → Int32} {v_length : Nat → Int32} {v_symbolOf : Nat → Int32} {l1 : Int32} {l2 : Int32} {N : Nat} {res : Int32 × (Nat → Int32)}  (C : Cx p s m args c b_MM_takeFour 8 "PrefixMillModel" D [(cI, .int), (cL, .long), (cZ, .boolean)] A) (hret : E_MM_takeFour p l e s m args below meth c Q A D cI cL cZ a_this a_in a_length a_symbolOf a_made o_out o_counts o_draft o_knot o_inSum o_halved o_weight o_points o_cutOff o_had o_placeOf i_inLong i_goesOn i_outLong i_greatest i_knots i_bitsMade i_weights i_order i_bit i_bitEnd v_in v_length v_symbolOf l1 l2 res)  : I_MM_takeFour_b0 p l e s m args below meth c Q A D cI cL cZ a_this a_in a_length a_symbolOf a_made o_out o_counts o_draft o_knot o_inSum o_halved o_weight o_points o_cutOff o_had o_placeOf i_inLong i_goesOn i_outLong i_greatest i_knots i_bitsMade i_weights i_order i_bit i_bitEnd v_in v_length v_symbolOf l1 l2 res (f_MM_takeFour N i_inLong i_goesOn i_greatest v_in v_length v_symbolOf l1 l2 ) := by
  obtain ⟨hx, hb, hml, hown, hts, hK, hA⟩ := C
  intro v_made h H locs ls hl hP hD hS
  unfold f_MM_takeFour at h
  refine lv_aload_n hx hb d_MM_takeFour_0 rfl (lv_at hl 0 rfl) ?_
  refine va_get hx hb hts in_MM hown hK hP 0 rfl rfl 1 (by decide) (hts _ m_754) (fun _ h9 => h9) rfl d_MM_takeFour_1 ?_
  refine lv_aload_n hx hb d_MM_takeFour_4 rfl (lv_at hl 0 rfl) ?_
  refine va_get hx hb hts in_MM hown hK hP 0 rfl rfl 2 (by decide) (hts _ m_755) (fun _ h9 => h9) rfl d_MM_takeFour_5 ?_
  refine lv_isub hx hb d_MM_takeFour_8 ?_
  refine lv_bipush (v := 6) hx hb d_MM_takeFour_9 (by decide) ?_
  refine lv_icmp_ge (tgt := 17) hx hb d_MM_takeFour_11 (by decide) (fun c_1 => ?_) (fun c_1 => ?_)
  · replace h := if_t h c_1
    refine lv_aload_n hx hb d_MM_takeFour_17 rfl (lv_at hl 0 rfl) ?_
    refine va_get hx hb hts in_MM hown hK hP 0 rfl rfl 2 (by decide) (hts _ m_755) (fun _ h9 => h9) rfl d_MM_takeFour_18 ?_
    refine lv_bipush (v := 6) hx hb d_MM_takeFour_21 (by decide) ?_
    refine lv_iadd hx hb d_MM_takeFour_23 ?_
    refine lv_topi (fun l3_2 el3_2 => ?_)
    replace h := nm_s h el3_2
    refine lv_istore_n (lv' := [(3, .int l3_2), (0, .ref a_this), (1, .int l1), (2, .int l2)]) hx hb d_MM_takeFour_24 rfl hl (by decide) rfl (fun ls hl => ?_)
    refine lv_iload_n hx hb d_MM_takeFour_25 rfl (lv_at hl 0 rfl) ?_
    refine lv_istore (lv' := [(4, .int l3_2), (3, .int l3_2), (0, .ref a_this), (1, .int l1), (2, .int l2)]) hx hb d_MM_takeFour_26 hl (by decide) rfl (fun ls hl => ?_)
    refine lv_iconst (v := 0) hx hb d_MM_takeFour_28 (by decide) ?_
    refine lv_istore (lv' := [(5, .int 0), (4, .int l3_2), (3, .int l3_2), (0, .ref a_this), (1, .int l1), (2, .int l2)]) hx hb d_MM_takeFour_29 hl (by decide) rfl (fun ls hl => ?_)
    exact w_MM_takeFour_b31 ⟨hx, hb, hml, hown, hts, hK, hA⟩ hret  N _ _ _ _ h H locs ls (lv_sub hl [3, 4, 5, 2, 1, 0] rfl) hP hD hS
  · replace h := if_f h c_1
    refine lv_bipush (v := (-2)) hx hb d_MM_takeFour_14 (by decide) ?_
    exact hret _ _ _ _ (-2) v_made h d_MM_takeFour_16 hP hD hS
set_option maxHeartbeats 4000000 in
set_option maxRecDepth 100000 in
theorem c_MM_takeFour (l : Launch) (D : va_G) (cI cL cZ : ClassId) (sz N : Nat) (a_this : Nat) (a_in : Nat) (a_length : Nat) (a_symbolOf : Nat) (a_made : Nat) (o_out : Nat) (o_counts : Nat) (o_draft : Nat) (o_knot : Nat) (o_inSum : Nat) (o_halved : Nat) (o_weight : Nat) (o_points : Nat) (o_cutOff : Nat) (o_had : Nat) (o_placeOf : Nat) (i_inLong : Int32) (i_goesOn : Int32) (i_outLong : Int32) (i_greatest : Int32) (i_knots : Int32) (i_bitsMade : Int32) (i_weights : Int32) (i_order : Int32) (i_bit : Int32) (i_bitEnd : Int32) (v_in : Nat → Int32) (v_length : Nat → Int32) (v_symbolOf : Nat → Int32) (v_made : Nat → Int32) (l1 : Int32) (l2 : Int32) (rv : Int32) (v_made' : Nat → Int32) (h : f_MM_takeFour N i_inLong i_goesOn i_greatest v_in v_length v_symbolOf l1 l2 v_made = some (rv, v_made')) : Met l ({ cls := "PrefixMillModel", name := "takeFour", desc := "(II)I" } : Jvm.MethodName) ws_MM_takeFour R_MM_takeFour (va_Pc [.ref a_this, .int l1, .int l2] (fun U => U.heap.size = sz ∧ va_P D classes [(a_this, .inr (1, [.ref a_in, .int i_inLong, .int i_goesOn, .ref o_out, .int i_outLong, .ref o_counts, .int i_greatest, .ref a_length, .ref a_symbolOf, .ref o_draft, .ref o_knot, .ref o_inSum, .int i_knots, .ref o_halved, .ref a_made, .int i_bitsMade, .ref o_weight, .int i_weights, .int i_order, .ref o_points, .ref o_cutOff, .ref o_had, .ref o_placeOf, .int i_bit, .int i_bitEnd])), (a_in, .inl (cI, 6000, .inl v_in)), (a_length, .inl (cI, 256, .inl v_length)), (a_symbolOf, .inl (cI, 2048, .inl v_symbolOf)), (a_made, .inl (cI, 6000, .inl v_made))] U.heap ∧ va_K D classes [(cI, .int), (cL, .long), (cZ, .boolean)] U ∧ va_D (fun _ => True) [(a_this, .inr (1, [.ref a_in, .int i_inLong, .int i_goesOn, .ref o_out, .int i_outLong, .ref o_counts, .int i_greatest, .ref a_length, .ref a_symbolOf, .ref o_draft, .ref o_knot, .ref o_inSum, .int i_knots, .ref o_halved, .ref a_made, .int i_bitsMade, .ref o_weight, .int i_weights, .int i_order, .ref o_points, .ref o_cutOff, .ref o_had, .ref o_placeOf, .int i_bit, .int i_bitEnd])), (a_in, .inl (cI, 6000, .inl v_in)), (a_length, .inl (cI, 256, .inl v_length)), (a_symbolOf, .inl (cI, 2048, .inl v_symbolOf)), (a_made, .inl (cI, 6000, .inl v_made))])) (va_Qi (fun (r0 : Int32) (_ : Unit) => rv = r0) (fun _ t => va_P D classes [(a_this, .inr (1, [.ref a_in, .int i_inLong, .int i_goesOn, .ref o_out, .int i_outLong, .ref o_counts, .int i_greatest, .ref a_length, .ref a_symbolOf, .ref o_draft, .ref o_knot, .ref o_inSum, .int i_knots, .ref o_halved, .ref a_made, .int i_bitsMade, .ref o_weight, .int i_weights, .int i_order, .ref o_points, .ref o_cutOff, .ref o_had, .ref o_placeOf, .int i_bit, .int i_bitEnd])), (a_in, .inl (cI, 6000, .inl v_in)), (a_length, .inl (cI, 256, .inl v_length)), (a_symbolOf, .inl (cI, 2048, .inl v_symbolOf)), (a_made, .inl (cI, 6000, .inl v_made'))] t.heap ∧ va_K D classes [(cI, .int), (cL, .long), (cZ, .boolean)] t ∧ va_D (va_A [(a_this, .inr (1, [.ref a_in, .int i_inLong, .int i_goesOn, .ref o_out, .int i_outLong, .ref o_counts, .int i_greatest, .ref a_length, .ref a_symbolOf, .ref o_draft, .ref o_knot, .ref o_inSum, .int i_knots, .ref o_halved, .ref a_made, .int i_bitsMade, .ref o_weight, .int i_weights, .int i_order, .ref o_points, .ref o_cutOff, .ref o_had, .ref o_placeOf, .int i_bit, .int i_bitEnd])), (a_in, .inl (cI, 6000, .inl v_in)), (a_length, .inl (cI, 256, .inl v_length)), (a_symbolOf, .inl (cI, 2048, .inl v_symbolOf)), (a_made, .inl (cI, 6000, .inl v_made))] sz) [(a_this, .inr (1, [.ref a_in, .int i_inLong, .int i_goesOn, .ref o_out, .int i_outLong, .ref o_counts, .int i_greatest, .ref a_length, .ref a_symbolOf, .ref o_draft, .ref o_knot, .ref o_inSum, .int i_knots, .ref o_halved, .ref a_made, .int i_bitsMade, .ref o_weight, .int i_weights, .int i_order, .ref o_points, .ref o_cutOff, .ref o_had, .ref o_placeOf, .int i_bit, .int i_bitEnd])), (a_in, .inl (cI, 6000, .inl v_in)), (a_length, .inl (cI, 256, .inl v_length)), (a_symbolOf, .inl (cI, 2048, .inl v_symbolOf)), (a_made, .inl (cI, 6000, .inl v_made'))]) (va_A [(a_this, .inr (1, [.ref a_in, .int i_inLong, .int i_goesOn, .ref o_out, .int i_outLong, .ref o_counts, .int i_greatest, .ref a_length, .ref a_symbolOf, .ref o_draft, .ref o_knot, .ref o_inSum, .int i_knots, .ref o_halved, .ref a_made, .int i_bitsMade, .ref o_weight, .int i_weights, .int i_order, .ref o_points, .ref o_cutOff, .ref o_had, .ref o_placeOf, .int i_bit, .int i_bitEnd])), (a_in, .inl (cI, 6000, .inl v_in)), (a_length, .inl (cI, 256, .inl v_length)), (a_symbolOf, .inl (cI, 2048, .inl v_symbolOf)), (a_made, .inl (cI, 6000, .inl v_made))] sz)) 0 0 (va_A [(a_this, .inr (1, [.ref a_in, .int i_inLong, .int i_goesOn, .ref o_out, .int i_outLong, .ref o_counts, .int i_greatest, .ref a_length, .ref a_symbolOf, .ref o_draft, .ref o_knot, .ref o_inSum, .int i_knots, .ref o_halved, .ref a_made, .int i_bitsMade, .ref o_weight, .int i_weights, .int i_order, .ref o_points, .ref o_cutOff, .ref o_had, .ref o_placeOf, .int i_bit, .int i_bitEnd])), (a_in, .inl (cI, 6000, .inl v_in)), (a_length, .inl (cI, 256, .inl v_length)), (a_symbolOf, .inl (cI, 2048, .inl v_symbolOf)), (a_made, .inl (cI, 6000, .inl v_made))] sz) := by
  refine Met.ofW (cc := b_MM_takeFour) (maxL := 8) (ret := (some .int)) (by decide) rfl ?_
  intro p e s m args below meth c s₁ B hml hv
  obtain ⟨rfl, hsz, hP, hK, hD0⟩ := hv
  have hx := B.exec
  have hb := B.bytes
  have hr := B.returns
  have hts0 := atoms_spec (ws := ws_MM_takeFour) B.pre
  have hts := gd_tl hts0
  clear hts0
  have hown : s.vm.findClass "PrefixMillModel" = some m.cls := findClass_of_methodNamed B.named
  have hlocks := B.notSynchronized
  subst hsz
  have hD := hD0.self (sz := s.heap.size)
  generalize hAe : va_A [(a_this, .inr (1, [.ref a_in, .int i_inLong, .int i_goesOn, .ref o_out, .int i_outLong, .ref o_counts, .int i_greatest, .ref a_length, .ref a_symbolOf, .ref o_draft, .ref o_knot, .ref o_inSum, .int i_knots, .ref o_halved, .ref a_made, .int i_bitsMade, .ref o_weight, .int i_weights, .int i_order, .ref o_points, .ref o_cutOff, .ref o_had, .ref o_placeOf, .int i_bit, .int i_bitEnd])), (a_in, .inl (cI, 6000, .inl v_in)), (a_length, .inl (cI, 256, .inl v_length)), (a_symbolOf, .inl (cI, 2048, .inl v_symbolOf)), (a_made, .inl (cI, 6000, .inl v_made))] s.heap.size = A at hD ⊢
  have hA : ∀ q : Nat, s.heap.size ≤ q → A q := fun q h => by rw [← hAe]; exact Or.inr h
  have hS : va_S A s.heap s.heap [] := va_S.rf
  have hP : va_P D classes [(a_this, .inr (1, [.ref a_in, .int i_inLong, .int i_goesOn, .ref o_out, .int i_outLong, .ref o_counts, .int i_greatest, .ref a_length, .ref a_symbolOf, .ref o_draft, .ref o_knot, .ref o_inSum, .int i_knots, .ref o_halved, .ref a_made, .int i_bitsMade, .ref o_weight, .int i_weights, .int i_order, .ref o_points, .ref o_cutOff, .ref o_had, .ref o_placeOf, .int i_bit, .int i_bitEnd])), (a_in, .inl (cI, 6000, .inl v_in)), (a_length, .inl (cI, 256, .inl v_length)), (a_symbolOf, .inl (cI, 2048, .inl v_symbolOf)), (a_made, .inl (cI, 6000, .inl v_made))] s.heap := hP
  have hl := lv_entry ([.ref a_this, .int l1, .int l2]) (n := 8) (Nat.le_of_ble_eq_true rfl)
  rw [lg_entry_eq]
  generalize (lg_sl ([.ref a_this, .int l1, .int l2]) ++ List.replicate (8 - (lg_sl ([.ref a_this, .int l1, .int l2])).length) Slot.unset).toArray = ls at hl ⊢
  have hl : lv_has ls 8 [(0, .ref a_this), (1, .int l1), (2, .int l2)] := hl
  have C : Cx p s m ([.ref a_this, .int l1, .int l2] : List Value).toArray c b_MM_takeFour 8 "PrefixMillModel" D [(cI, .int), (cL, .long), (cZ, .boolean)] A := ⟨hx, hb, hml, hown, hts, hK, hA⟩
  refine w_MM_takeFour_b0 (res := (rv, v_made')) C ?_ _ h s.heap [] ls hl hP hD hS
  intro pc9 H9 locs9 ls9 rv9 v_made9 e9 d9 hP9 hD9 hS9
  cases e9
  exact W.iret (v := rv) hx hb hr (fun t ht hW => ⟨⟨rv, (), rfl, rfl, by rw [ht]; exact hP9, va_K.moved hW.alike hK, hD9⟩, hS9.F ht⟩) hS9.2.2 d9
abbrev b_MM_decode : ByteArray := prog_12_method_30_code
def ws_MM_decode : List Cond := .code ({ cls := "PrefixMillModel", name := "decode", desc := "(IZ)I" } : Jvm.MethodName) b_MM_decode 6 (some .int) :: tt
theorem d_MM_decode_0 : decode b_MM_decode 0 = .ok (.aload_n 0, 1) := by decide +kernel
theorem d_MM_decode_1 : decode b_MM_decode 1 = .ok (.getfield 69, 3) := by decide +kernel
theorem d_MM_decode_4 : decode b_MM_decode 4 = .ok (.ifCond .eq 14, 3) := by decide +kernel
theorem d_MM_decode_7 : decode b_MM_decode 7 = .ok (.iload_n 1, 1) := by decide +kernel
theorem d_MM_decode_8 : decode b_MM_decode 8 = .ok (.ifCond .lt 10, 3) := by decide +kernel
theorem d_MM_decode_11 : decode b_MM_decode 11 = .ok (.iload_n 1, 1) := by decide +kernel
theorem d_MM_decode_12 : decode b_MM_decode 12 = .ok (.sipush 6000, 3) := by decide +kernel
theorem d_MM_decode_15 : decode b_MM_decode 15 = .ok (.if_icmp .le 5, 3) := by decide +kernel
theorem d_MM_decode_18 : decode b_MM_decode 18 = .ok (.iconst (-1), 1) := by decide +kernel
theorem d_MM_decode_19 : decode b_MM_decode 19 = .ok (.ireturn, 1) := by decide +kernel
theorem d_MM_decode_20 : decode b_MM_decode 20 = .ok (.iload_n 1, 1) := by decide +kernel
theorem d_MM_decode_21 : decode b_MM_decode 21 = .ok (.iconst 3, 1) := by decide +kernel
theorem d_MM_decode_22 : decode b_MM_decode 22 = .ok (.iadd, 1) := by decide +kernel
theorem d_MM_decode_23 : decode b_MM_decode 23 = .ok (.iconst 4, 1) := by decide +kernel
theorem d_MM_decode_24 : decode b_MM_decode 24 = .ok (.idiv, 1) := by decide +kernel
theorem d_MM_decode_25 : decode b_MM_decode 25 = .ok (.istore_n 3, 1) := by decide +kernel
theorem d_MM_decode_26 : decode b_MM_decode 26 = .ok (.iload_n 2, 1) := by decide +kernel
theorem d_MM_decode_27 : decode b_MM_decode 27 = .ok (.ifCond .eq 12, 3) := by decide +kernel
theorem d_MM_decode_30 : decode b_MM_decode 30 = .ok (.iload_n 1, 1) := by decide +kernel
theorem d_MM_decode_31 : decode b_MM_decode 31 = .ok (.iconst 3, 1) := by decide +kernel
theorem d_MM_decode_32 : decode b_MM_decode 32 = .ok (.iload_n 3, 1) := by decide +kernel
theorem d_MM_decode_33 : decode b_MM_decode 33 = .ok (.imul, 1) := by decide +kernel
theorem d_MM_decode_34 : decode b_MM_decode 34 = .ok (.if_icmp .ge 5, 3) := by decide +kernel
theorem d_MM_decode_37 : decode b_MM_decode 37 = .ok (.iconst (-1), 1) := by decide +kernel
theorem d_MM_decode_38 : decode b_MM_decode 38 = .ok (.ireturn, 1) := by decide +kernel
theorem d_MM_decode_39 : decode b_MM_decode 39 = .ok (.iload_n 2, 1) := by decide +kernel
theorem d_MM_decode_40 : decode b_MM_decode 40 = .ok (.ifCond .eq 12, 3) := by decide +kernel
theorem d_MM_decode_43 : decode b_MM_decode 43 = .ok (.aload_n 0, 1) := by decide +kernel
theorem d_MM_decode_44 : decode b_MM_decode 44 = .ok (.iload_n 1, 1) := by decide +kernel
theorem d_MM_decode_45 : decode b_MM_decode 45 = .ok (.iload_n 3, 1) := by decide +kernel
theorem d_MM_decode_46 : decode b_MM_decode 46 = .ok (.invokevirtual 125, 3) := by decide +kernel
theorem d_MM_decode_49 : decode b_MM_decode 49 = .ok (.goto 17, 3) := by decide +kernel
theorem d_MM_decode_52 : decode b_MM_decode 52 = .ok (.aload_n 0, 1) := by decide +kernel
theorem d_MM_decode_53 : decode b_MM_decode 53 = .ok (.aload_n 0, 1) := by decide +kernel
theorem d_MM_decode_54 : decode b_MM_decode 54 = .ok (.getfield 65, 3) := by decide +kernel
theorem d_MM_decode_57 : decode b_MM_decode 57 = .ok (.aload_n 0, 1) := by decide +kernel
theorem d_MM_decode_58 : decode b_MM_decode 58 = .ok (.getfield 56, 3) := by decide +kernel
theorem d_MM_decode_61 : decode b_MM_decode 61 = .ok (.iload_n 1, 1) := by decide +kernel
theorem d_MM_decode_62 : decode b_MM_decode 62 = .ok (.iconst 0, 1) := by decide +kernel
theorem d_MM_decode_63 : decode b_MM_decode 63 = .ok (.invokevirtual 121, 3) := by decide +kernel
theorem d_MM_decode_66 : decode b_MM_decode 66 = .ok (.istore 4, 2) := by decide +kernel
theorem d_MM_decode_68 : decode b_MM_decode 68 = .ok (.iload 4, 2) := by decide +kernel
theorem d_MM_decode_70 : decode b_MM_decode 70 = .ok (.ifCond .eq 6, 3) := by decide +kernel
theorem d_MM_decode_73 : decode b_MM_decode 73 = .ok (.iload 4, 2) := by decide +kernel
theorem d_MM_decode_75 : decode b_MM_decode 75 = .ok (.ireturn, 1) := by decide +kernel
theorem d_MM_decode_76 : decode b_MM_decode 76 = .ok (.iconst 0, 1) := by decide +kernel
theorem d_MM_decode_77 : decode b_MM_decode 77 = .ok (.istore 5, 2) := by decide +kernel
theorem d_MM_decode_79 : decode b_MM_decode 79 = .ok (.iload 5, 2) := by decide +kernel
theorem d_MM_decode_81 : decode b_MM_decode 81 = .ok (.iload_n 1, 1) := by decide +kernel
theorem d_MM_decode_82 : decode b_MM_decode 82 = .ok (.if_icmp .ge 23, 3) := by decide +kernel
theorem d_MM_decode_85 : decode b_MM_decode 85 = .ok (.aload_n 0, 1) := by decide +kernel
theorem d_MM_decode_86 : decode b_MM_decode 86 = .ok (.getfield 13, 3) := by decide +kernel
theorem d_MM_decode_89 : decode b_MM_decode 89 = .ok (.iload 5, 2) := by decide +kernel
theorem d_MM_decode_91 : decode b_MM_decode 91 = .ok (.aload_n 0, 1) := by decide +kernel
theorem d_MM_decode_92 : decode b_MM_decode 92 = .ok (.getfield 37, 3) := by decide +kernel
theorem d_MM_decode_95 : decode b_MM_decode 95 = .ok (.iload 5, 2) := by decide +kernel
theorem d_MM_decode_97 : decode b_MM_decode 97 = .ok (.iaload, 1) := by decide +kernel
theorem d_MM_decode_98 : decode b_MM_decode 98 = .ok (.iastore, 1) := by decide +kernel
theorem d_MM_decode_99 : decode b_MM_decode 99 = .ok (.iinc 5 1, 3) := by decide +kernel
theorem d_MM_decode_102 : decode b_MM_decode 102 = .ok (.goto (-23), 3) := by decide +kernel
theorem d_MM_decode_105 : decode b_MM_decode 105 = .ok (.aload_n 0, 1) := by decide +kernel
theorem d_MM_decode_106 : decode b_MM_decode 106 = .ok (.iload_n 1, 1) := by decide +kernel
theorem d_MM_decode_107 : decode b_MM_decode 107 = .ok (.putfield 62, 3) := by decide +kernel
theorem d_MM_decode_110 : decode b_MM_decode 110 = .ok (.iload_n 1, 1) := by decide +kernel
theorem d_MM_decode_111 : decode b_MM_decode 111 = .ok (.ireturn, 1) := by decide +kernel
def f_MM_decode_b18 (N : Nat) (i_inLong : Int32) (i_goesOn : Int32) (i_greatest : Int32) (v_in : Nat → Int32) (v_length : Nat → Int32) (v_symbolOf : Nat → Int32) (l1 : Int32) (l2 : Int32)  (i_outLong : Int32) (v_out : Nat → Int32) (v_made : Nat → Int32) : Option (Int32 × Int32 × (Nat → Int32) × (Nat → Int32)) :=
  some ((-1), i_outLong, v_out, v_made)
def f_MM_decode_b105 (N : Nat) (i_inLong : Int32) (i_goesOn : Int32) (i_greatest : Int32) (v_in : Nat → Int32) (v_length : Nat → Int32) (v_symbolOf : Nat → Int32) (l1 : Int32) (l2 : Int32)  (i_outLong : Int32) (v_out : Nat → Int32) (v_made : Nat → Int32) : Option (Int32 × Int32 × (Nat → Int32) × (Nat → Int32)) :=
  some (l1, l1, v_out, v_made)
def f_MM_decode_b79 (N : Nat) (i_inLong : Int32) (i_goesOn : Int32) (i_greatest : Int32) (v_in : Nat → Int32) (v_length : Nat → Int32) (v_symbolOf : Nat → Int32) (l1 : Int32) (l2 : Int32)  : Nat → Int32 → Int32 → (Nat → Int32) → (Nat → Int32) → Option (Int32 × Int32 × (Nat → Int32) × (Nat → Int32))
  | 0, _, _, _, _ => none
  | z + 1, l5, i_outLong, v_out, v_made =>
  if l1 ≤ l5 then
  f_MM_decode_b105 N i_inLong i_goesOn i_greatest v_in v_length v_symbolOf l1 l2  i_outLong v_out v_made
  else
  ck (inb l5 6000) <|
  ck (inb l5 6000) <|
  nm (upd v_out (Int32.toNatClampNeg l5) (v_made (Int32.toNatClampNeg l5))) fun v_out_4 =>
  nm (l5 + 1) fun l5_5 =>
  f_MM_decode_b79 N i_inLong i_goesOn i_greatest v_in v_length v_symbolOf l1 l2  z l5_5 i_outLong v_out_4 v_made
def f_MM_decode_b66 (N : Nat) (i_inLong : Int32) (i_goesOn : Int32) (i_greatest : Int32) (v_in : Nat → Int32) (v_length : Nat → Int32) (v_symbolOf : Nat → Int32) (l1 : Int32) (l2 : Int32)  (s0 : Int32) (i_outLong : Int32) (v_out : Nat → Int32) (v_made : Nat → Int32) : Option (Int32 × Int32 × (Nat → Int32) × (Nat → Int32)) :=
  if s0 = 0 then
  f_MM_decode_b79 N i_inLong i_goesOn i_greatest v_in v_length v_symbolOf l1 l2  N 0 i_outLong v_out v_made
  else
  some (s0, i_outLong, v_out, v_made)
def f_MM_decode_b39 (N : Nat) (i_inLong : Int32) (i_goesOn : Int32) (i_greatest : Int32) (v_in : Nat → Int32) (v_length : Nat → Int32) (v_symbolOf : Nat → Int32) (l1 : Int32) (l2 : Int32)  (l3 : Int32) (i_outLong : Int32) (v_out : Nat → Int32) (v_made : Nat → Int32) : Option (Int32 × Int32 × (Nat → Int32) × (Nat → Int32)) :=
  if l2 = 0 then
  bd2 (f_MM_takeStream N i_greatest v_in v_length v_symbolOf i_goesOn i_inLong l1 0 v_made) fun r_2 v_made_3 =>
  f_MM_decode_b66 N i_inLong i_goesOn i_greatest v_in v_length v_symbolOf l1 l2  r_2 i_outLong v_out v_made_3
  else
  bd2 (f_MM_takeFour N i_inLong i_goesOn i_greatest v_in v_length v_symbolOf l1 l3 v_made) fun r_5 v_made_6 =>
  f_MM_decode_b66 N i_inLong i_goesOn i_greatest v_in v_length v_symbolOf l1 l2  r_5 i_outLong v_out v_made_6
def f_MM_decode (N : Nat) (i_inLong : Int32) (i_goesOn : Int32) (i_greatest : Int32) (v_in : Nat → Int32) (v_length : Nat → Int32) (v_symbolOf : Nat → Int32) (l1 : Int32) (l2 : Int32)  (i_outLong : Int32) (v_out : Nat → Int32) (v_made : Nat → Int32) : Option (Int32 × Int32 × (Nat → Int32) × (Nat → Int32)) :=
  if i_greatest = 0 then
  f_MM_decode_b18 N i_inLong i_goesOn i_greatest v_in v_length v_symbolOf l1 l2  i_outLong v_out v_made
  else
  if l1 < 0 then
  f_MM_decode_b18 N i_inLong i_goesOn i_greatest v_in v_length v_symbolOf l1 l2  i_outLong v_out v_made
  else
  if l1 ≤ 6000 then
  nm ((l1 + 3) / 4) fun l3_4 =>
  if l2 = 0 then
  f_MM_decode_b39 N i_inLong i_goesOn i_greatest v_in v_length v_symbolOf l1 l2  l3_4 i_outLong v_out v_made
  else
  if (3 * l3_4) ≤ l1 then
  f_MM_decode_b39 N i_inLong i_goesOn i_greatest v_in v_length v_symbolOf l1 l2  l3_4 i_outLong v_out v_made
  else
  some ((-1), i_outLong, v_out, v_made)
  else
  f_MM_decode_b18 N i_inLong i_goesOn i_greatest v_in v_length v_symbolOf l1 l2  i_outLong v_out v_made
abbrev R_MM_decode : Room := ({ frames := 3, cells := 0, slots := 0, locals := 77 } : Room)
def E_MM_decode (p : Program) (l : Launch) (e : Env) (s : State) (m : MethodId) (args : Array Value) (below : List Frame) (meth : Method) (c : Code) (Q : State → Prop) (A : Nat → Prop) (D : va_G) (cI cL cZ : ClassId) (a_this : Nat) (a_in : Nat) (a_out : Nat) (a_length : Nat) (a_symbolOf : Nat) (a_made : Nat) (o_counts : Nat) (o_draft : Nat) (o_knot : Nat) (o_inSum : Nat) (o_halved : Nat) (o_weight : Nat) (o_points : Nat) (o_cutOff : Nat) (o_had : Nat) (o_placeOf : Nat) (i_inLong : Int32) (i_goesOn : Int32) (i_greatest : Int32) (i_knots : Int32) (i_bitsMade : Int32) (i_weights : Int32) (i_order : Int32) (i_bit : Int32) (i_bitEnd : Int32) (v_in : Nat → Int32) (v_length : Nat → Int32) (v_symbolOf : Nat → Int32) (l1 : Int32) (l2 : Int32) (res : Int32 × Int32 × (Nat → Int32) × (Nat → Int32)) : Prop := ∀ (pc : Nat) (H : Heap) (locs : List Loc) (ls : Array Slot) (rv : Int32) (i_outLong : Int32) (v_out : Nat → Int32) (v_made : Nat → Int32), some (rv, i_outLong, v_out, v_made) = some res → decode b_MM_decode pc = .ok (.ireturn, 1) → va_P D classes [(a_this, .inr (1, [.ref a_in, .int i_inLong, .int i_goesOn, .ref a_out, .int i_outLong, .ref o_counts, .int i_greatest, .ref a_length, .ref a_symbolOf, .ref o_draft, .ref o_knot, .ref o_inSum, .int i_knots, .ref o_halved, .ref a_made, .int i_bitsMade, .ref o_weight, .int i_weights, .int i_order, .ref o_points, .ref o_cutOff, .ref o_had, .ref o_placeOf, .int i_bit, .int i_bitEnd])), (a_in, .inl (cI, 6000, .inl v_in)), (a_out, .inl (cI, 6000, .inl v_out)), (a_length, .inl (cI, 256, .inl v_length)), (a_symbolOf, .inl (cI, 2048, .inl v_symbolOf)), (a_made, .inl (cI, 6000, .inl v_made))] H → va_D A [(a_this, .inr (1, [.ref a_in, .int i_inLong, .int i_goesOn, .ref a_out, .int i_outLong, .ref o_counts, .int i_greatest, .ref a_length, .ref a_symbolOf, .ref o_draft, .ref o_knot, .ref o_inSum, .int i_knots, .ref o_halved, .ref a_made, .int i_bitsMade, .ref o_weight, .int i_weights, .int i_order, .ref o_points, .ref o_cutOff, .ref o_had, .ref o_placeOf, .int i_bit, .int i_bitEnd])), (a_in, .inl (cI, 6000, .inl v_in)), (a_out, .inl (cI, 6000, .inl v_out)), (a_length, .inl (cI, 256, .inl v_length)), (a_symbolOf, .inl (cI, 2048, .inl v_symbolOf)), (a_made, .inl (cI, 6000, .inl v_made))] → va_S A s.heap H locs → W p l e R_MM_decode s m args below meth c H locs 0 0 Q (F0 m pc ls [.int rv])
def I_MM_decode_b18 (p : Program) (l : Launch) (e : Env) (s : State) (m : MethodId) (args : Array Value) (below : List Frame) (meth : Method) (c : Code) (Q : State → Prop) (A : Nat → Prop) (D : va_G) (cI cL cZ : ClassId) (a_this : Nat) (a_in : Nat) (a_out : Nat) (a_length : Nat) (a_symbolOf : Nat) (a_made : Nat) (o_counts : Nat) (o_draft : Nat) (o_knot : Nat) (o_inSum : Nat) (o_halved : Nat) (o_weight : Nat) (o_points : Nat) (o_cutOff : Nat) (o_had : Nat) (o_placeOf : Nat) (i_inLong : Int32) (i_goesOn : Int32) (i_greatest : Int32) (i_knots : Int32) (i_bitsMade : Int32) (i_weights : Int32) (i_order : Int32) (i_bit : Int32) (i_bitEnd : Int32) (v_in : Nat → Int32) (v_length : Nat → Int32) (v_symbolOf : Nat → Int32) (l1 : Int32) (l2 : Int32) (res : Int32 × Int32 × (Nat → Int32) × (Nat → Int32)) (kf : Int32 → (Nat → Int32) → (Nat → Int32) → Option (Int32 × Int32 × (Nat → Int32) × (Nat → Int32))) : Prop := ∀ (i_outLong : Int32) (v_out : Nat → Int32) (v_made : Nat → Int32), kf i_outLong v_out v_made = some res → ∀ (H : Heap) (locs : List Loc) (ls : Array Slot), lv_has ls 6 [] → va_P D classes [(a_this, .inr (1, [.ref a_in, .int i_inLong, .int i_goesOn, .ref a_out, .int i_outLong, .ref o_counts, .int i_greatest, .ref a_length, .ref a_symbolOf, .ref o_draft, .ref o_knot, .ref o_inSum, .int i_knots, .ref o_halved, .ref a_made, .int i_bitsMade, .ref o_weight, .int i_weights, .int i_order, .ref o_points, .ref o_cutOff, .ref o_had, .ref o_placeOf, .int i_bit, .int i_bitEnd])), (a_in, .inl (cI, 6000, .inl v_in)), (a_out, .inl (cI, 6000, .inl v_out)), (a_length, .inl (cI, 256, .inl v_length)), (a_symbolOf, .inl (cI, 2048, .inl v_symbolOf)), (a_made, .inl (cI, 6000, .inl v_made))] H → va_D A [(a_this, .inr (1, [.ref a_in, .int i_inLong, .int i_goesOn, .ref a_out, .int i_outLong, .ref o_counts, .int i_greatest, .ref a_length, .ref a_symbolOf, .ref o_draft, .ref o_knot, .ref o_inSum, .int i_knots, .ref o_halved, .ref a_made, .int i_bitsMade, .ref o_weight, .int i_weights, .int i_order, .ref o_points, .ref o_cutOff, .ref o_had, .ref o_placeOf, .int i_bit, .int i_bitEnd])), (a_in, .inl (cI, 6000, .inl v_in)), (a_out, .inl (cI, 6000, .inl v_out)), (a_length, .inl (cI, 256, .inl v_length)), (a_symbolOf, .inl (cI, 2048, .inl v_symbolOf)), (a_made, .inl (cI, 6000, .inl v_made))] → va_S A s.heap H locs → W p l e R_MM_decode s m args below meth c H locs 0 0 Q (F0 m 18 ls [])
def I_MM_decode_b105 (p : Program) (l : Launch) (e : Env) (s : State) (m : MethodId) (args : Array Value) (below : List Frame) (meth : Method) (c : Code) (Q : State → Prop) (A : Nat → Prop) (D : va_G) (cI cL cZ : ClassId) (a_this : Nat) (a_in : Nat) (a_out : Nat) (a_length : Nat) (a_symbolOf : Nat) (a_made : Nat) (o_counts : Nat) (o_draft : Nat) (o_knot : Nat) (o_inSum : Nat) (o_halved : Nat) (o_weight : Nat) (o_points : Nat) (o_cutOff : Nat) (o_had : Nat) (o_placeOf : Nat) (i_inLong : Int32) (i_goesOn : Int32) (i_greatest : Int32) (i_knots : Int32) (i_bitsMade : Int32) (i_weights : Int32) (i_order : Int32) (i_bit : Int32) (i_bitEnd : Int32) (v_in : Nat → Int32) (v_length : Nat → Int32) (v_symbolOf : Nat → Int32) (l1 : Int32) (l2 : Int32) (res : Int32 × Int32 × (Nat → Int32) × (Nat → Int32)) (kf : Int32 → (Nat → Int32) → (Nat → Int32) → Option (Int32 × Int32 × (Nat → Int32) × (Nat → Int32))) : Prop := ∀ (i_outLong : Int32) (v_out : Nat → Int32) (v_made : Nat → Int32), kf i_outLong v_out v_made = some res → ∀ (H : Heap) (locs : List Loc) (ls : Array Slot), lv_has ls 6 [(0, .ref a_this), (1, .int l1)] → va_P D classes [(a_this, .inr (1, [.ref a_in, .int i_inLong, .int i_goesOn, .ref a_out, .int i_outLong, .ref o_counts, .int i_greatest, .ref a_length, .ref a_symbolOf, .ref o_draft, .ref o_knot, .ref o_inSum, .int i_knots, .ref o_halved, .ref a_made, .int i_bitsMade, .ref o_weight, .int i_weights, .int i_order, .ref o_points, .ref o_cutOff, .ref o_had, .ref o_placeOf, .int i_bit, .int i_bitEnd])), (a_in, .inl (cI, 6000, .inl v_in)), (a_out, .inl (cI, 6000, .inl v_out)), (a_length, .inl (cI, 256, .inl v_length)), (a_symbolOf, .inl (cI, 2048, .inl v_symbolOf)), (a_made, .inl (cI, 6000, .inl v_made))] H → va_D A [(a_this, .inr (1, [.ref a_in, .int i_inLong, .int i_goesOn, .ref a_out, .int i_outLong, .ref o_counts, .int i_greatest, .ref a_length, .ref a_symbolOf, .ref o_draft, .ref o_knot, .ref o_inSum, .int i_knots, .ref o_halved, .ref a_made, .int i_bitsMade, .ref o_weight, .int i_weights, .int i_order, .ref o_points, .ref o_cutOff, .ref o_had, .ref o_placeOf, .int i_bit, .int i_bitEnd])), (a_in, .inl (cI, 6000, .inl v_in)), (a_out, .inl (cI, 6000, .inl v_out)), (a_length, .inl (cI, 256, .inl v_length)), (a_symbolOf, .inl (cI, 2048, .inl v_symbolOf)), (a_made, .inl (cI, 6000, .inl v_made))] → va_S A s.heap H locs → W p l e R_MM_decode s m args below meth c H locs 0 0 Q (F0 m 105 ls [])
def I_MM_decode_b79 (p : Program) (l : Launch) (e : Env) (s : State) (m : MethodId) (args : Array Value) (below : List Frame) (meth : Method) (c : Code) (Q : State → Prop) (A : Nat → Prop) (D : va_G) (cI cL cZ : ClassId) (a_this : Nat) (a_in : Nat) (a_out : Nat) (a_length : Nat) (a_symbolOf : Nat) (a_made : Nat) (o_counts : Nat) (o_draft : Nat) (o_knot : Nat) (o_inSum : Nat) (o_halved : Nat) (o_weight : Nat) (o_points : Nat) (o_cutOff : Nat) (o_had : Nat) (o_placeOf : Nat) (i_inLong : Int32) (i_goesOn : Int32) (i_greatest : Int32) (i_knots : Int32) (i_bitsMade : Int32) (i_weights : Int32) (i_order : Int32) (i_bit : Int32) (i_bitEnd : Int32) (v_in : Nat → Int32) (v_length : Nat → Int32) (v_symbolOf : Nat → Int32) (l1 : Int32) (l2 : Int32) (res : Int32 × Int32 × (Nat → Int32) × (Nat → Int32)) (kf : Int32 → Int32 → (Nat → Int32) → (Nat → Int32) → Option (Int32 × Int32 × (Nat → Int32) × (Nat → Int32))) : Prop := ∀ (l5 : Int32) (i_outLong : Int32) (v_out : Nat → Int32) (v_made : Nat → Int32), kf l5 i_outLong v_out v_made = some res → ∀ (H : Heap) (locs : List Loc) (ls : Array Slot), lv_has ls 6 [(0, .ref a_this), (1, .int l1), (5, .int l5)] → va_P D classes [(a_this, .inr (1, [.ref a_in, .int i_inLong, .int i_goesOn, .ref a_out, .int i_outLong, .ref o_counts, .int i_greatest, .ref a_length, .ref a_symbolOf, .ref o_draft, .ref o_knot, .ref o_inSum, .int i_knots, .ref o_halved, .ref a_made, .int i_bitsMade, .ref o_weight, .int i_weights, .int i_order, .ref o_points, .ref o_cutOff, .ref o_had, .ref o_placeOf, .int i_bit, .int i_bitEnd])), (a_in, .inl (cI, 6000, .inl v_in)), (a_out, .inl (cI, 6000, .inl v_out)), (a_length, .inl (cI, 256, .inl v_length)), (a_symbolOf, .inl (cI, 2048, .inl v_symbolOf)), (a_made, .inl (cI, 6000, .inl v_made))] H → va_D A [(a_this, .inr (1, [.ref a_in, .int i_inLong, .int i_goesOn, .ref a_out, .int i_outLong, .ref o_counts, .int i_greatest, .ref a_length, .ref a_symbolOf, .ref o_draft, .ref o_knot, .ref o_inSum, .int i_knots, .ref o_halved, .ref a_made, .int i_bitsMade, .ref o_weight, .int i_weights, .int i_order, .ref o_points, .ref o_cutOff, .ref o_had, .ref o_placeOf, .int i_bit, .int i_bitEnd])), (a_in, .inl (cI, 6000, .inl v_in)), (a_out, .inl (cI, 6000, .inl v_out)), (a_length, .inl (cI, 256, .inl v_length)), (a_symbolOf, .inl (cI, 2048, .inl v_symbolOf)), (a_made, .inl (cI, 6000, .inl v_made))] → va_S A s.heap H locs → W p l e R_MM_decode s m args below meth c H locs 0 0 Q (F0 m 79 ls [])
def I_MM_decode_b66 (p : Program) (l : Launch) (e : Env) (s : State) (m : MethodId) (args : Array Value) (below : List Frame) (meth : Method) (c : Code) (Q : State → Prop) (A : Nat → Prop) (D : va_G) (cI cL cZ : ClassId) (a_this : Nat) (a_in : Nat) (a_out : Nat) (a_length : Nat) (a_symbolOf : Nat) (a_made : Nat) (o_counts : Nat) (o_draft : Nat) (o_knot : Nat) (o_inSum : Nat) (o_halved : Nat) (o_weight : Nat) (o_points : Nat) (o_cutOff : Nat) (o_had : Nat) (o_placeOf : Nat) (i_inLong : Int32) (i_goesOn : Int32) (i_greatest : Int32) (i_knots : Int32) (i_bitsMade : Int32) (i_weights : Int32) (i_order : Int32) (i_bit : Int32) (i_bitEnd : Int32) (v_in : Nat → Int32) (v_length : Nat → Int32) (v_symbolOf : Nat → Int32) (l1 : Int32) (l2 : Int32) (res : Int32 × Int32 × (Nat → Int32) × (Nat → Int32)) (kf : Int32 → Int32 → (Nat → Int32) → (Nat → Int32) → Option (Int32 × Int32 × (Nat → Int32) × (Nat → Int32))) : Prop := ∀ (s0 : Int32) (i_outLong : Int32) (v_out : Nat → Int32) (v_made : Nat → Int32), kf s0 i_outLong v_out v_made = some res → ∀ (H : Heap) (locs : List Loc) (ls : Array Slot), lv_has ls 6 [(0, .ref a_this), (1, .int l1)] → va_P D classes [(a_this, .inr (1, [.ref a_in, .int i_inLong, .int i_goesOn, .ref a_out, .int i_outLong, .ref o_counts, .int i_greatest, .ref a_length, .ref a_symbolOf, .ref o_draft, .ref o_knot, .ref o_inSum, .int i_knots, .ref o_halved, .ref a_made, .int i_bitsMade, .ref o_weight, .int i_weights, .int i_order, .ref o_points, .ref o_cutOff, .ref o_had, .ref o_placeOf, .int i_bit, .int i_bitEnd])), (a_in, .inl (cI, 6000, .inl v_in)), (a_out, .inl (cI, 6000, .inl v_out)), (a_length, .inl (cI, 256, .inl v_length)), (a_symbolOf, .inl (cI, 2048, .inl v_symbolOf)), (a_made, .inl (cI, 6000, .inl v_made))] H → va_D A [(a_this, .inr (1, [.ref a_in, .int i_inLong, .int i_goesOn, .ref a_out, .int i_outLong, .ref o_counts, .int i_greatest, .ref a_length, .ref a_symbolOf, .ref o_draft, .ref o_knot, .ref o_inSum, .int i_knots, .ref o_halved, .ref a_made, .int i_bitsMade, .ref o_weight, .int i_weights, .int i_order, .ref o_points, .ref o_cutOff, .ref o_had, .ref o_placeOf, .int i_bit, .int i_bitEnd])), (a_in, .inl (cI, 6000, .inl v_in)), (a_out, .inl (cI, 6000, .inl v_out)), (a_length, .inl (cI, 256, .inl v_length)), (a_symbolOf, .inl (cI, 2048, .inl v_symbolOf)), (a_made, .inl (cI, 6000, .inl v_made))] → va_S A s.heap H locs → W p l e R_MM_decode s m args below meth c H locs 0 0 Q (F0 m 66 ls [.int s0])
def I_MM_decode_b39 (p : Program) (l : Launch) (e : Env) (s : State) (m : MethodId) (args : Array Value) (below : List Frame) (meth : Method) (c : Code) (Q : State → Prop) (A : Nat → Prop) (D : va_G) (cI cL cZ : ClassId) (a_this : Nat) (a_in : Nat) (a_out : Nat) (a_length : Nat) (a_symbolOf : Nat) (a_made : Nat) (o_counts : Nat) (o_draft : Nat) (o_knot : Nat) (o_inSum : Nat) (o_halved : Nat) (o_weight : Nat) (o_points : Nat) (o_cutOff : Nat) (o_had : Nat) (o_placeOf : Nat) (i_inLong : Int32) (i_goesOn : Int32) (i_greatest : Int32) (i_knots : Int32) (i_bitsMade : Int32) (i_weights : Int32) (i_order : Int32) (i_bit : Int32) (i_bitEnd : Int32) (v_in : Nat → Int32) (v_length : Nat → Int32) (v_symbolOf : Nat → Int32) (l1 : Int32) (l2 : Int32) (res : Int32 × Int32 × (Nat → Int32) × (Nat → Int32)) (kf : Int32 → Int32 → (Nat → Int32) → (Nat → Int32) → Option (Int32 × Int32 × (Nat → Int32) × (Nat → Int32))) : Prop := ∀ (l3 : Int32) (i_outLong : Int32) (v_out : Nat → Int32) (v_made : Nat → Int32), kf l3 i_outLong v_out v_made = some res → ∀ (H : Heap) (locs : List Loc) (ls : Array Slot), lv_has ls 6 [(0, .ref a_this), (1, .int l1), (2, .int l2), (3, .int l3)] → va_P D classes [(a_this, .inr (1, [.ref a_in, .int i_inLong, .int i_goesOn, .ref a_out, .int i_outLong, .ref o_counts, .int i_greatest, .ref a_length, .ref a_symbolOf, .ref o_draft, .ref o_knot, .ref o_inSum, .int i_knots, .ref o_halved, .ref a_made, .int i_bitsMade, .ref o_weight, .int i_weights, .int i_order, .ref o_points, .ref o_cutOff, .ref o_had, .ref o_placeOf, .int i_bit, .int i_bitEnd])), (a_in, .inl (cI, 6000, .inl v_in)), (a_out, .inl (cI, 6000, .inl v_out)), (a_length, .inl (cI, 256, .inl v_length)), (a_symbolOf, .inl (cI, 2048, .inl v_symbolOf)), (a_made, .inl (cI, 6000, .inl v_made))] H → va_D A [(a_this, .inr (1, [.ref a_in, .int i_inLong, .int i_goesOn, .ref a_out, .int i_outLong, .ref o_counts, .int i_greatest, .ref a_length, .ref a_symbolOf, .ref o_draft, .ref o_knot, .ref o_inSum, .int i_knots, .ref o_halved, .ref a_made, .int i_bitsMade, .ref o_weight, .int i_weights, .int i_order, .ref o_points, .ref o_cutOff, .ref o_had, .ref o_placeOf, .int i_bit, .int i_bitEnd])), (a_in, .inl (cI, 6000, .inl v_in)), (a_out, .inl (cI, 6000, .inl v_out)), (a_length, .inl (cI, 256, .inl v_length)), (a_symbolOf, .inl (cI, 2048, .inl v_symbolOf)), (a_made, .inl (cI, 6000, .inl v_made))] → va_S A s.heap H locs → W p l e R_MM_decode s m args below meth c H locs 0 0 Q (F0 m 39 ls [])
def I_MM_decode_b0 (p : Program) (l : Launch) (e : Env) (s : State) (m : MethodId) (args : Array Value) (below : List Frame) (meth : Method) (c : Code) (Q : State → Prop) (A : Nat → Prop) (D : va_G) (cI cL cZ : ClassId) (a_this : Nat) (a_in : Nat) (a_out : Nat) (a_length : Nat) (a_symbolOf : Nat) (a_made : Nat) (o_counts : Nat) (o_draft : Nat) (o_knot : Nat) (o_inSum : Nat) (o_halved : Nat) (o_weight : Nat) (o_points : Nat) (o_cutOff : Nat) (o_had : Nat) (o_placeOf : Nat) (i_inLong : Int32) (i_goesOn : Int32) (i_greatest : Int32) (i_knots : Int32) (i_bitsMade : Int32) (i_weights : Int32) (i_order : Int32) (i_bit : Int32) (i_bitEnd : Int32) (v_in : Nat → Int32) (v_length : Nat → Int32) (v_symbolOf : Nat → Int32) (l1 : Int32) (l2 : Int32) (res : Int32 × Int32 × (Nat → Int32) × (Nat → Int32)) (kf : Int32 → (Nat → Int32) → (Nat → Int32) → Option (Int32 × Int32 × (Nat → Int32) × (Nat → Int32))) : Prop := ∀ (i_outLong : Int32) (v_out : Nat → Int32) (v_made : Nat → Int32), kf i_outLong v_out v_made = some res → ∀ (H : Heap) (locs : List Loc) (ls : Array Slot), lv_has ls 6 [(0, .ref a_this), (1, .int l1), (2, .int l2)] → va_P D classes [(a_this, .inr (1, [.ref a_in, .int i_inLong, .int i_goesOn, .ref a_out, .int i_outLong, .ref o_counts, .int i_greatest, .ref a_length, .ref a_symbolOf, .ref o_draft, .ref o_knot, .ref o_inSum, .int i_knots, .ref o_halved, .ref a_made, .int i_bitsMade, .ref o_weight, .int i_weights, .int i_order, .ref o_points, .ref o_cutOff, .ref o_had, .ref o_placeOf, .int i_bit, .int i_bitEnd])), (a_in, .inl (cI, 6000, .inl v_in)), (a_out, .inl (cI, 6000, .inl v_out)), (a_length, .inl (cI, 256, .inl v_length)), (a_symbolOf, .inl (cI, 2048, .inl v_symbolOf)), (a_made, .inl (cI, 6000, .inl v_made))] H → va_D A [(a_this, .inr (1, [.ref a_in, .int i_inLong, .int i_goesOn, .ref a_out, .int i_outLong, .ref o_counts, .int i_greatest, .ref a_length, .ref a_symbolOf, .ref o_draft, .ref o_knot, .ref o_inSum, .int i_knots, .ref o_halved, .ref a_made, .int i_bitsMade, .ref o_weight, .int i_weights, .int i_order, .ref o_points, .ref o_cutOff, .ref o_had, .ref o_placeOf, .int i_bit, .int i_bitEnd])), (a_in, .inl (cI, 6000, .inl v_in)), (a_out, .inl (cI, 6000, .inl v_out)), (a_length, .inl (cI, 256, .inl v_length)), (a_symbolOf, .inl (cI, 2048, .inl v_symbolOf)), (a_made, .inl (cI, 6000, .inl v_made))] → va_S A s.heap H locs → W p l e R_MM_decode s m args below meth c H locs 0 0 Q (F0 m 0 ls [])
set_option maxHeartbeats 4000000 in
set_option maxRecDepth 100000 in
theorem w_MM_decode_b18 {p : Program} {l : Launch} {e : Env} {s : State} {m : MethodId} {args : Array Value} {below : List Frame} {meth : Method} {c : Code} {Q : State → Prop} {A : Nat → Prop} {D : va_G} {cI cL cZ : ClassId} {a_this : Nat} {a_in : Nat} {a_out : Nat} {a_length : Nat} {a_symbolOf : Nat} {a_made : Nat} {o_counts : Nat} {o_draft : Nat} {o_knot : Nat} {o_inSum : Nat} {o_halved : Nat} {o_weight : Nat} {o_points : Nat} {o_cutOff : Nat} {o_had : Nat} {o_placeOf : Nat} {i_inLong : Int32} {i_goesOn : Int32} {i_greatest : Int32} {i_knots : Int32} {i_bitsMade : Int32} {i_weights : Int32} {i_order : Int32} {i_bit : Int32} {i_bitEnd : Int32} {v_in : Nat → Int32} {v_length : Nat → Int32} {v_symbolOf : Nat → Int32} {l1 : Int32} {l2 : Int32} {N : Nat} {res : Int32 × Int32 × (Nat → Int32) × (Nat → Int32)}  (C : Cx p s m args c b_MM_decode 6 "PrefixMillModel" D [(cI, .int), (cL, .long), (cZ, .boolean)] A) (hret : E_MM_decode p l e s m args below meth c Q A D cI cL cZ a_this a_in a_out a_length a_symbolOf a_made o_counts o_draft o_knot o_inSum o_halved o_weight o_points o_cutOff o_had o_placeOf i_inLong i_goesOn i_greatest i_knots i_bitsMade i_weights i_order i_bit i_bitEnd v_in v_length v_symbolOf l1 l2 res)  : I_MM_decode_b18 p l e s m args below meth c Q A D cI cL cZ a_this a_in a_out a_length a_symbolOf a_made o_counts o_draft o_knot o_inSum o_halved o_weight o_points o_cutOff o_had o_placeOf i_inLong i_goesOn i_greatest i_knots i_bitsMade i_weights i_order i_bit i_bitEnd v_in v_length v_symbolOf l1 l2 res (f_MM_decode_b18 N i_inLong i_goesOn i_greatest v_in v_length v_symbolOf l1 l2 ) := by
  obtain ⟨hx, hb, hml, hown, hts, hK, hA⟩ := C
  intro i_outLong v_out v_made h H locs ls hl hP hD hS
  unfold f_MM_decode_b18 at h
  refine lv_iconst (v := (-1)) hx hb d_MM_decode_18 (by decide) ?_
  exact hret _ _ _ _ (-1) i_outLong v_out v_made h d_MM_decode_19 hP hD hS
set_option maxHeartbeats 4000000 in
set_option maxRecDepth 100000 in
theorem w_MM_decode_b105 {p : Program} {l : Launch} {e : Env} {s : State} {m : MethodId} {args : Array Value} {below : List Frame} {meth : Method} {c : Code} {Q : State → Prop} {A : Nat → Prop} {D : va_G} {cI cL cZ : ClassId} {a_this : Nat} {a_in : Nat} {a_out : Nat} {a_length : Nat} {a_symbolOf : Nat} {a_made : Nat} {o_counts : Nat} {o_draft : Nat} {o_knot : Nat} {o_inSum : Nat} {o_halved : Nat} {o_weight : Nat} {o_points : Nat} {o_cutOff : Nat} {o_had : Nat} {o_placeOf : Nat} {i_inLong : Int32} {i_goesOn : Int32} {i_greatest : Int32} {i_knots : Int32} {i_bitsMade : Int32} {i_weights : Int32} {i_order : Int32} {i_bit : Int32} {i_bitEnd : Int32} {v_in : Nat → Int32} {v_length : Nat → Int32} {v_symbolOf : Nat → Int32} {l1 : Int32} {l2 : Int32} {N : Nat} {res : Int32 × Int32 × (Nat → Int32) × (Nat → Int32)}  (C : Cx p s m args c b_MM_decode 6 "PrefixMillModel" D [(cI, .int), (cL, .long), (cZ, .boolean)] A) (hret : E_MM_decode p l e s m args below meth c Q A D cI cL cZ a_this a_in a_out a_length a_symbolOf a_made o_counts o_draft o_knot o_inSum o_halved o_weight o_points o_cutOff o_had o_placeOf i_inLong i_goesOn i_greatest i_knots i_bitsMade i_weights i_order i_bit i_bitEnd v_in v_length v_symbolOf l1 l2 res)  : I_MM_decode_b105 p l e s m args below meth c Q A D cI cL cZ a_this a_in a_out a_length a_symbolOf a_made o_counts o_draft o_knot o_inSum o_halved o_weight o_points o_cutOff o_had o_placeOf i_inLong i_goesOn i_greatest i_knots i_bitsMade i_weights i_order i_bit i_bitEnd v_in v_length v_symbolOf l1 l2 res (f_MM_decode_b105 N i_inLong i_goesOn i_greatest v_in v_length v_symbolOf l1 l2 ) := by
  obtain ⟨hx, hb, hml, hown, hts, hK, hA⟩ := C
  intro i_outLong v_out v_made h H locs ls hl hP hD hS
  unfold f_MM_decode_b105 at h
  refine lv_aload_n hx hb d_MM_decode_105 rfl (lv_at hl 0 rfl) ?_
  refine lv_iload_n hx hb d_MM_decode_106 rfl (lv_at hl 1 rfl) ?_
  refine va_put (v := .int l1) (ty := .int) hx hb hts in_MM t_MM t_MM_ok n_MM hown hK hP hD hS 0 rfl rfl 4 (by decide) (hts _ m_757) (fun _ h9 => h9) rfl (by decide +kernel) rfl rfl (Nat.le_of_ble_eq_true rfl) d_MM_decode_107 (fun H locs hP hD hS => ?_)
  have hP : va_P D classes [(a_this, .inr (1, [.ref a_in, .int i_inLong, .int i_goesOn, .ref a_out, .int l1, .ref o_counts, .int i_greatest, .ref a_length, .ref a_symbolOf, .ref o_draft, .ref o_knot, .ref o_inSum, .int i_knots, .ref o_halved, .ref a_made, .int i_bitsMade, .ref o_weight, .int i_weights, .int i_order, .ref o_points, .ref o_cutOff, .ref o_had, .ref o_placeOf, .int i_bit, .int i_bitEnd])), (a_in, .inl (cI, 6000, .inl v_in)), (a_out, .inl (cI, 6000, .inl v_out)), (a_length, .inl (cI, 256, .inl v_length)), (a_symbolOf, .inl (cI, 2048, .inl v_symbolOf)), (a_made, .inl (cI, 6000, .inl v_made))] H := by exact hP
  have hD : va_D A [(a_this, .inr (1, [.ref a_in, .int i_inLong, .int i_goesOn, .ref a_out, .int l1, .ref o_counts, .int i_greatest, .ref a_length, .ref a_symbolOf, .ref o_draft, .ref o_knot, .ref o_inSum, .int i_knots, .ref o_halved, .ref a_made, .int i_bitsMade, .ref o_weight, .int i_weights, .int i_order, .ref o_points, .ref o_cutOff, .ref o_had, .ref o_placeOf, .int i_bit, .int i_bitEnd])), (a_in, .inl (cI, 6000, .inl v_in)), (a_out, .inl (cI, 6000, .inl v_out)), (a_length, .inl (cI, 256, .inl v_length)), (a_symbolOf, .inl (cI, 2048, .inl v_symbolOf)), (a_made, .inl (cI, 6000, .inl v_made))] := by exact hD
  refine lv_iload_n hx hb d_MM_decode_110 rfl (lv_at hl 1 rfl) ?_
  exact hret _ _ _ _ l1 l1 v_out v_made h d_MM_decode_111 hP hD hS
set_option maxHeartbeats 4000000 in
set_option maxRecDepth 100000 in
theorem w_MM_decode_b79 {p : Program} {l : Launch} {e : Env} {s : State} {m : MethodId} {args : Array Value} {below : List Frame} {meth : Method} {c : Code} {Q : State → Prop} {A : Nat → Prop} {D : va_G} {cI cL cZ : ClassId} {a_this : Nat} {a_in : Nat} {a_out : Nat} {a_length : Nat} {a_symbolOf : Nat} {a_made : Nat} {o_counts : Nat} {o_draft : Nat} {o_knot : Nat} {o_inSum : Nat} {o_halved : Nat} {o_weight : Nat} {o_points : Nat} {o_cutOff : Nat} {o_had : Nat} {o_placeOf : Nat} {i_inLong : Int32} {i_goesOn : Int32} {i_greatest : Int32} {i_knots : Int32} {i_bitsMade : Int32} {i_weights : Int32} {i_order : Int32} {i_bit : Int32} {i_bitEnd : Int32} {v_in : Nat → Int32} {v_length : Nat → Int32} {v_symbolOf : Nat → Int32} {l1 : Int32} {l2 : Int32} {N : Nat} {res : Int32 × Int32 × (Nat → Int32) × (Nat → Int32)}  (C : Cx p s m args c b_MM_decode 6 "PrefixMillModel" D [(cI, .int), (cL, .long), (cZ, .boolean)] A) (hret : E_MM_decode p l e s m args below meth c Q A D cI cL cZ a_this a_in a_out a_length a_symbolOf a_made o_counts o_draft o_knot o_inSum o_halved o_weight o_points o_cutOff o_had o_placeOf i_inLong i_goesOn i_greatest i_knots i_bitsMade i_weights i_order i_bit i_bitEnd v_in v_length v_symbolOf l1 l2 res)  : ∀ z : Nat, I_MM_decode_b79 p l e s m args below meth c Q A D cI cL cZ a_this a_in a_out a_length a_symbolOf a_made o_counts o_draft o_knot o_inSum o_halved o_weight o_points o_cutOff o_had o_placeOf i_inLong i_goesOn i_greatest i_knots i_bitsMade i_weights i_order i_bit i_bitEnd v_in v_length v_symbolOf l1 l2 res (f_MM_decode_b79 N i_inLong i_goesOn i_greatest v_in v_length v_symbolOf l1 l2  z) := by
  obtain ⟨hx, hb, hml, hown, hts, hK, hA⟩ := C
  intro z
  induction z with
  | zero => intro l5 i_outLong v_out v_made h; cases h
  | succ z ih =>
    intro l5 i_outLong v_out v_made h H locs ls hl hP hD hS
    refine lv_iload hx hb d_MM_decode_79 (lv_at hl 2 rfl) ?_
    refine lv_iload_n hx hb d_MM_decode_81 rfl (lv_at hl 1 rfl) ?_
    refine lv_icmp_ge (tgt := 105) hx hb d_MM_decode_82 (by decide) (fun c_1 => ?_) (fun c_1 => ?_)
    · replace h := if_t h c_1
      exact w_MM_decode_b105 ⟨hx, hb, hml, hown, hts, hK, hA⟩ hret  _ _ _ h H locs ls (lv_sub hl [0, 1] rfl) hP hD hS
    · replace h := if_f h c_1
      refine lv_aload_n hx hb d_MM_decode_85 rfl (lv_at hl 0 rfl) ?_
      refine va_get hx hb hts in_MM hown hK hP 0 rfl rfl 3 (by decide) (hts _ m_756) (fun _ h9 => h9) rfl d_MM_decode_86 ?_
      refine lv_iload hx hb d_MM_decode_89 (lv_at hl 2 rfl) ?_
      refine lv_aload_n hx hb d_MM_decode_91 rfl (lv_at hl 0 rfl) ?_
      refine va_get hx hb hts in_MM hown hK hP 0 rfl rfl 14 (by decide) (hts _ m_767) (fun _ h9 => h9) rfl d_MM_decode_92 ?_
      refine lv_iload hx hb d_MM_decode_95 (lv_at hl 2 rfl) ?_
      obtain ⟨g_2, h⟩ := ck_s h
      refine va_iald hx hb hK hP 5 0 rfl rfl (inb_s g_2) d_MM_decode_97 ?_
      obtain ⟨g_3, h⟩ := ck_s h
      refine va_iast hx hb hK hP hD hS 2 0 rfl rfl (inb_s g_3) d_MM_decode_98 (fun H locs hP hD hS => ?_)
      obtain ⟨v_out_4, ev_out_4⟩ : ∃ y, y = (upd v_out (Int32.toNatClampNeg l5) (v_made (Int32.toNatClampNeg l5))) := ⟨_, rfl⟩
      replace h := nm_s h ev_out_4
      have hP : va_P D classes [(a_this, .inr (1, [.ref a_in, .int i_inLong, .int i_goesOn, .ref a_out, .int i_outLong, .ref o_counts, .int i_greatest, .ref a_length, .ref a_symbolOf, .ref o_draft, .ref o_knot, .ref o_inSum, .int i_knots, .ref o_halved, .ref a_made, .int i_bitsMade, .ref o_weight, .int i_weights, .int i_order, .ref o_points, .ref o_cutOff, .ref o_had, .ref o_placeOf, .int i_bit, .int i_bitEnd])), (a_in, .inl (cI, 6000, .inl v_in)), (a_out, .inl (cI, 6000, .inl v_out_4)), (a_length, .inl (cI, 256, .inl v_length)), (a_symbolOf, .inl (cI, 2048, .inl v_symbolOf)), (a_made, .inl (cI, 6000, .inl v_made))] H := by rw [ev_out_4]; exact hP
      have hD : va_D A [(a_this, .inr (1, [.ref a_in, .int i_inLong, .int i_goesOn, .ref a_out, .int i_outLong, .ref o_counts, .int i_greatest, .ref a_length, .ref a_symbolOf, .ref o_draft, .ref o_knot, .ref o_inSum, .int i_knots, .ref o_halved, .ref a_made, .int i_bitsMade, .ref o_weight, .int i_weights, .int i_order, .ref o_points, .ref o_cutOff, .ref o_had, .ref o_placeOf, .int i_bit, .int i_bitEnd])), (a_in, .inl (cI, 6000, .inl v_in)), (a_out, .inl (cI, 6000, .inl v_out_4)), (a_length, .inl (cI, 256, .inl v_length)), (a_symbolOf, .inl (cI, 2048, .inl v_symbolOf)), (a_made, .inl (cI, 6000, .inl v_made))] := by rw [ev_out_4]; exact hD
      obtain ⟨l5_5, el5_5⟩ : ∃ y : Int32, y = l5 + 1 := ⟨_, rfl⟩
      replace h := nm_s h el5_5
      refine lv_iinc (v := l5_5) (lv' := [(5, .int l5_5), (0, .ref a_this), (1, .int l1)]) hx hb d_MM_decode_99 hl (k := 2) rfl (by rw [el5_5]; rfl) (by decide) rfl (fun ls hl => ?_)
      refine lv_goto (tgt := 79) hx hb d_MM_decode_102 (by decide) ?_
      exact ih _ _ _ _ h H locs ls (lv_sub hl [1, 2, 0] rfl) hP hD hS
set_option maxHeartbeats 4000000 in
set_option maxRecDepth 100000 in
theorem w_MM_decode_b66 {p : Program} {l : Launch} {e : Env} {s : State} {m : MethodId} {args : Array Value} {below : List Frame} {meth : Method} {c : Code} {Q : State → Prop} {A : Nat → Prop} {D : va_G} {cI cL cZ : ClassId} {a_this : Nat} {a_in : Nat} {a_out : Nat} {a_length : Nat} {a_symbolOf : Nat} {a_made : Nat} {o_counts : Nat} {o_draft : Nat} {o_knot : Nat} {o_inSum : Nat} {o_halved : Nat} {o_weight : Nat} {o_points : Nat} {o_cutOff : Nat} {o_had : Nat} {o_placeOf : Nat} {i_inLong : Int32} {i_goesOn : Int32} {i_greatest : Int32} {i_knots : Int32} {i_bitsMade : Int32} {i_weights : Int32} {i_order : Int32} {i_bit : Int32} {i_bitEnd : Int32} {v_in : Nat → Int32} {v_length : Nat → Int32} {v_symbolOf : Nat → Int32} {l1 : Int32} {l2 : Int32} {N : Nat} {res : Int32 × Int32 × (Nat → Int32) × (Nat → Int32)}  (C : Cx p s m args c b_MM_decode 6 "PrefixMillModel" D [(cI, .int), (cL, .long), (cZ, .boolean)] A) (hret : E_MM_decode p l e s m args below meth c Q A D cI cL cZ a_this a_in a_out a_length a_symbolOf a_made o_counts o_draft o_knot o_inSum o_halved o_weight o_points o_cutOff o_had o_placeOf i_inLong i_goesOn i_greatest i_knots i_bitsMade i_weights i_order i_bit i_bitEnd v_in v_length v_symbolOf l1 l2 res)  : I_MM_decode_b66 p l e s m args below meth c Q A D cI cL cZ a_this a_in a_out a_length a_symbolOf a_made o_counts o_draft o_knot o_inSum o_halved o_weight o_points o_cutOff o_had o_placeOf i_inLong i_goesOn i_greatest i_knots i_bitsMade i_weights i_order i_bit i_bitEnd v_in v_length v_symbolOf l1 l2 res (f_MM_decode_b66 N i_inLong i_goesOn i_greatest v_in v_length v_symbolOf l1 l2 ) := by
  obtain ⟨hx, hb, hml, hown, hts, hK, hA⟩ := C
  intro s0 i_outLong v_out v_made h H locs ls hl hP hD hS
  unfold f_MM_decode_b66 at h
  refine lv_istore (lv' := [(4, .int s0), (0, .ref a_this), (1, .int l1)]) hx hb d_MM_decode_66 hl (by decide) rfl (fun ls hl => ?_)
  refine lv_iload hx hb d_MM_decode_68 (lv_at hl 0 rfl) ?_
  refine lv_if_eq (tgt := 76) hx hb d_MM_decode_70 (by decide) (fun c_1 => ?_) (fun c_1 => ?_)
  · replace h := if_t h c_1
    refine lv_iconst (v := 0) hx hb d_MM_decode_76 (by decide) ?_
    refine lv_istore (lv' := [(5, .int 0), (4, .int s0), (0, .ref a_this), (1, .int l1)]) hx hb d_MM_decode_77 hl (by decide) rfl (fun ls hl => ?_)
    exact w_MM_decode_b79 ⟨hx, hb, hml, hown, hts, hK, hA⟩ hret  N _ _ _ _ h H locs ls (lv_sub hl [2, 3, 0] rfl) hP hD hS
  · replace h := if_f h c_1
    refine lv_iload hx hb d_MM_decode_73 (lv_at hl 0 rfl) ?_
    exact hret _ _ _ _ s0 i_outLong v_out v_made h d_MM_decode_75 hP hD hS
set_option maxHeartbeats 4000000 in
set_option maxRecDepth 100000 in
theorem w_MM_decode_b39 {p : Program} {l : Launch} {e : Env} {s : State} {m : MethodId} {args : Array Value} {below : List Frame} {meth : Method} {c : Code} {Q : State → Prop} {A : Nat → Prop} {D : va_G} {cI cL cZ : ClassId} {a_this : Nat} {a_in : Nat} {a_out : Nat} {a_length : Nat} {a_symbolOf : Nat} {a_made : Nat} {o_counts : Nat} {o_draft : Nat} {o_knot : Nat} {o_inSum : Nat} {o_halved : Nat} {o_weight : Nat} {o_points : Nat} {o_cutOff : Nat} {o_had : Nat} {o_placeOf : Nat} {i_inLong : Int32} {i_goesOn : Int32} {i_greatest : Int32} {i_knots : Int32} {i_bitsMade : Int32} {i_weights : Int32} {i_order : Int32} {i_bit : Int32} {i_bitEnd : Int32} {v_in : Nat → Int32} {v_length : Nat → Int32} {v_symbolOf : Nat → Int32} {l1 : Int32} {l2 : Int32} {N : Nat} {res : Int32 × Int32 × (Nat → Int32) × (Nat → Int32)}  (C : Cx p s m args c b_MM_decode 6 "PrefixMillModel" D [(cI, .int), (cL, .long), (cZ, .boolean)] A) (hret : E_MM_decode p l e s m args below meth c Q A D cI cL cZ a_this a_in a_out a_length a_symbolOf a_made o_counts o_draft o_knot o_inSum o_halved o_weight o_points o_cutOff o_had o_placeOf i_inLong i_goesOn i_greatest i_knots i_bitsMade i_weights i_order i_bit i_bitEnd v_in v_length v_symbolOf l1 l2 res)  : I_MM_decode_b39 p l e s m args below meth c Q A D cI cL cZ a_this a_in a_out a_length a_symbolOf a_made o_counts o_draft o_knot o_inSum o_halved o_weight o_points o_cutOff o_had o_placeOf i_inLong i_goesOn i_greatest i_knots i_bitsMade i_weights i_order i_bit i_bitEnd v_in v_length v_symbolOf l1 l2 res (f_MM_decode_b39 N i_inLong i_goesOn i_greatest v_in v_length v_symbolOf l1 l2 ) := by
  obtain ⟨hx, hb, hml, hown, hts, hK, hA⟩ := C
  intro l3 i_outLong v_out v_made h H locs ls hl hP hD hS
  unfold f_MM_decode_b39 at h
  refine lv_iload_n hx hb d_MM_decode_39 rfl (lv_at hl 2 rfl) ?_
  refine lv_if_eq (tgt := 52) hx hb d_MM_decode_40 (by decide) (fun c_1 => ?_) (fun c_1 => ?_)
  · replace h := if_t h c_1
    refine lv_aload_n hx hb d_MM_decode_52 rfl (lv_at hl 0 rfl) ?_
    refine lv_aload_n hx hb d_MM_decode_53 rfl (lv_at hl 0 rfl) ?_
    refine va_get hx hb hts in_MM hown hK hP 0 rfl rfl 2 (by decide) (hts _ m_755) (fun _ h9 => h9) rfl d_MM_decode_54 ?_
    refine lv_aload_n hx hb d_MM_decode_57 rfl (lv_at hl 0 rfl) ?_
    refine va_get hx hb hts in_MM hown hK hP 0 rfl rfl 1 (by decide) (hts _ m_754) (fun _ h9 => h9) rfl d_MM_decode_58 ?_
    refine lv_iload_n hx hb d_MM_decode_61 rfl (lv_at hl 1 rfl) ?_
    refine lv_iconst (v := 0) hx hb d_MM_decode_62 (by decide) ?_
    obtain ⟨r_2, v_made_3, hc_4, h⟩ := bd2_s h
    have hPc := hP.sub (ws' := [(a_this, .inr (1, [.ref a_in, .int i_inLong, .int i_goesOn, .ref a_out, .int i_outLong, .ref o_counts, .int i_greatest, .ref a_length, .ref a_symbolOf, .ref o_draft, .ref o_knot, .ref o_inSum, .int i_knots, .ref o_halved, .ref a_made, .int i_bitsMade, .ref o_weight, .int i_weights, .int i_order, .ref o_points, .ref o_cutOff, .ref o_had, .ref o_placeOf, .int i_bit, .int i_bitEnd])), (a_in, .inl (cI, 6000, .inl v_in)), (a_length, .inl (cI, 256, .inl v_length)), (a_symbolOf, .inl (cI, 2048, .inl v_symbolOf)), (a_made, .inl (cI, 6000, .inl v_made))]) [0, 1, 3, 4, 5] rfl
    have hDc := hD.sub (ws' := [(a_this, .inr (1, [.ref a_in, .int i_inLong, .int i_goesOn, .ref a_out, .int i_outLong, .ref o_counts, .int i_greatest, .ref a_length, .ref a_symbolOf, .ref o_draft, .ref o_knot, .ref o_inSum, .int i_knots, .ref o_halved, .ref a_made, .int i_bitsMade, .ref o_weight, .int i_weights, .int i_order, .ref o_points, .ref o_cutOff, .ref o_had, .ref o_placeOf, .int i_bit, .int i_bitEnd])), (a_in, .inl (cI, 6000, .inl v_in)), (a_length, .inl (cI, 256, .inl v_length)), (a_symbolOf, .inl (cI, 2048, .inl v_symbolOf)), (a_made, .inl (cI, 6000, .inl v_made))]) [0, 1, 3, 4, 5] (by decide) rfl
    have hFc := va_free (wc := [(a_this, .inr (1, [.ref a_in, .int i_inLong, .int i_goesOn, .ref a_out, .int i_outLong, .ref o_counts, .int i_greatest, .ref a_length, .ref a_symbolOf, .ref o_draft, .ref o_knot, .ref o_inSum, .int i_knots, .ref o_halved, .ref a_made, .int i_bitsMade, .ref o_weight, .int i_weights, .int i_order, .ref o_points, .ref o_cutOff, .ref o_had, .ref o_placeOf, .int i_bit, .int i_bitEnd])), (a_in, .inl (cI, 6000, .inl v_in)), (a_length, .inl (cI, 256, .inl v_length)), (a_symbolOf, .inl (cI, 2048, .inl v_symbolOf)), (a_made, .inl (cI, 6000, .inl v_made))]) hD hS hA [0, 1, 3, 4, 5] rfl
    refine va_calli (va_runV (As := [.int i_goesOn, .int i_inLong, .int l1, .int 0]) (rest := []) ⟨hx, hb, hml, hown, hts⟩ (c_MM_takeStream l D cI cL cZ H.size N a_this a_in a_length a_symbolOf a_made a_out o_counts o_draft o_knot o_inSum o_halved o_weight o_points o_cutOff o_had o_placeOf i_inLong i_goesOn i_outLong i_greatest i_knots i_bitsMade i_weights i_order i_bit i_bitEnd v_in v_length v_symbolOf v_made i_goesOn i_inLong l1 0 r_2 v_made_3 hc_4) ⟨(my_cb 4 hts m_943 rfl rfl (hts _ m_76) (hts _ m_940) (by decide +kernel) ⟨Nat.le_of_ble_eq_true rfl, Nat.le_of_ble_eq_true rfl⟩), hts _ m_942, hts _ m_40⟩ ⟨fun a U g mk q => by obtain ⟨q0, q1, qP, qK, qD⟩ := q; exact ⟨q0, q1, qP, va_K.moved (u := U) (U := U.calling g mk a) (Vm.Alike.refl U.vm) qK, qD⟩, va_recv hK hPc (ci := 1) (q0 := 0) rfl rfl, fun U hU hW => ⟨rfl, by rw [hU], by rw [hU]; exact hPc, va_K.moved hW.alike hK, hDc.weaken (fun _ _ _ _ => trivial)⟩⟩ rfl rfl hl.1 rfl (lv_room (Nat.le_of_ble_eq_true rfl)) d_MM_decode_63 ⟨Nat.zero_le _, Nat.zero_le _⟩) hS (fun q _ h => hFc q h) hFc (fun rr u t H1 locs ht hvm hw hB hz1 hk1 hS => ?_)
    obtain ⟨hP1, hK1, hD1⟩ := hB
    rw [ht] at hP1
    subst hw
    obtain ⟨hP, hD⟩ := va_join (wr := [(a_out, .inl (cI, 6000, .inl v_out))]) (w1 := [(a_this, .inr (1, [.ref a_in, .int i_inLong, .int i_goesOn, .ref a_out, .int i_outLong, .ref o_counts, .int i_greatest, .ref a_length, .ref a_symbolOf, .ref o_draft, .ref o_knot, .ref o_inSum, .int i_knots, .ref o_halved, .ref a_made, .int i_bitsMade, .ref o_weight, .int i_weights, .int i_order, .ref o_points, .ref o_cutOff, .ref o_had, .ref o_placeOf, .int i_bit, .int i_bitEnd])), (a_in, .inl (cI, 6000, .inl v_in)), (a_length, .inl (cI, 256, .inl v_length)), (a_symbolOf, .inl (cI, 2048, .inl v_symbolOf)), (a_made, .inl (cI, 6000, .inl v_made_3))]) hP hD [0, 1, 3, 4, 5] [2] rfl rfl (by decide) (by decide) hk1 hFc hP1 hD1
    clear hPc hDc hFc hk1 hP1 hD1 hK1
    generalize H1 = H at hP hS ⊢
    have hP : va_P D classes [(a_this, .inr (1, [.ref a_in, .int i_inLong, .int i_goesOn, .ref a_out, .int i_outLong, .ref o_counts, .int i_greatest, .ref a_length, .ref a_symbolOf, .ref o_draft, .ref o_knot, .ref o_inSum, .int i_knots, .ref o_halved, .ref a_made, .int i_bitsMade, .ref o_weight, .int i_weights, .int i_order, .ref o_points, .ref o_cutOff, .ref o_had, .ref o_placeOf, .int i_bit, .int i_bitEnd])), (a_in, .inl (cI, 6000, .inl v_in)), (a_out, .inl (cI, 6000, .inl v_out)), (a_length, .inl (cI, 256, .inl v_length)), (a_symbolOf, .inl (cI, 2048, .inl v_symbolOf)), (a_made, .inl (cI, 6000, .inl v_made_3))] H := hP.sub [1, 2, 0, 3, 4, 5] rfl
    have hD : va_D A [(a_this, .inr (1, [.ref a_in, .int i_inLong, .int i_goesOn, .ref a_out, .int i_outLong, .ref o_counts, .int i_greatest, .ref a_length, .ref a_symbolOf, .ref o_draft, .ref o_knot, .ref o_inSum, .int i_knots, .ref o_halved, .ref a_made, .int i_bitsMade, .ref o_weight, .int i_weights, .int i_order, .ref o_points, .ref o_cutOff, .ref o_had, .ref o_placeOf, .int i_bit, .int i_bitEnd])), (a_in, .inl (cI, 6000, .inl v_in)), (a_out, .inl (cI, 6000, .inl v_out)), (a_length, .inl (cI, 256, .inl v_length)), (a_symbolOf, .inl (cI, 2048, .inl v_symbolOf)), (a_made, .inl (cI, 6000, .inl v_made_3))] := hD.sub [1, 2, 0, 3, 4, 5] (by decide) rfl
    exact w_MM_decode_b66 ⟨hx, hb, hml, hown, hts, hK, hA⟩ hret  _ _ _ _ h H locs ls (lv_sub hl [0, 1] rfl) hP hD hS
  · replace h := if_f h c_1
    refine lv_aload_n hx hb d_MM_decode_43 rfl (lv_at hl 0 rfl) ?_
    refine lv_iload_n hx hb d_MM_decode_44 rfl (lv_at hl 1 rfl) ?_
    refine lv_iload_n hx hb d_MM_decode_45 rfl (lv_at hl 3 rfl) ?_
    obtain ⟨r_5, v_made_6, hc_7, h⟩ := bd2_s h
    have hPc := hP.sub (ws' := [(a_this, .inr (1, [.ref a_in, .int i_inLong, .int i_goesOn, .ref a_out, .int i_outLong, .ref o_counts, .int i_greatest, .ref a_length, .ref a_symbolOf, .ref o_draft, .ref o_knot, .ref o_inSum, .int i_knots, .ref o_halved, .ref a_made, .int i_bitsMade, .ref o_weight, .int i_weights, .int i_order, .ref o_points, .ref o_cutOff, .ref o_had, .ref o_placeOf, .int i_bit, .int i_bitEnd])), (a_in, .inl (cI, 6000, .inl v_in)), (a_length, .inl (cI, 256, .inl v_length)), (a_symbolOf, .inl (cI, 2048, .inl v_symbolOf)), (a_made, .inl (cI, 6000, .inl v_made))]) [0, 1, 3, 4, 5] rfl
    have hDc := hD.sub (ws' := [(a_this, .inr (1, [.ref a_in, .int i_inLong, .int i_goesOn, .ref a_out, .int i_outLong, .ref o_counts, .int i_greatest, .ref a_length, .ref a_symbolOf, .ref o_draft, .ref o_knot, .ref o_inSum, .int i_knots, .ref o_halved, .ref a_made, .int i_bitsMade, .ref o_weight, .int i_weights, .int i_order, .ref o_points, .ref o_cutOff, .ref o_had, .ref o_placeOf, .int i_bit, .int i_bitEnd])), (a_in, .inl (cI, 6000, .inl v_in)), (a_length, .inl (cI, 256, .inl v_length)), (a_symbolOf, .inl (cI, 2048, .inl v_symbolOf)), (a_made, .inl (cI, 6000, .inl v_made))]) [0, 1, 3, 4, 5] (by decide) rfl
    have hFc := va_free (wc := [(a_this, .inr (1, [.ref a_in, .int i_inLong, .int i_goesOn, .ref a_out, .int i_outLong, .ref o_counts, .int i_greatest, .ref a_length, .ref a_symbolOf, .ref o_draft, .ref o_knot, .ref o_inSum, .int i_knots, .ref o_halved, .ref a_made, .int i_bitsMade, .ref o_weight, .int i_weights, .int i_order, .ref o_points, .ref o_cutOff, .ref o_had, .ref o_placeOf, .int i_bit, .int i_bitEnd])), (a_in, .inl (cI, 6000, .inl v_in)), (a_length, .inl (cI, 256, .inl v_length)), (a_symbolOf, .inl (cI, 2048, .inl v_symbolOf)), (a_made, .inl (cI, 6000, .inl v_made))]) hD hS hA [0, 1, 3, 4, 5] rfl
    refine va_calli (va_runV (As := [.int l1, .int l3]) (rest := []) ⟨hx, hb, hml, hown, hts⟩ (c_MM_takeFour l D cI cL cZ H.size N a_this a_in a_length a_symbolOf a_made a_out o_counts o_draft o_knot o_inSum o_halved o_weight o_points o_cutOff o_had o_placeOf i_inLong i_goesOn i_outLong i_greatest i_knots i_bitsMade i_weights i_order i_bit i_bitEnd v_in v_length v_symbolOf v_made l1 l3 r_5 v_made_6 hc_7) ⟨(my_cb 2 hts m_939 rfl rfl (hts _ m_76) (hts _ m_936) (by decide +kernel) ⟨Nat.le_of_ble_eq_true rfl, Nat.le_of_ble_eq_true rfl⟩), hts _ m_938, hts _ m_39⟩ ⟨fun a U g mk q => by obtain ⟨q0, q1, qP, qK, qD⟩ := q; exact ⟨q0, q1, qP, va_K.moved (u := U) (U := U.calling g mk a) (Vm.Alike.refl U.vm) qK, qD⟩, va_recv hK hPc (ci := 1) (q0 := 0) rfl rfl, fun U hU hW => ⟨rfl, by rw [hU], by rw [hU]; exact hPc, va_K.moved hW.alike hK, hDc.weaken (fun _ _ _ _ => trivial)⟩⟩ rfl rfl hl.1 rfl (lv_room (Nat.le_of_ble_eq_true rfl)) d_MM_decode_46 ⟨Nat.zero_le _, Nat.zero_le _⟩) hS (fun q _ h => hFc q h) hFc (fun rr u t H1 locs ht hvm hw hB hz1 hk1 hS => ?_)
    obtain ⟨hP1, hK1, hD1⟩ := hB
    rw [ht] at hP1
    subst hw
    obtain ⟨hP, hD⟩ := va_join (wr := [(a_out, .inl (cI, 6000, .inl v_out))]) (w1 := [(a_this, .inr (1, [.ref a_in, .int i_inLong, .int i_goesOn, .ref a_out, .int i_outLong, .ref o_counts, .int i_greatest, .ref a_length, .ref a_symbolOf, .ref o_draft, .ref o_knot, .ref o_inSum, .int i_knots, .ref o_halved, .ref a_made, .int i_bitsMade, .ref o_weight, .int i_weights, .int i_order, .ref o_points, .ref o_cutOff, .ref o_had, .ref o_placeOf, .int i_bit, .int i_bitEnd])), (a_in, .inl (cI, 6000, .inl v_in)), (a_length, .inl (cI, 256, .inl v_length)), (a_symbolOf, .inl (cI, 2048, .inl v_symbolOf)), (a_made, .inl (cI, 6000, .inl v_made_6))]) hP hD [0, 1, 3, 4, 5] [2] rfl rfl (by decide) (by decide) hk1 hFc hP1 hD1
    clear hPc hDc hFc hk1 hP1 hD1 hK1
    generalize H1 = H at hP hS ⊢
    have hP : va_P D classes [(a_this, .inr (1, [.ref a_in, .int i_inLong, .int i_goesOn, .ref a_out, .int i_outLong, .ref o_counts, .int i_greatest, .ref a_length, .ref a_symbolOf, .ref o_draft, .ref o_knot, .ref o_inSum, .int i_knots, .ref o_halved, .ref a_made, .int i_bitsMade, .ref o_weight, .int i_weights, .int i_order, .ref o_points, .ref o_cutOff, .ref o_had, .ref o_placeOf, .int i_bit, .int i_bitEnd])), (a_in, .inl (cI, 6000, .inl v_in)), (a_out, .inl (cI, 6000, .inl v_out)), (a_length, .inl (cI, 256, .inl v_length)), (a_symbolOf, .inl (cI, 2048, .inl v_symbolOf)), (a_made, .inl (cI, 6000, .inl v_made_6))] H := hP.sub [1, 2, 0, 3, 4, 5] rfl
    have hD : va_D A [(a_this, .inr (1, [.ref a_in, .int i_inLong, .int i_goesOn, .ref a_out, .int i_outLong, .ref o_counts, .int i_greatest, .ref a_length, .ref a_symbolOf, .ref o_draft, .ref o_knot, .ref o_inSum, .int i_knots, .ref o_halved, .ref a_made, .int i_bitsMade, .ref o_weight, .int i_weights, .int i_order, .ref o_points, .ref o_cutOff, .ref o_had, .ref o_placeOf, .int i_bit, .int i_bitEnd])), (a_in, .inl (cI, 6000, .inl v_in)), (a_out, .inl (cI, 6000, .inl v_out)), (a_length, .inl (cI, 256, .inl v_length)), (a_symbolOf, .inl (cI, 2048, .inl v_symbolOf)), (a_made, .inl (cI, 6000, .inl v_made_6))] := hD.sub [1, 2, 0, 3, 4, 5] (by decide) rfl
    refine lv_goto (tgt := 66) hx hb d_MM_decode_49 (by decide) ?_
    exact w_MM_decode_b66 ⟨hx, hb, hml, hown, hts, hK, hA⟩ hret  _ _ _ _ h H locs ls (lv_sub hl [0, 1] rfl) hP hD hS
set_option maxHeartbeats 4000000 in
set_option maxRecDepth 100000 in
theorem w_MM_decode_b0 {p : Program} {l : Launch} {e : Env} {s : State} {m : MethodId} {args : Array Value} {below : List Frame} {meth : Method} {c : Code} {Q : State → Prop} {A : Nat → Prop} {D : va_G} {cI cL cZ : ClassId} {a_this : Nat} {a_in : Nat} {a_out : Nat} {a_length : Nat} {a_symbolOf : Nat} {a_made : Nat} {o_counts : Nat} {o_draft : Nat} {o_knot : Nat} {o_inSum : Nat} {o_halved : Nat} {o_weight : Nat} {o_points : Nat} {o_cutOff : Nat} {o_had : Nat} {o_placeOf : Nat} {i_inLong : Int32} {i_goesOn : Int32} {i_greatest : Int32} {i_knots : Int32} {i_bitsMade : Int32} {i_weights : Int32} {i_order : Int32} {i_bit : Int32} {i_bitEnd : Int32} {v_in : Nat → Int32} {v_length : Nat → Int32} {v_symbolOf : Nat → Int32} {l1 : Int32} {l2 : Int32} {N : Nat} {res : Int32 × Int32 × (Nat → Int32) × (Nat → Int32)}  (C : Cx p s m args c b_MM_decode 6 "PrefixMillModel" D [(cI, .int), (cL, .long), (cZ, .boolean)] A) (hret : E_MM_decode p l e s m args below meth c Q A D cI cL cZ a_this a_in a_out a_length a_symbolOf a_made o_counts o_draft o_knot o_inSum o_halved o_weight o_points o_cutOff o_had o_placeOf i_inLong i_goesOn i_greatest i_knots i_bitsMade i_weights i_order i_bit i_bitEnd v_in v_length v_symbolOf l1 l2 res)  : I_MM_decode_b0 p l e s m args below meth c Q A D cI cL cZ a_this a_in a_out a_length a_symbolOf a_made o_counts o_draft o_knot o_inSum o_halved o_weight o_points o_cutOff o_had o_placeOf i_inLong i_goesOn i_greatest i_knots i_bitsMade i_weights i_order i_bit i_bitEnd v_in v_length v_symbolOf l1 l2 res (f_MM_decode N i_inLong i_goesOn i_greatest v_in v_length v_symbolOf l1 l2 ) := by
  obtain ⟨hx, hb, hml, hown, hts, hK, hA⟩ := C
  intro i_outLong v_out v_made h H locs ls hl hP hD hS
  unfold f_MM_decode at h
  refine lv_aload_n hx hb d_MM_decode_0 rfl (lv_at hl 0 rfl) ?_
  refine va_get hx hb hts in_MM hown hK hP 0 rfl rfl 6 (by decide) (hts _ m_759) (fun _ h9 => h9) rfl d_MM_decode_1 ?_
  refine lv_if_eq (tgt := 18) hx hb d_MM_decode_4 (by decide) (fun c_1 => ?_) (fun c_1 => ?_)
  · replace h := if_t h c_1
    exact w_MM_decode_b18 ⟨hx, hb, hml, hown, hts, hK, hA⟩ hret  _ _ _ h H locs ls (lv_sub hl [] rfl) hP hD hS
  · replace h := if_f h c_1
    refine lv_iload_n hx hb d_MM_decode_7 rfl (lv_at hl 1 rfl) ?_
    refine lv_if_lt (tgt := 18) hx hb d_MM_decode_8 (by decide) (fun c_2 => ?_) (fun c_2 => ?_)
    · replace h := if_t h c_2
      exact w_MM_decode_b18 ⟨hx, hb, hml, hown, hts, hK, hA⟩ hret  _ _ _ h H locs ls (lv_sub hl [] rfl) hP hD hS
    · replace h := if_f h c_2
      refine lv_iload_n hx hb d_MM_decode_11 rfl (lv_at hl 1 rfl) ?_
      refine lv_sipush (v := 6000) hx hb d_MM_decode_12 (by decide) ?_
      refine lv_icmp_le (tgt := 20) hx hb d_MM_decode_15 (by decide) (fun c_3 => ?_) (fun c_3 => ?_)
      · replace h := if_t h c_3
        refine lv_iload_n hx hb d_MM_decode_20 rfl (lv_at hl 1 rfl) ?_
        refine lv_iconst (v := 3) hx hb d_MM_decode_21 (by decide) ?_
        refine lv_iadd hx hb d_MM_decode_22 ?_
        refine lv_iconst (v := 4) hx hb d_MM_decode_23 (by decide) ?_
        refine lv_idiv hx hb d_MM_decode_24 (by decide) ?_
        refine lv_topi (fun l3_4 el3_4 => ?_)
        replace h := nm_s h el3_4
        refine lv_istore_n (lv' := [(3, .int l3_4), (0, .ref a_this), (1, .int l1), (2, .int l2)]) hx hb d_MM_decode_25 rfl hl (by decide) rfl (fun ls hl => ?_)
        refine lv_iload_n hx hb d_MM_decode_26 rfl (lv_at hl 3 rfl) ?_
        refine lv_if_eq (tgt := 39) hx hb d_MM_decode_27 (by decide) (fun c_5 => ?_) (fun c_5 => ?_)
        · replace h := if_t h c_5
          exact w_MM_decode_b39 ⟨hx, hb, hml, hown, hts, hK, hA⟩ hret  _ _ _ _ h H locs ls (lv_sub hl [1, 2, 3, 0] rfl) hP hD hS
        · replace h := if_f h c_5
          refine lv_iload_n hx hb d_MM_decode_30 rfl (lv_at hl 2 rfl) ?_
          refine lv_iconst (v := 3) hx hb d_MM_decode_31 (by decide) ?_
          refine lv_iload_n hx hb d_MM_decode_32 rfl (lv_at hl 0 rfl) ?_
          refine lv_imul hx hb d_MM_decode_33 ?_
          refine lv_icmp_ge (tgt := 39) hx hb d_MM_decode_34 (by decide) (fun c_6 => ?_) (fun c_6 => ?_)
          · replace h := if_t h c_6
            exact w_MM_decode_b39 ⟨hx, hb, hml, hown, hts, hK, hA⟩ hret  _ _ _ _ h H locs ls (lv_sub hl [1, 2, 3, 0] rfl) hP hD hS
          · replace h := if_f h c_6
            refine lv_iconst (v := (-1)) hx hb d_MM_decode_37 (by decide) ?_
            exact hret _ _ _ _ (-1) i_outLong v_out v_made h d_MM_decode_38 hP hD hS
      · replace h := if_f h c_3
        exact w_MM_decode_b18 ⟨hx, hb, hml, hown, hts, hK, hA⟩ hret  _ _ _ h H locs ls (lv_sub hl [] rfl) hP hD hS
set_option maxHeartbeats 4000000 in
set_option maxRecDepth 100000 in
theorem c_MM_decode (l : Launch) (D : va_G) (cI cL cZ : ClassId) (sz N : Nat) (a_this : Nat) (a_in : Nat) (a_out : Nat) (a_length : Nat) (a_symbolOf : Nat) (a_made : Nat) (o_counts : Nat) (o_draft : Nat) (o_knot : Nat) (o_inSum : Nat) (o_halved : Nat) (o_weight : Nat) (o_points : Nat) (o_cutOff : Nat) (o_had : Nat) (o_placeOf : Nat) (i_inLong : Int32) (i_goesOn : Int32) (i_outLong : Int32) (i_greatest : Int32) (i_knots : Int32) (i_bitsMade : Int32) (i_weights : Int32) (i_order : Int32) (i_bit : Int32) (i_bitEnd : Int32) (v_in : Nat → Int32) (v_out : Nat → Int32) (v_length : Nat → Int32) (v_symbolOf : Nat → Int32) (v_made : Nat → Int32) (l1 : Int32) (l2 : Int32) (rv : Int32) (i_outLong' : Int32) (v_out' : Nat → Int32) (v_made' : Nat → Int32) (h : f_MM_decode N i_inLong i_goesOn i_greatest v_in v_length v_symbolOf l1 l2 i_outLong v_out v_made = some (rv, i_outLong', v_out', v_made')) : Met l ({ cls := "PrefixMillModel", name := "decode", desc := "(IZ)I" } : Jvm.MethodName) ws_MM_decode R_MM_decode (va_Pc [.ref a_this, .int l1, .int l2] (fun U => U.heap.size = sz ∧ va_P D classes [(a_this, .inr (1, [.ref a_in, .int i_inLong, .int i_goesOn, .ref a_out, .int i_outLong, .ref o_counts, .int i_greatest, .ref a_length, .ref a_symbolOf, .ref o_draft, .ref o_knot, .ref o_inSum, .int i_knots, .ref o_halved, .ref a_made, .int i_bitsMade, .ref o_weight, .int i_weights, .int i_order, .ref o_points, .ref o_cutOff, .ref o_had, .ref o_placeOf, .int i_bit, .int i_bitEnd])), (a_in, .inl (cI, 6000, .inl v_in)), (a_out, .inl (cI, 6000, .inl v_out)), (a_length, .inl (cI, 256, .inl v_length)), (a_symbolOf, .inl (cI, 2048, .inl v_symbolOf)), (a_made, .inl (cI, 6000, .inl v_made))] U.heap ∧ va_K D classes [(cI, .int), (cL, .long), (cZ, .boolean)] U ∧ va_D (fun _ => True) [(a_this, .inr (1, [.ref a_in, .int i_inLong, .int i_goesOn, .ref a_out, .int i_outLong, .ref o_counts, .int i_greatest, .ref a_length, .ref a_symbolOf, .ref o_draft, .ref o_knot, .ref o_inSum, .int i_knots, .ref o_halved, .ref a_made, .int i_bitsMade, .ref o_weight, .int i_weights, .int i_order, .ref o_points, .ref o_cutOff, .ref o_had, .ref o_placeOf, .int i_bit, .int i_bitEnd])), (a_in, .inl (cI, 6000, .inl v_in)), (a_out, .inl (cI, 6000, .inl v_out)), (a_length, .inl (cI, 256, .inl v_length)), (a_symbolOf, .inl (cI, 2048, .inl v_symbolOf)), (a_made, .inl (cI, 6000, .inl v_made))])) (va_Qi (fun (r0 : Int32) (_ : Unit) => rv = r0) (fun _ t => va_P D classes [(a_this, .inr (1, [.ref a_in, .int i_inLong, .int i_goesOn, .ref a_out, .int i_outLong', .ref o_counts, .int i_greatest, .ref a_length, .ref a_symbolOf, .ref o_draft, .ref o_knot, .ref o_inSum, .int i_knots, .ref o_halved, .ref a_made, .int i_bitsMade, .ref o_weight, .int i_weights, .int i_order, .ref o_points, .ref o_cutOff, .ref o_had, .ref o_placeOf, .int i_bit, .int i_bitEnd])), (a_in, .inl (cI, 6000, .inl v_in)), (a_out, .inl (cI, 6000, .inl v_out')), (a_length, .inl (cI, 256, .inl v_length)), (a_symbolOf, .inl (cI, 2048, .inl v_symbolOf)), (a_made, .inl (cI, 6000, .inl v_made'))] t.heap ∧ va_K D classes [(cI, .int), (cL, .long), (cZ, .boolean)] t ∧ va_D (va_A [(a_this, .inr (1, [.ref a_in, .int i_inLong, .int i_goesOn, .ref a_out, .int i_outLong, .ref o_counts, .int i_greatest, .ref a_length, .ref a_symbolOf, .ref o_draft, .ref o_knot, .ref o_inSum, .int i_knots, .ref o_halved, .ref a_made, .int i_bitsMade, .ref o_weight, .int i_weights, .int i_order, .ref o_points, .ref o_cutOff, .ref o_had, .ref o_placeOf, .int i_bit, .int i_bitEnd])), (a_in, .inl (cI, 6000, .inl v_in)), (a_out, .inl (cI, 6000, .inl v_out)), (a_length, .inl (cI, 256, .inl v_length)), (a_symbolOf, .inl (cI, 2048, .inl v_symbolOf)), (a_made, .inl (cI, 6000, .inl v_made))] sz) [(a_this, .inr (1, [.ref a_in, .int i_inLong, .int i_goesOn, .ref a_out, .int i_outLong', .ref o_counts, .int i_greatest, .ref a_length, .ref a_symbolOf, .ref o_draft, .ref o_knot, .ref o_inSum, .int i_knots, .ref o_halved, .ref a_made, .int i_bitsMade, .ref o_weight, .int i_weights, .int i_order, .ref o_points, .ref o_cutOff, .ref o_had, .ref o_placeOf, .int i_bit, .int i_bitEnd])), (a_in, .inl (cI, 6000, .inl v_in)), (a_out, .inl (cI, 6000, .inl v_out')), (a_length, .inl (cI, 256, .inl v_length)), (a_symbolOf, .inl (cI, 2048, .inl v_symbolOf)), (a_made, .inl (cI, 6000, .inl v_made'))]) (va_A [(a_this, .inr (1, [.ref a_in, .int i_inLong, .int i_goesOn, .ref a_out, .int i_outLong, .ref o_counts, .int i_greatest, .ref a_length, .ref a_symbolOf, .ref o_draft, .ref o_knot, .ref o_inSum, .int i_knots, .ref o_halved, .ref a_made, .int i_bitsMade, .ref o_weight, .int i_weights, .int i_order, .ref o_points, .ref o_cutOff, .ref o_had, .ref o_placeOf, .int i_bit, .int i_bitEnd])), (a_in, .inl (cI, 6000, .inl v_in)), (a_out, .inl (cI, 6000, .inl v_out)), (a_length, .inl (cI, 256, .inl v_length)), (a_symbolOf, .inl (cI, 2048, .inl v_symbolOf)), (a_made, .inl (cI, 6000, .inl v_made))] sz)) 0 0 (va_A [(a_this, .inr (1, [.ref a_in, .int i_inLong, .int i_goesOn, .ref a_out, .int i_outLong, .ref o_counts, .int i_greatest, .ref a_length, .ref a_symbolOf, .ref o_draft, .ref o_knot, .ref o_inSum, .int i_knots, .ref o_halved, .ref a_made, .int i_bitsMade, .ref o_weight, .int i_weights, .int i_order, .ref o_points, .ref o_cutOff, .ref o_had, .ref o_placeOf, .int i_bit, .int i_bitEnd])), (a_in, .inl (cI, 6000, .inl v_in)), (a_out, .inl (cI, 6000, .inl v_out)), (a_length, .inl (cI, 256, .inl v_length)), (a_symbolOf, .inl (cI, 2048, .inl v_symbolOf)), (a_made, .inl (cI, 6000, .inl v_made))] sz) := by
  refine Met.ofW (cc := b_MM_decode) (maxL := 6) (ret := (some .int)) (by decide) rfl ?_
  intro p e s m args below meth c s₁ B hml hv
  obtain ⟨rfl, hsz, hP, hK, hD0⟩ := hv
  have hx := B.exec
  have hb := B.bytes
  have hr := B.returns
  have hts0 := atoms_spec (ws := ws_MM_decode) B.pre
  have hts := gd_tl hts0
  clear hts0
  have hown : s.vm.findClass "PrefixMillModel" = some m.cls := findClass_of_methodNamed B.named
  have hlocks := B.notSynchronized
  subst hsz
  have hD := hD0.self (sz := s.heap.size)
  generalize hAe : va_A [(a_this, .inr (1, [.ref a_in, .int i_inLong, .int i_goesOn, .ref a_out, .int i_outLong, .ref o_counts, .int i_greatest, .ref a_length, .ref a_symbolOf, .ref o_draft, .ref o_knot, .ref o_inSum, .int i_knots, .ref o_halved, .ref a_made, .int i_bitsMade, .ref o_weight, .int i_weights, .int i_order, .ref o_points, .ref o_cutOff, .ref o_had, .ref o_placeOf, .int i_bit, .int i_bitEnd])), (a_in, .inl (cI, 6000, .inl v_in)), (a_out, .inl (cI, 6000, .inl v_out)), (a_length, .inl (cI, 256, .inl v_length)), (a_symbolOf, .inl (cI, 2048, .inl v_symbolOf)), (a_made, .inl (cI, 6000, .inl v_made))] s.heap.size = A at hD ⊢
  have hA : ∀ q : Nat, s.heap.size ≤ q → A q := fun q h => by rw [← hAe]; exact Or.inr h
  have hS : va_S A s.heap s.heap [] := va_S.rf
  have hP : va_P D classes [(a_this, .inr (1, [.ref a_in, .int i_inLong, .int i_goesOn, .ref a_out, .int i_outLong, .ref o_counts, .int i_greatest, .ref a_length, .ref a_symbolOf, .ref o_draft, .ref o_knot, .ref o_inSum, .int i_knots, .ref o_halved, .ref a_made, .int i_bitsMade, .ref o_weight, .int i_weights, .int i_order, .ref o_points, .ref o_cutOff, .ref o_had, .ref o_placeOf, .int i_bit, .int i_bitEnd])), (a_in, .inl (cI, 6000, .inl v_in)), (a_out, .inl (cI, 6000, .inl v_out)), (a_length, .inl (cI, 256, .inl v_length)), (a_symbolOf, .inl (cI, 2048, .inl v_symbolOf)), (a_made, .inl (cI, 6000, .inl v_made))] s.heap := hP
  have hl := lv_entry ([.ref a_this, .int l1, .int l2]) (n := 6) (Nat.le_of_ble_eq_true rfl)
  rw [lg_entry_eq]
  generalize (lg_sl ([.ref a_this, .int l1, .int l2]) ++ List.replicate (6 - (lg_sl ([.ref a_this, .int l1, .int l2])).length) Slot.unset).toArray = ls at hl ⊢
  have hl : lv_has ls 6 [(0, .ref a_this), (1, .int l1), (2, .int l2)] := hl
  have C : Cx p s m ([.ref a_this, .int l1, .int l2] : List Value).toArray c b_MM_decode 6 "PrefixMillModel" D [(cI, .int), (cL, .long), (cZ, .boolean)] A := ⟨hx, hb, hml, hown, hts, hK, hA⟩
  refine w_MM_decode_b0 (res := (rv, i_outLong', v_out', v_made')) C ?_ _ _ _ h s.heap [] ls hl hP hD hS
  intro pc9 H9 locs9 ls9 rv9 i_outLong9 v_out9 v_made9 e9 d9 hP9 hD9 hS9
  cases e9
  exact W.iret (v := rv) hx hb hr (fun t ht hW => ⟨⟨rv, (), rfl, rfl, by rw [ht]; exact hP9, va_K.moved hW.alike hK, hD9⟩, hS9.F ht⟩) hS9.2.2 d9
abbrev b_MM_mass : ByteArray := prog_12_method_31_code
def ws_MM_mass : List Cond := .code ({ cls := "PrefixMillModel", name := "mass", desc := "(I)I" } : Jvm.MethodName) b_MM_mass 1 (some .int) :: tt
theorem d_MM_mass_0 : decode b_MM_mass 0 = .ok (.iload_n 0, 1) := by decide +kernel
theorem d_MM_mass_1 : decode b_MM_mass 1 = .ok (.ifCond .ge 7, 3) := by decide +kernel
theorem d_MM_mass_4 : decode b_MM_mass 4 = .ok (.iconst 1, 1) := by decide +kernel
theorem d_MM_mass_5 : decode b_MM_mass 5 = .ok (.goto 4, 3) := by decide +kernel
theorem d_MM_mass_8 : decode b_MM_mass 8 = .ok (.iload_n 0, 1) := by decide +kernel
theorem d_MM_mass_9 : decode b_MM_mass 9 = .ok (.ireturn, 1) := by decide +kernel
def f_MM_mass (N : Nat) (l0 : Int32)   : Option (Int32) :=
  if 0 ≤ l0 then
  some (l0)
  else
  some (1)
abbrev R_MM_mass : Room := ({ frames := 0, cells := 0, slots := 0, locals := 0 } : Room)
def E_MM_mass (p : Program) (l : Launch) (e : Env) (s : State) (m : MethodId) (args : Array Value) (below : List Frame) (meth : Method) (c : Code) (Q : State → Prop) (A : Nat → Prop) (D : va_G) (cI cL cZ : ClassId) (l0 : Int32) (res : Int32) : Prop := ∀ (pc : Nat) (H : Heap) (locs : List Loc) (ls : Array Slot) (rv : Int32), some (rv) = some res → decode b_MM_mass pc = .ok (.ireturn, 1) → va_P D classes [] H → va_D A [] → va_S A s.heap H locs → W p l e R_MM_mass s m args below meth c H locs 0 0 Q (F0 m pc ls [.int rv])
def I_MM_mass_b0 (p : Program) (l : Launch) (e : Env) (s : State) (m : MethodId) (args : Array Value) (below : List Frame) (meth : Method) (c : Code) (Q : State → Prop) (A : Nat → Prop) (D : va_G) (cI cL cZ : ClassId) (l0 : Int32) (res : Int32) (kf : Option (Int32)) : Prop := ∀ (_ : Unit), kf  = some res → ∀ (H : Heap) (locs : List Loc) (ls : Array Slot), lv_has ls 1 [(0, .int l0)] → va_P D classes [] H → va_D A [] → va_S A s.heap H locs → W p l e R_MM_mass s m args below meth c H locs 0 0 Q (F0 m 0 ls [])
set_option maxHeartbeats 4000000 in
set_option maxRecDepth 100000 in
theorem w_MM_mass_b0 {p : Program} {l : Launch} {e : Env} {s : State} {m : MethodId} {args : Array Value} {below : List Frame} {meth : Method} {c : Code} {Q : State → Prop} {A : Nat → Prop} {D : va_G} {cI cL cZ : ClassId} {l0 : Int32} {N : Nat} {res : Int32}  (C : Cx p s m args c b_MM_mass 1 "PrefixMillModel" D [(cI, .int), (cL, .long), (cZ, .boolean)] A) (hret : E_MM_mass p l e s m args below meth c Q A D cI cL cZ l0 res)  : I_MM_mass_b0 p l e s m args below meth c Q A D cI cL cZ l0 res (f_MM_mass N l0 ) := by
  obtain ⟨hx, hb, hml, hown, hts, hK, hA⟩ := C
  intro _ h H locs ls hl hP hD hS
  unfold f_MM_mass at h
  refine lv_iload_n hx hb d_MM_mass_0 rfl (lv_at hl 0 rfl) ?_
  refine lv_if_ge (tgt := 8) hx hb d_MM_mass_1 (by decide) (fun c_1 => ?_) (fun c_1 => ?_)
  · replace h := if_t h c_1
    refine lv_iload_n hx hb d_MM_mass_8 rfl (lv_at hl 0 rfl) ?_
    exact hret _ _ _ _ l0  h d_MM_mass_9 hP hD hS
  · replace h := if_f h c_1
    refine lv_iconst (v := 1) hx hb d_MM_mass_4 (by decide) ?_
    refine lv_goto (tgt := 9) hx hb d_MM_mass_5 (by decide) ?_
    exact hret _ _ _ _ 1  h d_MM_mass_9 hP hD hS
set_option maxHeartbeats 4000000 in
set_option maxRecDepth 100000 in
theorem c_MM_mass (l : Launch) (D : va_G) (cI cL cZ : ClassId) (sz N : Nat) (l0 : Int32) (rv : Int32) (h : f_MM_mass N l0  = some (rv)) : Met l ({ cls := "PrefixMillModel", name := "mass", desc := "(I)I" } : Jvm.MethodName) ws_MM_mass R_MM_mass (va_Pc [.int l0] (fun U => U.heap.size = sz ∧ va_P D classes [] U.heap ∧ va_K D classes [(cI, .int), (cL, .long), (cZ, .boolean)] U ∧ va_D (fun _ => True) [])) (va_Qi (fun (r0 : Int32) (_ : Unit) => rv = r0) (fun _ t => va_P D classes [] t.heap ∧ va_K D classes [(cI, .int), (cL, .long), (cZ, .boolean)] t ∧ va_D (va_A [] sz) []) (va_A [] sz)) 0 0 (va_A [] sz) := by
  refine Met.ofW (cc := b_MM_mass) (maxL := 1) (ret := (some .int)) (by decide) rfl ?_
  intro p e s m args below meth c s₁ B hml hv
  obtain ⟨rfl, hsz, hP, hK, hD0⟩ := hv
  have hx := B.exec
  have hb := B.bytes
  have hr := B.returns
  have hts0 := atoms_spec (ws := ws_MM_mass) B.pre
  have hts := gd_tl hts0
  clear hts0
  have hown : s.vm.findClass "PrefixMillModel" = some m.cls := findClass_of_methodNamed B.named
  have hlocks := B.notSynchronized
  subst hsz
  have hD := hD0.self (sz := s.heap.size)
  generalize hAe : va_A [] s.heap.size = A at hD ⊢
  have hA : ∀ q : Nat, s.heap.size ≤ q → A q := fun q h => by rw [← hAe]; exact Or.inr h
  have hS : va_S A s.heap s.heap [] := va_S.rf
  have hP : va_P D classes [] s.heap := hP
  have hl := lv_entry ([.int l0]) (n := 1) (Nat.le_of_ble_eq_true rfl)
  rw [lg_entry_eq]
  generalize (lg_sl ([.int l0]) ++ List.replicate (1 - (lg_sl ([.int l0])).length) Slot.unset).toArray = ls at hl ⊢
  have hl : lv_has ls 1 [(0, .int l0)] := hl
  have C : Cx p s m ([.int l0] : List Value).toArray c b_MM_mass 1 "PrefixMillModel" D [(cI, .int), (cL, .long), (cZ, .boolean)] A := ⟨hx, hb, hml, hown, hts, hK, hA⟩
  refine w_MM_mass_b0 (res := (rv)) C ?_ () h s.heap [] ls hl hP hD hS
  intro pc9 H9 locs9 ls9 rv9 e9 d9 hP9 hD9 hS9
  cases e9
  exact W.iret (v := rv) hx hb hr (fun t ht hW => ⟨⟨rv, (), rfl, rfl, by rw [ht]; exact hP9, va_K.moved hW.alike hK, hD9⟩, hS9.F ht⟩) hS9.2.2 d9
