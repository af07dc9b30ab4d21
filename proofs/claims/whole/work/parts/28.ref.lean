abbrev b_MM_just : ByteArray := prog_12_method_16_code
def ws_MM_just : List Cond := .code ({ cls := "PrefixMillModel", name := "just", desc := "()I" } : Jvm.MethodName) b_MM_just 5 (some .int) :: tt
theorem d_MM_just_0 : decode b_MM_just 0 = .ok (.lconst 0, 1) := by decide +kernel
theorem d_MM_just_1 : decode b_MM_just 1 = .ok (.lstore_n 1, 1) := by decide +kernel
theorem d_MM_just_2 : decode b_MM_just 2 = .ok (.iconst 0, 1) := by decide +kernel
theorem d_MM_just_3 : decode b_MM_just 3 = .ok (.istore_n 3, 1) := by decide +kernel
theorem d_MM_just_4 : decode b_MM_just 4 = .ok (.iload_n 3, 1) := by decide +kernel
theorem d_MM_just_5 : decode b_MM_just 5 = .ok (.sipush 256, 3) := by decide +kernel
theorem d_MM_just_8 : decode b_MM_just 8 = .ok (.if_icmp .ge 34, 3) := by decide +kernel
theorem d_MM_just_11 : decode b_MM_just 11 = .ok (.aload_n 0, 1) := by decide +kernel
theorem d_MM_just_12 : decode b_MM_just 12 = .ok (.getfield 16, 3) := by decide +kernel
theorem d_MM_just_15 : decode b_MM_just 15 = .ok (.iload_n 3, 1) := by decide +kernel
theorem d_MM_just_16 : decode b_MM_just 16 = .ok (.iaload, 1) := by decide +kernel
theorem d_MM_just_17 : decode b_MM_just 17 = .ok (.bipush 11, 2) := by decide +kernel
theorem d_MM_just_19 : decode b_MM_just 19 = .ok (.if_icmp .le 5, 3) := by decide +kernel
theorem d_MM_just_22 : decode b_MM_just 22 = .ok (.iconst (-1), 1) := by decide +kernel
theorem d_MM_just_23 : decode b_MM_just 23 = .ok (.ireturn, 1) := by decide +kernel
theorem d_MM_just_24 : decode b_MM_just 24 = .ok (.aload_n 0, 1) := by decide +kernel
theorem d_MM_just_25 : decode b_MM_just 25 = .ok (.getfield 25, 3) := by decide +kernel
theorem d_MM_just_28 : decode b_MM_just 28 = .ok (.iload_n 3, 1) := by decide +kernel
theorem d_MM_just_29 : decode b_MM_just 29 = .ok (.aload_n 0, 1) := by decide +kernel
theorem d_MM_just_30 : decode b_MM_just 30 = .ok (.getfield 16, 3) := by decide +kernel
theorem d_MM_just_33 : decode b_MM_just 33 = .ok (.iload_n 3, 1) := by decide +kernel
theorem d_MM_just_34 : decode b_MM_just 34 = .ok (.iaload, 1) := by decide +kernel
theorem d_MM_just_35 : decode b_MM_just 35 = .ok (.iastore, 1) := by decide +kernel
theorem d_MM_just_36 : decode b_MM_just 36 = .ok (.iinc 3 1, 3) := by decide +kernel
theorem d_MM_just_39 : decode b_MM_just 39 = .ok (.goto (-35), 3) := by decide +kernel
theorem d_MM_just_42 : decode b_MM_just 42 = .ok (.aload_n 0, 1) := by decide +kernel
theorem d_MM_just_43 : decode b_MM_just 43 = .ok (.invokevirtual 85, 3) := by decide +kernel
theorem d_MM_just_46 : decode b_MM_just 46 = .ok (.istore_n 3, 1) := by decide +kernel
theorem d_MM_just_47 : decode b_MM_just 47 = .ok (.iconst 0, 1) := by decide +kernel
theorem d_MM_just_48 : decode b_MM_just 48 = .ok (.istore 4, 2) := by decide +kernel
theorem d_MM_just_50 : decode b_MM_just 50 = .ok (.iload 4, 2) := by decide +kernel
theorem d_MM_just_52 : decode b_MM_just 52 = .ok (.sipush 256, 3) := by decide +kernel
theorem d_MM_just_55 : decode b_MM_just 55 = .ok (.if_icmp .ge 34, 3) := by decide +kernel
theorem d_MM_just_58 : decode b_MM_just 58 = .ok (.aload_n 0, 1) := by decide +kernel
theorem d_MM_just_59 : decode b_MM_just 59 = .ok (.getfield 25, 3) := by decide +kernel
theorem d_MM_just_62 : decode b_MM_just 62 = .ok (.iload 4, 2) := by decide +kernel
theorem d_MM_just_64 : decode b_MM_just 64 = .ok (.iaload, 1) := by decide +kernel
theorem d_MM_just_65 : decode b_MM_just 65 = .ok (.ifCond .le 18, 3) := by decide +kernel
theorem d_MM_just_68 : decode b_MM_just 68 = .ok (.lload_n 1, 1) := by decide +kernel
theorem d_MM_just_69 : decode b_MM_just 69 = .ok (.iconst 1, 1) := by decide +kernel
theorem d_MM_just_70 : decode b_MM_just 70 = .ok (.iload_n 3, 1) := by decide +kernel
theorem d_MM_just_71 : decode b_MM_just 71 = .ok (.aload_n 0, 1) := by decide +kernel
theorem d_MM_just_72 : decode b_MM_just 72 = .ok (.getfield 25, 3) := by decide +kernel
theorem d_MM_just_75 : decode b_MM_just 75 = .ok (.iload 4, 2) := by decide +kernel
theorem d_MM_just_77 : decode b_MM_just 77 = .ok (.iaload, 1) := by decide +kernel
theorem d_MM_just_78 : decode b_MM_just 78 = .ok (.isub, 1) := by decide +kernel
theorem d_MM_just_79 : decode b_MM_just 79 = .ok (.ishl, 1) := by decide +kernel
theorem d_MM_just_80 : decode b_MM_just 80 = .ok (.i2l, 1) := by decide +kernel
theorem d_MM_just_81 : decode b_MM_just 81 = .ok (.ladd, 1) := by decide +kernel
theorem d_MM_just_82 : decode b_MM_just 82 = .ok (.lstore_n 1, 1) := by decide +kernel
theorem d_MM_just_83 : decode b_MM_just 83 = .ok (.iinc 4 1, 3) := by decide +kernel
theorem d_MM_just_86 : decode b_MM_just 86 = .ok (.goto (-36), 3) := by decide +kernel
theorem d_MM_just_89 : decode b_MM_just 89 = .ok (.iload_n 3, 1) := by decide +kernel
theorem d_MM_just_90 : decode b_MM_just 90 = .ok (.ifCond .eq 12, 3) := by decide +kernel
theorem d_MM_just_93 : decode b_MM_just 93 = .ok (.lload_n 1, 1) := by decide +kernel
theorem d_MM_just_94 : decode b_MM_just 94 = .ok (.iconst 1, 1) := by decide +kernel
theorem d_MM_just_95 : decode b_MM_just 95 = .ok (.iload_n 3, 1) := by decide +kernel
theorem d_MM_just_96 : decode b_MM_just 96 = .ok (.ishl, 1) := by decide +kernel
theorem d_MM_just_97 : decode b_MM_just 97 = .ok (.i2l, 1) := by decide +kernel
theorem d_MM_just_98 : decode b_MM_just 98 = .ok (.lcmp, 1) := by decide +kernel
theorem d_MM_just_99 : decode b_MM_just 99 = .ok (.ifCond .eq 7, 3) := by decide +kernel
theorem d_MM_just_102 : decode b_MM_just 102 = .ok (.iconst (-1), 1) := by decide +kernel
theorem d_MM_just_103 : decode b_MM_just 103 = .ok (.goto 8, 3) := by decide +kernel
theorem d_MM_just_106 : decode b_MM_just 106 = .ok (.aload_n 0, 1) := by decide +kernel
theorem d_MM_just_107 : decode b_MM_just 107 = .ok (.iload_n 3, 1) := by decide +kernel
theorem d_MM_just_108 : decode b_MM_just 108 = .ok (.invokevirtual 89, 3) := by decide +kernel
theorem d_MM_just_111 : decode b_MM_just 111 = .ok (.ireturn, 1) := by decide +kernel
def f_MM_just_b22 (N : Nat) (v_counts : Nat → Int32)  (i_greatest : Int32) (v_length : Nat → Int32) (v_symbolOf : Nat → Int32) (v_draft : Nat → Int32) : Option (Int32 × Int32 × (Nat → Int32) × (Nat → Int32) × (Nat → Int32)) :=
  some ((-1), i_greatest, v_length, v_symbolOf, v_draft)
def f_MM_just_b83 (N : Nat) (v_counts : Nat → Int32) (k50 : Int64 → Int32 → Int32 → Int32 → (Nat → Int32) → (Nat → Int32) → (Nat → Int32) → Option (Int32 × Int32 × (Nat → Int32) × (Nat → Int32) × (Nat → Int32))) (l1 : Int64) (l3 : Int32) (l4 : Int32) (i_greatest : Int32) (v_length : Nat → Int32) (v_symbolOf : Nat → Int32) (v_draft : Nat → Int32) : Option (Int32 × Int32 × (Nat → Int32) × (Nat → Int32) × (Nat → Int32)) :=
  nm (l4 + 1) fun l4_1 =>
  k50 l1 l3 l4_1 i_greatest v_length v_symbolOf v_draft
def f_MM_just_b102 (N : Nat) (v_counts : Nat → Int32)  (i_greatest : Int32) (v_length : Nat → Int32) (v_symbolOf : Nat → Int32) (v_draft : Nat → Int32) : Option (Int32 × Int32 × (Nat → Int32) × (Nat → Int32) × (Nat → Int32)) :=
  some ((-1), i_greatest, v_length, v_symbolOf, v_draft)
def f_MM_just_b89 (N : Nat) (v_counts : Nat → Int32)  (l1 : Int64) (l3 : Int32) (i_greatest : Int32) (v_length : Nat → Int32) (v_symbolOf : Nat → Int32) (v_draft : Nat → Int32) : Option (Int32 × Int32 × (Nat → Int32) × (Nat → Int32) × (Nat → Int32)) :=
  if l3 = 0 then
  f_MM_just_b102 N v_counts  i_greatest v_length v_symbolOf v_draft
  else
  if (lg_cmp l1 (Int32.toInt64 (1 <<< (l3 &&& 31)))) = 0 then
  bd4 (f_MM_settle N v_draft l3 i_greatest v_length v_symbolOf) fun r_3 i_greatest_4 v_length_5 v_symbolOf_6 =>
  some (r_3, i_greatest_4, v_length_5, v_symbolOf_6, v_draft)
  else
  f_MM_just_b102 N v_counts  i_greatest v_length v_symbolOf v_draft
def f_MM_just_b50 (N : Nat) (v_counts : Nat → Int32)  : Nat → Int64 → Int32 → Int32 → Int32 → (Nat → Int32) → (Nat → Int32) → (Nat → Int32) → Option (Int32 × Int32 × (Nat → Int32) × (Nat → Int32) × (Nat → Int32))
  | 0, _, _, _, _, _, _, _ => none
  | z + 1, l1, l3, l4, i_greatest, v_length, v_symbolOf, v_draft =>
  if 256 ≤ l4 then
  f_MM_just_b89 N v_counts  l1 l3 i_greatest v_length v_symbolOf v_draft
  else
  ck (inb l4 256) <|
  if (v_draft (Int32.toNatClampNeg l4)) ≤ 0 then
  f_MM_just_b83 N v_counts (f_MM_just_b50 N v_counts  z) l1 l3 l4 i_greatest v_length v_symbolOf v_draft
  else
  ck (inb l4 256) <|
  nm (l1 + (Int32.toInt64 (1 <<< ((l3 - (v_draft (Int32.toNatClampNeg l4))) &&& 31)))) fun l1_5 =>
  f_MM_just_b83 N v_counts (f_MM_just_b50 N v_counts  z) l1_5 l3 l4 i_greatest v_length v_symbolOf v_draft
def f_MM_just_b42 (N : Nat) (v_counts : Nat → Int32)  (l1 : Int64) (i_greatest : Int32) (v_length : Nat → Int32) (v_symbolOf : Nat → Int32) (v_draft : Nat → Int32) : Option (Int32 × Int32 × (Nat → Int32) × (Nat → Int32) × (Nat → Int32)) :=
  bd1 (f_MM_longestDraft N v_draft) fun r_1 =>
  f_MM_just_b50 N v_counts  N l1 r_1 0 i_greatest v_length v_symbolOf v_draft
def f_MM_just_b4 (N : Nat) (v_counts : Nat → Int32)  : Nat → Int64 → Int32 → Int32 → (Nat → Int32) → (Nat → Int32) → (Nat → Int32) → Option (Int32 × Int32 × (Nat → Int32) × (Nat → Int32) × (Nat → Int32))
  | 0, _, _, _, _, _, _ => none
  | z + 1, l1, l3, i_greatest, v_length, v_symbolOf, v_draft =>
  if 256 ≤ l3 then
  f_MM_just_b42 N v_counts  l1 i_greatest v_length v_symbolOf v_draft
  else
  ck (inb l3 256) <|
  if (v_counts (Int32.toNatClampNeg l3)) ≤ 11 then
  ck (inb l3 256) <|
  ck (inb l3 256) <|
  nm (upd v_draft (Int32.toNatClampNeg l3) (v_counts (Int32.toNatClampNeg l3))) fun v_draft_6 =>
  nm (l3 + 1) fun l3_7 =>
  f_MM_just_b4 N v_counts  z l1 l3_7 i_greatest v_length v_symbolOf v_draft_6
  else
  f_MM_just_b22 N v_counts  i_greatest v_length v_symbolOf v_draft
def f_MM_just (N : Nat) (v_counts : Nat → Int32)  (i_greatest : Int32) (v_length : Nat → Int32) (v_symbolOf : Nat → Int32) (v_draft : Nat → Int32) : Option (Int32 × Int32 × (Nat → Int32) × (Nat → Int32) × (Nat → Int32)) :=
  f_MM_just_b4 N v_counts  N 0 0 i_greatest v_length v_symbolOf v_draft
abbrev R_MM_just : Room := ({ frames := 2, cells := 0, slots := 0, locals := 46 } : Room)
def E_MM_just (p : Program) (l : Launch) (e : Env) (s : State) (m : MethodId) (args : Array Value) (below : List Frame) (meth : Method) (c : Code) (Q : State → Prop) (A : Nat → Prop) (D : va_G) (cI cL cZ : ClassId) (a_this : Nat) (a_counts : Nat) (a_length : Nat) (a_symbolOf : Nat) (a_draft : Nat) (o_in : Nat) (o_out : Nat) (o_knot : Nat) (o_inSum : Nat) (o_halved : Nat) (o_made : Nat) (o_weight : Nat) (o_points : Nat) (o_cutOff : Nat) (o_had : Nat) (o_placeOf : Nat) (i_inLong : Int32) (i_goesOn : Int32) (i_outLong : Int32) (i_knots : Int32) (i_bitsMade : Int32) (i_weights : Int32) (i_order : Int32) (i_bit : Int32) (i_bitEnd : Int32) (v_counts : Nat → Int32) (res : Int32 × Int32 × (Nat → Int32) × (Nat → Int32) × (Nat → Int32)) : Prop := ∀ (pc : Nat) (H : Heap) (locs : List Loc) (ls : Array Slot) (rv : Int32) (i_greatest : Int32) (v_length : Nat → Int32) (v_symbolOf : Nat → Int32) (v_draft : Nat → Int32), some (rv, i_greatest, v_length, v_symbolOf, v_draft) = some res → decode b_MM_just pc = .ok (.ireturn, 1) → va_P D classes [(a_this, .inr (1, [.ref o_in, .int i_inLong, .int i_goesOn, .ref o_out, .int i_outLong, .ref a_counts, .int i_greatest, .ref a_length, .ref a_symbolOf, .ref a_draft, .ref o_knot, .ref o_inSum, .int i_knots, .ref o_halved, .ref o_made, .int i_bitsMade, .ref o_weight, .int i_weights, .int i_order, .ref o_points, .ref o_cutOff, .ref o_had, .ref o_placeOf, .int i_bit, .int i_bitEnd])), (a_counts, .inl (cI, 256, .inl v_counts)), (a_length, .inl (cI, 256, .inl v_length)), (a_symbolOf, .inl (cI, 2048, .inl v_symbolOf)), (a_draft, .inl (cI, 256, .inl v_draft))] H → va_D A [(a_this, .inr (1, [.ref o_in, .int i_inLong, .int i_goesOn, .ref o_out, .int i_outLong, .ref a_counts, .int i_greatest, .ref a_length, .ref a_symbolOf, .ref a_draft, .ref o_knot, .ref o_inSum, .int i_knots, .ref o_halved, .ref o_made, .int i_bitsMade, .ref o_weight, .int i_weights, .int i_order, .ref o_points, .ref o_cutOff, .ref o_had, .ref o_placeOf, .int i_bit, .int i_bitEnd])), (a_counts, .inl (cI, 256, .inl v_counts)), (a_length, .inl (cI, 256, .inl v_length)), (a_symbolOf, .inl (cI, 2048, .inl v_symbolOf)), (a_draft, .inl (cI, 256, .inl v_draft))] → va_S A s.heap H locs → W p l e R_MM_just s m args below meth c H locs 0 0 Q (F0 m pc ls [.int rv])
def I_MM_just_b22 (p : Program) (l : Launch) (e : Env) (s : State) (m : MethodId) (args : Array Value) (below : List Frame) (meth : Method) (c : Code) (Q : State → Prop) (A : Nat → Prop) (D : va_G) (cI cL cZ : ClassId) (a_this : Nat) (a_counts : Nat) (a_length : Nat) (a_symbolOf : Nat) (a_draft : Nat) (o_in : Nat) (o_out : Nat) (o_knot : Nat) (o_inSum : Nat) (o_halved : Nat) (o_made : Nat) (o_weight : Nat) (o_points : Nat) (o_cutOff : Nat) (o_had : Nat) (o_placeOf : Nat) (i_inLong : Int32) (i_goesOn : Int32) (i_outLong : Int32) (i_knots : Int32) (i_bitsMade : Int32) (i_weights : Int32) (i_order : Int32) (i_bit : Int32) (i_bitEnd : Int32) (v_counts : Nat → Int32) (res : Int32 × Int32 × (Nat → Int32) × (Nat → Int32) × (Nat → Int32)) (kf : Int32 → (Nat → Int32) → (Nat → Int32) → (Nat → Int32) → Option (Int32 × Int32 × (Nat → Int32) × (Nat → Int32) × (Nat → Int32))) : Prop := ∀ (i_greatest : Int32) (v_length : Nat → Int32) (v_symbolOf : Nat → Int32) (v_draft : Nat → Int32), kf i_greatest v_length v_symbolOf v_draft = some res → ∀ (H : Heap) (locs : List Loc) (ls : Array Slot), lv_has ls 5 [] → va_P D classes [(a_this, .inr (1, [.ref o_in, .int i_inLong, .int i_goesOn, .ref o_out, .int i_outLong, .ref a_counts, .int i_greatest, .ref a_length, .ref a_symbolOf, .ref a_draft, .ref o_knot, .ref o_inSum, .int i_knots, .ref o_halved, .ref o_made, .int i_bitsMade, .ref o_weight, .int i_weights, .int i_order, .ref o_points, .ref o_cutOff, .ref o_had, .ref o_placeOf, .int i_bit, .int i_bitEnd])), (a_counts, .inl (cI, 256, .inl v_counts)), (a_length, .inl (cI, 256, .inl v_length)), (a_symbolOf, .inl (cI, 2048, .inl v_symbolOf)), (a_draft, .inl (cI, 256, .inl v_draft))] H → va_D A [(a_this, .inr (1, [.ref o_in, .int i_inLong, .int i_goesOn, .ref o_out, .int i_outLong, .ref a_counts, .int i_greatest, .ref a_length, .ref a_symbolOf, .ref a_draft, .ref o_knot, .ref o_inSum, .int i_knots, .ref o_halved, .ref o_made, .int i_bitsMade, .ref o_weight, .int i_weights, .int i_order, .ref o_points, .ref o_cutOff, .ref o_had, .ref o_placeOf, .int i_bit, .int i_bitEnd])), (a_counts, .inl (cI, 256, .inl v_counts)), (a_length, .inl (cI, 256, .inl v_length)), (a_symbolOf, .inl (cI, 2048, .inl v_symbolOf)), (a_draft, .inl (cI, 256, .inl v_draft))] → va_S A s.heap H locs → W p l e R_MM_just s m args below meth c H locs 0 0 Q (F0 m 22 ls [])
def I_MM_just_b83 (p : Program) (l : Launch) (e : Env) (s : State) (m : MethodId) (args : Array Value) (below : List Frame) (meth : Method) (c : Code) (Q : State → Prop) (A : Nat → Prop) (D : va_G) (cI cL cZ : ClassId) (a_this : Nat) (a_counts : Nat) (a_length : Nat) (a_symbolOf : Nat) (a_draft : Nat) (o_in : Nat) (o_out : Nat) (o_knot : Nat) (o_inSum : Nat) (o_halved : Nat) (o_made : Nat) (o_weight : Nat) (o_points : Nat) (o_cutOff : Nat) (o_had : Nat) (o_placeOf : Nat) (i_inLong : Int32) (i_goesOn : Int32) (i_outLong : Int32) (i_knots : Int32) (i_bitsMade : Int32) (i_weights : Int32) (i_order : Int32) (i_bit : Int32) (i_bitEnd : Int32) (v_counts : Nat → Int32) (res : Int32 × Int32 × (Nat → Int32) × (Nat → Int32) × (Nat → Int32)) (kf : Int64 → Int32 → Int32 → Int32 → (Nat → Int32) → (Nat → Int32) → (Nat → Int32) → Option (Int32 × Int32 × (Nat → Int32) × (Nat → Int32) × (Nat → Int32))) : Prop := ∀ (l1 : Int64) (l3 : Int32) (l4 : Int32) (i_greatest : Int32) (v_length : Nat → Int32) (v_symbolOf : Nat → Int32) (v_draft : Nat → Int32), kf l1 l3 l4 i_greatest v_length v_symbolOf v_draft = some res → ∀ (H : Heap) (locs : List Loc) (ls : Array Slot), lv_has ls 5 [(0, .ref a_this), (1, .long l1), (3, .int l3), (4, .int l4)] → va_P D classes [(a_this, .inr (1, [.ref o_in, .int i_inLong, .int i_goesOn, .ref o_out, .int i_outLong, .ref a_counts, .int i_greatest, .ref a_length, .ref a_symbolOf, .ref a_draft, .ref o_knot, .ref o_inSum, .int i_knots, .ref o_halved, .ref o_made, .int i_bitsMade, .ref o_weight, .int i_weights, .int i_order, .ref o_points, .ref o_cutOff, .ref o_had, .ref o_placeOf, .int i_bit, .int i_bitEnd])), (a_counts, .inl (cI, 256, .inl v_counts)), (a_length, .inl (cI, 256, .inl v_length)), (a_symbolOf, .inl (cI, 2048, .inl v_symbolOf)), (a_draft, .inl (cI, 256, .inl v_draft))] H → va_D A [(a_this, .inr (1, [.ref o_in, .int i_inLong, .int i_goesOn, .ref o_out, .int i_outLong, .ref a_counts, .int i_greatest, .ref a_length, .ref a_symbolOf, .ref a_draft, .ref o_knot, .ref o_inSum, .int i_knots, .ref o_halved, .ref o_made, .int i_bitsMade, .ref o_weight, .int i_weights, .int i_order, .ref o_points, .ref o_cutOff, .ref o_had, .ref o_placeOf, .int i_bit, .int i_bitEnd])), (a_counts, .inl (cI, 256, .inl v_counts)), (a_length, .inl (cI, 256, .inl v_length)), (a_symbolOf, .inl (cI, 2048, .inl v_symbolOf)), (a_draft, .inl (cI, 256, .inl v_draft))] → va_S A s.heap H locs → W p l e R_MM_just s m args below meth c H locs 0 0 Q (F0 m 83 ls [])
def I_MM_just_b102 (p : Program) (l : Launch) (e : Env) (s : State) (m : MethodId) (args : Array Value) (below : List Frame) (meth : Method) (c : Code) (Q : State → Prop) (A : Nat → Prop) (D : va_G) (cI cL cZ : ClassId) (a_this : Nat) (a_counts : Nat) (a_length : Nat) (a_symbolOf : Nat) (a_draft : Nat) (o_in : Nat) (o_out : Nat) (o_knot : Nat) (o_inSum : Nat) (o_halved : Nat) (o_made : Nat) (o_weight : Nat) (o_points : Nat) (o_cutOff : Nat) (o_had : Nat) (o_placeOf : Nat) (i_inLong : Int32) (i_goesOn : Int32) (i_outLong : Int32) (i_knots : Int32) (i_bitsMade : Int32) (i_weights : Int32) (i_order : Int32) (i_bit : Int32) (i_bitEnd : Int32) (v_counts : Nat → Int32) (res : Int32 × Int32 × (Nat → Int32) × (Nat → Int32) × (Nat → Int32)) (kf : Int32 → (Nat → Int32) → (Nat → Int32) → (Nat → Int32) → Option (Int32 × Int32 × (Nat → Int32) × (Nat → Int32) × (Nat → Int32))) : Prop := ∀ (i_greatest : Int32) (v_length : Nat → Int32) (v_symbolOf : Nat → Int32) (v_draft : Nat → Int32), kf i_greatest v_length v_symbolOf v_draft = some res → ∀ (H : Heap) (locs : List Loc) (ls : Array Slot), lv_has ls 5 [] → va_P D classes [(a_this, .inr (1, [.ref o_in, .int i_inLong, .int i_goesOn, .ref o_out, .int i_outLong, .ref a_counts, .int i_greatest, .ref a_length, .ref a_symbolOf, .ref a_draft, .ref o_knot, .ref o_inSum, .int i_knots, .ref o_halved, .ref o_made, .int i_bitsMade, .ref o_weight, .int i_weights, .int i_order, .ref o_points, .ref o_cutOff, .ref o_had, .ref o_placeOf, .int i_bit, .int i_bitEnd])), (a_counts, .inl (cI, 256, .inl v_counts)), (a_length, .inl (cI, 256, .inl v_length)), (a_symbolOf, .inl (cI, 2048, .inl v_symbolOf)), (a_draft, .inl (cI, 256, .inl v_draft))] H → va_D A [(a_this, .inr (1, [.ref o_in, .int i_inLong, .int i_goesOn, .ref o_out, .int i_outLong, .ref a_counts, .int i_greatest, .ref a_length, .ref a_symbolOf, .ref a_draft, .ref o_knot, .ref o_inSum, .int i_knots, .ref o_halved, .ref o_made, .int i_bitsMade, .ref o_weight, .int i_weights, .int i_order, .ref o_points, .ref o_cutOff, .ref o_had, .ref o_placeOf, .int i_bit, .int i_bitEnd])), (a_counts, .inl (cI, 256, .inl v_counts)), (a_length, .inl (cI, 256, .inl v_length)), (a_symbolOf, .inl (cI, 2048, .inl v_symbolOf)), (a_draft, .inl (cI, 256, .inl v_draft))] → va_S A s.heap H locs → W p l e R_MM_just s m args below meth c H locs 0 0 Q (F0 m 102 ls [])
def I_MM_just_b89 (p : Program) (l : Launch) (e : Env) (s : State) (m : MethodId) (args : Array Value) (below : List Frame) (meth : Method) (c : Code) (Q : State → Prop) (A : Nat → Prop) (D : va_G) (cI cL cZ : ClassId) (a_this : Nat) (a_counts : Nat) (a_length : Nat) (a_symbolOf : Nat) (a_draft : Nat) (o_in : Nat) (o_out : Nat) (o_knot : Nat) (o_inSum : Nat) (o_halved : Nat) (o_made : Nat) (o_weight : Nat) (o_points : Nat) (o_cutOff : Nat) (o_had : Nat) (o_placeOf : Nat) (i_inLong : Int32) (i_goesOn : Int32) (i_outLong : Int32) (i_knots : Int32) (i_bitsMade : Int32) (i_weights : Int32) (i_order : Int32) (i_bit : Int32) (i_bitEnd : Int32) (v_counts : Nat → Int32) (res : Int32 × Int32 × (Nat → Int32) × (Nat → Int32) × (Nat → Int32)) (kf : Int64 → Int32 → Int32 → (Nat → Int32) → (Nat → Int32) → (Nat → Int32) → Option (Int32 × Int32 × (Nat → Int32) × (Nat → Int32) × (Nat → Int32))) : Prop := ∀ (l1 : Int64) (l3 : Int32) (i_greatest : Int32) (v_length : Nat → Int32) (v_symbolOf : Nat → Int32) (v_draft : Nat → Int32), kf l1 l3 i_greatest v_length v_symbolOf v_draft = some res → ∀ (H : Heap) (locs : List Loc) (ls : Array Slot), lv_has ls 5 [(0, .ref a_this), (1, .long l1), (3, .int l3)] → va_P D classes [(a_this, .inr (1, [.ref o_in, .int i_inLong, .int i_goesOn, .ref o_out, .int i_outLong, .ref a_counts, .int i_greatest, .ref a_length, .ref a_symbolOf, .ref a_draft, .ref o_knot, .ref o_inSum, .int i_knots, .ref o_halved, .ref o_made, .int i_bitsMade, .ref o_weight, .int i_weights, .int i_order, .ref o_points, .ref o_cutOff, .ref o_had, .ref o_placeOf, .int i_bit, .int i_bitEnd])), (a_counts, .inl (cI, 256, .inl v_counts)), (a_length, .inl (cI, 256, .inl v_length)), (a_symbolOf, .inl (cI, 2048, .inl v_symbolOf)), (a_draft, .inl (cI, 256, .inl v_draft))] H → va_D A [(a_this, .inr (1, [.ref o_in, .int i_inLong, .int i_goesOn, .ref o_out, .int i_outLong, .ref a_counts, .int i_greatest, .ref a_length, .ref a_symbolOf, .ref a_draft, .ref o_knot, .ref o_inSum, .int i_knots, .ref o_halved, .ref o_made, .int i_bitsMade, .ref o_weight, .int i_weights, .int i_order, .ref o_points, .ref o_cutOff, .ref o_had, .ref o_placeOf, .int i_bit, .int i_bitEnd])), (a_counts, .inl (cI, 256, .inl v_counts)), (a_length, .inl (cI, 256, .inl v_length)), (a_symbolOf, .inl (cI, 2048, .inl v_symbolOf)), (a_draft, .inl (cI, 256, .inl v_draft))] → va_S A s.heap H locs → W p l e R_MM_just s m args below meth c H locs 0 0 Q (F0 m 89 ls [])
def I_MM_just_b50 (p : Program) (l : Launch) (e : Env) (s : State) (m : MethodId) (args : Array Value) (below : List Frame) (meth : Method) (c : Code) (Q : State → Prop) (A : Nat → Prop) (D : va_G) (cI cL cZ : ClassId) (a_this : Nat) (a_counts : Nat) (a_length : Nat) (a_symbolOf : Nat) (a_draft : Nat) (o_in : Nat) (o_out : Nat) (o_knot : Nat) (o_inSum : Nat) (o_halved : Nat) (o_made : Nat) (o_weight : Nat) (o_points : Nat) (o_cutOff : Nat) (o_had : Nat) (o_placeOf : Nat) (i_inLong : Int32) (i_goesOn : Int32) (i_outLong : Int32) (i_knots : Int32) (i_bitsMade : Int32) (i_weights : Int32) (i_order : Int32) (i_bit : Int32) (i_bitEnd : Int32) (v_counts : Nat → Int32) (res : Int32 × Int32 × (Nat → Int32) × (Nat → Int32) × (Nat → Int32)) (kf : Int64 → Int32 → Int32 → Int32 → (Nat → Int32) → (Nat → Int32) → (Nat → Int32) → Option (Int32 × Int32 × (Nat → Int32) × (Nat → Int32) × (Nat → Int32))) : Prop := ∀ (l1 : Int64) (l3 : Int32) (l4 : Int32) (i_greatest : Int32) (v_length : Nat → Int32) (v_symbolOf : Nat → Int32) (v_draft : Nat → Int32), kf l1 l3 l4 i_greatest v_length v_symbolOf v_draft = some res → ∀ (H : Heap) (locs : List Loc) (ls : Array Slot), lv_has ls 5 [(0, .ref a_this), (1, .long l1), (3, .int l3), (4, .int l4)] → va_P D classes [(a_this, .inr (1, [.ref o_in, .int i_inLong, .int i_goesOn, .ref o_out, .int i_outLong, .ref a_counts, .int i_greatest, .ref a_length, .ref a_symbolOf, .ref a_draft, .ref o_knot, .ref o_inSum, .int i_knots, .ref o_halved, .ref o_made, .int i_bitsMade, .ref o_weight, .int i_weights, .int i_order, .ref o_points, .ref o_cutOff, .ref o_had, .ref o_placeOf, .int i_bit, .int i_bitEnd])), (a_counts, .inl (cI, 256, .inl v_counts)), (a_length, .inl (cI, 256, .inl v_length)), (a_symbolOf, .inl (cI, 2048, .inl v_symbolOf)), (a_draft, .inl (cI, 256, .inl v_draft))] H → va_D A [(a_this, .inr (1, [.ref o_in, .int i_inLong, .int i_goesOn, .ref o_out, .int i_outLong, .ref a_counts, .int i_greatest, .ref a_length, .ref a_symbolOf, .ref a_draft, .ref o_knot, .ref o_inSum, .int i_knots, .ref o_halved, .ref o_made, .int i_bitsMade, .ref o_weight, .int i_weights, .int i_order, .ref o_points, .ref o_cutOff, .ref o_had, .ref o_placeOf, .int i_bit, .int i_bitEnd])), (a_counts, .inl (cI, 256, .inl v_counts)), (a_length, .inl (cI, 256, .inl v_length)), (a_symbolOf, .inl (cI, 2048, .inl v_symbolOf)), (a_draft, .inl (cI, 256, .inl v_draft))] → va_S A s.heap H locs → W p l e R_MM_just s m args below meth c H locs 0 0 Q (F0 m 50 ls [])
def I_MM_just_b42 (p : Program) (l : Launch) (e : Env) (s : State) (m : MethodId) (args : Array Value) (below : List Frame) (meth : Method) (c : Code) (Q : State → Prop) (A : Nat → Prop) (D : va_G) (cI cL cZ : ClassId) (a_this : Nat) (a_counts : Nat) (a_length : Nat) (a_symbolOf : Nat) (a_draft : Nat) (o_in : Nat) (o_out : Nat) (o_knot : Nat) (o_inSum : Nat) (o_halved : Nat) (o_made : Nat) (o_weight : Nat) (o_points : Nat) (o_cutOff : Nat) (o_had : Nat) (o_placeOf : Nat) (i_inLong : Int32) (i_goesOn : Int32) (i_outLong : Int32) (i_knots : Int32) (i_bitsMade : Int32) (i_weights : Int32) (i_order : Int32) (i_bit : Int32) (i_bitEnd : Int32) (v_counts : Nat → Int32) (res : Int32 × Int32 × (Nat → Int32) × (Nat → Int32) × (Nat → Int32)) (kf : Int64 → Int32 → (Nat → Int32) → (Nat → Int32) → (Nat → Int32) → Option (Int32 × Int32 × (Nat → Int32) × (Nat → Int32) × (Nat → Int32))) : Prop := ∀ (l1 : Int64) (i_greatest : Int32) (v_length : Nat → Int32) (v_symbolOf : Nat → Int32) (v_draft : Nat → Int32), kf l1 i_greatest v_length v_symbolOf v_draft = some res → ∀ (H : Heap) (locs : List Loc) (ls : Array Slot), lv_has ls 5 [(0, .ref a_this), (1, .long l1)] → va_P D classes [(a_this, .inr (1, [.ref o_in, .int i_inLong, .int i_goesOn, .ref o_out, .int i_outLong, .ref a_counts, .int i_greatest, .ref a_length, .ref a_symbolOf, .ref a_draft, .ref o_knot, .ref o_inSum, .int i_knots, .ref o_halved, .ref o_made, .int i_bitsMade, .ref o_weight, .int i_weights, .int i_order, .ref o_points, .ref o_cutOff, .ref o_had, .ref o_placeOf, .int i_bit, .int i_bitEnd])), (a_counts, .inl (cI, 256, .inl v_counts)), (a_length, .inl (cI, 256, .inl v_length)), (a_symbolOf, .inl (cI, 2048, .inl v_symbolOf)), (a_draft, .inl (cI, 256, .inl v_draft))] H → va_D A [(a_this, .inr (1, [.ref o_in, .int i_inLong, .int i_goesOn, .ref o_out, .int i_outLong, .ref a_counts, .int i_greatest, .ref a_length, .ref a_symbolOf, .ref a_draft, .ref o_knot, .ref o_inSum, .int i_knots, .ref o_halved, .ref o_made, .int i_bitsMade, .ref o_weight, .int i_weights, .int i_order, .ref o_points, .ref o_cutOff, .ref o_had, .ref o_placeOf, .int i_bit, .int i_bitEnd])), (a_counts, .inl (cI, 256, .inl v_counts)), (a_length, .inl (cI, 256, .inl v_length)), (a_symbolOf, .inl (cI, 2048, .inl v_symbolOf)), (a_draft, .inl (cI, 256, .inl v_draft))] → va_S A s.heap H locs → W p l e R_MM_just s m args below meth c H locs 0 0 Q (F0 m 42 ls [])
def I_MM_just_b4 (p : Program) (l : Launch) (e : Env) (s : State) (m : MethodId) (args : Array Value) (below : List Frame) (meth : Method) (c : Code) (Q : State → Prop) (A : Nat → Prop) (D : va_G) (cI cL cZ : ClassId) (a_this : Nat) (a_counts : Nat) (a_length : Nat) (a_symbolOf : Nat) (a_draft : Nat) (o_in : Nat) (o_out : Nat) (o_knot : Nat) (o_inSum : Nat) (o_halved : Nat) (o_made : Nat) (o_weight : Nat) (o_points : Nat) (o_cutOff : Nat) (o_had : Nat) (o_placeOf : Nat) (i_inLong : Int32) (i_goesOn : Int32) (i_outLong : Int32) (i_knots : Int32) (i_bitsMade : Int32) (i_weights : Int32) (i_order : Int32) (i_bit : Int32) (i_bitEnd : Int32) (v_counts : Nat → Int32) (res : Int32 × Int32 × (Nat → Int32) × (Nat → Int32) × (Nat → Int32)) (kf : Int64 → Int32 → Int32 → (Nat → Int32) → (Nat → Int32) → (Nat → Int32) → Option (Int32 × Int32 × (Nat → Int32) × (Nat → Int32) × (Nat → Int32))) : Prop := ∀ (l1 : Int64) (l3 : Int32) (i_greatest : Int32) (v_length : Nat → Int32) (v_symbolOf : Nat → Int32) (v_draft : Nat → Int32), kf l1 l3 i_greatest v_length v_symbolOf v_draft = some res → ∀ (H : Heap) (locs : List Loc) (ls : Array Slot), lv_has ls 5 [(0, .ref a_this), (1, .long l1), (3, .int l3)] → va_P D classes [(a_this, .inr (1, [.ref o_in, .int i_inLong, .int i_goesOn, .ref o_out, .int i_outLong, .ref a_counts, .int i_greatest, .ref a_length, .ref a_symbolOf, .ref a_draft, .ref o_knot, .ref o_inSum, .int i_knots, .ref o_halved, .ref o_made, .int i_bitsMade, .ref o_weight, .int i_weights, .int i_order, .ref o_points, .ref o_cutOff, .ref o_had, .ref o_placeOf, .int i_bit, .int i_bitEnd])), (a_counts, .inl (cI, 256, .inl v_counts)), (a_length, .inl (cI, 256, .inl v_length)), (a_symbolOf, .inl (cI, 2048, .inl v_symbolOf)), (a_draft, .inl (cI, 256, .inl v_draft))] H → va_D A [(a_this, .inr (1, [.ref o_in, .int i_inLong, .int i_goesOn, .ref o_out, .int i_outLong, .ref a_counts, .int i_greatest, .ref a_length, .ref a_symbolOf, .ref a_draft, .ref o_knot, .ref o_inSum, .int i_knots, .ref o_halved, .ref o_made, .int i_bitsMade, .ref o_weight, .int i_weights, .int i_order, .ref o_points, .ref o_cutOff, .ref o_had, .ref o_placeOf, .int i_bit, .int i_bitEnd])), (a_counts, .inl (cI, 256, .inl v_counts)), (a_length, .inl (cI, 256, .inl v_length)), (a_symbolOf, .inl (cI, 2048, .inl v_symbolOf)), (a_draft, .inl (cI, 256, .inl v_draft))] → va_S A s.heap H locs → W p l e R_MM_just s m args below meth c H locs 0 0 Q (F0 m 4 ls [])
def I_MM_just_b0 (p : Program) (l : Launch) (e : Env) (s : State) (m : MethodId) (args : Array Value) (below : List Frame) (meth : Method) (c : Code) (Q : State → Prop) (A : Nat → Prop) (D : va_G) (cI cL cZ : ClassId) (a_this : Nat) (a_counts : Nat) (a_length : Nat) (a_symbolOf : Nat) (a_draft : Nat) (o_in : Nat) (o_out : Nat) (o_knot : Nat) (o_inSum : Nat) (o_halved : Nat) (o_made : Nat) (o_weight : Nat) (o_points : Nat) (o_cutOff : Nat) (o_had : Nat) (o_placeOf : Nat) (i_inLong : Int32) (i_goesOn : Int32) (i_outLong : Int32) (i_knots : Int32) (i_bitsMade : Int32) (i_weights : Int32) (i_order : Int32) (i_bit : Int32) (i_bitEnd : Int32) (v_counts : Nat → Int32) (res : Int32 × Int32 × (Nat → Int32) × (Nat → Int32) × (Nat → Int32)) (kf : Int32 → (Nat → Int32) → (Nat → Int32) → (Nat → Int32) → Option (Int32 × Int32 × (Nat → Int32) × (Nat → Int32) × (Nat → Int32))) : Prop := ∀ (i_greatest : Int32) (v_length : Nat → Int32) (v_symbolOf : Nat → Int32) (v_draft : Nat → Int32), kf i_greatest v_length v_symbolOf v_draft = some res → ∀ (H : Heap) (locs : List Loc) (ls : Array Slot), lv_has ls 5 [(0, .ref a_this)] → va_P D classes [(a_this, .inr (1, [.ref o_in, .int i_inLong, .int i_goesOn, .ref o_out, .int i_outLong, .ref a_counts, .int i_greatest, .ref a_length, .ref a_symbolOf, .ref a_draft, .ref o_knot, .ref o_inSum, .int i_knots, .ref o_halved, .ref o_made, .int i_bitsMade, .ref o_weight, .int i_weights, .int i_order, .ref o_points, .ref o_cutOff, .ref o_had, .ref o_placeOf, .int i_bit, .int i_bitEnd])), (a_counts, .inl (cI, 256, .inl v_counts)), (a_length, .inl (cI, 256, .inl v_length)), (a_symbolOf, .inl (cI, 2048, .inl v_symbolOf)), (a_draft, .inl (cI, 256, .inl v_draft))] H → va_D A [(a_this, .inr (1, [.ref o_in, .int i_inLong, .int i_goesOn, .ref o_out, .int i_outLong, .ref a_counts, .int i_greatest, .ref a_length, .ref a_symbolOf, .ref a_draft, .ref o_knot, .ref o_inSum, .int i_knots, .ref o_halved, .ref o_made, .int i_bitsMade, .ref o_weight, .int i_weights, .int i_order, .ref o_points, .ref o_cutOff, .ref o_had, .ref o_placeOf, .int i_bit, .int i_bitEnd])), (a_counts, .inl (cI, 256, .inl v_counts)), (a_length, .inl (cI, 256, .inl v_length)), (a_symbolOf, .inl (cI, 2048, .inl v_symbolOf)), (a_draft, .inl (cI, 256, .inl v_draft))] → va_S A s.heap H locs → W p l e R_MM_just s m args below meth c H locs 0 0 Q (F0 m 0 ls [])
set_option maxHeartbeats 4000000 in
set_option maxRecDepth 100000 in
theorem w_MM_just_b22 {p : Program} {l : Launch} {e : Env} {s : State} {m : MethodId} {args : Array Value} {below : List Frame} {meth : Method} {c : Code} {Q : State → Prop} {A : Nat → Prop} {D : va_G} {cI cL cZ : ClassId} {a_this : Nat} {a_counts : Nat} {a_length : Nat} {a_symbolOf : Nat} {a_draft : Nat} {o_in : Nat} {o_out : Nat} {o_knot : Nat} {o_inSum : Nat} {o_halved : Nat} {o_made : Nat} {o_weight : Nat} {o_points : Nat} {o_cutOff : Nat} {o_had : Nat} {o_placeOf : Nat} {i_inLong : Int32} {i_goesOn : Int32} {i_outLong : Int32} {i_knots : Int32} {i_bitsMade : Int32} {i_weights : Int32} {i_order : Int32} {i_bit : Int32} {i_bitEnd : Int32} {v_counts : Nat → Int32} {N : Nat} {res : Int32 × Int32 × (Nat → Int32) × (Nat → Int32) × (Nat → Int32)}  (C : Cx p s m args c b_MM_just 5 "PrefixMillModel" D [(cI, .int), (cL, .long), (cZ, .boolean)] A) (hret : E_MM_just p l e s m args below meth c Q A D cI cL cZ a_this a_counts a_length a_symbolOf a_draft o_in o_out o_knot o_inSum o_halved o_made o_weight o_points o_cutOff o_had o_placeOf i_inLong i_goesOn i_outLong i_knots i_bitsMade i_weights i_order i_bit i_bitEnd v_counts res)  : I_MM_just_b22 p l e s m args below meth c Q A D cI cL cZ a_this a_counts a_length a_symbolOf a_draft o_in o_out o_knot o_inSum o_halved o_made o_weight o_points o_cutOff o_had o_placeOf i_inLong i_goesOn i_outLong i_knots i_bitsMade i_weights i_order i_bit i_bitEnd v_counts res (f_MM_just_b22 N v_counts ) := by
  obtain ⟨hx, hb, hml, hown, hts, hK, hA⟩ := C
  intro i_greatest v_length v_symbolOf v_draft h H locs ls hl hP hD hS
  unfold f_MM_just_b22 at h
  refine lv_iconst (v := (-1)) hx hb d_MM_just_22 (by decide) ?_
  exact hret _ _ _ _ (-1) i_greatest v_length v_symbolOf v_draft h d_MM_just_23 hP hD hS
set_option maxHeartbeats 4000000 in
set_option maxRecDepth 100000 in
theorem w_MM_just_b83 {p : Program} {l : Launch} {e : Env} {s : State} {m : MethodId} {args : Array Value} {below : List Frame} {meth : Method} {c : Code} {Q : State → Prop} {A : Nat → Prop} {D : va_G} {cI cL cZ : ClassId} {a_this : Nat} {a_counts : Nat} {a_length : Nat} {a_symbolOf : Nat} {a_draft : Nat} {o_in : Nat} {o_out : Nat} {o_knot : Nat} {o_inSum : Nat} {o_halved : Nat} {o_made : Nat} {o_weight : Nat} {o_points : Nat} {o_cutOff : Nat} {o_had : Nat} {o_placeOf : Nat} {i_inLong : Int32} {i_goesOn : Int32} {i_outLong : Int32} {i_knots : Int32} {i_bitsMade : Int32} {i_weights : Int32} {i_order : Int32} {i_bit : Int32} {i_bitEnd : Int32} {v_counts : Nat → Int32} {N : Nat} {res : Int32 × Int32 × (Nat → Int32) × (Nat → Int32) × (Nat → Int32)} {k50 : Int64 → Int32 → Int32 → Int32 → (Nat → Int32) → (Nat → Int32) → (Nat → Int32) → Option (Int32 × Int32 × (Nat → Int32) × (Nat → Int32) × (Nat → Int32))} (C : Cx p s m args c b_MM_just 5 "PrefixMillModel" D [(cI, .int), (cL, .long), (cZ, .boolean)] A) (hret : E_MM_just p l e s m args below meth c Q A D cI cL cZ a_this a_counts a_length a_symbolOf a_draft o_in o_out o_knot o_inSum o_halved o_made o_weight o_points o_cutOff o_had o_placeOf i_inLong i_goesOn i_outLong i_knots i_bitsMade i_weights i_order i_bit i_bitEnd v_counts res) (hk50 : I_MM_just_b50 p l e s m args below meth c Q A D cI cL cZ a_this a_counts a_length a_symbolOf a_draft o_in o_out o_knot o_inSum o_halved o_made o_weight o_points o_cutOff o_had o_placeOf i_inLong i_goesOn i_outLong i_knots i_bitsMade i_weights i_order i_bit i_bitEnd v_counts res k50) : I_MM_just_b83 p l e s m args below meth c Q A D cI cL cZ a_this a_counts a_length a_symbolOf a_draft o_in o_out o_knot o_inSum o_halved o_made o_weight o_points o_cutOff o_had o_placeOf i_inLong i_goesOn i_outLong i_knots i_bitsMade i_weights i_order i_bit i_bitEnd v_counts res (f_MM_just_b83 N v_counts k50) := by
  obtain ⟨hx, hb, hml, hown, hts, hK, hA⟩ := C
  intro l1 l3 l4 i_greatest v_length v_symbolOf v_draft h H locs ls hl hP hD hS
  unfold f_MM_just_b83 at h
  obtain ⟨l4_1, el4_1⟩ : ∃ y : Int32, y = l4 + 1 := ⟨_, rfl⟩
  replace h := nm_s h el4_1
  refine lv_iinc (v := l4_1) (lv' := [(4, .int l4_1), (0, .ref a_this), (1, .long l1), (3, .int l3)]) hx hb d_MM_just_83 hl (k := 3) rfl (by rw [el4_1]; rfl) (by decide) rfl (fun ls hl => ?_)
  refine lv_goto (tgt := 50) hx hb d_MM_just_86 (by decide) ?_
  exact hk50 _ _ _ _ _ _ _ h H locs ls (lv_sub hl [1, 2, 3, 0] rfl) hP hD hS
set_option maxHeartbeats 4000000 in
set_option maxRecDepth 100000 in
theorem w_MM_just_b102 {p : Program} {l : Launch} {e : Env} {s : State} {m : MethodId} {args : Array Value} {below : List Frame} {meth : Method} {c : Code} {Q : State → Prop} {A : Nat → Prop} {D : va_G} {cI cL cZ : ClassId} {a_this : Nat} {a_counts : Nat} {a_length : Nat} {a_symbolOf : Nat} {a_draft : Nat} {o_in : Nat} {o_out : Nat} {o_knot : Nat} {o_inSum : Nat} {o_halved : Nat} {o_made : Nat} {o_weight : Nat} {o_points : Nat} {o_cutOff : Nat} {o_had : Nat} {o_placeOf : Nat} {i_inLong : Int32} {i_goesOn : Int32} {i_outLong : Int32} {i_knots : Int32} {i_bitsMade : Int32} {i_weights : Int32} {i_order : Int32} {i_bit : Int32} {i_bitEnd : Int32} {v_counts : Nat → Int32} {N : Nat} {res : Int32 × Int32 × (Nat → Int32) × (Nat → Int32) × (Nat → Int32)}  (C : Cx p s m args c b_MM_just 5 "PrefixMillModel" D [(cI, .int), (cL, .long), (cZ, .boolean)] A) (hret : E_MM_just p l e s m args below meth c Q A D cI cL cZ a_this a_counts a_length a_symbolOf a_draft o_in o_out o_knot o_inSum o_halved o_made o_weight o_points o_cutOff o_had o_placeOf i_inLong i_goesOn i_outLong i_knots i_bitsMade i_weights i_order i_bit i_bitEnd v_counts res)  : I_MM_just_b102 p l e s m args below meth c Q A D cI cL cZ a_this a_counts a_length a_symbolOf a_draft o_in o_out o_knot o_inSum o_halved o_made o_weight o_points o_cutOff o_had o_placeOf i_inLong i_goesOn i_outLong i_knots i_bitsMade i_weights i_order i_bit i_bitEnd v_counts res (f_MM_just_b102 N v_counts ) := by
  obtain ⟨hx, hb, hml, hown, hts, hK, hA⟩ := C
  intro i_greatest v_length v_symbolOf v_draft h H locs ls hl hP hD hS
  unfold f_MM_just_b102 at h
  refine lv_iconst (v := (-1)) hx hb d_MM_just_102 (by decide) ?_
  refine lv_goto (tgt := 111) hx hb d_MM_just_103 (by decide) ?_
  exact hret _ _ _ _ (-1) i_greatest v_length v_symbolOf v_draft h d_MM_just_111 hP hD hS
set_option maxHeartbeats 4000000 in
set_option maxRecDepth 100000 in
theorem w_MM_just_b89 {p : Program} {l : Launch} {e : Env} {s : State} {m : MethodId} {args : Array Value} {below : List Frame} {meth : Method} {c : Code} {Q : State → Prop} {A : Nat → Prop} {D : va_G} {cI cL cZ : ClassId} {a_this : Nat} {a_counts : Nat} {a_length : Nat} {a_symbolOf : Nat} {a_draft : Nat} {o_in : Nat} {o_out : Nat} {o_knot : Nat} {o_inSum : Nat} {o_halved : Nat} {o_made : Nat} {o_weight : Nat} {o_points : Nat} {o_cutOff : Nat} {o_had : Nat} {o_placeOf : Nat} {i_inLong : Int32} {i_goesOn : Int32} {i_outLong : Int32} {i_knots : Int32} {i_bitsMade : Int32} {i_weights : Int32} {i_order : Int32} {i_bit : Int32} {i_bitEnd : Int32} {v_counts : Nat → Int32} {N : Nat} {res : Int32 × Int32 × (Nat → Int32) × (Nat → Int32) × (Nat → Int32)}  (C : Cx p s m args c b_MM_just 5 "PrefixMillModel" D [(cI, .int), (cL, .long), (cZ, .boolean)] A) (hret : E_MM_just p l e s m args below meth c Q A D cI cL cZ a_this a_counts a_length a_symbolOf a_draft o_in o_out o_knot o_inSum o_halved o_made o_weight o_points o_cutOff o_had o_placeOf i_inLong i_goesOn i_outLong i_knots i_bitsMade i_weights i_order i_bit i_bitEnd v_counts res)  : I_MM_just_b89 p l e s m args below meth c Q A D cI cL cZ a_this a_counts a_length a_symbolOf a_draft o_in o_out o_knot o_inSum o_halved o_made o_weight o_points o_cutOff o_had o_placeOf i_inLong i_goesOn i_outLong i_knots i_bitsMade i_weights i_order i_bit i_bitEnd v_counts res (f_MM_just_b89 N v_counts ) := by
  obtain ⟨hx, hb, hml, hown, hts, hK, hA⟩ := C
  intro l1 l3 i_greatest v_length v_symbolOf v_draft h H locs ls hl hP hD hS
  unfold f_MM_just_b89 at h
  refine lv_iload_n hx hb d_MM_just_89 rfl (lv_at hl 2 rfl) ?_
  refine lv_if_eq (tgt := 102) hx hb d_MM_just_90 (by decide) (fun c_1 => ?_) (fun c_1 => ?_)
  · replace h := if_t h c_1
    exact w_MM_just_b102 ⟨hx, hb, hml, hown, hts, hK, hA⟩ hret  _ _ _ _ h H locs ls (lv_sub hl [] rfl) hP hD hS
  · replace h := if_f h c_1
    refine lv_lload_n hx hb d_MM_just_93 rfl (lv_at hl 1 rfl) ?_
    refine lv_iconst (v := 1) hx hb d_MM_just_94 (by decide) ?_
    refine lv_iload_n hx hb d_MM_just_95 rfl (lv_at hl 2 rfl) ?_
    refine lv_ishl hx hb d_MM_just_96 ?_
    refine lv_i2l hx hb d_MM_just_97 rfl ?_
    refine W.lcmp hx hb d_MM_just_98 ?_
    refine lv_if_eq (tgt := 106) hx hb d_MM_just_99 (by decide) (fun c_2 => ?_) (fun c_2 => ?_)
    · replace h := if_t h c_2
      refine lv_aload_n hx hb d_MM_just_106 rfl (lv_at hl 0 rfl) ?_
      refine lv_iload_n hx hb d_MM_just_107 rfl (lv_at hl 2 rfl) ?_
      obtain ⟨r_3, i_greatest_4, v_length_5, v_symbolOf_6, hc_7, h⟩ := bd4_s h
      have hPc := hP.sub (ws' := [(a_this, .inr (1, [.ref o_in, .int i_inLong, .int i_goesOn, .ref o_out, .int i_outLong, .ref a_counts, .int i_greatest, .ref a_length, .ref a_symbolOf, .ref a_draft, .ref o_knot, .ref o_inSum, .int i_knots, .ref o_halved, .ref o_made, .int i_bitsMade, .ref o_weight, .int i_weights, .int i_order, .ref o_points, .ref o_cutOff, .ref o_had, .ref o_placeOf, .int i_bit, .int i_bitEnd])), (a_length, .inl (cI, 256, .inl v_length)), (a_symbolOf, .inl (cI, 2048, .inl v_symbolOf)), (a_draft, .inl (cI, 256, .inl v_draft))]) [0, 2, 3, 4] rfl
      have hDc := hD.sub (ws' := [(a_this, .inr (1, [.ref o_in, .int i_inLong, .int i_goesOn, .ref o_out, .int i_outLong, .ref a_counts, .int i_greatest, .ref a_length, .ref a_symbolOf, .ref a_draft, .ref o_knot, .ref o_inSum, .int i_knots, .ref o_halved, .ref o_made, .int i_bitsMade, .ref o_weight, .int i_weights, .int i_order, .ref o_points, .ref o_cutOff, .ref o_had, .ref o_placeOf, .int i_bit, .int i_bitEnd])), (a_length, .inl (cI, 256, .inl v_length)), (a_symbolOf, .inl (cI, 2048, .inl v_symbolOf)), (a_draft, .inl (cI, 256, .inl v_draft))]) [0, 2, 3, 4] (by decide) rfl
      have hFc := va_free (wc := [(a_this, .inr (1, [.ref o_in, .int i_inLong, .int i_goesOn, .ref o_out, .int i_outLong, .ref a_counts, .int i_greatest, .ref a_length, .ref a_symbolOf, .ref a_draft, .ref o_knot, .ref o_inSum, .int i_knots, .ref o_halved, .ref o_made, .int i_bitsMade, .ref o_weight, .int i_weights, .int i_order, .ref o_points, .ref o_cutOff, .ref o_had, .ref o_placeOf, .int i_bit, .int i_bitEnd])), (a_length, .inl (cI, 256, .inl v_length)), (a_symbolOf, .inl (cI, 2048, .inl v_symbolOf)), (a_draft, .inl (cI, 256, .inl v_draft))]) hD hS hA [0, 2, 3, 4] rfl
      refine va_calli (va_runV (As := [.int l3]) (rest := []) ⟨hx, hb, hml, hown, hts⟩ (c_MM_settle l D cI cL cZ H.size N a_this a_length a_symbolOf a_draft o_in o_out a_counts o_knot o_inSum o_halved o_made o_weight o_points o_cutOff o_had o_placeOf i_inLong i_goesOn i_outLong i_greatest i_knots i_bitsMade i_weights i_order i_bit i_bitEnd v_length v_symbolOf v_draft l3 r_3 i_greatest_4 v_length_5 v_symbolOf_6 hc_7) ⟨(my_cb 1 hts m_883 rfl rfl (hts _ m_76) (hts _ m_880) (by decide +kernel) ⟨Nat.le_of_ble_eq_true rfl, Nat.le_of_ble_eq_true rfl⟩), hts _ m_882, hts _ m_30⟩ ⟨fun a U g mk q => by obtain ⟨q0, q1, qP, qK, qD⟩ := q; exact ⟨q0, q1, qP, va_K.moved (u := U) (U := U.calling g mk a) (Vm.Alike.refl U.vm) qK, qD⟩, va_recv hK hPc (ci := 1) (q0 := 0) rfl rfl, fun U hU hW => ⟨rfl, by rw [hU], by rw [hU]; exact hPc, va_K.moved hW.alike hK, hDc.weaken (fun _ _ _ _ => trivial)⟩⟩ rfl rfl hl.1 rfl (lv_room (Nat.le_of_ble_eq_true rfl)) d_MM_just_108 ⟨Nat.zero_le _, Nat.zero_le _⟩) hS (fun q _ h => hFc q h) hFc (fun rr u t H1 locs ht hvm hw hB hz1 hk1 hS => ?_)
      obtain ⟨hP1, hK1, hD1⟩ := hB
      rw [ht] at hP1
      subst hw
      obtain ⟨hP, hD⟩ := va_join (wr := [(a_counts, .inl (cI, 256, .inl v_counts))]) (w1 := [(a_this, .inr (1, [.ref o_in, .int i_inLong, .int i_goesOn, .ref o_out, .int i_outLong, .ref a_counts, .int i_greatest_4, .ref a_length, .ref a_symbolOf, .ref a_draft, .ref o_knot, .ref o_inSum, .int i_knots, .ref o_halved, .ref o_made, .int i_bitsMade, .ref o_weight, .int i_weights, .int i_order, .ref o_points, .ref o_cutOff, .ref o_had, .ref o_placeOf, .int i_bit, .int i_bitEnd])), (a_length, .inl (cI, 256, .inl v_length_5)), (a_symbolOf, .inl (cI, 2048, .inl v_symbolOf_6)), (a_draft, .inl (cI, 256, .inl v_draft))]) hP hD [0, 2, 3, 4] [1] rfl rfl (by decide) (by decide) hk1 hFc hP1 hD1
      clear hPc hDc hFc hk1 hP1 hD1 hK1
      generalize H1 = H at hP hS ⊢
      have hP : va_P D classes [(a_this, .inr (1, [.ref o_in, .int i_inLong, .int i_goesOn, .ref o_out, .int i_outLong, .ref a_counts, .int i_greatest_4, .ref a_length, .ref a_symbolOf, .ref a_draft, .ref o_knot, .ref o_inSum, .int i_knots, .ref o_halved, .ref o_made, .int i_bitsMade, .ref o_weight, .int i_weights, .int i_order, .ref o_points, .ref o_cutOff, .ref o_had, .ref o_placeOf, .int i_bit, .int i_bitEnd])), (a_counts, .inl (cI, 256, .inl v_counts)), (a_length, .inl (cI, 256, .inl v_length_5)), (a_symbolOf, .inl (cI, 2048, .inl v_symbolOf_6)), (a_draft, .inl (cI, 256, .inl v_draft))] H := hP.sub [1, 0, 2, 3, 4] rfl
      have hD : va_D A [(a_this, .inr (1, [.ref o_in, .int i_inLong, .int i_goesOn, .ref o_out, .int i_outLong, .ref a_counts, .int i_greatest_4, .ref a_length, .ref a_symbolOf, .ref a_draft, .ref o_knot, .ref o_inSum, .int i_knots, .ref o_halved, .ref o_made, .int i_bitsMade, .ref o_weight, .int i_weights, .int i_order, .ref o_points, .ref o_cutOff, .ref o_had, .ref o_placeOf, .int i_bit, .int i_bitEnd])), (a_counts, .inl (cI, 256, .inl v_counts)), (a_length, .inl (cI, 256, .inl v_length_5)), (a_symbolOf, .inl (cI, 2048, .inl v_symbolOf_6)), (a_draft, .inl (cI, 256, .inl v_draft))] := hD.sub [1, 0, 2, 3, 4] (by decide) rfl
      exact hret _ _ _ _ r_3 i_greatest_4 v_length_5 v_symbolOf_6 v_draft h d_MM_just_111 hP hD hS
    · replace h := if_f h c_2
      exact w_MM_just_b102 ⟨hx, hb, hml, hown, hts, hK, hA⟩ hret  _ _ _ _ h H locs ls (lv_sub hl [] rfl) hP hD hS
set_option maxHeartbeats 4000000 in
set_option maxRecDepth 100000 in
theorem w_MM_just_b50 {p : Program} {l : Launch} {e : Env} {s : State} {m : MethodId} {args : Array Value} {below : List Frame} {meth : Method} {c : Code} {Q : State → Prop} {A : Nat → Prop} {D : va_G} {cI cL cZ : ClassId} {a_this : Nat} {a_counts : Nat} {a_length : Nat} {a_symbolOf : Nat} {a_draft : Nat} {o_in : Nat} {o_out : Nat} {o_knot : Nat} {o_inSum : Nat} {o_halved : Nat} {o_made : Nat} {o_weight : Nat} {o_points : Nat} {o_cutOff : Nat} {o_had : Nat} {o_placeOf : Nat} {i_inLong : Int32} {i_goesOn : Int32} {i_outLong : Int32} {i_knots : Int32} {i_bitsMade : Int32} {i_weights : Int32} {i_order : Int32} {i_bit : Int32} {i_bitEnd : Int32} {v_counts : Nat → Int32} {N : Nat} {res : Int32 × Int32 × (Nat → Int32) × (Nat → Int32) × (Nat → Int32)}  (C : Cx p s m args c b_MM_just 5 "PrefixMillModel" D [(cI, .int), (cL, .long), (cZ, .boolean)] A) (hret : E_MM_just p l e s m args below meth c Q A D cI cL cZ a_this a_counts a_length a_symbolOf a_draft o_in o_out o_knot o_inSum o_halved o_made o_weight o_points o_cutOff o_had o_placeOf i_inLong i_goesOn i_outLong i_knots i_bitsMade i_weights i_order i_bit i_bitEnd v_counts res)  : ∀ z : Nat, I_MM_just_b50 p l e s m args below meth c Q A D cI cL cZ a_this a_counts a_length a_symbolOf a_draft o_in o_out o_knot o_inSum o_halved o_made o_weight o_points o_cutOff o_had o_placeOf i_inLong i_goesOn i_outLong i_knots i_bitsMade i_weights i_order i_bit i_bitEnd v_counts res (f_MM_just_b50 N v_counts  z) := by
  obtain ⟨hx, hb, hml, hown, hts, hK, hA⟩ := C
  intro z
  induction z with
  | zero => intro l1 l3 l4 i_greatest v_length v_symbolOf v_draft h; cases h
  | succ z ih =>
    intro l1 l3 l4 i_greatest v_length v_symbolOf v_draft h H locs ls hl hP hD hS
    refine lv_iload hx hb d_MM_just_50 (lv_at hl 3 rfl) ?_
    refine lv_sipush (v := 256) hx hb d_MM_just_52 (by decide) ?_
    refine lv_icmp_ge (tgt := 89) hx hb d_MM_just_55 (by decide) (fun c_1 => ?_) (fun c_1 => ?_)
    · replace h := if_t h c_1
      exact w_MM_just_b89 ⟨hx, hb, hml, hown, hts, hK, hA⟩ hret  _ _ _ _ _ _ h H locs ls (lv_sub hl [0, 1, 2] rfl) hP hD hS
    · replace h := if_f h c_1
      refine lv_aload_n hx hb d_MM_just_58 rfl (lv_at hl 0 rfl) ?_
      refine va_get hx hb hts in_MM hown hK hP 0 rfl rfl 9 (by decide) (hts _ m_762) (fun _ h9 => h9) rfl d_MM_just_59 ?_
      refine lv_iload hx hb d_MM_just_62 (lv_at hl 3 rfl) ?_
      obtain ⟨g_2, h⟩ := ck_s h
      refine va_iald hx hb hK hP 4 0 rfl rfl (inb_s g_2) d_MM_just_64 ?_
      refine lv_if_le (tgt := 83) hx hb d_MM_just_65 (by decide) (fun c_3 => ?_) (fun c_3 => ?_)
      · replace h := if_t h c_3
        exact w_MM_just_b83 ⟨hx, hb, hml, hown, hts, hK, hA⟩ hret ih _ _ _ _ _ _ _ h H locs ls (lv_sub hl [0, 1, 2, 3] rfl) hP hD hS
      · replace h := if_f h c_3
        refine lv_lload_n hx hb d_MM_just_68 rfl (lv_at hl 1 rfl) ?_
        refine lv_iconst (v := 1) hx hb d_MM_just_69 (by decide) ?_
        refine lv_iload_n hx hb d_MM_just_70 rfl (lv_at hl 2 rfl) ?_
        refine lv_aload_n hx hb d_MM_just_71 rfl (lv_at hl 0 rfl) ?_
        refine va_get hx hb hts in_MM hown hK hP 0 rfl rfl 9 (by decide) (hts _ m_762) (fun _ h9 => h9) rfl d_MM_just_72 ?_
        refine lv_iload hx hb d_MM_just_75 (lv_at hl 3 rfl) ?_
        obtain ⟨g_4, h⟩ := ck_s h
        refine va_iald hx hb hK hP 4 0 rfl rfl (inb_s g_4) d_MM_just_77 ?_
        refine lv_isub hx hb d_MM_just_78 ?_
        refine lv_ishl hx hb d_MM_just_79 ?_
        refine lv_i2l hx hb d_MM_just_80 rfl ?_
        refine lv_ladd hx hb d_MM_just_81 ?_
        refine lv_topl (fun l1_5 el1_5 => ?_)
        replace h := nm_s h el1_5
        refine lv_lstore_n (lv' := [(1, .long l1_5), (0, .ref a_this), (3, .int l3), (4, .int l4)]) hx hb d_MM_just_82 rfl hl (by decide) rfl (fun ls hl => ?_)
        exact w_MM_just_b83 ⟨hx, hb, hml, hown, hts, hK, hA⟩ hret ih _ _ _ _ _ _ _ h H locs ls (lv_sub hl [1, 0, 2, 3] rfl) hP hD hS
set_option maxHeartbeats 4000000 in
set_option maxRecDepth 100000 in
theorem w_MM_just_b42 {p : Program} {l : Launch} {e : Env} {s : State} {m : MethodId} {args : Array Value} {below : List Frame} {meth : Method} {c : Code} {Q : State → Prop} {A : Nat → Prop} {D : va_G} {cI cL cZ : ClassId} {a_this : Nat} {a_counts : Nat} {a_length : Nat} {a_symbolOf : Nat} {a_draft : Nat} {o_in : Nat} {o_out : Nat} {o_knot : Nat} {o_inSum : Nat} {o_halved : Nat} {o_made : Nat} {o_weight : Nat} {o_points : Nat} {o_cutOff : Nat} {o_had : Nat} {o_placeOf : Nat} {i_inLong : Int32} {i_goesOn : Int32} {i_outLong : Int32} {i_knots : Int32} {i_bitsMade : Int32} {i_weights : Int32} {i_order : Int32} {i_bit : Int32} {i_bitEnd : Int32} {v_counts : Nat → Int32} {N : Nat} {res : Int32 × Int32 × (Nat → Int32) × (Nat → Int32) × (Nat → Int32)}  (C : Cx p s m args c b_MM_just 5 "PrefixMillModel" D [(cI, .int), (cL, .long), (cZ, .boolean)] A) (hret : E_MM_just p l e s m args below meth c Q A D cI cL cZ a_this a_counts a_length a_symbolOf a_draft o_in o_out o_knot o_inSum o_halved o_made o_weight o_points o_cutOff o_had o_placeOf i_inLong i_goesOn i_outLong i_knots i_bitsMade i_weights i_order i_bit i_bitEnd v_counts res)  : I_MM_just_b42 p l e s m args below meth c Q A D cI cL cZ a_this a_counts a_length a_symbolOf a_draft o_in o_out o_knot o_inSum o_halved o_made o_weight o_points o_cutOff o_had o_placeOf i_inLong i_goesOn i_outLong i_knots i_bitsMade i_weights i_order i_bit i_bitEnd v_counts res (f_MM_just_b42 N v_counts ) := by
  obtain ⟨hx, hb, hml, hown, hts, hK, hA⟩ := C
  intro l1 i_greatest v_length v_symbolOf v_draft h H locs ls hl hP hD hS
  unfold f_MM_just_b42 at h
  refine lv_aload_n hx hb d_MM_just_42 rfl (lv_at hl 0 rfl) ?_
  obtain ⟨r_1, hc_2, h⟩ := bd1_s h
  have hPc := hP.sub (ws' := [(a_this, .inr (1, [.ref o_in, .int i_inLong, .int i_goesOn, .ref o_out, .int i_outLong, .ref a_counts, .int i_greatest, .ref a_length, .ref a_symbolOf, .ref a_draft, .ref o_knot, .ref o_inSum, .int i_knots, .ref o_halved, .ref o_made, .int i_bitsMade, .ref o_weight, .int i_weights, .int i_order, .ref o_points, .ref o_cutOff, .ref o_had, .ref o_placeOf, .int i_bit, .int i_bitEnd])), (a_draft, .inl (cI, 256, .inl v_draft))]) [0, 4] rfl
  have hDc := hD.sub (ws' := [(a_this, .inr (1, [.ref o_in, .int i_inLong, .int i_goesOn, .ref o_out, .int i_outLong, .ref a_counts, .int i_greatest, .ref a_length, .ref a_symbolOf, .ref a_draft, .ref o_knot, .ref o_inSum, .int i_knots, .ref o_halved, .ref o_made, .int i_bitsMade, .ref o_weight, .int i_weights, .int i_order, .ref o_points, .ref o_cutOff, .ref o_had, .ref o_placeOf, .int i_bit, .int i_bitEnd])), (a_draft, .inl (cI, 256, .inl v_draft))]) [0, 4] (by decide) rfl
  have hFc := va_free (wc := [(a_this, .inr (1, [.ref o_in, .int i_inLong, .int i_goesOn, .ref o_out, .int i_outLong, .ref a_counts, .int i_greatest, .ref a_length, .ref a_symbolOf, .ref a_draft, .ref o_knot, .ref o_inSum, .int i_knots, .ref o_halved, .ref o_made, .int i_bitsMade, .ref o_weight, .int i_weights, .int i_order, .ref o_points, .ref o_cutOff, .ref o_had, .ref o_placeOf, .int i_bit, .int i_bitEnd])), (a_draft, .inl (cI, 256, .inl v_draft))]) hD hS hA [0, 4] rfl
  refine va_calli (va_runV (As := []) (rest := []) ⟨hx, hb, hml, hown, hts⟩ (c_MM_longestDraft l D cI cL cZ H.size N a_this a_draft o_in o_out a_counts a_length a_symbolOf o_knot o_inSum o_halved o_made o_weight o_points o_cutOff o_had o_placeOf i_inLong i_goesOn i_outLong i_greatest i_knots i_bitsMade i_weights i_order i_bit i_bitEnd v_draft r_1 hc_2) ⟨(my_cb 0 hts m_879 rfl rfl (hts _ m_76) (hts _ m_876) (by decide +kernel) ⟨Nat.le_of_ble_eq_true rfl, Nat.le_of_ble_eq_true rfl⟩), hts _ m_878, hts _ m_29⟩ ⟨fun a U g mk q => by obtain ⟨q0, q1, qP, qK, qD⟩ := q; exact ⟨q0, q1, qP, va_K.moved (u := U) (U := U.calling g mk a) (Vm.Alike.refl U.vm) qK, qD⟩, va_recv hK hPc (ci := 1) (q0 := 0) rfl rfl, fun U hU hW => ⟨rfl, by rw [hU], by rw [hU]; exact hPc, va_K.moved hW.alike hK, hDc.weaken (fun _ _ _ _ => trivial)⟩⟩ rfl rfl hl.1 rfl (lv_room (Nat.le_of_ble_eq_true rfl)) d_MM_just_43 ⟨Nat.zero_le _, Nat.zero_le _⟩) hS (fun q _ h => hFc q h) hFc (fun rr u t H1 locs ht hvm hw hB hz1 hk1 hS => ?_)
  obtain ⟨hP1, hK1, hD1⟩ := hB
  rw [ht] at hP1
  subst hw
  obtain ⟨hP, hD⟩ := va_join (wr := [(a_counts, .inl (cI, 256, .inl v_counts)), (a_length, .inl (cI, 256, .inl v_length)), (a_symbolOf, .inl (cI, 2048, .inl v_symbolOf))]) (w1 := [(a_this, .inr (1, [.ref o_in, .int i_inLong, .int i_goesOn, .ref o_out, .int i_outLong, .ref a_counts, .int i_greatest, .ref a_length, .ref a_symbolOf, .ref a_draft, .ref o_knot, .ref o_inSum, .int i_knots, .ref o_halved, .ref o_made, .int i_bitsMade, .ref o_weight, .int i_weights, .int i_order, .ref o_points, .ref o_cutOff, .ref o_had, .ref o_placeOf, .int i_bit, .int i_bitEnd])), (a_draft, .inl (cI, 256, .inl v_draft))]) hP hD [0, 4] [1, 2, 3] rfl rfl (by decide) (by decide) hk1 hFc hP1 hD1
  clear hPc hDc hFc hk1 hP1 hD1 hK1
  generalize H1 = H at hP hS ⊢
  have hP : va_P D classes [(a_this, .inr (1, [.ref o_in, .int i_inLong, .int i_goesOn, .ref o_out, .int i_outLong, .ref a_counts, .int i_greatest, .ref a_length, .ref a_symbolOf, .ref a_draft, .ref o_knot, .ref o_inSum, .int i_knots, .ref o_halved, .ref o_made, .int i_bitsMade, .ref o_weight, .int i_weights, .int i_order, .ref o_points, .ref o_cutOff, .ref o_had, .ref o_placeOf, .int i_bit, .int i_bitEnd])), (a_counts, .inl (cI, 256, .inl v_counts)), (a_length, .inl (cI, 256, .inl v_length)), (a_symbolOf, .inl (cI, 2048, .inl v_symbolOf)), (a_draft, .inl (cI, 256, .inl v_draft))] H := hP.sub [3, 0, 1, 2, 4] rfl
  have hD : va_D A [(a_this, .inr (1, [.ref o_in, .int i_inLong, .int i_goesOn, .ref o_out, .int i_outLong, .ref a_counts, .int i_greatest, .ref a_length, .ref a_symbolOf, .ref a_draft, .ref o_knot, .ref o_inSum, .int i_knots, .ref o_halved, .ref o_made, .int i_bitsMade, .ref o_weight, .int i_weights, .int i_order, .ref o_points, .ref o_cutOff, .ref o_had, .ref o_placeOf, .int i_bit, .int i_bitEnd])), (a_counts, .inl (cI, 256, .inl v_counts)), (a_length, .inl (cI, 256, .inl v_length)), (a_symbolOf, .inl (cI, 2048, .inl v_symbolOf)), (a_draft, .inl (cI, 256, .inl v_draft))] := hD.sub [3, 0, 1, 2, 4] (by decide) rfl
  refine lv_istore_n (lv' := [(3, .int r_1), (0, .ref a_this), (1, .long l1)]) hx hb d_MM_just_46 rfl hl (by decide) rfl (fun ls hl => ?_)
  refine lv_iconst (v := 0) hx hb d_MM_just_47 (by decide) ?_
  refine lv_istore (lv' := [(4, .int 0), (3, .int r_1), (0, .ref a_this), (1, .long l1)]) hx hb d_MM_just_48 hl (by decide) rfl (fun ls hl => ?_)
  exact w_MM_just_b50 ⟨hx, hb, hml, hown, hts, hK, hA⟩ hret  N _ _ _ _ _ _ _ h H locs ls (lv_sub hl [2, 3, 1, 0] rfl) hP hD hS
set_option maxHeartbeats 4000000 in
set_option maxRecDepth 100000 in
theorem w_MM_just_b4 {p : Program} {l : Launch} {e : Env} {s : State} {m : MethodId} {args : Array Value} {below : List Frame} {meth : Method} {c : Code} {Q : State → Prop} {A : Nat → Prop} {D : va_G} {cI cL cZ : ClassId} {a_this : Nat} {a_counts : Nat} {a_length : Nat} {a_symbolOf : Nat} {a_draft : Nat} {o_in : Nat} {o_out : Nat} {o_knot : Nat} {o_inSum : Nat} {o_halved : Nat} {o_made : Nat} {o_weight : Nat} {o_points : Nat} {o_cutOff : Nat} {o_had : Nat} {o_placeOf : Nat} {i_inLong : Int32} {i_goesOn : Int32} {i_outLong : Int32} {i_knots : Int32} {i_bitsMade : Int32} {i_weights : Int32} {i_order : Int32} {i_bit : Int32} {i_bitEnd : Int32} {v_counts : Nat → Int32} {N : Nat} {res : Int32 × Int32 × (Nat → Int32) × (Nat → Int32) × (Nat → Int32)}  (C : Cx p s m args c b_MM_just 5 "PrefixMillModel" D [(cI, .int), (cL, .long), (cZ, .boolean)] A) (hret : E_MM_just p l e s m args below meth c Q A D cI cL cZ a_this a_counts a_length a_symbolOf a_draft o_in o_out o_knot o_inSum o_halved o_made o_weight o_points o_cutOff o_had o_placeOf i_inLong i_goesOn i_outLong i_knots i_bitsMade i_weights i_order i_bit i_bitEnd v_counts res)  : ∀ z : Nat, I_MM_just_b4 p l e s m args below meth c Q A D cI cL cZ a_this a_counts a_length a_symbolOf a_draft o_in o_out o_knot o_inSum o_halved o_made o_weight o_points o_cutOff o_had o_placeOf i_inLong i_goesOn i_outLong i_knots i_bitsMade i_weights i_order i_bit i_bitEnd v_counts res (f_MM_just_b4 N v_counts  z) := by
  obtain ⟨hx, hb, hml, hown, hts, hK, hA⟩ := C
  intro z
  induction z with
  | zero => intro l1 l3 i_greatest v_length v_symbolOf v_draft h; cases h
  | succ z ih =>
    intro l1 l3 i_greatest v_length v_symbolOf v_draft h H locs ls hl hP hD hS
    refine lv_iload_n hx hb d_MM_just_4 rfl (lv_at hl 2 rfl) ?_
    refine lv_sipush (v := 256) hx hb d_MM_just_5 (by decide) ?_
    refine lv_icmp_ge (tgt := 42) hx hb d_MM_just_8 (by decide) (fun c_1 => ?_) (fun c_1 => ?_)
    · replace h := if_t h c_1
      exact w_MM_just_b42 ⟨hx, hb, hml, hown, hts, hK, hA⟩ hret  _ _ _ _ _ h H locs ls (lv_sub hl [0, 1] rfl) hP hD hS
    · replace h := if_f h c_1
      refine lv_aload_n hx hb d_MM_just_11 rfl (lv_at hl 0 rfl) ?_
      refine va_get hx hb hts in_MM hown hK hP 0 rfl rfl 5 (by decide) (hts _ m_758) (fun _ h9 => h9) rfl d_MM_just_12 ?_
      refine lv_iload_n hx hb d_MM_just_15 rfl (lv_at hl 2 rfl) ?_
      obtain ⟨g_2, h⟩ := ck_s h
      refine va_iald hx hb hK hP 1 0 rfl rfl (inb_s g_2) d_MM_just_16 ?_
      refine lv_bipush (v := 11) hx hb d_MM_just_17 (by decide) ?_
      refine lv_icmp_le (tgt := 24) hx hb d_MM_just_19 (by decide) (fun c_3 => ?_) (fun c_3 => ?_)
      · replace h := if_t h c_3
        refine lv_aload_n hx hb d_MM_just_24 rfl (lv_at hl 0 rfl) ?_
        refine va_get hx hb hts in_MM hown hK hP 0 rfl rfl 9 (by decide) (hts _ m_762) (fun _ h9 => h9) rfl d_MM_just_25 ?_
        refine lv_iload_n hx hb d_MM_just_28 rfl (lv_at hl 2 rfl) ?_
        refine lv_aload_n hx hb d_MM_just_29 rfl (lv_at hl 0 rfl) ?_
        refine va_get hx hb hts in_MM hown hK hP 0 rfl rfl 5 (by decide) (hts _ m_758) (fun _ h9 => h9) rfl d_MM_just_30 ?_
        refine lv_iload_n hx hb d_MM_just_33 rfl (lv_at hl 2 rfl) ?_
        obtain ⟨g_4, h⟩ := ck_s h
        refine va_iald hx hb hK hP 1 0 rfl rfl (inb_s g_4) d_MM_just_34 ?_
        obtain ⟨g_5, h⟩ := ck_s h
        refine va_iast hx hb hK hP hD hS 4 0 rfl rfl (inb_s g_5) d_MM_just_35 (fun H locs hP hD hS => ?_)
        obtain ⟨v_draft_6, ev_draft_6⟩ : ∃ y, y = (upd v_draft (Int32.toNatClampNeg l3) (v_counts (Int32.toNatClampNeg l3))) := ⟨_, rfl⟩
        replace h := nm_s h ev_draft_6
        have hP : va_P D classes [(a_this, .inr (1, [.ref o_in, .int i_inLong, .int i_goesOn, .ref o_out, .int i_outLong, .ref a_counts, .int i_greatest, .ref a_length, .ref a_symbolOf, .ref a_draft, .ref o_knot, .ref o_inSum, .int i_knots, .ref o_halved, .ref o_made, .int i_bitsMade, .ref o_weight, .int i_weights, .int i_order, .ref o_points, .ref o_cutOff, .ref o_had, .ref o_placeOf, .int i_bit, .int i_bitEnd])), (a_counts, .inl (cI, 256, .inl v_counts)), (a_length, .inl (cI, 256, .inl v_length)), (a_symbolOf, .inl (cI, 2048, .inl v_symbolOf)), (a_draft, .inl (cI, 256, .inl v_draft_6))] H := by rw [ev_draft_6]; exact hP
        have hD : va_D A [(a_this, .inr (1, [.ref o_in, .int i_inLong, .int i_goesOn, .ref o_out, .int i_outLong, .ref a_counts, .int i_greatest, .ref a_length, .ref a_symbolOf, .ref a_draft, .ref o_knot, .ref o_inSum, .int i_knots, .ref o_halved, .ref o_made, .int i_bitsMade, .ref o_weight, .int i_weights, .int i_order, .ref o_points, .ref o_cutOff, .ref o_had, .ref o_placeOf, .int i_bit, .int i_bitEnd])), (a_counts, .inl (cI, 256, .inl v_counts)), (a_length, .inl (cI, 256, .inl v_length)), (a_symbolOf, .inl (cI, 2048, .inl v_symbolOf)), (a_draft, .inl (cI, 256, .inl v_draft_6))] := by rw [ev_draft_6]; exact hD
        obtain ⟨l3_7, el3_7⟩ : ∃ y : Int32, y = l3 + 1 := ⟨_, rfl⟩
        replace h := nm_s h el3_7
        refine lv_iinc (v := l3_7) (lv' := [(3, .int l3_7), (0, .ref a_this), (1, .long l1)]) hx hb d_MM_just_36 hl (k := 2) rfl (by rw [el3_7]; rfl) (by decide) rfl (fun ls hl => ?_)
        refine lv_goto (tgt := 4) hx hb d_MM_just_39 (by decide) ?_
        exact ih _ _ _ _ _ _ h H locs ls (lv_sub hl [1, 2, 0] rfl) hP hD hS
      · replace h := if_f h c_3
        exact w_MM_just_b22 ⟨hx, hb, hml, hown, hts, hK, hA⟩ hret  _ _ _ _ h H locs ls (lv_sub hl [] rfl) hP hD hS
set_option maxHeartbeats 4000000 in
set_option maxRecDepth 100000 in
theorem w_MM_just_b0 {p : Program} {l : Launch} {e : Env} {s : State} {m : MethodId} {args : Array Value} {below : List Frame} {meth : Method} {c : Code} {Q : State → Prop} {A : Nat → Prop} {D : va_G} {cI cL cZ : ClassId} {a_this : Nat} {a_counts : Nat} {a_length : Nat} {a_symbolOf : Nat} {a_draft : Nat} {o_in : Nat} {o_out : Nat} {o_knot : Nat} {o_inSum : Nat} {o_halved : Nat} {o_made : Nat} {o_weight : Nat} {o_points : Nat} {o_cutOff : Nat} {o_had : Nat} {o_placeOf : Nat} {i_inLong : Int32} {i_goesOn : Int32} {i_outLong : Int32} {i_knots : Int32} {i_bitsMade : Int32} {i_weights : Int32} {i_order : Int32} {i_bit : Int32} {i_bitEnd : Int32} {v_counts : Nat → Int32} {N : Nat} {res : Int32 × Int32 × (Nat → Int32) × (Nat → Int32) × (Nat → Int32)}  (C : Cx p s m args c b_MM_just 5 "PrefixMillModel" D [(cI, .int), (cL, .long), (cZ, .boolean)] A) (hret : E_MM_just p l e s m args below meth c Q A D cI cL cZ a_this a_counts a_length a_symbolOf a_draft o_in o_out o_knot o_inSum o_halved o_made o_weight o_points o_cutOff o_had o_placeOf i_inLong i_goesOn i_outLong i_knots i_bitsMade i_weights i_order i_bit i_bitEnd v_counts res)  : I_MM_just_b0 p l e s m args below meth c Q A D cI cL cZ a_this a_counts a_length a_symbolOf a_draft o_in o_out o_knot o_inSum o_halved o_made o_weight o_points o_cutOff o_had o_placeOf i_inLong i_goesOn i_outLong i_knots i_bitsMade i_weights i_order i_bit i_bitEnd v_counts res (f_MM_just N v_counts ) := by
  obtain ⟨hx, hb, hml, hown, hts, hK, hA⟩ := C
  intro i_greatest v_length v_symbolOf v_draft h H locs ls hl hP hD hS
  unfold f_MM_just at h
  refine lv_lconst (v := 0) hx hb d_MM_just_0 (by decide) ?_
  refine lv_lstore_n (lv' := [(1, .long 0), (0, .ref a_this)]) hx hb d_MM_just_1 rfl hl (by decide) rfl (fun ls hl => ?_)
  refine lv_iconst (v := 0) hx hb d_MM_just_2 (by decide) ?_
  refine lv_istore_n (lv' := [(3, .int 0), (1, .long 0), (0, .ref a_this)]) hx hb d_MM_just_3 rfl hl (by decide) rfl (fun ls hl => ?_)
  exact w_MM_just_b4 ⟨hx, hb, hml, hown, hts, hK, hA⟩ hret  N _ _ _ _ _ _ h H locs ls (lv_sub hl [2, 1, 0] rfl) hP hD hS
set_option maxHeartbeats 4000000 in
set_option maxRecDepth 100000 in
theorem c_MM_just (l : Launch) (D : va_G) (cI cL cZ : ClassId) (sz N : Nat) (a_this : Nat) (a_counts : Nat) (a_length : Nat) (a_symbolOf : Nat) (a_draft : Nat) (o_in : Nat) (o_out : Nat) (o_knot : Nat) (o_inSum : Nat) (o_halved : Nat) (o_made : Nat) (o_weight : Nat) (o_points : Nat) (o_cutOff : Nat) (o_had : Nat) (o_placeOf : Nat) (i_inLong : Int32) (i_goesOn : Int32) (i_outLong : Int32) (i_greatest : Int32) (i_knots : Int32) (i_bitsMade : Int32) (i_weights : Int32) (i_order : Int32) (i_bit : Int32) (i_bitEnd : Int32) (v_counts : Nat → Int32) (v_length : Nat → Int32) (v_symbolOf : Nat → Int32) (v_draft : Nat → Int32) (rv : Int32) (i_greatest' : Int32) (v_length' : Nat → Int32) (v_symbolOf' : Nat → Int32) (v_draft' : Nat → Int32) (h : f_MM_just N v_counts i_greatest v_length v_symbolOf v_draft = some (rv, i_greatest', v_length', v_symbolOf', v_draft')) : Met l ({ cls := "PrefixMillModel", name := "just", desc := "()I" } : Jvm.MethodName) ws_MM_just R_MM_just (va_Pc [.ref a_this] (fun U => U.heap.size = sz ∧ va_P D classes [(a_this, .inr (1, [.ref o_in, .int i_inLong, .int i_goesOn, .ref o_out, .int i_outLong, .ref a_counts, .int i_greatest, .ref a_length, .ref a_symbolOf, .ref a_draft, .ref o_knot, .ref o_inSum, .int i_knots, .ref o_halved, .ref o_made, .int i_bitsMade, .ref o_weight, .int i_weights, .int i_order, .ref o_points, .ref o_cutOff, .ref o_had, .ref o_placeOf, .int i_bit, .int i_bitEnd])), (a_counts, .inl (cI, 256, .inl v_counts)), (a_length, .inl (cI, 256, .inl v_length)), (a_symbolOf, .inl (cI, 2048, .inl v_symbolOf)), (a_draft, .inl (cI, 256, .inl v_draft))] U.heap ∧ va_K D classes [(cI, .int), (cL, .long), (cZ, .boolean)] U ∧ va_D (fun _ => True) [(a_this, .inr (1, [.ref o_in, .int i_inLong, .int i_goesOn, .ref o_out, .int i_outLong, .ref a_counts, .int i_greatest, .ref a_length, .ref a_symbolOf, .ref a_draft, .ref o_knot, .ref o_inSum, .int i_knots, .ref o_halved, .ref o_made, .int i_bitsMade, .ref o_weight, .int i_weights, .int i_order, .ref o_points, .ref o_cutOff, .ref o_had, .ref o_placeOf, .int i_bit, .int i_bitEnd])), (a_counts, .inl (cI, 256, .inl v_counts)), (a_length, .inl (cI, 256, .inl v_length)), (a_symbolOf, .inl (cI, 2048, .inl v_symbolOf)), (a_draft, .inl (cI, 256, .inl v_draft))])) (va_Qi (fun (r0 : Int32) (_ : Unit) => rv = r0) (fun _ t => va_P D classes [(a_this, .inr (1, [.ref o_in, .int i_inLong, .int i_goesOn, .ref o_out, .int i_outLong, .ref a_counts, .int i_greatest', .ref a_length, .ref a_symbolOf, .ref a_draft, .ref o_knot, .ref o_inSum, .int i_knots, .ref o_halved, .ref o_made, .int i_bitsMade, .ref o_weight, .int i_weights, .int i_order, .ref o_points, .ref o_cutOff, .ref o_had, .ref o_placeOf, .int i_bit, .int i_bitEnd])), (a_counts, .inl (cI, 256, .inl v_counts)), (a_length, .inl (cI, 256, .inl v_length')), (a_symbolOf, .inl (cI, 2048, .inl v_symbolOf')), (a_draft, .inl (cI, 256, .inl v_draft'))] t.heap ∧ va_K D classes [(cI, .int), (cL, .long), (cZ, .boolean)] t ∧ va_D (va_A [(a_this, .inr (1, [.ref o_in, .int i_inLong, .int i_goesOn, .ref o_out, .int i_outLong, .ref a_counts, .int i_greatest, .ref a_length, .ref a_symbolOf, .ref a_draft, .ref o_knot, .ref o_inSum, .int i_knots, .ref o_halved, .ref o_made, .int i_bitsMade, .ref o_weight, .int i_weights, .int i_order, .ref o_points, .ref o_cutOff, .ref o_had, .ref o_placeOf, .int i_bit, .int i_bitEnd])), (a_counts, .inl (cI, 256, .inl v_counts)), (a_length, .inl (cI, 256, .inl v_length)), (a_symbolOf, .inl (cI, 2048, .inl v_symbolOf)), (a_draft, .inl (cI, 256, .inl v_draft))] sz) [(a_this, .inr (1, [.ref o_in, .int i_inLong, .int i_goesOn, .ref o_out, .int i_outLong, .ref a_counts, .int i_greatest', .ref a_length, .ref a_symbolOf, .ref a_draft, .ref o_knot, .ref o_inSum, .int i_knots, .ref o_halved, .ref o_made, .int i_bitsMade, .ref o_weight, .int i_weights, .int i_order, .ref o_points, .ref o_cutOff, .ref o_had, .ref o_placeOf, .int i_bit, .int i_bitEnd])), (a_counts, .inl (cI, 256, .inl v_counts)), (a_length, .inl (cI, 256, .inl v_length')), (a_symbolOf, .inl (cI, 2048, .inl v_symbolOf')), (a_draft, .inl (cI, 256, .inl v_draft'))]) (va_A [(a_this, .inr (1, [.ref o_in, .int i_inLong, .int i_goesOn, .ref o_out, .int i_outLong, .ref a_counts, .int i_greatest, .ref a_length, .ref a_symbolOf, .ref a_draft, .ref o_knot, .ref o_inSum, .int i_knots, .ref o_halved, .ref o_made, .int i_bitsMade, .ref o_weight, .int i_weights, .int i_order, .ref o_points, .ref o_cutOff, .ref o_had, .ref o_placeOf, .int i_bit, .int i_bitEnd])), (a_counts, .inl (cI, 256, .inl v_counts)), (a_length, .inl (cI, 256, .inl v_length)), (a_symbolOf, .inl (cI, 2048, .inl v_symbolOf)), (a_draft, .inl (cI, 256, .inl v_draft))] sz)) 0 0 (va_A [(a_this, .inr (1, [.ref o_in, .int i_inLong, .int i_goesOn, .ref o_out, .int i_outLong, .ref a_counts, .int i_greatest, .ref a_length, .ref a_symbolOf, .ref a_draft, .ref o_knot, .ref o_inSum, .int i_knots, .ref o_halved, .ref o_made, .int i_bitsMade, .ref o_weight, .int i_weights, .int i_order, .ref o_points, .ref o_cutOff, .ref o_had, .ref o_placeOf, .int i_bit, .int i_bitEnd])), (a_counts, .inl (cI, 256, .inl v_counts)), (a_length, .inl (cI, 256, .inl v_length)), (a_symbolOf, .inl (cI, 2048, .inl v_symbolOf)), (a_draft, .inl (cI, 256, .inl v_draft))] sz) := by
  refine Met.ofW (cc := b_MM_just) (maxL := 5) (ret := (some .int)) (by decide) rfl ?_
  intro p e s m args below meth c s₁ B hml hv
  obtain ⟨rfl, hsz, hP, hK, hD0⟩ := hv
  have hx := B.exec
  have hb := B.bytes
  have hr := B.returns
  have hts0 := atoms_spec (ws := ws_MM_just) B.pre
  have hts := gd_tl hts0
  clear hts0
  have hown : s.vm.findClass "PrefixMillModel" = some m.cls := findClass_of_methodNamed B.named
  have hlocks := B.notSynchronized
  subst hsz
  have hD := hD0.self (sz := s.heap.size)
  generalize hAe : va_A [(a_this, .inr (1, [.ref o_in, .int i_inLong, .int i_goesOn, .ref o_out, .int i_outLong, .ref a_counts, .int i_greatest, .ref a_length, .ref a_symbolOf, .ref a_draft, .ref o_knot, .ref o_inSum, .int i_knots, .ref o_halved, .ref o_made, .int i_bitsMade, .ref o_weight, .int i_weights, .int i_order, .ref o_points, .ref o_cutOff, .ref o_had, .ref o_placeOf, .int i_bit, .int i_bitEnd])), (a_counts, .inl (cI, 256, .inl v_counts)), (a_length, .inl (cI, 256, .inl v_length)), (a_symbolOf, .inl (cI, 2048, .inl v_symbolOf)), (a_draft, .inl (cI, 256, .inl v_draft))] s.heap.size = A at hD ⊢
  have hA : ∀ q : Nat, s.heap.size ≤ q → A q := fun q h => by rw [← hAe]; exact Or.inr h
  have hS : va_S A s.heap s.heap [] := va_S.rf
  have hP : va_P D classes [(a_this, .inr (1, [.ref o_in, .int i_inLong, .int i_goesOn, .ref o_out, .int i_outLong, .ref a_counts, .int i_greatest, .ref a_length, .ref a_symbolOf, .ref a_draft, .ref o_knot, .ref o_inSum, .int i_knots, .ref o_halved, .ref o_made, .int i_bitsMade, .ref o_weight, .int i_weights, .int i_order, .ref o_points, .ref o_cutOff, .ref o_had, .ref o_placeOf, .int i_bit, .int i_bitEnd])), (a_counts, .inl (cI, 256, .inl v_counts)), (a_length, .inl (cI, 256, .inl v_length)), (a_symbolOf, .inl (cI, 2048, .inl v_symbolOf)), (a_draft, .inl (cI, 256, .inl v_draft))] s.heap := hP
  have hl := lv_entry ([.ref a_this]) (n := 5) (Nat.le_of_ble_eq_true rfl)
  rw [lg_entry_eq]
  generalize (lg_sl ([.ref a_this]) ++ List.replicate (5 - (lg_sl ([.ref a_this])).length) Slot.unset).toArray = ls at hl ⊢
  have hl : lv_has ls 5 [(0, .ref a_this)] := hl
  have C : Cx p s m ([.ref a_this] : List Value).toArray c b_MM_just 5 "PrefixMillModel" D [(cI, .int), (cL, .long), (cZ, .boolean)] A := ⟨hx, hb, hml, hown, hts, hK, hA⟩
  refine w_MM_just_b0 (res := (rv, i_greatest', v_length', v_symbolOf', v_draft')) C ?_ _ _ _ _ h s.heap [] ls hl hP hD hS
  intro pc9 H9 locs9 ls9 rv9 i_greatest9 v_length9 v_symbolOf9 v_draft9 e9 d9 hP9 hD9 hS9
  cases e9
  exact W.iret (v := rv) hx hb hr (fun t ht hW => ⟨⟨rv, (), rfl, rfl, by rw [ht]; exact hP9, va_K.moved hW.alike hK, hD9⟩, hS9.F ht⟩) hS9.2.2 d9
abbrev b_MM_codeOf : ByteArray := prog_12_method_17_code
def ws_MM_codeOf : List Cond := .code ({ cls := "PrefixMillModel", name := "codeOf", desc := "(I)I" } : Jvm.MethodName) b_MM_codeOf 3 (some .int) :: tt
theorem d_MM_codeOf_0 : decode b_MM_codeOf 0 = .ok (.iconst 0, 1) := by decide +kernel
theorem d_MM_codeOf_1 : decode b_MM_codeOf 1 = .ok (.istore_n 2, 1) := by decide +kernel
theorem d_MM_codeOf_2 : decode b_MM_codeOf 2 = .ok (.aload_n 0, 1) := by decide +kernel
theorem d_MM_codeOf_3 : decode b_MM_codeOf 3 = .ok (.getfield 22, 3) := by decide +kernel
theorem d_MM_codeOf_6 : decode b_MM_codeOf 6 = .ok (.iload_n 2, 1) := by decide +kernel
theorem d_MM_codeOf_7 : decode b_MM_codeOf 7 = .ok (.iaload, 1) := by decide +kernel
theorem d_MM_codeOf_8 : decode b_MM_codeOf 8 = .ok (.iload_n 1, 1) := by decide +kernel
theorem d_MM_codeOf_9 : decode b_MM_codeOf 9 = .ok (.if_icmp .eq 9, 3) := by decide +kernel
theorem d_MM_codeOf_12 : decode b_MM_codeOf 12 = .ok (.iinc 2 1, 3) := by decide +kernel
theorem d_MM_codeOf_15 : decode b_MM_codeOf 15 = .ok (.goto (-13), 3) := by decide +kernel
theorem d_MM_codeOf_18 : decode b_MM_codeOf 18 = .ok (.iload_n 2, 1) := by decide +kernel
theorem d_MM_codeOf_19 : decode b_MM_codeOf 19 = .ok (.aload_n 0, 1) := by decide +kernel
theorem d_MM_codeOf_20 : decode b_MM_codeOf 20 = .ok (.getfield 69, 3) := by decide +kernel
theorem d_MM_codeOf_23 : decode b_MM_codeOf 23 = .ok (.aload_n 0, 1) := by decide +kernel
theorem d_MM_codeOf_24 : decode b_MM_codeOf 24 = .ok (.getfield 19, 3) := by decide +kernel
theorem d_MM_codeOf_27 : decode b_MM_codeOf 27 = .ok (.iload_n 1, 1) := by decide +kernel
theorem d_MM_codeOf_28 : decode b_MM_codeOf 28 = .ok (.iaload, 1) := by decide +kernel
theorem d_MM_codeOf_29 : decode b_MM_codeOf 29 = .ok (.isub, 1) := by decide +kernel
theorem d_MM_codeOf_30 : decode b_MM_codeOf 30 = .ok (.ishr, 1) := by decide +kernel
theorem d_MM_codeOf_31 : decode b_MM_codeOf 31 = .ok (.ireturn, 1) := by decide +kernel
def f_MM_codeOf_b18 (N : Nat) (i_greatest : Int32) (v_length : Nat → Int32) (v_symbolOf : Nat → Int32) (l1 : Int32)  (l2 : Int32) : Option (Int32) :=
  ck (inb l1 256) <|
  some ((l2 >>> ((i_greatest - (v_length (Int32.toNatClampNeg l1))) &&& 31)))
def f_MM_codeOf_b2 (N : Nat) (i_greatest : Int32) (v_length : Nat → Int32) (v_symbolOf : Nat → Int32) (l1 : Int32)  : Nat → Int32 → Option (Int32)
  | 0, _ => none
  | z + 1, l2 =>
  ck (inb l2 2048) <|
  if (v_symbolOf (Int32.toNatClampNeg l2)) = l1 then
  f_MM_codeOf_b18 N i_greatest v_length v_symbolOf l1  l2
  else
  nm (l2 + 1) fun l2_3 =>
  f_MM_codeOf_b2 N i_greatest v_length v_symbolOf l1  z l2_3
def f_MM_codeOf (N : Nat) (i_greatest : Int32) (v_length : Nat → Int32) (v_symbolOf : Nat → Int32) (l1 : Int32)   : Option (Int32) :=
  f_MM_codeOf_b2 N i_greatest v_length v_symbolOf l1  N 0
abbrev R_MM_codeOf : Room := ({ frames := 0, cells := 0, slots := 0, locals := 0 } : Room)
def E_MM_codeOf (p : Program) (l : Launch) (e : Env) (s : State) (m : MethodId) (args : Array Value) (below : List Frame) (meth : Method) (c : Code) (Q : State → Prop) (A : Nat → Prop) (D : va_G) (cI cL cZ : ClassId) (a_this : Nat) (a_length : Nat) (a_symbolOf : Nat) (o_in : Nat) (o_out : Nat) (o_counts : Nat) (o_draft : Nat) (o_knot : Nat) (o_inSum : Nat) (o_halved : Nat) (o_made : Nat) (o_weight : Nat) (o_points : Nat) (o_cutOff : Nat) (o_had : Nat) (o_placeOf : Nat) (i_inLong : Int32) (i_goesOn : Int32) (i_outLong : Int32) (i_greatest : Int32) (i_knots : Int32) (i_bitsMade : Int32) (i_weights : Int32) (i_order : Int32) (i_bit : Int32) (i_bitEnd : Int32) (v_length : Nat → Int32) (v_symbolOf : Nat → Int32) (l1 : Int32) (res : Int32) : Prop := ∀ (pc : Nat) (H : Heap) (locs : List Loc) (ls : Array Slot) (rv : Int32), some (rv) = some res → decode b_MM_codeOf pc = .ok (.ireturn, 1) → va_P D classes [(a_this, .inr (1, [.ref o_in, .int i_inLong, .int i_goesOn, .ref o_out, .int i_outLong, .ref o_counts, .int i_greatest, .ref a_length, .ref a_symbolOf, .ref o_draft, .ref o_knot, .ref o_inSum, .int i_knots, .ref o_halved, .ref o_made, .int i_bitsMade, .ref o_weight, .int i_weights, .int i_order, .ref o_points, .ref o_cutOff, .ref o_had, .ref o_placeOf, .int i_bit, .int i_bitEnd])), (a_length, .inl (cI, 256, .inl v_length)), (a_symbolOf, .inl (cI, 2048, .inl v_symbolOf))] H → va_D A [(a_this, .inr (1, [.ref o_in, .int i_inLong, .int i_goesOn, .ref o_out, .int i_outLong, .ref o_counts, .int i_greatest, .ref a_length, .ref a_symbolOf, .ref o_draft, .ref o_knot, .ref o_inSum, .int i_knots, .ref o_halved, .ref o_made, .int i_bitsMade, .ref o_weight, .int i_weights, .int i_order, .ref o_points, .ref o_cutOff, .ref o_had, .ref o_placeOf, .int i_bit, .int i_bitEnd])), (a_length, .inl (cI, 256, .inl v_length)), (a_symbolOf, .inl (cI, 2048, .inl v_symbolOf))] → va_S A s.heap H locs → W p l e R_MM_codeOf s m args below meth c H locs 0 0 Q (F0 m pc ls [.int rv])
def I_MM_codeOf_b18 (p : Program) (l : Launch) (e : Env) (s : State) (m : MethodId) (args : Array Value) (below : List Frame) (meth : Method) (c : Code) (Q : State → Prop) (A : Nat → Prop) (D : va_G) (cI cL cZ : ClassId) (a_this : Nat) (a_length : Nat) (a_symbolOf : Nat) (o_in : Nat) (o_out : Nat) (o_counts : Nat) (o_draft : Nat) (o_knot : Nat) (o_inSum : Nat) (o_halved : Nat) (o_made : Nat) (o_weight : Nat) (o_points : Nat) (o_cutOff : Nat) (o_had : Nat) (o_placeOf : Nat) (i_inLong : Int32) (i_goesOn : Int32) (i_outLong : Int32) (i_greatest : Int32) (i_knots : Int32) (i_bitsMade : Int32) (i_weights : Int32) (i_order : Int32) (i_bit : Int32) (i_bitEnd : Int32) (v_length : Nat → Int32) (v_symbolOf : Nat → Int32) (l1 : Int32) (res : Int32) (kf : Int32 → Option (Int32)) : Prop := ∀ (l2 : Int32), kf l2 = some res → ∀ (H : Heap) (locs : List Loc) (ls : Array Slot), lv_has ls 3 [(0, .ref a_this), (1, .int l1), (2, .int l2)] → va_P D classes [(a_this, .inr (1, [.ref o_in, .int i_inLong, .int i_goesOn, .ref o_out, .int i_outLong, .ref o_counts, .int i_greatest, .ref a_length, .ref a_symbolOf, .ref o_draft, .ref o_knot, .ref o_inSum, .int i_knots, .ref o_halved, .ref o_made, .int i_bitsMade, .ref o_weight, .int i_weights, .int i_order, .ref o_points, .ref o_cutOff, .ref o_had, .ref o_placeOf, .int i_bit, .int i_bitEnd])), (a_length, .inl (cI, 256, .inl v_length)), (a_symbolOf, .inl (cI, 2048, .inl v_symbolOf))] H → va_D A [(a_this, .inr (1, [.ref o_in, .int i_inLong, .int i_goesOn, .ref o_out, .int i_outLong, .ref o_counts, .int i_greatest, .ref a_length, .ref a_symbolOf, .ref o_draft, .ref o_knot, .ref o_inSum, .int i_knots, .ref o_halved, .ref o_made, .int i_bitsMade, .ref o_weight, .int i_weights, .int i_order, .ref o_points, .ref o_cutOff, .ref o_had, .ref o_placeOf, .int i_bit, .int i_bitEnd])), (a_length, .inl (cI, 256, .inl v_length)), (a_symbolOf, .inl (cI, 2048, .inl v_symbolOf))] → va_S A s.heap H locs → W p l e R_MM_codeOf s m args below meth c H locs 0 0 Q (F0 m 18 ls [])
def I_MM_codeOf_b2 (p : Program) (l : Launch) (e : Env) (s : State) (m : MethodId) (args : Array Value) (below : List Frame) (meth : Method) (c : Code) (Q : State → Prop) (A : Nat → Prop) (D : va_G) (cI cL cZ : ClassId) (a_this : Nat) (a_length : Nat) (a_symbolOf : Nat) (o_in : Nat) (o_out : Nat) (o_counts : Nat) (o_draft : Nat) (o_knot : Nat) (o_inSum : Nat) (o_halved : Nat) (o_made : Nat) (o_weight : Nat) (o_points : Nat) (o_cutOff : Nat) (o_had : Nat) (o_placeOf : Nat) (i_inLong : Int32) (i_goesOn : Int32) (i_outLong : Int32) (i_greatest : Int32) (i_knots : Int32) (i_bitsMade : Int32) (i_weights : Int32) (i_order : Int32) (i_bit : Int32) (i_bitEnd : Int32) (v_length : Nat → Int32) (v_symbolOf : Nat → Int32) (l1 : Int32) (res : Int32) (kf : Int32 → Option (Int32)) : Prop := ∀ (l2 : Int32), kf l2 = some res → ∀ (H : Heap) (locs : List Loc) (ls : Array Slot), lv_has ls 3 [(0, .ref a_this), (1, .int l1), (2, .int l2)] → va_P D classes [(a_this, .inr (1, [.ref o_in, .int i_inLong, .int i_goesOn, .ref o_out, .int i_outLong, .ref o_counts, .int i_greatest, .ref a_length, .ref a_symbolOf, .ref o_draft, .ref o_knot, .ref o_inSum, .int i_knots, .ref o_halved, .ref o_made, .int i_bitsMade, .ref o_weight, .int i_weights, .int i_order, .ref o_points, .ref o_cutOff, .ref o_had, .ref o_placeOf, .int i_bit, .int i_bitEnd])), (a_length, .inl (cI, 256, .inl v_length)), (a_symbolOf, .inl (cI, 2048, .inl v_symbolOf))] H → va_D A [(a_this, .inr (1, [.ref o_in, .int i_inLong, .int i_goesOn, .ref o_out, .int i_outLong, .ref o_counts, .int i_greatest, .ref a_length, .ref a_symbolOf, .ref o_draft, .ref o_knot, .ref o_inSum, .int i_knots, .ref o_halved, .ref o_made, .int i_bitsMade, .ref o_weight, .int i_weights, .int i_order, .ref o_points, .ref o_cutOff, .ref o_had, .ref o_placeOf, .int i_bit, .int i_bitEnd])), (a_length, .inl (cI, 256, .inl v_length)), (a_symbolOf, .inl (cI, 2048, .inl v_symbolOf))] → va_S A s.heap H locs → W p l e R_MM_codeOf s m args below meth c H locs 0 0 Q (F0 m 2 ls [])
def I_MM_codeOf_b0 (p : Program) (l : Launch) (e : Env) (s : State) (m : MethodId) (args : Array Value) (below : List Frame) (meth : Method) (c : Code) (Q : State → Prop) (A : Nat → Prop) (D : va_G) (cI cL cZ : ClassId) (a_this : Nat) (a_length : Nat) (a_symbolOf : Nat) (o_in : Nat) (o_out : Nat) (o_counts : Nat) (o_draft : Nat) (o_knot : Nat) (o_inSum : Nat) (o_halved : Nat) (o_made : Nat) (o_weight : Nat) (o_points : Nat) (o_cutOff : Nat) (o_had : Nat) (o_placeOf : Nat) (i_inLong : Int32) (i_goesOn : Int32) (i_outLong : Int32) (i_greatest : Int32) (i_knots : Int32) (i_bitsMade : Int32) (i_weights : Int32) (i_order : Int32) (i_bit : Int32) (i_bitEnd : Int32) (v_length : Nat → Int32) (v_symbolOf : Nat → Int32) (l1 : Int32) (res : Int32) (kf : Option (Int32)) : Prop := ∀ (_ : Unit), kf  = some res → ∀ (H : Heap) (locs : List Loc) (ls : Array Slot), lv_has ls 3 [(0, .ref a_this), (1, .int l1)] → va_P D classes [(a_this, .inr (1, [.ref o_in, .int i_inLong, .int i_goesOn, .ref o_out, .int i_outLong, .ref o_counts, .int i_greatest, .ref a_length, .ref a_symbolOf, .ref o_draft, .ref o_knot, .ref o_inSum, .int i_knots, .ref o_halved, .ref o_made, .int i_bitsMade, .ref o_weight, .int i_weights, .int i_order, .ref o_points, .ref o_cutOff, .ref o_had, .ref o_placeOf, .int i_bit, .int i_bitEnd])), (a_length, .inl (cI, 256, .inl v_length)), (a_symbolOf, .inl (cI, 2048, .inl v_symbolOf))] H → va_D A [(a_this, .inr (1, [.ref o_in, .int i_inLong, .int i_goesOn, .ref o_out, .int i_outLong, .ref o_counts, .int i_greatest, .ref a_length, .ref a_symbolOf, .ref o_draft, .ref o_knot, .ref o_inSum, .int i_knots, .ref o_halved, .ref o_made, .int i_bitsMade, .ref o_weight, .int i_weights, .int i_order, .ref o_points, .ref o_cutOff, .ref o_had, .ref o_placeOf, .int i_bit, .int i_bitEnd])), (a_length, .inl (cI, 256, .inl v_length)), (a_symbolOf, .inl (cI, 2048, .inl v_symbolOf))] → va_S A s.heap H locs → W p l e R_MM_codeOf s m args below meth c H locs 0 0 Q (F0 m 0 ls [])
set_option maxHeartbeats 4000000 in
set_option maxRecDepth 100000 in
theorem w_MM_codeOf_b18 {p : Program} {l : Launch} {e : Env} {s : State} {m : MethodId} {args : Array Value} {below : List Frame} {meth : Method} {c : Code} {Q : State → Prop} {A : Nat → Prop} {D : va_G} {cI cL cZ : ClassId} {a_this : Nat} {a_length : Nat} {a_symbolOf : Nat} {o_in : Nat} {o_out : Nat} {o_counts : Nat} {o_draft : Nat} {o_knot : Nat} {o_inSum : Nat} {o_halved : Nat} {o_made : Nat} {o_weight : Nat} {o_points : Nat} {o_cutOff : Nat} {o_had : Nat} {o_placeOf : Nat} {i_inLong : Int32} {i_goesOn : Int32} {i_outLong : Int32} {i_greatest : Int32} {i_knots : Int32} {i_bitsMade : Int32} {i_weights : Int32} {i_order : Int32} {i_bit : Int32} {i_bitEnd : Int32} {v_length : Nat → Int32} {v_symbolOf : Nat → Int32} {l1 : Int32} {N : Nat} {res : Int32}  (C : Cx p s m args c b_MM_codeOf 3 "PrefixMillModel" D [(cI, .int), (cL, .long), (cZ, .boolean)] A) (hret : E_MM_codeOf p l e s m args below meth c Q A D cI cL cZ a_this a_length a_symbolOf o_in o_out o_counts o_draft o_knot o_inSum o_halved o_made o_weight o_points o_cutOff o_had o_placeOf i_inLong i_goesOn i_outLong i_greatest i_knots i_bitsMade i_weights i_order i_bit i_bitEnd v_length v_symbolOf l1 res)  : I_MM_codeOf_b18 p l e s m args below meth c Q A D cI cL cZ a_this a_length a_symbolOf o_in o_out o_counts o_draft o_knot o_inSum o_halved o_made o_weight o_points o_cutOff o_had o_placeOf i_inLong i_goesOn i_outLong i_greatest i_knots i_bitsMade i_weights i_order i_bit i_bitEnd v_length v_symbolOf l1 res (f_MM_codeOf_b18 N i_greatest v_length v_symbolOf l1 ) := by
  obtain ⟨hx, hb, hml, hown, hts, hK, hA⟩ := C
  intro l2 h H locs ls hl hP hD hS
  unfold f_MM_codeOf_b18 at h
  refine lv_iload_n hx hb d_MM_codeOf_18 rfl (lv_at hl 2 rfl) ?_
  refine lv_aload_n hx hb d_MM_codeOf_19 rfl (lv_at hl 0 rfl) ?_
  refine va_get hx hb hts in_MM hown hK hP 0 rfl rfl 6 (by decide) (hts _ m_759) (fun _ h9 => h9) rfl d_MM_codeOf_20 ?_
  refine lv_aload_n hx hb d_MM_codeOf_23 rfl (lv_at hl 0 rfl) ?_
  refine va_get hx hb hts in_MM hown hK hP 0 rfl rfl 7 (by decide) (hts _ m_760) (fun _ h9 => h9) rfl d_MM_codeOf_24 ?_
  refine lv_iload_n hx hb d_MM_codeOf_27 rfl (lv_at hl 1 rfl) ?_
  obtain ⟨g_1, h⟩ := ck_s h
  refine va_iald hx hb hK hP 1 0 rfl rfl (inb_s g_1) d_MM_codeOf_28 ?_
  refine lv_isub hx hb d_MM_codeOf_29 ?_
  refine lv_ishr hx hb d_MM_codeOf_30 ?_
  exact hret _ _ _ _ (l2 >>> ((i_greatest - (v_length (Int32.toNatClampNeg l1))) &&& 31))  h d_MM_codeOf_31 hP hD hS
set_option maxHeartbeats 4000000 in
set_option maxRecDepth 100000 in
theorem w_MM_codeOf_b2 {p : Program} {l : Launch} {e : Env} {s : State} {m : MethodId} {args : Array Value} {below : List Frame} {meth : Method} {c : Code} {Q : State → Prop} {A : Nat → Prop} {D : va_G} {cI cL cZ : ClassId} {a_this : Nat} {a_length : Nat} {a_symbolOf : Nat} {o_in : Nat} {o_out : Nat} {o_counts : Nat} {o_draft : Nat} {o_knot : Nat} {o_inSum : Nat} {o_halved : Nat} {o_made : Nat} {o_weight : Nat} {o_points : Nat} {o_cutOff : Nat} {o_had : Nat} {o_placeOf : Nat} {i_inLong : Int32} {i_goesOn : Int32} {i_outLong : Int32} {i_greatest : Int32} {i_knots : Int32} {i_bitsMade : Int32} {i_weights : Int32} {i_order : Int32} {i_bit : Int32} {i_bitEnd : Int32} {v_length : Nat → Int32} {v_symbolOf : Nat → Int32} {l1 : Int32} {N : Nat} {res : Int32}  (C : Cx p s m args c b_MM_codeOf 3 "PrefixMillModel" D [(cI, .int), (cL, .long), (cZ, .boolean)] A) (hret : E_MM_codeOf p l e s m args below meth c Q A D cI cL cZ a_this a_length a_symbolOf o_in o_out o_counts o_draft o_knot o_inSum o_halved o_made o_weight o_points o_cutOff o_had o_placeOf i_inLong i_goesOn i_outLong i_greatest i_knots i_bitsMade i_weights i_order i_bit i_bitEnd v_length v_symbolOf l1 res)  : ∀ z : Nat, I_MM_codeOf_b2 p l e s m args below meth c Q A D cI cL cZ a_this a_length a_symbolOf o_in o_out o_counts o_draft o_knot o_inSum o_halved o_made o_weight o_points o_cutOff o_had o_placeOf i_inLong i_goesOn i_outLong i_greatest i_knots i_bitsMade i_weights i_order i_bit i_bitEnd v_length v_symbolOf l1 res (f_MM_codeOf_b2 N i_greatest v_length v_symbolOf l1  z) := by
  obtain ⟨hx, hb, hml, hown, hts, hK, hA⟩ := C
  intro z
  induction z with
  | zero => intro l2 h; cases h
  | succ z ih =>
    intro l2 h H locs ls hl hP hD hS
    refine lv_aload_n hx hb d_MM_codeOf_2 rfl (lv_at hl 0 rfl) ?_
    refine va_get hx hb hts in_MM hown hK hP 0 rfl rfl 8 (by decide) (hts _ m_761) (fun _ h9 => h9) rfl d_MM_codeOf_3 ?_
    refine lv_iload_n hx hb d_MM_codeOf_6 rfl (lv_at hl 2 rfl) ?_
    obtain ⟨g_1, h⟩ := ck_s h
    refine va_iald hx hb hK hP 2 0 rfl rfl (inb_s g_1) d_MM_codeOf_7 ?_
    refine lv_iload_n hx hb d_MM_codeOf_8 rfl (lv_at hl 1 rfl) ?_
    refine lv_icmp_eq (tgt := 18) hx hb d_MM_codeOf_9 (by decide) (fun c_2 => ?_) (fun c_2 => ?_)
    · replace h := if_t h c_2
      exact w_MM_codeOf_b18 ⟨hx, hb, hml, hown, hts, hK, hA⟩ hret  _ h H locs ls (lv_sub hl [0, 1, 2] rfl) hP hD hS
    · replace h := if_f h c_2
      obtain ⟨l2_3, el2_3⟩ : ∃ y : Int32, y = l2 + 1 := ⟨_, rfl⟩
      replace h := nm_s h el2_3
      refine lv_iinc (v := l2_3) (lv' := [(2, .int l2_3), (0, .ref a_this), (1, .int l1)]) hx hb d_MM_codeOf_12 hl (k := 2) rfl (by rw [el2_3]; rfl) (by decide) rfl (fun ls hl => ?_)
      refine lv_goto (tgt := 2) hx hb d_MM_codeOf_15 (by decide) ?_
      exact ih _ h H locs ls (lv_sub hl [1, 2, 0] rfl) hP hD hS
set_option maxHeartbeats 4000000 in
set_option maxRecDepth 100000 in
theorem w_MM_codeOf_b0 {p : Program} {l : Launch} {e : Env} {s : State} {m : MethodId} {args : Array Value} {below : List Frame} {meth : Method} {c : Code} {Q : State → Prop} {A : Nat → Prop} {D : va_G} {cI cL cZ : ClassId} {a_this : Nat} {a_length : Nat} {a_symbolOf : Nat} {o_in : Nat} {o_out : Nat} {o_counts : Nat} {o_draft : Nat} {o_knot : Nat} {o_inSum : Nat} {o_halved : Nat} {o_made : Nat} {o_weight : Nat} {o_points : Nat} {o_cutOff : Nat} {o_had : Nat} {o_placeOf : Nat} {i_inLong : Int32} {i_goesOn : Int32} {i_outLong : Int32} {i_greatest : Int32} {i_knots : Int32} {i_bitsMade : Int32} {i_weights : Int32} {i_order : Int32} {i_bit : Int32} {i_bitEnd : Int32} {v_length : Nat → Int32} {v_symbolOf : Nat → Int32} {l1 : Int32} {N : Nat} {res : Int32}  (C : Cx p s m args c b_MM_codeOf 3 "PrefixMillModel" D [(cI, .int), (cL, .long), (cZ, .boolean)] A) (hret : E_MM_codeOf p l e s m args below meth c Q A D cI cL cZ a_this a_length a_symbolOf o_in o_out o_counts o_draft o_knot o_inSum o_halved o_made o_weight o_points o_cutOff o_had o_placeOf i_inLong i_goesOn i_outLong i_greatest i_knots i_bitsMade i_weights i_order i_bit i_bitEnd v_length v_symbolOf l1 res)  : I_MM_codeOf_b0 p l e s m args below meth c Q A D cI cL cZ a_this a_length a_symbolOf o_in o_out o_counts o_draft o_knot o_inSum o_halved o_made o_weight o_points o_cutOff o_had o_placeOf i_inLong i_goesOn i_outLong i_greatest i_knots i_bitsMade i_weights i_order i_bit i_bitEnd v_length v_symbolOf l1 res (f_MM_codeOf N i_greatest v_length v_symbolOf l1 ) := by
  obtain ⟨hx, hb, hml, hown, hts, hK, hA⟩ := C
  intro _ h H locs ls hl hP hD hS
  unfold f_MM_codeOf at h
  refine lv_iconst (v := 0) hx hb d_MM_codeOf_0 (by decide) ?_
  refine lv_istore_n (lv' := [(2, .int 0), (0, .ref a_this), (1, .int l1)]) hx hb d_MM_codeOf_1 rfl hl (by decide) rfl (fun ls hl => ?_)
  exact w_MM_codeOf_b2 ⟨hx, hb, hml, hown, hts, hK, hA⟩ hret  N _ h H locs ls (lv_sub hl [1, 2, 0] rfl) hP hD hS
set_option maxHeartbeats 4000000 in
set_option maxRecDepth 100000 in
theorem c_MM_codeOf (l : Launch) (D : va_G) (cI cL cZ : ClassId) (sz N : Nat) (a_this : Nat) (a_length : Nat) (a_symbolOf : Nat) (o_in : Nat) (o_out : Nat) (o_counts : Nat) (o_draft : Nat) (o_knot : Nat) (o_inSum : Nat) (o_halved : Nat) (o_made : Nat) (o_weight : Nat) (o_points : Nat) (o_cutOff : Nat) (o_had : Nat) (o_placeOf : Nat) (i_inLong : Int32) (i_goesOn : Int32) (i_outLong : Int32) (i_greatest : Int32) (i_knots : Int32) (i_bitsMade : Int32) (i_weights : Int32) (i_order : Int32) (i_bit : Int32) (i_bitEnd : Int32) (v_length : Nat → Int32) (v_symbolOf : Nat → Int32) (l1 : Int32) (rv : Int32) (h : f_MM_codeOf N i_greatest v_length v_symbolOf l1  = some (rv)) : Met l ({ cls := "PrefixMillModel", name := "codeOf", desc := "(I)I" } : Jvm.MethodName) ws_MM_codeOf R_MM_codeOf (va_Pc [.ref a_this, .int l1] (fun U => U.heap.size = sz ∧ va_P D classes [(a_this, .inr (1, [.ref o_in, .int i_inLong, .int i_goesOn, .ref o_out, .int i_outLong, .ref o_counts, .int i_greatest, .ref a_length, .ref a_symbolOf, .ref o_draft, .ref o_knot, .ref o_inSum, .int i_knots, .ref o_halved, .ref o_made, .int i_bitsMade, .ref o_weight, .int i_weights, .int i_order, .ref o_points, .ref o_cutOff, .ref o_had, .ref o_placeOf, .int i_bit, .int i_bitEnd])), (a_length, .inl (cI, 256, .inl v_length)), (a_symbolOf, .inl (cI, 2048, .inl v_symbolOf))] U.heap ∧ va_K D classes [(cI, .int), (cL, .long), (cZ, .boolean)] U ∧ va_D (fun _ => True) [(a_this, .inr (1, [.ref o_in, .int i_inLong, .int i_goesOn, .ref o_out, .int i_outLong, .ref o_counts, .int i_greatest, .ref a_length, .ref a_symbolOf, .ref o_draft, .ref o_knot, .ref o_inSum, .int i_knots, .ref o_halved, .ref o_made, .int i_bitsMade, .ref o_weight, .int i_weights, .int i_order, .ref o_points, .ref o_cutOff, .ref o_had, .ref o_placeOf, .int i_bit, .int i_bitEnd])), (a_length, .inl (cI, 256, .inl v_length)), (a_symbolOf, .inl (cI, 2048, .inl v_symbolOf))])) (va_Qi (fun (r0 : Int32) (_ : Unit) => rv = r0) (fun _ t => va_P D classes [(a_this, .inr (1, [.ref o_in, .int i_inLong, .int i_goesOn, .ref o_out, .int i_outLong, .ref o_counts, .int i_greatest, .ref a_length, .ref a_symbolOf, .ref o_draft, .ref o_knot, .ref o_inSum, .int i_knots, .ref o_halved, .ref o_made, .int i_bitsMade, .ref o_weight, .int i_weights, .int i_order, .ref o_points, .ref o_cutOff, .ref o_had, .ref o_placeOf, .int i_bit, .int i_bitEnd])), (a_length, .inl (cI, 256, .inl v_length)), (a_symbolOf, .inl (cI, 2048, .inl v_symbolOf))] t.heap ∧ va_K D classes [(cI, .int), (cL, .long), (cZ, .boolean)] t ∧ va_D (va_A [(a_this, .inr (1, [.ref o_in, .int i_inLong, .int i_goesOn, .ref o_out, .int i_outLong, .ref o_counts, .int i_greatest, .ref a_length, .ref a_symbolOf, .ref o_draft, .ref o_knot, .ref o_inSum, .int i_knots, .ref o_halved, .ref o_made, .int i_bitsMade, .ref o_weight, .int i_weights, .int i_order, .ref o_points, .ref o_cutOff, .ref o_had, .ref o_placeOf, .int i_bit, .int i_bitEnd])), (a_length, .inl (cI, 256, .inl v_length)), (a_symbolOf, .inl (cI, 2048, .inl v_symbolOf))] sz) [(a_this, .inr (1, [.ref o_in, .int i_inLong, .int i_goesOn, .ref o_out, .int i_outLong, .ref o_counts, .int i_greatest, .ref a_length, .ref a_symbolOf, .ref o_draft, .ref o_knot, .ref o_inSum, .int i_knots, .ref o_halved, .ref o_made, .int i_bitsMade, .ref o_weight, .int i_weights, .int i_order, .ref o_points, .ref o_cutOff, .ref o_had, .ref o_placeOf, .int i_bit, .int i_bitEnd])), (a_length, .inl (cI, 256, .inl v_length)), (a_symbolOf, .inl (cI, 2048, .inl v_symbolOf))]) (va_A [(a_this, .inr (1, [.ref o_in, .int i_inLong, .int i_goesOn, .ref o_out, .int i_outLong, .ref o_counts, .int i_greatest, .ref a_length, .ref a_symbolOf, .ref o_draft, .ref o_knot, .ref o_inSum, .int i_knots, .ref o_halved, .ref o_made, .int i_bitsMade, .ref o_weight, .int i_weights, .int i_order, .ref o_points, .ref o_cutOff, .ref o_had, .ref o_placeOf, .int i_bit, .int i_bitEnd])), (a_length, .inl (cI, 256, .inl v_length)), (a_symbolOf, .inl (cI, 2048, .inl v_symbolOf))] sz)) 0 0 (va_A [(a_this, .inr (1, [.ref o_in, .int i_inLong, .int i_goesOn, .ref o_out, .int i_outLong, .ref o_counts, .int i_greatest, .ref a_length, .ref a_symbolOf, .ref o_draft, .ref o_knot, .ref o_inSum, .int i_knots, .ref o_halved, .ref o_made, .int i_bitsMade, .ref o_weight, .int i_weights, .int i_order, .ref o_points, .ref o_cutOff, .ref o_had, .ref o_placeOf, .int i_bit, .int i_bitEnd])), (a_length, .inl (cI, 256, .inl v_length)), (a_symbolOf, .inl (cI, 2048, .inl v_symbolOf))] sz) := by
  refine Met.ofW (cc := b_MM_codeOf) (maxL := 3) (ret := (some .int)) (by decide) rfl ?_
  intro p e s m args below meth c s₁ B hml hv
  obtain ⟨rfl, hsz, hP, hK, hD0⟩ := hv
  have hx := B.exec
  have hb := B.bytes
  have hr := B.returns
  have hts0 := atoms_spec (ws := ws_MM_codeOf) B.pre
  have hts := gd_tl hts0
  clear hts0
  have hown : s.vm.findClass "PrefixMillModel" = some m.cls := findClass_of_methodNamed B.named
  have hlocks := B.notSynchronized
  subst hsz
  have hD := hD0.self (sz := s.heap.size)
  generalize hAe : va_A [(a_this, .inr (1, [.ref o_in, .int i_inLong, .int i_goesOn, .ref o_out, .int i_outLong, .ref o_counts, .int i_greatest, .ref a_length, .ref a_symbolOf, .ref o_draft, .ref o_knot, .ref o_inSum, .int i_knots, .ref o_halved, .ref o_made, .int i_bitsMade, .ref o_weight, .int i_weights, .int i_order, .ref o_points, .ref o_cutOff, .ref o_had, .ref o_placeOf, .int i_bit, .int i_bitEnd])), (a_length, .inl (cI, 256, .inl v_length)), (a_symbolOf, .inl (cI, 2048, .inl v_symbolOf))] s.heap.size = A at hD ⊢
  have hA : ∀ q : Nat, s.heap.size ≤ q → A q := fun q h => by rw [← hAe]; exact Or.inr h
  have hS : va_S A s.heap s.heap [] := va_S.rf
  have hP : va_P D classes [(a_this, .inr (1, [.ref o_in, .int i_inLong, .int i_goesOn, .ref o_out, .int i_outLong, .ref o_counts, .int i_greatest, .ref a_length, .ref a_symbolOf, .ref o_draft, .ref o_knot, .ref o_inSum, .int i_knots, .ref o_halved, .ref o_made, .int i_bitsMade, .ref o_weight, .int i_weights, .int i_order, .ref o_points, .ref o_cutOff, .ref o_had, .ref o_placeOf, .int i_bit, .int i_bitEnd])), (a_length, .inl (cI, 256, .inl v_length)), (a_symbolOf, .inl (cI, 2048, .inl v_symbolOf))] s.heap := hP
  have hl := lv_entry ([.ref a_this, .int l1]) (n := 3) (Nat.le_of_ble_eq_true rfl)
  rw [lg_entry_eq]
  generalize (lg_sl ([.ref a_this, .int l1]) ++ List.replicate (3 - (lg_sl ([.ref a_this, .int l1])).length) Slot.unset).toArray = ls at hl ⊢
  have hl : lv_has ls 3 [(0, .ref a_this), (1, .int l1)] := hl
  have C : Cx p s m ([.ref a_this, .int l1] : List Value).toArray c b_MM_codeOf 3 "PrefixMillModel" D [(cI, .int), (cL, .long), (cZ, .boolean)] A := ⟨hx, hb, hml, hown, hts, hK, hA⟩
  refine w_MM_codeOf_b0 (res := (rv)) C ?_ () h s.heap [] ls hl hP hD hS
  intro pc9 H9 locs9 ls9 rv9 e9 d9 hP9 hD9 hS9
  cases e9
  exact W.iret (v := rv) hx hb hr (fun t ht hW => ⟨⟨rv, (), rfl, rfl, by rw [ht]; exact hP9, va_K.moved hW.alike hK, hD9⟩, hS9.F ht⟩) hS9.2.2 d9
abbrev b_MM_about : ByteArray := prog_12_method_18_code
def ws_MM_about : List Cond := .code ({ cls := "PrefixMillModel", name := "about", desc := "(I)I" } : Jvm.MethodName) b_MM_about 4 (some .int) :: tt
theorem d_MM_about_0 : decode b_MM_about 0 = .ok (.aload_n 0, 1) := by decide +kernel
theorem d_MM_about_1 : decode b_MM_about 1 = .ok (.getfield 69, 3) := by decide +kernel
theorem d_MM_about_4 : decode b_MM_about 4 = .ok (.ifCond .eq 12, 3) := by decide +kernel
theorem d_MM_about_7 : decode b_MM_about 7 = .ok (.iload_n 1, 1) := by decide +kernel
theorem d_MM_about_8 : decode b_MM_about 8 = .ok (.ifCond .lt 8, 3) := by decide +kernel
theorem d_MM_about_11 : decode b_MM_about 11 = .ok (.iload_n 1, 1) := by decide +kernel
theorem d_MM_about_12 : decode b_MM_about 12 = .ok (.iconst 2, 1) := by decide +kernel
theorem d_MM_about_13 : decode b_MM_about 13 = .ok (.if_icmp .le 5, 3) := by decide +kernel
theorem d_MM_about_16 : decode b_MM_about 16 = .ok (.iconst (-1), 1) := by decide +kernel
theorem d_MM_about_17 : decode b_MM_about 17 = .ok (.ireturn, 1) := by decide +kernel
theorem d_MM_about_18 : decode b_MM_about 18 = .ok (.iload_n 1, 1) := by decide +kernel
theorem d_MM_about_19 : decode b_MM_about 19 = .ok (.ifCond .ne 8, 3) := by decide +kernel
theorem d_MM_about_22 : decode b_MM_about 22 = .ok (.aload_n 0, 1) := by decide +kernel
theorem d_MM_about_23 : decode b_MM_about 23 = .ok (.getfield 69, 3) := by decide +kernel
theorem d_MM_about_26 : decode b_MM_about 26 = .ok (.ireturn, 1) := by decide +kernel
theorem d_MM_about_27 : decode b_MM_about 27 = .ok (.iconst 0, 1) := by decide +kernel
theorem d_MM_about_28 : decode b_MM_about 28 = .ok (.istore_n 2, 1) := by decide +kernel
theorem d_MM_about_29 : decode b_MM_about 29 = .ok (.iload_n 1, 1) := by decide +kernel
theorem d_MM_about_30 : decode b_MM_about 30 = .ok (.iconst 1, 1) := by decide +kernel
theorem d_MM_about_31 : decode b_MM_about 31 = .ok (.if_icmp .ne 32, 3) := by decide +kernel
theorem d_MM_about_34 : decode b_MM_about 34 = .ok (.iconst 0, 1) := by decide +kernel
theorem d_MM_about_35 : decode b_MM_about 35 = .ok (.istore_n 3, 1) := by decide +kernel
theorem d_MM_about_36 : decode b_MM_about 36 = .ok (.iload_n 3, 1) := by decide +kernel
theorem d_MM_about_37 : decode b_MM_about 37 = .ok (.sipush 256, 3) := by decide +kernel
theorem d_MM_about_40 : decode b_MM_about 40 = .ok (.if_icmp .ge 21, 3) := by decide +kernel
theorem d_MM_about_43 : decode b_MM_about 43 = .ok (.aload_n 0, 1) := by decide +kernel
theorem d_MM_about_44 : decode b_MM_about 44 = .ok (.getfield 19, 3) := by decide +kernel
theorem d_MM_about_47 : decode b_MM_about 47 = .ok (.iload_n 3, 1) := by decide +kernel
theorem d_MM_about_48 : decode b_MM_about 48 = .ok (.iaload, 1) := by decide +kernel
theorem d_MM_about_49 : decode b_MM_about 49 = .ok (.ifCond .le 6, 3) := by decide +kernel
theorem d_MM_about_52 : decode b_MM_about 52 = .ok (.iinc 2 1, 3) := by decide +kernel
theorem d_MM_about_55 : decode b_MM_about 55 = .ok (.iinc 3 1, 3) := by decide +kernel
theorem d_MM_about_58 : decode b_MM_about 58 = .ok (.goto (-22), 3) := by decide +kernel
theorem d_MM_about_61 : decode b_MM_about 61 = .ok (.iload_n 2, 1) := by decide +kernel
theorem d_MM_about_62 : decode b_MM_about 62 = .ok (.ireturn, 1) := by decide +kernel
theorem d_MM_about_63 : decode b_MM_about 63 = .ok (.aload_n 0, 1) := by decide +kernel
theorem d_MM_about_64 : decode b_MM_about 64 = .ok (.getfield 65, 3) := by decide +kernel
theorem d_MM_about_67 : decode b_MM_about 67 = .ok (.istore_n 3, 1) := by decide +kernel
theorem d_MM_about_68 : decode b_MM_about 68 = .ok (.iload_n 3, 1) := by decide +kernel
theorem d_MM_about_69 : decode b_MM_about 69 = .ok (.aload_n 0, 1) := by decide +kernel
theorem d_MM_about_70 : decode b_MM_about 70 = .ok (.getfield 56, 3) := by decide +kernel
theorem d_MM_about_73 : decode b_MM_about 73 = .ok (.if_icmp .ge 39, 3) := by decide +kernel
theorem d_MM_about_76 : decode b_MM_about 76 = .ok (.aload_n 0, 1) := by decide +kernel
theorem d_MM_about_77 : decode b_MM_about 77 = .ok (.getfield 19, 3) := by decide +kernel
theorem d_MM_about_80 : decode b_MM_about 80 = .ok (.aload_n 0, 1) := by decide +kernel
theorem d_MM_about_81 : decode b_MM_about 81 = .ok (.getfield 7, 3) := by decide +kernel
theorem d_MM_about_84 : decode b_MM_about 84 = .ok (.iload_n 3, 1) := by decide +kernel
theorem d_MM_about_85 : decode b_MM_about 85 = .ok (.iaload, 1) := by decide +kernel
theorem d_MM_about_86 : decode b_MM_about 86 = .ok (.iaload, 1) := by decide +kernel
theorem d_MM_about_87 : decode b_MM_about 87 = .ok (.ifCond .ne 5, 3) := by decide +kernel
theorem d_MM_about_90 : decode b_MM_about 90 = .ok (.iconst (-1), 1) := by decide +kernel
theorem d_MM_about_91 : decode b_MM_about 91 = .ok (.ireturn, 1) := by decide +kernel
theorem d_MM_about_92 : decode b_MM_about 92 = .ok (.iload_n 2, 1) := by decide +kernel
theorem d_MM_about_93 : decode b_MM_about 93 = .ok (.aload_n 0, 1) := by decide +kernel
theorem d_MM_about_94 : decode b_MM_about 94 = .ok (.getfield 19, 3) := by decide +kernel
theorem d_MM_about_97 : decode b_MM_about 97 = .ok (.aload_n 0, 1) := by decide +kernel
theorem d_MM_about_98 : decode b_MM_about 98 = .ok (.getfield 7, 3) := by decide +kernel
theorem d_MM_about_101 : decode b_MM_about 101 = .ok (.iload_n 3, 1) := by decide +kernel
theorem d_MM_about_102 : decode b_MM_about 102 = .ok (.iaload, 1) := by decide +kernel
theorem d_MM_about_103 : decode b_MM_about 103 = .ok (.iaload, 1) := by decide +kernel
theorem d_MM_about_104 : decode b_MM_about 104 = .ok (.iadd, 1) := by decide +kernel
theorem d_MM_about_105 : decode b_MM_about 105 = .ok (.istore_n 2, 1) := by decide +kernel
theorem d_MM_about_106 : decode b_MM_about 106 = .ok (.iinc 3 1, 3) := by decide +kernel
theorem d_MM_about_109 : decode b_MM_about 109 = .ok (.goto (-41), 3) := by decide +kernel
theorem d_MM_about_112 : decode b_MM_about 112 = .ok (.iload_n 2, 1) := by decide +kernel
theorem d_MM_about_113 : decode b_MM_about 113 = .ok (.ireturn, 1) := by decide +kernel
def f_MM_about_b16 (N : Nat) (i_inLong : Int32) (i_goesOn : Int32) (i_greatest : Int32) (v_in : Nat → Int32) (v_length : Nat → Int32) (l1 : Int32)   : Option (Int32) :=
  some ((-1))
def f_MM_about_b55 (N : Nat) (i_inLong : Int32) (i_goesOn : Int32) (i_greatest : Int32) (v_in : Nat → Int32) (v_length : Nat → Int32) (l1 : Int32) (k36 : Int32 → Int32 → Option (Int32)) (l2 : Int32) (l3 : Int32) : Option (Int32) :=
  nm (l3 + 1) fun l3_1 =>
  k36 l2 l3_1
def f_MM_about_b61 (N : Nat) (i_inLong : Int32) (i_goesOn : Int32) (i_greatest : Int32) (v_in : Nat → Int32) (v_length : Nat → Int32) (l1 : Int32)  (l2 : Int32) : Option (Int32) :=
  some (l2)
def f_MM_about_b36 (N : Nat) (i_inLong : Int32) (i_goesOn : Int32) (i_greatest : Int32) (v_in : Nat → Int32) (v_length : Nat → Int32) (l1 : Int32)  : Nat → Int32 → Int32 → Option (Int32)
  | 0, _, _ => none
  | z + 1, l2, l3 =>
  if 256 ≤ l3 then
  f_MM_about_b61 N i_inLong i_goesOn i_greatest v_in v_length l1  l2
  else
  ck (inb l3 256) <|
  if (v_length (Int32.toNatClampNeg l3)) ≤ 0 then
  f_MM_about_b55 N i_inLong i_goesOn i_greatest v_in v_length l1 (f_MM_about_b36 N i_inLong i_goesOn i_greatest v_in v_length l1  z) l2 l3
  else
  nm (l2 + 1) fun l2_4 =>
  f_MM_about_b55 N i_inLong i_goesOn i_greatest v_in v_length l1 (f_MM_about_b36 N i_inLong i_goesOn i_greatest v_in v_length l1  z) l2_4 l3
def f_MM_about_b90 (N : Nat) (i_inLong : Int32) (i_goesOn : Int32) (i_greatest : Int32) (v_in : Nat → Int32) (v_length : Nat → Int32) (l1 : Int32)   : Option (Int32) :=
  some ((-1))
def f_MM_about_b112 (N : Nat) (i_inLong : Int32) (i_goesOn : Int32) (i_greatest : Int32) (v_in : Nat → Int32) (v_length : Nat → Int32) (l1 : Int32)  (l2 : Int32) : Option (Int32) :=
  some (l2)
def f_MM_about_b68 (N : Nat) (i_inLong : Int32) (i_goesOn : Int32) (i_greatest : Int32) (v_in : Nat → Int32) (v_length : Nat → Int32) (l1 : Int32)  : Nat → Int32 → Int32 → Option (Int32)
  | 0, _, _ => none
  | z + 1, l2, l3 =>
  if i_inLong ≤ l3 then
  f_MM_about_b112 N i_inLong i_goesOn i_greatest v_in v_length l1  l2
  else
  ck (inb l3 6000) <|
  ck (inb (v_in (Int32.toNatClampNeg l3)) 256) <|
  if (v_length (Int32.toNatClampNeg (v_in (Int32.toNatClampNeg l3)))) = 0 then
  f_MM_about_b90 N i_inLong i_goesOn i_greatest v_in v_length l1  
  else
  ck (inb l3 6000) <|
  ck (inb (v_in (Int32.toNatClampNeg l3)) 256) <|
  nm (l2 + (v_length (Int32.toNatClampNeg (v_in (Int32.toNatClampNeg l3))))) fun l2_7 =>
  nm (l3 + 1) fun l3_8 =>
  f_MM_about_b68 N i_inLong i_goesOn i_greatest v_in v_length l1  z l2_7 l3_8
def f_MM_about (N : Nat) (i_inLong : Int32) (i_goesOn : Int32) (i_greatest : Int32) (v_in : Nat → Int32) (v_length : Nat → Int32) (l1 : Int32)   : Option (Int32) :=
  if i_greatest = 0 then
  f_MM_about_b16 N i_inLong i_goesOn i_greatest v_in v_length l1  
  else
  if l1 < 0 then
  f_MM_about_b16 N i_inLong i_goesOn i_greatest v_in v_length l1  
  else
  if l1 ≤ 2 then
  if l1 = 0 then
  some (i_greatest)
  else
  if l1 = 1 then
  f_MM_about_b36 N i_inLong i_goesOn i_greatest v_in v_length l1  N 0 0
  else
  f_MM_about_b68 N i_inLong i_goesOn i_greatest v_in v_length l1  N 0 i_goesOn
  else
  f_MM_about_b16 N i_inLong i_goesOn i_greatest v_in v_length l1  
abbrev R_MM_about : Room := ({ frames := 0, cells := 0, slots := 0, locals := 0 } : Room)
def E_MM_about (p : Program) (l : Launch) (e : Env) (s : State) (m : MethodId) (args : Array Value) (below : List Frame) (meth : Method) (c : Code) (Q : State → Prop) (A : Nat → Prop) (D : va_G) (cI cL cZ : ClassId) (a_this : Nat) (a_in : Nat) (a_length : Nat) (o_out : Nat) (o_counts : Nat) (o_symbolOf : Nat) (o_draft : Nat) (o_knot : Nat) (o_inSum : Nat) (o_halved : Nat) (o_made : Nat) (o_weight : Nat) (o_points : Nat) (o_cutOff : Nat) (o_had : Nat) (o_placeOf : Nat) (i_inLong : Int32) (i_goesOn : Int32) (i_outLong : Int32) (i_greatest : Int32) (i_knots : Int32) (i_bitsMade : Int32) (i_weights : Int32) (i_order : Int32) (i_bit : Int32) (i_bitEnd : Int32) (v_in : Nat → Int32) (v_length : Nat → Int32) (l1 : Int32) (res : Int32) : Prop := ∀ (pc : Nat) (H : Heap) (locs : List Loc) (ls : Array Slot) (rv : Int32), some (rv) = some res → decode b_MM_about pc = .ok (.ireturn, 1) → va_P D classes [(a_this, .inr (1, [.ref a_in, .int i_inLong, .int i_goesOn, .ref o_out, .int i_outLong, .ref o_counts, .int i_greatest, .ref a_length, .ref o_symbolOf, .ref o_draft, .ref o_knot, .ref o_inSum, .int i_knots, .ref o_halved, .ref o_made, .int i_bitsMade, .ref o_weight, .int i_weights, .int i_order, .ref o_points, .ref o_cutOff, .ref o_had, .ref o_placeOf, .int i_bit, .int i_bitEnd])), (a_in, .inl (cI, 6000, .inl v_in)), (a_length, .inl (cI, 256, .inl v_length))] H → va_D A [(a_this, .inr (1, [.ref a_in, .int i_inLong, .int i_goesOn, .ref o_out, .int i_outLong, .ref o_counts, .int i_greatest, .ref a_length, .ref o_symbolOf, .ref o_draft, .ref o_knot, .ref o_inSum, .int i_knots, .ref o_halved, .ref o_made, .int i_bitsMade, .ref o_weight, .int i_weights, .int i_order, .ref o_points, .ref o_cutOff, .ref o_had, .ref o_placeOf, .int i_bit, .int i_bitEnd])), (a_in, .inl (cI, 6000, .inl v_in)), (a_length, .inl (cI, 256, .inl v_length))] → va_S A s.heap H locs → W p l e R_MM_about s m args below meth c H locs 0 0 Q (F0 m pc ls [.int rv])
def I_MM_about_b16 (p : Program) (l : Launch) (e : Env) (s : State) (m : MethodId) (args : Array Value) (below : List Frame) (meth : Method) (c : Code) (Q : State → Prop) (A : Nat → Prop) (D : va_G) (cI cL cZ : ClassId) (a_this : Nat) (a_in : Nat) (a_length : Nat) (o_out : Nat) (o_counts : Nat) (o_symbolOf : Nat) (o_draft : Nat) (o_knot : Nat) (o_inSum : Nat) (o_halved : Nat) (o_made : Nat) (o_weight : Nat) (o_points : Nat) (o_cutOff : Nat) (o_had : Nat) (o_placeOf : Nat) (i_inLong : Int32) (i_goesOn : Int32) (i_outLong : Int32) (i_greatest : Int32) (i_knots : Int32) (i_bitsMade : Int32) (i_weights : Int32) (i_order : Int32) (i_bit : Int32) (i_bitEnd : Int32) (v_in : Nat → Int32) (v_length : Nat → Int32) (l1 : Int32) (res : Int32) (kf : Option (Int32)) : Prop := ∀ (_ : Unit), kf  = some res → ∀ (H : Heap) (locs : List Loc) (ls : Array Slot), lv_has ls 4 [] → va_P D classes [(a_this, .inr (1, [.ref a_in, .int i_inLong, .int i_goesOn, .ref o_out, .int i_outLong, .ref o_counts, .int i_greatest, .ref a_length, .ref o_symbolOf, .ref o_draft, .ref o_knot, .ref o_inSum, .int i_knots, .ref o_halved, .ref o_made, .int i_bitsMade, .ref o_weight, .int i_weights, .int i_order, .ref o_points, .ref o_cutOff, .ref o_had, .ref o_placeOf, .int i_bit, .int i_bitEnd])), (a_in, .inl (cI, 6000, .inl v_in)), (a_length, .inl (cI, 256, .inl v_length))] H → va_D A [(a_this, .inr (1, [.ref a_in, .int i_inLong, .int i_goesOn, .ref o_out, .int i_outLong, .ref o_counts, .int i_greatest, .ref a_length, .ref o_symbolOf, .ref o_draft, .ref o_knot, .ref o_inSum, .int i_knots, .ref o_halved, .ref o_made, .int i_bitsMade, .ref o_weight, .int i_weights, .int i_order, .ref o_points, .ref o_cutOff, .ref o_had, .ref o_placeOf, .int i_bit, .int i_bitEnd])), (a_in, .inl (cI, 6000, .inl v_in)), (a_length, .inl (cI, 256, .inl v_length))] → va_S A s.heap H locs → W p l e R_MM_about s m args below meth c H locs 0 0 Q (F0 m 16 ls [])
def I_MM_about_b55 (p : Program) (l : Launch) (e : Env) (s : State) (m : MethodId) (args : Array Value) (below : List Frame) (meth : Method) (c : Code) (Q : State → Prop) (A : Nat → Prop) (D : va_G) (cI cL cZ : ClassId) (a_this : Nat) (a_in : Nat) (a_length : Nat) (o_out : Nat) (o_counts : Nat) (o_symbolOf : Nat) (o_draft : Nat) (o_knot : Nat) (o_inSum : Nat) (o_halved : Nat) (o_made : Nat) (o_weight : Nat) (o_points : Nat) (o_cutOff : Nat) (o_had : Nat) (o_placeOf : Nat) (i_inLong : Int32) (i_goesOn : Int32) (i_outLong : Int32) (i_greatest : Int32) (i_knots : Int32) (i_bitsMade : Int32) (i_weights : Int32) (i_order : Int32) (i_bit : Int32) (i_bitEnd : Int32) (v_in : Nat → Int32) (v_length : Nat → Int32) (l1 : Int32) (res : Int32) (kf : Int32 → Int32 → Option (Int32)) : Prop := ∀ (l2 : Int32) (l3 : Int32), kf l2 l3 = some res → ∀ (H : Heap) (locs : List Loc) (ls : Array Slot), lv_has ls 4 [(0, .ref a_this), (2, .int l2), (3, .int l3)] → va_P D classes [(a_this, .inr (1, [.ref a_in, .int i_inLong, .int i_goesOn, .ref o_out, .int i_outLong, .ref o_counts, .int i_greatest, .ref a_length, .ref o_symbolOf, .ref o_draft, .ref o_knot, .ref o_inSum, .int i_knots, .ref o_halved, .ref o_made, .int i_bitsMade, .ref o_weight, .int i_weights, .int i_order, .ref o_points, .ref o_cutOff, .ref o_had, .ref o_placeOf, .int i_bit, .int i_bitEnd])), (a_in, .inl (cI, 6000, .inl v_in)), (a_length, .inl (cI, 256, .inl v_length))] H → va_D A [(a_this, .inr (1, [.ref a_in, .int i_inLong, .int i_goesOn, .ref o_out, .int i_outLong, .ref o_counts, .int i_greatest, .ref a_length, .ref o_symbolOf, .ref o_draft, .ref o_knot, .ref o_inSum, .int i_knots, .ref o_halved, .ref o_made, .int i_bitsMade, .ref o_weight, .int i_weights, .int i_order, .ref o_points, .ref o_cutOff, .ref o_had, .ref o_placeOf, .int i_bit, .int i_bitEnd])), (a_in, .inl (cI, 6000, .inl v_in)), (a_length, .inl (cI, 256, .inl v_length))] → va_S A s.heap H locs → W p l e R_MM_about s m args below meth c H locs 0 0 Q (F0 m 55 ls [])
def I_MM_about_b61 (p : Program) (l : Launch) (e : Env) (s : State) (m : MethodId) (args : Array Value) (below : List Frame) (meth : Method) (c : Code) (Q : State → Prop) (A : Nat → Prop) (D : va_G) (cI cL cZ : ClassId) (a_this : Nat) (a_in : Nat) (a_length : Nat) (o_out : Nat) (o_counts : Nat) (o_symbolOf : Nat) (o_draft : Nat) (o_knot : Nat) (o_inSum : Nat) (o_halved : Nat) (o_made : Nat) (o_weight : Nat) (o_points : Nat) (o_cutOff : Nat) (o_had : Nat) (o_placeOf : Nat) (i_inLong : Int32) (i_goesOn : Int32) (i_outLong : Int32) (i_greatest : Int32) (i_knots : Int32) (i_bitsMade : Int32) (i_weights : Int32) (i_order : Int32) (i_bit : Int32) (i_bitEnd : Int32) (v_in : Nat → Int32) (v_length : Nat → Int32) (l1 : Int32) (res : Int32) (kf : Int32 → Option (Int32)) : Prop := ∀ (l2 : Int32), kf l2 = some res → ∀ (H : Heap) (locs : List Loc) (ls : Array Slot), lv_has ls 4 [(2, .int l2)] → va_P D classes [(a_this, .inr (1, [.ref a_in, .int i_inLong, .int i_goesOn, .ref o_out, .int i_outLong, .ref o_counts, .int i_greatest, .ref a_length, .ref o_symbolOf, .ref o_draft, .ref o_knot, .ref o_inSum, .int i_knots, .ref o_halved, .ref o_made, .int i_bitsMade, .ref o_weight, .int i_weights, .int i_order, .ref o_points, .ref o_cutOff, .ref o_had, .ref o_placeOf, .int i_bit, .int i_bitEnd])), (a_in, .inl (cI, 6000, .inl v_in)), (a_length, .inl (cI, 256, .inl v_length))] H → va_D A [(a_this, .inr (1, [.ref a_in, .int i_inLong, .int i_goesOn, .ref o_out, .int i_outLong, .ref o_counts, .int i_greatest, .ref a_length, .ref o_symbolOf, .ref o_draft, .ref o_knot, .ref o_inSum, .int i_knots, .ref o_halved, .ref o_made, .int i_bitsMade, .ref o_weight, .int i_weights, .int i_order, .ref o_points, .ref o_cutOff, .ref o_had, .ref o_placeOf, .int i_bit, .int i_bitEnd])), (a_in, .inl (cI, 6000, .inl v_in)), (a_length, .inl (cI, 256, .inl v_length))] → va_S A s.heap H locs → W p l e R_MM_about s m args below meth c H locs 0 0 Q (F0 m 61 ls [])
def I_MM_about_b36 (p : Program) (l : Launch) (e : Env) (s : State) (m : MethodId) (args : Array Value) (below : List Frame) (meth : Method) (c : Code) (Q : State → Prop) (A : Nat → Prop) (D : va_G) (cI cL cZ : ClassId) (a_this : Nat) (a_in : Nat) (a_length : Nat) (o_out : Nat) (o_counts : Nat) (o_symbolOf : Nat) (o_draft : Nat) (o_knot : Nat) (o_inSum : Nat) (o_halved : Nat) (o_made : Nat) (o_weight : Nat) (o_points : Nat) (o_cutOff : Nat) (o_had : Nat) (o_placeOf : Nat) (i_inLong : Int32) (i_goesOn : Int32) (i_outLong : Int32) (i_greatest : Int32) (i_knots : Int32) (i_bitsMade : Int32) (i_weights : Int32) (i_order : Int32) (i_bit : Int32) (i_bitEnd : Int32) (v_in : Nat → Int32) (v_length : Nat → Int32) (l1 : Int32) (res : Int32) (kf : Int32 → Int32 → Option (Int32)) : Prop := ∀ (l2 : Int32) (l3 : Int32), kf l2 l3 = some res → ∀ (H : Heap) (locs : List Loc) (ls : Array Slot), lv_has ls 4 [(0, .ref a_this), (2, .int l2), (3, .int l3)] → va_P D classes [(a_this, .inr (1, [.ref a_in, .int i_inLong, .int i_goesOn, .ref o_out, .int i_outLong, .ref o_counts, .int i_greatest, .ref a_length, .ref o_symbolOf, .ref o_draft, .ref o_knot, .ref o_inSum, .int i_knots, .ref o_halved, .ref o_made, .int i_bitsMade, .ref o_weight, .int i_weights, .int i_order, .ref o_points, .ref o_cutOff, .ref o_had, .ref o_placeOf, .int i_bit, .int i_bitEnd])), (a_in, .inl (cI, 6000, .inl v_in)), (a_length, .inl (cI, 256, .inl v_length))] H → va_D A [(a_this, .inr (1, [.ref a_in, .int i_inLong, .int i_goesOn, .ref o_out, .int i_outLong, .ref o_counts, .int i_greatest, .ref a_length, .ref o_symbolOf, .ref o_draft, .ref o_knot, .ref o_inSum, .int i_knots, .ref o_halved, .ref o_made, .int i_bitsMade, .ref o_weight, .int i_weights, .int i_order, .ref o_points, .ref o_cutOff, .ref o_had, .ref o_placeOf, .int i_bit, .int i_bitEnd])), (a_in, .inl (cI, 6000, .inl v_in)), (a_length, .inl (cI, 256, .inl v_length))] → va_S A s.heap H locs → W p l e R_MM_about s m args below meth c H locs 0 0 Q (F0 m 36 ls [])
def I_MM_about_b90 (p : Program) (l : Launch) (e : Env) (s : State) (m : MethodId) (args : Array Value) (below : List Frame) (meth : Method) (c : Code) (Q : State → Prop) (A : Nat → Prop) (D : va_G) (cI cL cZ : ClassId) (a_this : Nat) (a_in : Nat) (a_length : Nat) (o_out : Nat) (o_counts : Nat) (o_symbolOf : Nat) (o_draft : Nat) (o_knot : Nat) (o_inSum : Nat) (o_halved : Nat) (o_made : Nat) (o_weight : Nat) (o_points : Nat) (o_cutOff : Nat) (o_had : Nat) (o_placeOf : Nat) (i_inLong : Int32) (i_goesOn : Int32) (i_outLong : Int32) (i_greatest : Int32) (i_knots : Int32) (i_bitsMade : Int32) (i_weights : Int32) (i_order : Int32) (i_bit : Int32) (i_bitEnd : Int32) (v_in : Nat → Int32) (v_length : Nat → Int32) (l1 : Int32) (res : Int32) (kf : Option (Int32)) : Prop := ∀ (_ : Unit), kf  = some res → ∀ (H : Heap) (locs : List Loc) (ls : Array Slot), lv_has ls 4 [] → va_P D classes [(a_this, .inr (1, [.ref a_in, .int i_inLong, .int i_goesOn, .ref o_out, .int i_outLong, .ref o_counts, .int i_greatest, .ref a_length, .ref o_symbolOf, .ref o_draft, .ref o_knot, .ref o_inSum, .int i_knots, .ref o_halved, .ref o_made, .int i_bitsMade, .ref o_weight, .int i_weights, .int i_order, .ref o_points, .ref o_cutOff, .ref o_had, .ref o_placeOf, .int i_bit, .int i_bitEnd])), (a_in, .inl (cI, 6000, .inl v_in)), (a_length, .inl (cI, 256, .inl v_length))] H → va_D A [(a_this, .inr (1, [.ref a_in, .int i_inLong, .int i_goesOn, .ref o_out, .int i_outLong, .ref o_counts, .int i_greatest, .ref a_length, .ref o_symbolOf, .ref o_draft, .ref o_knot, .ref o_inSum, .int i_knots, .ref o_halved, .ref o_made, .int i_bitsMade, .ref o_weight, .int i_weights, .int i_order, .ref o_points, .ref o_cutOff, .ref o_had, .ref o_placeOf, .int i_bit, .int i_bitEnd])), (a_in, .inl (cI, 6000, .inl v_in)), (a_length, .inl (cI, 256, .inl v_length))] → va_S A s.heap H locs → W p l e R_MM_about s m args below meth c H locs 0 0 Q (F0 m 90 ls [])
def I_MM_about_b112 (p : Program) (l : Launch) (e : Env) (s : State) (m : MethodId) (args : Array Value) (below : List Frame) (meth : Method) (c : Code) (Q : State → Prop) (A : Nat → Prop) (D : va_G) (cI cL cZ : ClassId) (a_this : Nat) (a_in : Nat) (a_length : Nat) (o_out : Nat) (o_counts : Nat) (o_symbolOf : Nat) (o_draft : Nat) (o_knot : Nat) (o_inSum : Nat) (o_halved : Nat) (o_made : Nat) (o_weight : Nat) (o_points : Nat) (o_cutOff : Nat) (o_had : Nat) (o_placeOf : Nat) (i_inLong : Int32) (i_goesOn : Int32) (i_outLong : Int32) (i_greatest : Int32) (i_knots : Int32) (i_bitsMade : Int32) (i_weights : Int32) (i_order : Int32) (i_bit : Int32) (i_bitEnd : Int32) (v_in : Nat → Int32) (v_length : Nat → Int32) (l1 : Int32) (res : Int32) (kf : Int32 → Option (Int32)) : Prop := ∀ (l2 : Int32), kf l2 = some res → ∀ (H : Heap) (locs : List Loc) (ls : Array Slot), lv_has ls 4 [(2, .int l2)] → va_P D classes [(a_this, .inr (1, [.ref a_in, .int i_inLong, .int i_goesOn, .ref o_out, .int i_outLong, .ref o_counts, .int i_greatest, .ref a_length, .ref o_symbolOf, .ref o_draft, .ref o_knot, .ref o_inSum, .int i_knots, .ref o_halved, .ref o_made, .int i_bitsMade, .ref o_weight, .int i_weights, .int i_order, .ref o_points, .ref o_cutOff, .ref o_had, .ref o_placeOf, .int i_bit, .int i_bitEnd])), (a_in, .inl (cI, 6000, .inl v_in)), (a_length, .inl (cI, 256, .inl v_length))] H → va_D A [(a_this, .inr (1, [.ref a_in, .int i_inLong, .int i_goesOn, .ref o_out, .int i_outLong, .ref o_counts, .int i_greatest, .ref a_length, .ref o_symbolOf, .ref o_draft, .ref o_knot, .ref o_inSum, .int i_knots, .ref o_halved, .ref o_made, .int i_bitsMade, .ref o_weight, .int i_weights, .int i_order, .ref o_points, .ref o_cutOff, .ref o_had, .ref o_placeOf, .int i_bit, .int i_bitEnd])), (a_in, .inl (cI, 6000, .inl v_in)), (a_length, .inl (cI, 256, .inl v_length))] → va_S A s.heap H locs → W p l e R_MM_about s m args below meth c H locs 0 0 Q (F0 m 112 ls [])
def I_MM_about_b68 (p : Program) (l : Launch) (e : Env) (s : State) (m : MethodId) (args : Array Value) (below : List Frame) (meth : Method) (c : Code) (Q : State → Prop) (A : Nat → Prop) (D : va_G) (cI cL cZ : ClassId) (a_this : Nat) (a_in : Nat) (a_length : Nat) (o_out : Nat) (o_counts : Nat) (o_symbolOf : Nat) (o_draft : Nat) (o_knot : Nat) (o_inSum : Nat) (o_halved : Nat) (o_made : Nat) (o_weight : Nat) (o_points : Nat) (o_cutOff : Nat) (o_had : Nat) (o_placeOf : Nat) (i_inLong : Int32) (i_goesOn : Int32) (i_outLong : Int32) (i_greatest : Int32) (i_knots : Int32) (i_bitsMade : Int32) (i_weights : Int32) (i_order : Int32) (i_bit : Int32) (i_bitEnd : Int32) (v_in : Nat → Int32) (v_length : Nat → Int32) (l1 : Int32) (res : Int32) (kf : Int32 → Int32 → Option (Int32)) : Prop := ∀ (l2 : Int32) (l3 : Int32), kf l2 l3 = some res → ∀ (H : Heap) (locs : List Loc) (ls : Array Slot), lv_has ls 4 [(0, .ref a_this), (2, .int l2), (3, .int l3)] → va_P D classes [(a_this, .inr (1, [.ref a_in, .int i_inLong, .int i_goesOn, .ref o_out, .int i_outLong, .ref o_counts, .int i_greatest, .ref a_length, .ref o_symbolOf, .ref o_draft, .ref o_knot, .ref o_inSum, .int i_knots, .ref o_halved, .ref o_made, .int i_bitsMade, .ref o_weight, .int i_weights, .int i_order, .ref o_points, .ref o_cutOff, .ref o_had, .ref o_placeOf, .int i_bit, .int i_bitEnd])), (a_in, .inl (cI, 6000, .inl v_in)), (a_length, .inl (cI, 256, .inl v_length))] H → va_D A [(a_this, .inr (1, [.ref a_in, .int i_inLong, .int i_goesOn, .ref o_out, .int i_outLong, .ref o_counts, .int i_greatest, .ref a_length, .ref o_symbolOf, .ref o_draft, .ref o_knot, .ref o_inSum, .int i_knots, .ref o_halved, .ref o_made, .int i_bitsMade, .ref o_weight, .int i_weights, .int i_order, .ref o_points, .ref o_cutOff, .ref o_had, .ref o_placeOf, .int i_bit, .int i_bitEnd])), (a_in, .inl (cI, 6000, .inl v_in)), (a_length, .inl (cI, 256, .inl v_length))] → va_S A s.heap H locs → W p l e R_MM_about s m args below meth c H locs 0 0 Q (F0 m 68 ls [])
def I_MM_about_b0 (p : Program) (l : Launch) (e : Env) (s : State) (m : MethodId) (args : Array Value) (below : List Frame) (meth : Method) (c : Code) (Q : State → Prop) (A : Nat → Prop) (D : va_G) (cI cL cZ : ClassId) (a_this : Nat) (a_in : Nat) (a_length : Nat) (o_out : Nat) (o_counts : Nat) (o_symbolOf : Nat) (o_draft : Nat) (o_knot : Nat) (o_inSum : Nat) (o_halved : Nat) (o_made : Nat) (o_weight : Nat) (o_points : Nat) (o_cutOff : Nat) (o_had : Nat) (o_placeOf : Nat) (i_inLong : Int32) (i_goesOn : Int32) (i_outLong : Int32) (i_greatest : Int32) (i_knots : Int32) (i_bitsMade : Int32) (i_weights : Int32) (i_order : Int32) (i_bit : Int32) (i_bitEnd : Int32) (v_in : Nat → Int32) (v_length : Nat → Int32) (l1 : Int32) (res : Int32) (kf : Option (Int32)) : Prop := ∀ (_ : Unit), kf  = some res → ∀ (H : Heap) (locs : List Loc) (ls : Array Slot), lv_has ls 4 [(0, .ref a_this), (1, .int l1)] → va_P D classes [(a_this, .inr (1, [.ref a_in, .int i_inLong, .int i_goesOn, .ref o_out, .int i_outLong, .ref o_counts, .int i_greatest, .ref a_length, .ref o_symbolOf, .ref o_draft, .ref o_knot, .ref o_inSum, .int i_knots, .ref o_halved, .ref o_made, .int i_bitsMade, .ref o_weight, .int i_weights, .int i_order, .ref o_points, .ref o_cutOff, .ref o_had, .ref o_placeOf, .int i_bit, .int i_bitEnd])), (a_in, .inl (cI, 6000, .inl v_in)), (a_length, .inl (cI, 256, .inl v_length))] H → va_D A [(a_this, .inr (1, [.ref a_in, .int i_inLong, .int i_goesOn, .ref o_out, .int i_outLong, .ref o_counts, .int i_greatest, .ref a_length, .ref o_symbolOf, .ref o_draft, .ref o_knot, .ref o_inSum, .int i_knots, .ref o_halved, .ref o_made, .int i_bitsMade, .ref o_weight, .int i_weights, .int i_order, .ref o_points, .ref o_cutOff, .ref o_had, .ref o_placeOf, .int i_bit, .int i_bitEnd])), (a_in, .inl (cI, 6000, .inl v_in)), (a_length, .inl (cI, 256, .inl v_length))] → va_S A s.heap H locs → W p l e R_MM_about s m args below meth c H locs 0 0 Q (F0 m 0 ls [])
set_option maxHeartbeats 4000000 in
set_option maxRecDepth 100000 in
theorem w_MM_about_b16 {p : Program} {l : Launch} {e : Env} {s : State} {m : MethodId} {args : Array Value} {below : List Frame} {meth : Method} {c : Code} {Q : State → Prop} {A : Nat → Prop} {D : va_G} {cI cL cZ : ClassId} {a_this : Nat} {a_in : Nat} {a_length : Nat} {o_out : Nat} {o_counts : Nat} {o_symbolOf : Nat} {o_draft : Nat} {o_knot : Nat} {o_inSum : Nat} {o_halved : Nat} {o_made : Nat} {o_weight : Nat} {o_points : Nat} {o_cutOff : Nat} {o_had : Nat} {o_placeOf : Nat} {i_inLong : Int32} {i_goesOn : Int32} {i_outLong : Int32} {i_greatest : Int32} {i_knots : Int32} {i_bitsMade : Int32} {i_weights : Int32} {i_order : Int32} {i_bit : Int32} {i_bitEnd : Int32} {v_in : Nat → Int32} {v_length : Nat → Int32} {l1 : Int32} {N : Nat} {res : Int32}  (C : Cx p s m args c b_MM_about 4 "PrefixMillModel" D [(cI, .int), (cL, .long), (cZ, .boolean)] A) (hret : E_MM_about p l e s m args below meth c Q A D cI cL cZ a_this a_in a_length o_out o_counts o_symbolOf o_draft o_knot o_inSum o_halved o_made o_weight o_points o_cutOff o_had o_placeOf i_inLong i_goesOn i_outLong i_greatest i_knots i_bitsMade i_weights i_order i_bit i_bitEnd v_in v_length l1 res)  : I_MM_about_b16 p l e s m args below meth c Q A D cI cL cZ a_this a_in a_length o_out o_counts o_symbolOf o_draft o_knot o_inSum o_halved o_made o_weight o_points o_cutOff o_had o_placeOf i_inLong i_goesOn i_outLong i_greatest i_knots i_bitsMade i_weights i_order i_bit i_bitEnd v_in v_length l1 res (f_MM_about_b16 N i_inLong i_goesOn i_greatest v_in v_length l1 ) := by
  obtain ⟨hx, hb, hml, hown, hts, hK, hA⟩ := C
  intro _ h H locs ls hl hP hD hS
  unfold f_MM_about_b16 at h
  refine lv_iconst (v := (-1)) hx hb d_MM_about_16 (by decide) ?_
  exact hret _ _ _ _ (-1)  h d_MM_about_17 hP hD hS
set_option maxHeartbeats 4000000 in
set_option maxRecDepth 100000 in
theorem w_MM_about_b55 {p : Program} {l : Launch} {e : Env} {s : State} {m : MethodId} {args : Array Value} {below : List Frame} {meth : Method} {c : Code} {Q : State → Prop} {A : Nat → Prop} {D : va_G} {cI cL cZ : ClassId} {a_this : Nat} {a_in : Nat} {a_length : Nat} {o_out : Nat} {o_counts : Nat} {o_symbolOf : Nat} {o_draft : Nat} {o_knot : Nat} {o_inSum : Nat} {o_halved : Nat} {o_made : Nat} {o_weight : Nat} {o_points : Nat} {o_cutOff : Nat} {o_had : Nat} {o_placeOf : Nat} {i_inLong : Int32} {i_goesOn : Int32} {i_outLong : Int32} {i_greatest : Int32} {i_knots : Int32} {i_bitsMade : Int32} {i_weights : Int32} {i_order : Int32} {i_bit : Int32} {i_bitEnd : Int32} {v_in : Nat → Int32} {v_length : Nat → Int32} {l1 : Int32} {N : Nat} {res : Int32} {k36 : Int32 → Int32 → Option (Int32)} (C : Cx p s m args c b_MM_about 4 "PrefixMillModel" D [(cI, .int), (cL, .long), (cZ, .boolean)] A) (hret : E_MM_about p l e s m args below meth c Q A D cI cL cZ a_this a_in a_length o_out o_counts o_symbolOf o_draft o_knot o_inSum o_halved o_made o_weight o_points o_cutOff o_had o_placeOf i_inLong i_goesOn i_outLong i_greatest i_knots i_bitsMade i_weights i_order i_bit i_bitEnd v_in v_length l1 res) (hk36 : I_MM_about_b36 p l e s m args below meth c Q A D cI cL cZ a_this a_in a_length o_out o_counts o_symbolOf o_draft o_knot o_inSum o_halved o_made o_weight o_points o_cutOff o_had o_placeOf i_inLong i_goesOn i_outLong i_greatest i_knots i_bitsMade i_weights i_order i_bit i_bitEnd v_in v_length l1 res k36) : I_MM_about_b55 p l e s m args below meth c Q A D cI cL cZ a_this a_in a_length o_out o_counts o_symbolOf o_draft o_knot o_inSum o_halved o_made o_weight o_points o_cutOff o_had o_placeOf i_inLong i_goesOn i_outLong i_greatest i_knots i_bitsMade i_weights i_order i_bit i_bitEnd v_in v_length l1 res (f_MM_about_b55 N i_inLong i_goesOn i_greatest v_in v_length l1 k36) := by
  obtain ⟨hx, hb, hml, hown, hts, hK, hA⟩ := C
  intro l2 l3 h H locs ls hl hP hD hS
  unfold f_MM_about_b55 at h
  obtain ⟨l3_1, el3_1⟩ : ∃ y : Int32, y = l3 + 1 := ⟨_, rfl⟩
  replace h := nm_s h el3_1
  refine lv_iinc (v := l3_1) (lv' := [(3, .int l3_1), (0, .ref a_this), (2, .int l2)]) hx hb d_MM_about_55 hl (k := 2) rfl (by rw [el3_1]; rfl) (by decide) rfl (fun ls hl => ?_)
  refine lv_goto (tgt := 36) hx hb d_MM_about_58 (by decide) ?_
  exact hk36 _ _ h H locs ls (lv_sub hl [1, 2, 0] rfl) hP hD hS
set_option maxHeartbeats 4000000 in
set_option maxRecDepth 100000 in
theorem w_MM_about_b61 {p : Program} {l : Launch} {e : Env} {s : State} {m : MethodId} {args : Array Value} {below : List Frame} {meth : Method} {c : Code} {Q : State → Prop} {A : Nat → Prop} {D : va_G} {cI cL cZ : ClassId} {a_this : Nat} {a_in : Nat} {a_length : Nat} {o_out : Nat} {o_counts : Nat} {o_symbolOf : Nat} {o_draft : Nat} {o_knot : Nat} {o_inSum : Nat} {o_halved : Nat} {o_made : Nat} {o_weight : Nat} {o_points : Nat} {o_cutOff : Nat} {o_had : Nat} {o_placeOf : Nat} {i_inLong : Int32} {i_goesOn : Int32} {i_outLong : Int32} {i_greatest : Int32} {i_knots : Int32} {i_bitsMade : Int32} {i_weights : Int32} {i_order : Int32} {i_bit : Int32} {i_bitEnd : Int32} {v_in : Nat → Int32} {v_length : Nat → Int32} {l1 : Int32} {N : Nat} {res : Int32}  (C : Cx p s m args c b_MM_about 4 "PrefixMillModel" D [(cI, .int), (cL, .long), (cZ, .boolean)] A) (hret : E_MM_about p l e s m args below meth c Q A D cI cL cZ a_this a_in a_length o_out o_counts o_symbolOf o_draft o_knot o_inSum o_halved o_made o_weight o_points o_cutOff o_had o_placeOf i_inLong i_goesOn i_outLong i_greatest i_knots i_bitsMade i_weights i_order i_bit i_bitEnd v_in v_length l1 res)  : I_MM_about_b61 p l e s m args below meth c Q A D cI cL cZ a_this a_in a_length o_out o_counts o_symbolOf o_draft o_knot o_inSum o_halved o_made o_weight o_points o_cutOff o_had o_placeOf i_inLong i_goesOn i_outLong i_greatest i_knots i_bitsMade i_weights i_order i_bit i_bitEnd v_in v_length l1 res (f_MM_about_b61 N i_inLong i_goesOn i_greatest v_in v_length l1 ) := by
  obtain ⟨hx, hb, hml, hown, hts, hK, hA⟩ := C
  intro l2 h H locs ls hl hP hD hS
  unfold f_MM_about_b61 at h
  refine lv_iload_n hx hb d_MM_about_61 rfl (lv_at hl 0 rfl) ?_
  exact hret _ _ _ _ l2  h d_MM_about_62 hP hD hS
set_option maxHeartbeats 4000000 in
set_option maxRecDepth 100000 in
theorem w_MM_about_b36 {p : Program} {l : Launch} {e : Env} {s : State} {m : MethodId} {args : Array Value} {below : List Frame} {meth : Method} {c : Code} {Q : State → Prop} {A : Nat → Prop} {D : va_G} {cI cL cZ : ClassId} {a_this : Nat} {a_in : Nat} {a_length : Nat} {o_out : Nat} {o_counts : Nat} {o_symbolOf : Nat} {o_draft : Nat} {o_knot : Nat} {o_inSum : Nat} {o_halved : Nat} {o_made : Nat} {o_weight : Nat} {o_points : Nat} {o_cutOff : Nat} {o_had : Nat} {o_placeOf : Nat} {i_inLong : Int32} {i_goesOn : Int32} {i_outLong : Int32} {i_greatest : Int32} {i_knots : Int32} {i_bitsMade : Int32} {i_weights : Int32} {i_order : Int32} {i_bit : Int32} {i_bitEnd : Int32} {v_in : Nat → Int32} {v_length : Nat → Int32} {l1 : Int32} {N : Nat} {res : Int32}  (C : Cx p s m args c b_MM_about 4 "PrefixMillModel" D [(cI, .int), (cL, .long), (cZ, .boolean)] A) (hret : E_MM_about p l e s m args below meth c Q A D cI cL cZ a_this a_in a_length o_out o_counts o_symbolOf o_draft o_knot o_inSum o_halved o_made o_weight o_points o_cutOff o_had o_placeOf i_inLong i_goesOn i_outLong i_greatest i_knots i_bitsMade i_weights i_order i_bit i_bitEnd v_in v_length l1 res)  : ∀ z : Nat, I_MM_about_b36 p l e s m args below meth c Q A D cI cL cZ a_this a_in a_length o_out o_counts o_symbolOf o_draft o_knot o_inSum o_halved o_made o_weight o_points o_cutOff o_had o_placeOf i_inLong i_goesOn i_outLong i_greatest i_knots i_bitsMade i_weights i_order i_bit i_bitEnd v_in v_length l1 res (f_MM_about_b36 N i_inLong i_goesOn i_greatest v_in v_length l1  z) := by
  obtain ⟨hx, hb, hml, hown, hts, hK, hA⟩ := C
  intro z
  induction z with
  | zero => intro l2 l3 h; cases h
  | succ z ih =>
    intro l2 l3 h H locs ls hl hP hD hS
    refine lv_iload_n hx hb d_MM_about_36 rfl (lv_at hl 2 rfl) ?_
    refine lv_sipush (v := 256) hx hb d_MM_about_37 (by decide) ?_
    refine lv_icmp_ge (tgt := 61) hx hb d_MM_about_40 (by decide) (fun c_1 => ?_) (fun c_1 => ?_)
    · replace h := if_t h c_1
      exact w_MM_about_b61 ⟨hx, hb, hml, hown, hts, hK, hA⟩ hret  _ h H locs ls (lv_sub hl [1] rfl) hP hD hS
    · replace h := if_f h c_1
      refine lv_aload_n hx hb d_MM_about_43 rfl (lv_at hl 0 rfl) ?_
      refine va_get hx hb hts in_MM hown hK hP 0 rfl rfl 7 (by decide) (hts _ m_760) (fun _ h9 => h9) rfl d_MM_about_44 ?_
      refine lv_iload_n hx hb d_MM_about_47 rfl (lv_at hl 2 rfl) ?_
      obtain ⟨g_2, h⟩ := ck_s h
      refine va_iald hx hb hK hP 2 0 rfl rfl (inb_s g_2) d_MM_about_48 ?_
      refine lv_if_le (tgt := 55) hx hb d_MM_about_49 (by decide) (fun c_3 => ?_) (fun c_3 => ?_)
      · replace h := if_t h c_3
        exact w_MM_about_b55 ⟨hx, hb, hml, hown, hts, hK, hA⟩ hret ih _ _ h H locs ls (lv_sub hl [0, 1, 2] rfl) hP hD hS
      · replace h := if_f h c_3
        obtain ⟨l2_4, el2_4⟩ : ∃ y : Int32, y = l2 + 1 := ⟨_, rfl⟩
        replace h := nm_s h el2_4
        refine lv_iinc (v := l2_4) (lv' := [(2, .int l2_4), (0, .ref a_this), (3, .int l3)]) hx hb d_MM_about_52 hl (k := 1) rfl (by rw [el2_4]; rfl) (by decide) rfl (fun ls hl => ?_)
        exact w_MM_about_b55 ⟨hx, hb, hml, hown, hts, hK, hA⟩ hret ih _ _ h H locs ls (lv_sub hl [1, 0, 2] rfl) hP hD hS
set_option maxHeartbeats 4000000 in
set_option maxRecDepth 100000 in
theorem w_MM_about_b90 {p : Program} {l : Launch} {e : Env} {s : State} {m : MethodId} {args : Array Value} {below : List Frame} {meth : Method} {c : Code} {Q : State → Prop} {A : Nat → Prop} {D : va_G} {cI cL cZ : ClassId} {a_this : Nat} {a_in : Nat} {a_length : Nat} {o_out : Nat} {o_counts : Nat} {o_symbolOf : Nat} {o_draft : Nat} {o_knot : Nat} {o_inSum : Nat} {o_halved : Nat} {o_made : Nat} {o_weight : Nat} {o_points : Nat} {o_cutOff : Nat} {o_had : Nat} {o_placeOf : Nat} {i_inLong : Int32} {i_goesOn : Int32} {i_outLong : Int32} {i_greatest : Int32} {i_knots : Int32} {i_bitsMade : Int32} {i_weights : Int32} {i_order : Int32} {i_bit : Int32} {i_bitEnd : Int32} {v_in : Nat → Int32} {v_length : Nat → Int32} {l1 : Int32} {N : Nat} {res : Int32}  (C : Cx p s m args c b_MM_about 4 "PrefixMillModel" D [(cI, .int), (cL, .long), (cZ, .boolean)] A) (hret : E_MM_about p l e s m args below meth c Q A D cI cL cZ a_this a_in a_length o_out o_counts o_symbolOf o_draft o_knot o_inSum o_halved o_made o_weight o_points o_cutOff o_had o_placeOf i_inLong i_goesOn i_outLong i_greatest i_knots i_bitsMade i_weights i_order i_bit i_bitEnd v_in v_length l1 res)  : I_MM_about_b90 p l e s m args below meth c Q A D cI cL cZ a_this a_in a_length o_out o_counts o_symbolOf o_draft o_knot o_inSum o_halved o_made o_weight o_points o_cutOff o_had o_placeOf i_inLong i_goesOn i_outLong i_greatest i_knots i_bitsMade i_weights i_order i_bit i_bitEnd v_in v_length l1 res (f_MM_about_b90 N i_inLong i_goesOn i_greatest v_in v_length l1 ) := by
  obtain ⟨hx, hb, hml, hown, hts, hK, hA⟩ := C
  intro _ h H locs ls hl hP hD hS
  unfold f_MM_about_b90 at h
  refine lv_iconst (v := (-1)) hx hb d_MM_about_90 (by decide) ?_
  exact hret _ _ _ _ (-1)  h d_MM_about_91 hP hD hS
set_option maxHeartbeats 4000000 in
set_option maxRecDepth 100000 in
theorem w_MM_about_b112 {p : Program} {l : Launch} {e : Env} {s : State} {m : MethodId} {args : Array Value} {below : List Frame} {meth : Method} {c : Code} {Q : State → Prop} {A : Nat → Prop} {D : va_G} {cI cL cZ : ClassId} {a_this : Nat} {a_in : Nat} {a_length : Nat} {o_out : Nat} {o_counts : Nat} {o_symbolOf : Nat} {o_draft : Nat} {o_knot : Nat} {o_inSum : Nat} {o_halved : Nat} {o_made : Nat} {o_weight : Nat} {o_points : Nat} {o_cutOff : Nat} {o_had : Nat} {o_placeOf : Nat} {i_inLong : Int32} {i_goesOn : Int32} {i_outLong : Int32} {i_greatest : Int32} {i_knots : Int32} {i_bitsMade : Int32} {i_weights : Int32} {i_order : Int32} {i_bit : Int32} {i_bitEnd : Int32} {v_in : Nat → Int32} {v_length : Nat → Int32} {l1 : Int32} {N : Nat} {res : Int32}  (C : Cx p s m args c b_MM_about 4 "PrefixMillModel" D [(cI, .int), (cL, .long), (cZ, .boolean)] A) (hret : E_MM_about p l e s m args below meth c Q A D cI cL cZ a_this a_in a_length o_out o_counts o_symbolOf o_draft o_knot o_inSum o_halved o_made o_weight o_points o_cutOff o_had o_placeOf i_inLong i_goesOn i_outLong i_greatest i_knots i_bitsMade i_weights i_order i_bit i_bitEnd v_in v_length l1 res)  : I_MM_about_b112 p l e s m args below meth c Q A D cI cL cZ a_this a_in a_length o_out o_counts o_symbolOf o_draft o_knot o_inSum o_halved o_made o_weight o_points o_cutOff o_had o_placeOf i_inLong i_goesOn i_outLong i_greatest i_knots i_bitsMade i_weights i_order i_bit i_bitEnd v_in v_length l1 res (f_MM_about_b112 N i_inLong i_goesOn i_greatest v_in v_length l1 ) := by
  obtain ⟨hx, hb, hml, hown, hts, hK, hA⟩ := C
  intro l2 h H locs ls hl hP hD hS
  unfold f_MM_about_b112 at h
  refine lv_iload_n hx hb d_MM_about_112 rfl (lv_at hl 0 rfl) ?_
  exact hret _ _ _ _ l2  h d_MM_about_113 hP hD hS
set_option maxHeartbeats 4000000 in
set_option maxRecDepth 100000 in
theorem w_MM_about_b68 {p : Program} {l : Launch} {e : Env} {s : State} {m : MethodId} {args : Array Value} {below : List Frame} {meth : Method} {c : Code} {Q : State → Prop} {A : Nat → Prop} {D : va_G} {cI cL cZ : ClassId} {a_this : Nat} {a_in : Nat} {a_length : Nat} {o_out : Nat} {o_counts : Nat} {o_symbolOf : Nat} {o_draft : Nat} {o_knot : Nat} {o_inSum : Nat} {o_halved : Nat} {o_made : Nat} {o_weight : Nat} {o_points : Nat} {o_cutOff : Nat} {o_had : Nat} {o_placeOf : Nat} {i_inLong : Int32} {i_goesOn : Int32} {i_outLong : Int32} {i_greatest : Int32} {i_knots : Int32} {i_bitsMade : Int32} {i_weights : Int32} {i_order : Int32} {i_bit : Int32} {i_bitEnd : Int32} {v_in : Nat → Int32} {v_length : Nat → Int32} {l1 : Int32} {N : Nat} {res : Int32}  (C : Cx p s m args c b_MM_about 4 "PrefixMillModel" D [(cI, .int), (cL, .long), (cZ, .boolean)] A) (hret : E_MM_about p l e s m args below meth c Q A D cI cL cZ a_this a_in a_length o_out o_counts o_symbolOf o_draft o_knot o_inSum o_halved o_made o_weight o_points o_cutOff o_had o_placeOf i_inLong i_goesOn i_outLong i_greatest i_knots i_bitsMade i_weights i_order i_bit i_bitEnd v_in v_length l1 res)  : ∀ z : Nat, I_MM_about_b68 p l e s m args below meth c Q A D cI cL cZ a_this a_in a_length o_out o_counts o_symbolOf o_draft o_knot o_inSum o_halved o_made o_weight o_points o_cutOff o_had o_placeOf i_inLong i_goesOn i_outLong i_greatest i_knots i_bitsMade i_weights i_order i_bit i_bitEnd v_in v_length l1 res (f_MM_about_b68 N i_inLong i_goesOn i_greatest v_in v_length l1  z) := by
  obtain ⟨hx, hb, hml, hown, hts, hK, hA⟩ := C
  intro z
  induction z with
  | zero => intro l2 l3 h; cases h
  | succ z ih =>
    intro l2 l3 h H locs ls hl hP hD hS
    refine lv_iload_n hx hb d_MM_about_68 rfl (lv_at hl 2 rfl) ?_
    refine lv_aload_n hx hb d_MM_about_69 rfl (lv_at hl 0 rfl) ?_
    refine va_get hx hb hts in_MM hown hK hP 0 rfl rfl 1 (by decide) (hts _ m_754) (fun _ h9 => h9) rfl d_MM_about_70 ?_
    refine lv_icmp_ge (tgt := 112) hx hb d_MM_about_73 (by decide) (fun c_1 => ?_) (fun c_1 => ?_)
    · replace h := if_t h c_1
      exact w_MM_about_b112 ⟨hx, hb, hml, hown, hts, hK, hA⟩ hret  _ h H locs ls (lv_sub hl [1] rfl) hP hD hS
    · replace h := if_f h c_1
      refine lv_aload_n hx hb d_MM_about_76 rfl (lv_at hl 0 rfl) ?_
      refine va_get hx hb hts in_MM hown hK hP 0 rfl rfl 7 (by decide) (hts _ m_760) (fun _ h9 => h9) rfl d_MM_about_77 ?_
      refine lv_aload_n hx hb d_MM_about_80 rfl (lv_at hl 0 rfl) ?_
      refine va_get hx hb hts in_MM hown hK hP 0 rfl rfl 0 (by decide) (hts _ m_753) (fun _ h9 => h9) rfl d_MM_about_81 ?_
      refine lv_iload_n hx hb d_MM_about_84 rfl (lv_at hl 2 rfl) ?_
      obtain ⟨g_2, h⟩ := ck_s h
      refine va_iald hx hb hK hP 1 0 rfl rfl (inb_s g_2) d_MM_about_85 ?_
      obtain ⟨g_3, h⟩ := ck_s h
      refine va_iald hx hb hK hP 2 0 rfl rfl (inb_s g_3) d_MM_about_86 ?_
      refine lv_if_ne (tgt := 92) hx hb d_MM_about_87 (by decide) (fun c_4 => ?_) (fun c_4 => ?_)
      · replace h := if_f h c_4
        refine lv_iload_n hx hb d_MM_about_92 rfl (lv_at hl 1 rfl) ?_
        refine lv_aload_n hx hb d_MM_about_93 rfl (lv_at hl 0 rfl) ?_
        refine va_get hx hb hts in_MM hown hK hP 0 rfl rfl 7 (by decide) (hts _ m_760) (fun _ h9 => h9) rfl d_MM_about_94 ?_
        refine lv_aload_n hx hb d_MM_about_97 rfl (lv_at hl 0 rfl) ?_
        refine va_get hx hb hts in_MM hown hK hP 0 rfl rfl 0 (by decide) (hts _ m_753) (fun _ h9 => h9) rfl d_MM_about_98 ?_
        refine lv_iload_n hx hb d_MM_about_101 rfl (lv_at hl 2 rfl) ?_
        obtain ⟨g_5, h⟩ := ck_s h
        refine va_iald hx hb hK hP 1 0 rfl rfl (inb_s g_5) d_MM_about_102 ?_
        obtain ⟨g_6, h⟩ := ck_s h
        refine va_iald hx hb hK hP 2 0 rfl rfl (inb_s g_6) d_MM_about_103 ?_
        refine lv_iadd hx hb d_MM_about_104 ?_
        refine lv_topi (fun l2_7 el2_7 => ?_)
        replace h := nm_s h el2_7
        refine lv_istore_n (lv' := [(2, .int l2_7), (0, .ref a_this), (3, .int l3)]) hx hb d_MM_about_105 rfl hl (by decide) rfl (fun ls hl => ?_)
        obtain ⟨l3_8, el3_8⟩ : ∃ y : Int32, y = l3 + 1 := ⟨_, rfl⟩
        replace h := nm_s h el3_8
        refine lv_iinc (v := l3_8) (lv' := [(3, .int l3_8), (2, .int l2_7), (0, .ref a_this)]) hx hb d_MM_about_106 hl (k := 2) rfl (by rw [el3_8]; rfl) (by decide) rfl (fun ls hl => ?_)
        refine lv_goto (tgt := 68) hx hb d_MM_about_109 (by decide) ?_
        exact ih _ _ h H locs ls (lv_sub hl [2, 1, 0] rfl) hP hD hS
      · replace h := if_t h c_4
        exact w_MM_about_b90 ⟨hx, hb, hml, hown, hts, hK, hA⟩ hret  () h H locs ls (lv_sub hl [] rfl) hP hD hS
set_option maxHeartbeats 4000000 in
set_option maxRecDepth 100000 in
theorem w_MM_about_b0 {p : Program} {l : Launch} {e : Env} {s : State} {m : MethodId} {args : Array Value} {below : List Frame} {meth : Method} {c : Code} {Q : State → Prop} {A : Nat → Prop} {D : va_G} {cI cL cZ : ClassId} {a_this : Nat} {a_in : Nat} {a_length : Nat} {o_out : Nat} {o_counts : Nat} {o_symbolOf : Nat} {o_draft : Nat} {o_knot : Nat} {o_inSum : Nat} {o_halved : Nat} {o_made : Nat} {o_weight : Nat} {o_points : Nat} {o_cutOff : Nat} {o_had : Nat} {o_placeOf : Nat} {i_inLong : Int32} {i_goesOn : Int32} {i_outLong : Int32} {i_greatest : Int32} {i_knots : Int32} {i_bitsMade : Int32} {i_weights : Int32} {i_order : Int32} {i_bit : Int32} {i_bitEnd : Int32} {v_in : Nat → Int32} {v_length : Nat → Int32} {l1 : Int32} {N : Nat} {res : Int32}  (C : Cx p s m args c b_MM_about 4 "PrefixMillModel" D [(cI, .int), (cL, .long), (cZ, .boolean)] A) (hret : E_MM_about p l e s m args below meth c Q A D cI cL cZ a_this a_in a_length o_out o_counts o_symbolOf o_draft o_knot o_inSum o_halved o_made o_weight o_points o_cutOff o_had o_placeOf i_inLong i_goesOn i_outLong i_greatest i_knots i_bitsMade i_weights i_order i_bit i_bitEnd v_in v_length l1 res)  : I_MM_about_b0 p l e s m args below meth c Q A D cI cL cZ a_this a_in a_length o_out o_counts o_symbolOf o_draft o_knot o_inSum o_halved o_made o_weight o_points o_cutOff o_had o_placeOf i_inLong i_goesOn i_outLong i_greatest i_knots i_bitsMade i_weights i_order i_bit i_bitEnd v_in v_length l1 res (f_MM_about N i_inLong i_goesOn i_greatest v_in v_length l1 ) := by
  obtain ⟨hx, hb, hml, hown, hts, hK, hA⟩ := C
  intro _ h H locs ls hl hP hD hS
  unfold f_MM_about at h
  refine lv_aload_n hx hb d_MM_about_0 rfl (lv_at hl 0 rfl) ?_
  refine va_get hx hb hts in_MM hown hK hP 0 rfl rfl 6 (by decide) (hts _ m_759) (fun _ h9 => h9) rfl d_MM_about_1 ?_
  refine lv_if_eq (tgt := 16) hx hb d_MM_about_4 (by decide) (fun c_1 => ?_) (fun c_1 => ?_)
  · replace h := if_t h c_1
    exact w_MM_about_b16 ⟨hx, hb, hml, hown, hts, hK, hA⟩ hret  () h H locs ls (lv_sub hl [] rfl) hP hD hS
  · replace h := if_f h c_1
    refine lv_iload_n hx hb d_MM_about_7 rfl (lv_at hl 1 rfl) ?_
    refine lv_if_lt (tgt := 16) hx hb d_MM_about_8 (by decide) (fun c_2 => ?_) (fun c_2 => ?_)
    · replace h := if_t h c_2
      exact w_MM_about_b16 ⟨hx, hb, hml, hown, hts, hK, hA⟩ hret  () h H locs ls (lv_sub hl [] rfl) hP hD hS
    · replace h := if_f h c_2
      refine lv_iload_n hx hb d_MM_about_11 rfl (lv_at hl 1 rfl) ?_
      refine lv_iconst (v := 2) hx hb d_MM_about_12 (by decide) ?_
      refine lv_icmp_le (tgt := 18) hx hb d_MM_about_13 (by decide) (fun c_3 => ?_) (fun c_3 => ?_)
      · replace h := if_t h c_3
        refine lv_iload_n hx hb d_MM_about_18 rfl (lv_at hl 1 rfl) ?_
        refine lv_if_ne (tgt := 27) hx hb d_MM_about_19 (by decide) (fun c_4 => ?_) (fun c_4 => ?_)
        · replace h := if_f h c_4
          refine lv_iconst (v := 0) hx hb d_MM_about_27 (by decide) ?_
          refine lv_istore_n (lv' := [(2, .int 0), (0, .ref a_this), (1, .int l1)]) hx hb d_MM_about_28 rfl hl (by decide) rfl (fun ls hl => ?_)
          refine lv_iload_n hx hb d_MM_about_29 rfl (lv_at hl 2 rfl) ?_
          refine lv_iconst (v := 1) hx hb d_MM_about_30 (by decide) ?_
          refine lv_icmp_ne (tgt := 63) hx hb d_MM_about_31 (by decide) (fun c_5 => ?_) (fun c_5 => ?_)
          · replace h := if_f h c_5
            refine lv_aload_n hx hb d_MM_about_63 rfl (lv_at hl 1 rfl) ?_
            refine va_get hx hb hts in_MM hown hK hP 0 rfl rfl 2 (by decide) (hts _ m_755) (fun _ h9 => h9) rfl d_MM_about_64 ?_
            refine lv_istore_n (lv' := [(3, .int i_goesOn), (2, .int 0), (0, .ref a_this), (1, .int l1)]) hx hb d_MM_about_67 rfl hl (by decide) rfl (fun ls hl => ?_)
            exact w_MM_about_b68 ⟨hx, hb, hml, hown, hts, hK, hA⟩ hret  N _ _ h H locs ls (lv_sub hl [2, 1, 0] rfl) hP hD hS
          · replace h := if_t h c_5
            refine lv_iconst (v := 0) hx hb d_MM_about_34 (by decide) ?_
            refine lv_istore_n (lv' := [(3, .int 0), (2, .int 0), (0, .ref a_this), (1, .int l1)]) hx hb d_MM_about_35 rfl hl (by decide) rfl (fun ls hl => ?_)
            exact w_MM_about_b36 ⟨hx, hb, hml, hown, hts, hK, hA⟩ hret  N _ _ h H locs ls (lv_sub hl [2, 1, 0] rfl) hP hD hS
        · replace h := if_t h c_4
          refine lv_aload_n hx hb d_MM_about_22 rfl (lv_at hl 0 rfl) ?_
          refine va_get hx hb hts in_MM hown hK hP 0 rfl rfl 6 (by decide) (hts _ m_759) (fun _ h9 => h9) rfl d_MM_about_23 ?_
          exact hret _ _ _ _ i_greatest  h d_MM_about_26 hP hD hS
      · replace h := if_f h c_3
        exact w_MM_about_b16 ⟨hx, hb, hml, hown, hts, hK, hA⟩ hret  () h H locs ls (lv_sub hl [] rfl) hP hD hS
set_option maxHeartbeats 4000000 in
set_option maxRecDepth 100000 in
theorem c_MM_about (l : Launch) (D : va_G) (cI cL cZ : ClassId) (sz N : Nat) (a_this : Nat) (a_in : Nat) (a_length : Nat) (o_out : Nat) (o_counts : Nat) (o_symbolOf : Nat) (o_draft : Nat) (o_knot : Nat) (o_inSum : Nat) (o_halved : Nat) (o_made : Nat) (o_weight : Nat) (o_points : Nat) (o_cutOff : Nat) (o_had : Nat) (o_placeOf : Nat) (i_inLong : Int32) (i_goesOn : Int32) (i_outLong : Int32) (i_greatest : Int32) (i_knots : Int32) (i_bitsMade : Int32) (i_weights : Int32) (i_order : Int32) (i_bit : Int32) (i_bitEnd : Int32) (v_in : Nat → Int32) (v_length : Nat → Int32) (l1 : Int32) (rv : Int32) (h : f_MM_about N i_inLong i_goesOn i_greatest v_in v_length l1  = some (rv)) : Met l ({ cls := "PrefixMillModel", name := "about", desc := "(I)I" } : Jvm.MethodName) ws_MM_about R_MM_about (va_Pc [.ref a_this, .int l1] (fun U => U.heap.size = sz ∧ va_P D classes [(a_this, .inr (1, [.ref a_in, .int i_inLong, .int i_goesOn, .ref o_out, .int i_outLong, .ref o_counts, .int i_greatest, .ref a_length, .ref o_symbolOf, .ref o_draft, .ref o_knot, .ref o_inSum, .int i_knots, .ref o_halved, .ref o_made, .int i_bitsMade, .ref o_weight, .int i_weights, .int i_order, .ref o_points, .ref o_cutOff, .ref o_had, .ref o_placeOf, .int i_bit, .int i_bitEnd])), (a_in, .inl (cI, 6000, .inl v_in)), (a_length, .inl (cI, 256, .inl v_length))] U.heap ∧ va_K D classes [(cI, .int), (cL, .long), (cZ, .boolean)] U ∧ va_D (fun _ => True) [(a_this, .inr (1, [.ref a_in, .int i_inLong, .int i_goesOn, .ref o_out, .int i_outLong, .ref o_counts, .int i_greatest, .ref a_length, .ref o_symbolOf, .ref o_draft, .ref o_knot, .ref o_inSum, .int i_knots, .ref o_halved, .ref o_made, .int i_bitsMade, .ref o_weight, .int i_weights, .int i_order, .ref o_points, .ref o_cutOff, .ref o_had, .ref o_placeOf, .int i_bit, .int i_bitEnd])), (a_in, .inl (cI, 6000, .inl v_in)), (a_length, .inl (cI, 256, .inl v_length))])) (va_Qi (fun (r0 : Int32) (_ : Unit) => rv = r0) (fun _ t => va_P D classes [(a_this, .inr (1, [.ref a_in, .int i_inLong, .int i_goesOn, .ref o_out, .int i_outLong, .ref o_counts, .int i_greatest, .ref a_length, .ref o_symbolOf, .ref o_draft, .ref o_knot, .ref o_inSum, .int i_knots, .ref o_halved, .ref o_made, .int i_bitsMade, .ref o_weight, .int i_weights, .int i_order, .ref o_points, .ref o_cutOff, .ref o_had, .ref o_placeOf, .int i_bit, .int i_bitEnd])), (a_in, .inl (cI, 6000, .inl v_in)), (a_length, .inl (cI, 256, .inl v_length))] t.heap ∧ va_K D classes [(cI, .int), (cL, .long), (cZ, .boolean)] t ∧ va_D (va_A [(a_this, .inr (1, [.ref a_in, .int i_inLong, .int i_goesOn, .ref o_out, .int i_outLong, .ref o_counts, .int i_greatest, .ref a_length, .ref o_symbolOf, .ref o_draft, .ref o_knot, .ref o_inSum, .int i_knots, .ref o_halved, .ref o_made, .int i_bitsMade, .ref o_weight, .int i_weights, .int i_order, .ref o_points, .ref o_cutOff, .ref o_had, .ref o_placeOf, .int i_bit, .int i_bitEnd])), (a_in, .inl (cI, 6000, .inl v_in)), (a_length, .inl (cI, 256, .inl v_length))] sz) [(a_this, .inr (1, [.ref a_in, .int i_inLong, .int i_goesOn, .ref o_out, .int i_outLong, .ref o_counts, .int i_greatest, .ref a_length, .ref o_symbolOf, .ref o_draft, .ref o_knot, .ref o_inSum, .int i_knots, .ref o_halved, .ref o_made, .int i_bitsMade, .ref o_weight, .int i_weights, .int i_order, .ref o_points, .ref o_cutOff, .ref o_had, .ref o_placeOf, .int i_bit, .int i_bitEnd])), (a_in, .inl (cI, 6000, .inl v_in)), (a_length, .inl (cI, 256, .inl v_length))]) (va_A [(a_this, .inr (1, [.ref a_in, .int i_inLong, .int i_goesOn, .ref o_out, .int i_outLong, .ref o_counts, .int i_greatest, .ref a_length, .ref o_symbolOf, .ref o_draft, .ref o_knot, .ref o_inSum, .int i_knots, .ref o_halved, .ref o_made, .int i_bitsMade, .ref o_weight, .int i_weights, .int i_order, .ref o_points, .ref o_cutOff, .ref o_had, .ref o_placeOf, .int i_bit, .int i_bitEnd])), (a_in, .inl (cI, 6000, .inl v_in)), (a_length, .inl (cI, 256, .inl v_length))] sz)) 0 0 (va_A [(a_this, .inr (1, [.ref a_in, .int i_inLong, .int i_goesOn, .ref o_out, .int i_outLong, .ref o_counts, .int i_greatest, .ref a_length, .ref o_symbolOf, .ref o_draft, .ref o_knot, .ref o_inSum, .int i_knots, .ref o_halved, .ref o_made, .int i_bitsMade, .ref o_weight, .int i_weights, .int i_order, .ref o_points, .ref o_cutOff, .ref o_had, .ref o_placeOf, .int i_bit, .int i_bitEnd])), (a_in, .inl (cI, 6000, .inl v_in)), (a_length, .inl (cI, 256, .inl v_length))] sz) := by
  refine Met.ofW (cc := b_MM_about) (maxL := 4) (ret := (some .int)) (by decide) rfl ?_
  intro p e s m args below meth c s₁ B hml hv
  obtain ⟨rfl, hsz, hP, hK, hD0⟩ := hv
  have hx := B.exec
  have hb := B.bytes
  have hr := B.returns
  have hts0 := atoms_spec (ws := ws_MM_about) B.pre
  have hts := gd_tl hts0
  clear hts0
  have hown : s.vm.findClass "PrefixMillModel" = some m.cls := findClass_of_methodNamed B.named
  have hlocks := B.notSynchronized
  subst hsz
  have hD := hD0.self (sz := s.heap.size)
  generalize hAe : va_A [(a_this, .inr (1, [.ref a_in, .int i_inLong, .int i_goesOn, .ref o_out, .int i_outLong, .ref o_counts, .int i_greatest, .ref a_length, .ref o_symbolOf, .ref o_draft, .ref o_knot, .ref o_inSum, .int i_knots, .ref o_halved, .ref o_made, .int i_bitsMade, .ref o_weight, .int i_weights, .int i_order, .ref o_points, .ref o_cutOff, .ref o_had, .ref o_placeOf, .int i_bit, .int i_bitEnd])), (a_in, .inl (cI, 6000, .inl v_in)), (a_length, .inl (cI, 256, .inl v_length))] s.heap.size = A at hD ⊢
  have hA : ∀ q : Nat, s.heap.size ≤ q → A q := fun q h => by rw [← hAe]; exact Or.inr h
  have hS : va_S A s.heap s.heap [] := va_S.rf
  have hP : va_P D classes [(a_this, .inr (1, [.ref a_in, .int i_inLong, .int i_goesOn, .ref o_out, .int i_outLong, .ref o_counts, .int i_greatest, .ref a_length, .ref o_symbolOf, .ref o_draft, .ref o_knot, .ref o_inSum, .int i_knots, .ref o_halved, .ref o_made, .int i_bitsMade, .ref o_weight, .int i_weights, .int i_order, .ref o_points, .ref o_cutOff, .ref o_had, .ref o_placeOf, .int i_bit, .int i_bitEnd])), (a_in, .inl (cI, 6000, .inl v_in)), (a_length, .inl (cI, 256, .inl v_length))] s.heap := hP
  have hl := lv_entry ([.ref a_this, .int l1]) (n := 4) (Nat.le_of_ble_eq_true rfl)
  rw [lg_entry_eq]
  generalize (lg_sl ([.ref a_this, .int l1]) ++ List.replicate (4 - (lg_sl ([.ref a_this, .int l1])).length) Slot.unset).toArray = ls at hl ⊢
  have hl : lv_has ls 4 [(0, .ref a_this), (1, .int l1)] := hl
  have C : Cx p s m ([.ref a_this, .int l1] : List Value).toArray c b_MM_about 4 "PrefixMillModel" D [(cI, .int), (cL, .long), (cZ, .boolean)] A := ⟨hx, hb, hml, hown, hts, hK, hA⟩
  refine w_MM_about_b0 (res := (rv)) C ?_ () h s.heap [] ls hl hP hD hS
  intro pc9 H9 locs9 ls9 rv9 e9 d9 hP9 hD9 hS9
  cases e9
  exact W.iret (v := rv) hx hb hr (fun t ht hW => ⟨⟨rv, (), rfl, rfl, by rw [ht]; exact hP9, va_K.moved hW.alike hK, hD9⟩, hS9.F ht⟩) hS9.2.2 d9
abbrev b_MM_code : ByteArray := prog_12_method_19_code
def ws_MM_code : List Cond := .code ({ cls := "PrefixMillModel", name := "code", desc := "(II)I" } : Jvm.MethodName) b_MM_code 3 (some .int) :: tt
theorem d_MM_code_0 : decode b_MM_code 0 = .ok (.aload_n 0, 1) := by decide +kernel
theorem d_MM_code_1 : decode b_MM_code 1 = .ok (.getfield 69, 3) := by decide +kernel
theorem d_MM_code_4 : decode b_MM_code 4 = .ok (.ifCond .eq 23, 3) := by decide +kernel
theorem d_MM_code_7 : decode b_MM_code 7 = .ok (.iload_n 1, 1) := by decide +kernel
theorem d_MM_code_8 : decode b_MM_code 8 = .ok (.ifCond .lt 19, 3) := by decide +kernel
theorem d_MM_code_11 : decode b_MM_code 11 = .ok (.iload_n 1, 1) := by decide +kernel
theorem d_MM_code_12 : decode b_MM_code 12 = .ok (.sipush 256, 3) := by decide +kernel
theorem d_MM_code_15 : decode b_MM_code 15 = .ok (.if_icmp .ge 12, 3) := by decide +kernel
theorem d_MM_code_18 : decode b_MM_code 18 = .ok (.iload_n 2, 1) := by decide +kernel
theorem d_MM_code_19 : decode b_MM_code 19 = .ok (.ifCond .lt 8, 3) := by decide +kernel
theorem d_MM_code_22 : decode b_MM_code 22 = .ok (.iload_n 2, 1) := by decide +kernel
theorem d_MM_code_23 : decode b_MM_code 23 = .ok (.iconst 1, 1) := by decide +kernel
theorem d_MM_code_24 : decode b_MM_code 24 = .ok (.if_icmp .le 5, 3) := by decide +kernel
theorem d_MM_code_27 : decode b_MM_code 27 = .ok (.iconst (-1), 1) := by decide +kernel
theorem d_MM_code_28 : decode b_MM_code 28 = .ok (.ireturn, 1) := by decide +kernel
theorem d_MM_code_29 : decode b_MM_code 29 = .ok (.aload_n 0, 1) := by decide +kernel
theorem d_MM_code_30 : decode b_MM_code 30 = .ok (.getfield 19, 3) := by decide +kernel
theorem d_MM_code_33 : decode b_MM_code 33 = .ok (.iload_n 1, 1) := by decide +kernel
theorem d_MM_code_34 : decode b_MM_code 34 = .ok (.iaload, 1) := by decide +kernel
theorem d_MM_code_35 : decode b_MM_code 35 = .ok (.ifCond .ne 5, 3) := by decide +kernel
theorem d_MM_code_38 : decode b_MM_code 38 = .ok (.iconst (-1), 1) := by decide +kernel
theorem d_MM_code_39 : decode b_MM_code 39 = .ok (.ireturn, 1) := by decide +kernel
theorem d_MM_code_40 : decode b_MM_code 40 = .ok (.iload_n 2, 1) := by decide +kernel
theorem d_MM_code_41 : decode b_MM_code 41 = .ok (.ifCond .ne 12, 3) := by decide +kernel
theorem d_MM_code_44 : decode b_MM_code 44 = .ok (.aload_n 0, 1) := by decide +kernel
theorem d_MM_code_45 : decode b_MM_code 45 = .ok (.getfield 19, 3) := by decide +kernel
theorem d_MM_code_48 : decode b_MM_code 48 = .ok (.iload_n 1, 1) := by decide +kernel
theorem d_MM_code_49 : decode b_MM_code 49 = .ok (.iaload, 1) := by decide +kernel
theorem d_MM_code_50 : decode b_MM_code 50 = .ok (.goto 8, 3) := by decide +kernel
theorem d_MM_code_53 : decode b_MM_code 53 = .ok (.aload_n 0, 1) := by decide +kernel
theorem d_MM_code_54 : decode b_MM_code 54 = .ok (.iload_n 1, 1) := by decide +kernel
theorem d_MM_code_55 : decode b_MM_code 55 = .ok (.invokevirtual 92, 3) := by decide +kernel
theorem d_MM_code_58 : decode b_MM_code 58 = .ok (.ireturn, 1) := by decide +kernel
def f_MM_code_b27 (N : Nat) (i_greatest : Int32) (v_length : Nat → Int32) (v_symbolOf : Nat → Int32) (l1 : Int32) (l2 : Int32)   : Option (Int32) :=
  some ((-1))
def f_MM_code (N : Nat) (i_greatest : Int32) (v_length : Nat → Int32) (v_symbolOf : Nat → Int32) (l1 : Int32) (l2 : Int32)   : Option (Int32) :=
  if i_greatest = 0 then
  f_MM_code_b27 N i_greatest v_length v_symbolOf l1 l2  
  else
  if l1 < 0 then
  f_MM_code_b27 N i_greatest v_length v_symbolOf l1 l2  
  else
  if 256 ≤ l1 then
  f_MM_code_b27 N i_greatest v_length v_symbolOf l1 l2  
  else
  if l2 < 0 then
  f_MM_code_b27 N i_greatest v_length v_symbolOf l1 l2  
  else
  if l2 ≤ 1 then
  ck (inb l1 256) <|
  if (v_length (Int32.toNatClampNeg l1)) = 0 then
  some ((-1))
  else
  if l2 = 0 then
  ck (inb l1 256) <|
  some ((v_length (Int32.toNatClampNeg l1)))
  else
  bd1 (f_MM_codeOf N i_greatest v_length v_symbolOf l1) fun r_9 =>
  some (r_9)
  else
  f_MM_code_b27 N i_greatest v_length v_symbolOf l1 l2  
abbrev R_MM_code : Room := ({ frames := 1, cells := 0, slots := 0, locals := 22 } : Room)
def E_MM_code (p : Program) (l : Launch) (e : Env) (s : State) (m : MethodId) (args : Array Value) (below : List Frame) (meth : Method) (c : Code) (Q : State → Prop) (A : Nat → Prop) (D : va_G) (cI cL cZ : ClassId) (a_this : Nat) (a_length : Nat) (a_symbolOf : Nat) (o_in : Nat) (o_out : Nat) (o_counts : Nat) (o_draft : Nat) (o_knot : Nat) (o_inSum : Nat) (o_halved : Nat) (o_made : Nat) (o_weight : Nat) (o_points : Nat) (o_cutOff : Nat) (o_had : Nat) (o_placeOf : Nat) (i_inLong : Int32) (i_goesOn : Int32) (i_outLong : Int32) (i_greatest : Int32) (i_knots : Int32) (i_bitsMade : Int32) (i_weights : Int32) (i_order : Int32) (i_bit : Int32) (i_bitEnd : Int32) (v_length : Nat → Int32) (v_symbolOf : Nat → Int32) (l1 : Int32) (l2 : Int32) (res : Int32) : Prop := ∀ (pc : Nat) (H : Heap) (locs : List Loc) (ls : Array Slot) (rv : Int32), some (rv) = some res → decode b_MM_code pc = .ok (.ireturn, 1) → va_P D classes [(a_this, .inr (1, [.ref o_in, .int i_inLong, .int i_goesOn, .ref o_out, .int i_outLong, .ref o_counts, .int i_greatest, .ref a_length, .ref a_symbolOf, .ref o_draft, .ref o_knot, .ref o_inSum, .int i_knots, .ref o_halved, .ref o_made, .int i_bitsMade, .ref o_weight, .int i_weights, .int i_order, .ref o_points, .ref o_cutOff, .ref o_had, .ref o_placeOf, .int i_bit, .int i_bitEnd])), (a_length, .inl (cI, 256, .inl v_length)), (a_symbolOf, .inl (cI, 2048, .inl v_symbolOf))] H → va_D A [(a_this, .inr (1, [.ref o_in, .int i_inLong, .int i_goesOn, .ref o_out, .int i_outLong, .ref o_counts, .int i_greatest, .ref a_length, .ref a_symbolOf, .ref o_draft, .ref o_knot, .ref o_inSum, .int i_knots, .ref o_halved, .ref o_made, .int i_bitsMade, .ref o_weight, .int i_weights, .int i_order, .ref o_points, .ref o_cutOff, .ref o_had, .ref o_placeOf, .int i_bit, .int i_bitEnd])), (a_length, .inl (cI, 256, .inl v_length)), (a_symbolOf, .inl (cI, 2048, .inl v_symbolOf))] → va_S A s.heap H locs → W p l e R_MM_code s m args below meth c H locs 0 0 Q (F0 m pc ls [.int rv])
def I_MM_code_b27 (p : Program) (l : Launch) (e : Env) (s : State) (m : MethodId) (args : Array Value) (below : List Frame) (meth : Method) (c : Code) (Q : State → Prop) (A : Nat → Prop) (D : va_G) (cI cL cZ : ClassId) (a_this : Nat) (a_length : Nat) (a_symbolOf : Nat) (o_in : Nat) (o_out : Nat) (o_counts : Nat) (o_draft : Nat) (o_knot : Nat) (o_inSum : Nat) (o_halved : Nat) (o_made : Nat) (o_weight : Nat) (o_points : Nat) (o_cutOff : Nat) (o_had : Nat) (o_placeOf : Nat) (i_inLong : Int32) (i_goesOn : Int32) (i_outLong : Int32) (i_greatest : Int32) (i_knots : Int32) (i_bitsMade : Int32) (i_weights : Int32) (i_order : Int32) (i_bit : Int32) (i_bitEnd : Int32) (v_length : Nat → Int32) (v_symbolOf : Nat → Int32) (l1 : Int32) (l2 : Int32) (res : Int32) (kf : Option (Int32)) : Prop := ∀ (_ : Unit), kf  = some res → ∀ (H : Heap) (locs : List Loc) (ls : Array Slot), lv_has ls 3 [] → va_P D classes [(a_this, .inr (1, [.ref o_in, .int i_inLong, .int i_goesOn, .ref o_out, .int i_outLong, .ref o_counts, .int i_greatest, .ref a_length, .ref a_symbolOf, .ref o_draft, .ref o_knot, .ref o_inSum, .int i_knots, .ref o_halved, .ref o_made, .int i_bitsMade, .ref o_weight, .int i_weights, .int i_order, .ref o_points, .ref o_cutOff, .ref o_had, .ref o_placeOf, .int i_bit, .int i_bitEnd])), (a_length, .inl (cI, 256, .inl v_length)), (a_symbolOf, .inl (cI, 2048, .inl v_symbolOf))] H → va_D A [(a_this, .inr (1, [.ref o_in, .int i_inLong, .int i_goesOn, .ref o_out, .int i_outLong, .ref o_counts, .int i_greatest, .ref a_length, .ref a_symbolOf, .ref o_draft, .ref o_knot, .ref o_inSum, .int i_knots, .ref o_halved, .ref o_made, .int i_bitsMade, .ref o_weight, .int i_weights, .int i_order, .ref o_points, .ref o_cutOff, .ref o_had, .ref o_placeOf, .int i_bit, .int i_bitEnd])), (a_length, .inl (cI, 256, .inl v_length)), (a_symbolOf, .inl (cI, 2048, .inl v_symbolOf))] → va_S A s.heap H locs → W p l e R_MM_code s m args below meth c H locs 0 0 Q (F0 m 27 ls [])
def I_MM_code_b0 (p : Program) (l : Launch) (e : Env) (s : State) (m : MethodId) (args : Array Value) (below : List Frame) (meth : Method) (c : Code) (Q : State → Prop) (A : Nat → Prop) (D : va_G) (cI cL cZ : ClassId) (a_this : Nat) (a_length : Nat) (a_symbolOf : Nat) (o_in : Nat) (o_out : Nat) (o_counts : Nat) (o_draft : Nat) (o_knot : Nat) (o_inSum : Nat) (o_halved : Nat) (o_made : Nat) (o_weight : Nat) (o_points : Nat) (o_cutOff : Nat) (o_had : Nat) (o_placeOf : Nat) (i_inLong : Int32) (i_goesOn : Int32) (i_outLong : Int32) (i_greatest : Int32) (i_knots : Int32) (i_bitsMade : Int32) (i_weights : Int32) (i_order : Int32) (i_bit : Int32) (i_bitEnd : Int32) (v_length : Nat → Int32) (v_symbolOf : Nat → Int32) (l1 : Int32) (l2 : Int32) (res : Int32) (kf : Option (Int32)) : Prop := ∀ (_ : Unit), kf  = some res → ∀ (H : Heap) (locs : List Loc) (ls : Array Slot), lv_has ls 3 [(0, .ref a_this), (1, .int l1), (2, .int l2)] → va_P D classes [(a_this, .inr (1, [.ref o_in, .int i_inLong, .int i_goesOn, .ref o_out, .int i_outLong, .ref o_counts, .int i_greatest, .ref a_length, .ref a_symbolOf, .ref o_draft, .ref o_knot, .ref o_inSum, .int i_knots, .ref o_halved, .ref o_made, .int i_bitsMade, .ref o_weight, .int i_weights, .int i_order, .ref o_points, .ref o_cutOff, .ref o_had, .ref o_placeOf, .int i_bit, .int i_bitEnd])), (a_length, .inl (cI, 256, .inl v_length)), (a_symbolOf, .inl (cI, 2048, .inl v_symbolOf))] H → va_D A [(a_this, .inr (1, [.ref o_in, .int i_inLong, .int i_goesOn, .ref o_out, .int i_outLong, .ref o_counts, .int i_greatest, .ref a_length, .ref a_symbolOf, .ref o_draft, .ref o_knot, .ref o_inSum, .int i_knots, .ref o_halved, .ref o_made, .int i_bitsMade, .ref o_weight, .int i_weights, .int i_order, .ref o_points, .ref o_cutOff, .ref o_had, .ref o_placeOf, .int i_bit, .int i_bitEnd])), (a_length, .inl (cI, 256, .inl v_length)), (a_symbolOf, .inl (cI, 2048, .inl v_symbolOf))] → va_S A s.heap H locs → W p l e R_MM_code s m args below meth c H locs 0 0 Q (F0 m 0 ls [])
set_option maxHeartbeats 4000000 in
set_option maxRecDepth 100000 in
theorem w_MM_code_b27 {p : Program} {l : Launch} {e : Env} {s : State} {m : MethodId} {args : Array Value} {below : List Frame} {meth : Method} {c : Code} {Q : State → Prop} {A : Nat → Prop} {D : va_G} {cI cL cZ : ClassId} {a_this : Nat} {a_length : Nat} {a_symbolOf : Nat} {o_in : Nat} {o_out : Nat} {o_counts : Nat} {o_draft : Nat} {o_knot : Nat} {o_inSum : Nat} {o_halved : Nat} {o_made : Nat} {o_weight : Nat} {o_points : Nat} {o_cutOff : Nat} {o_had : Nat} {o_placeOf : Nat} {i_inLong : Int32} {i_goesOn : Int32} {i_outLong : Int32} {i_greatest : Int32} {i_knots : Int32} {i_bitsMade : Int32} {i_weights : Int32} {i_order : Int32} {i_bit : Int32} {i_bitEnd : Int32} {v_length : Nat → Int32} {v_symbolOf : Nat → Int32} {l1 : Int32} {l2 : Int32} {N : Nat} {res : Int32}  (C : Cx p s m args c b_MM_code 3 "PrefixMillModel" D [(cI, .int), (cL, .long), (cZ, .boolean)] A) (hret : E_MM_code p l e s m args below meth c Q A D cI cL cZ a_this a_length a_symbolOf o_in o_out o_counts o_draft o_knot o_inSum o_halved o_made o_weight o_points o_cutOff o_had o_placeOf i_inLong i_goesOn i_outLong i_greatest i_knots i_bitsMade i_weights i_order i_bit i_bitEnd v_length v_symbolOf l1 l2 res)  : I_MM_code_b27 p l e s m args below meth c Q A D cI cL cZ a_this a_length a_symbolOf o_in o_out o_counts o_draft o_knot o_inSum o_halved o_made o_weight o_points o_cutOff o_had o_placeOf i_inLong i_goesOn i_outLong i_greatest i_knots i_bitsMade i_weights i_order i_bit i_bitEnd v_length v_symbolOf l1 l2 res (f_MM_code_b27 N i_greatest v_length v_symbolOf l1 l2 ) := by
  obtain ⟨hx, hb, hml, hown, hts, hK, hA⟩ := C
  intro _ h H locs ls hl hP hD hS
  unfold f_MM_code_b27 at h
  refine lv_iconst (v := (-1)) hx hb d_MM_code_27 (by decide) ?_
  exact hret _ _ _ _ (-1)  h d_MM_code_28 hP hD hS
set_option maxHeartbeats 4000000 in
set_option maxRecDepth 100000 in
theorem w_MM_code_b0 {p : Program} {l : Launch} {e : Env} {s : State} {m : MethodId} {args : Array Value} {below : List Frame} {meth : Method} {c : Code} {Q : State → Prop} {A : Nat → Prop} {D : va_G} {cI cL cZ : ClassId} {a_this : Nat} {a_length : Nat} {a_symbolOf : Nat} {o_in : Nat} {o_out : Nat} {o_counts : Nat} {o_draft : Nat} {o_knot : Nat} {o_inSum : Nat} {o_halved : Nat} {o_made : Nat} {o_weight : Nat} {o_points : Nat} {o_cutOff : Nat} {o_had : Nat} {o_placeOf : Nat} {i_inLong : Int32} {i_goesOn : Int32} {i_outLong : Int32} {i_greatest : Int32} {i_knots : Int32} {i_bitsMade : Int32} {i_weights : Int32} {i_order : Int32} {i_bit : Int32} {i_bitEnd : Int32} {v_length : Nat → Int32} {v_symbolOf : Nat → Int32} {l1 : Int32} {l2 : Int32} {N : Nat} {res : Int32}  (C : Cx p s m args c b_MM_code 3 "PrefixMillModel" D [(cI, .int), (cL, .long), (cZ, .boolean)] A) (hret : E_MM_code p l e s m args below meth c Q A D cI cL cZ a_this a_length a_symbolOf o_in o_out o_counts o_draft o_knot o_inSum o_halved o_made o_weight o_points o_cutOff o_had o_placeOf i_inLong i_goesOn i_outLong i_greatest i_knots i_bitsMade i_weights i_order i_bit i_bitEnd v_length v_symbolOf l1 l2 res)  : I_MM_code_b0 p l e s m args below meth c Q A D cI cL cZ a_this a_length a_symbolOf o_in o_out o_counts o_draft o_knot o_inSum o_halved o_made o_weight o_points o_cutOff o_had o_placeOf i_inLong i_goesOn i_outLong i_greatest i_knots i_bitsMade i_weights i_order i_bit i_bitEnd v_length v_symbolOf l1 l2 res (f_MM_code N i_greatest v_length v_symbolOf l1 l2 ) := by
  obtain ⟨hx, hb, hml, hown, hts, hK, hA⟩ := C
  intro _ h H locs ls hl hP hD hS
  unfold f_MM_code at h
  refine lv_aload_n hx hb d_MM_code_0 rfl (lv_at hl 0 rfl) ?_
  refine va_get hx hb hts in_MM hown hK hP 0 rfl rfl 6 (by decide) (hts _ m_759) (fun _ h9 => h9) rfl d_MM_code_1 ?_
  refine lv_if_eq (tgt := 27) hx hb d_MM_code_4 (by decide) (fun c_1 => ?_) (fun c_1 => ?_)
  · replace h := if_t h c_1
    exact w_MM_code_b27 ⟨hx, hb, hml, hown, hts, hK, hA⟩ hret  () h H locs ls (lv_sub hl [] rfl) hP hD hS
  · replace h := if_f h c_1
    refine lv_iload_n hx hb d_MM_code_7 rfl (lv_at hl 1 rfl) ?_
    refine lv_if_lt (tgt := 27) hx hb d_MM_code_8 (by decide) (fun c_2 => ?_) (fun c_2 => ?_)
    · replace h := if_t h c_2
      exact w_MM_code_b27 ⟨hx, hb, hml, hown, hts, hK, hA⟩ hret  () h H locs ls (lv_sub hl [] rfl) hP hD hS
    · replace h := if_f h c_2
      refine lv_iload_n hx hb d_MM_code_11 rfl (lv_at hl 1 rfl) ?_
      refine lv_sipush (v := 256) hx hb d_MM_code_12 (by decide) ?_
      refine lv_icmp_ge (tgt := 27) hx hb d_MM_code_15 (by decide) (fun c_3 => ?_) (fun c_3 => ?_)
      · replace h := if_t h c_3
        exact w_MM_code_b27 ⟨hx, hb, hml, hown, hts, hK, hA⟩ hret  () h H locs ls (lv_sub hl [] rfl) hP hD hS
      · replace h := if_f h c_3
        refine lv_iload_n hx hb d_MM_code_18 rfl (lv_at hl 2 rfl) ?_
        refine lv_if_lt (tgt := 27) hx hb d_MM_code_19 (by decide) (fun c_4 => ?_) (fun c_4 => ?_)
        · replace h := if_t h c_4
          exact w_MM_code_b27 ⟨hx, hb, hml, hown, hts, hK, hA⟩ hret  () h H locs ls (lv_sub hl [] rfl) hP hD hS
        · replace h := if_f h c_4
          refine lv_iload_n hx hb d_MM_code_22 rfl (lv_at hl 2 rfl) ?_
          refine lv_iconst (v := 1) hx hb d_MM_code_23 (by decide) ?_
          refine lv_icmp_le (tgt := 29) hx hb d_MM_code_24 (by decide) (fun c_5 => ?_) (fun c_5 => ?_)
          · replace h := if_t h c_5
            refine lv_aload_n hx hb d_MM_code_29 rfl (lv_at hl 0 rfl) ?_
            refine va_get hx hb hts in_MM hown hK hP 0 rfl rfl 7 (by decide) (hts _ m_760) (fun _ h9 => h9) rfl d_MM_code_30 ?_
            refine lv_iload_n hx hb d_MM_code_33 rfl (lv_at hl 1 rfl) ?_
            obtain ⟨g_6, h⟩ := ck_s h
            refine va_iald hx hb hK hP 1 0 rfl rfl (inb_s g_6) d_MM_code_34 ?_
            refine lv_if_ne (tgt := 40) hx hb d_MM_code_35 (by decide) (fun c_7 => ?_) (fun c_7 => ?_)
            · replace h := if_f h c_7
              refine lv_iload_n hx hb d_MM_code_40 rfl (lv_at hl 2 rfl) ?_
              refine lv_if_ne (tgt := 53) hx hb d_MM_code_41 (by decide) (fun c_8 => ?_) (fun c_8 => ?_)
              · replace h := if_f h c_8
                refine lv_aload_n hx hb d_MM_code_53 rfl (lv_at hl 0 rfl) ?_
                refine lv_iload_n hx hb d_MM_code_54 rfl (lv_at hl 1 rfl) ?_
                obtain ⟨r_9, hc_10, h⟩ := bd1_s h
                have hPc := hP.sub (ws' := [(a_this, .inr (1, [.ref o_in, .int i_inLong, .int i_goesOn, .ref o_out, .int i_outLong, .ref o_counts, .int i_greatest, .ref a_length, .ref a_symbolOf, .ref o_draft, .ref o_knot, .ref o_inSum, .int i_knots, .ref o_halved, .ref o_made, .int i_bitsMade, .ref o_weight, .int i_weights, .int i_order, .ref o_points, .ref o_cutOff, .ref o_had, .ref o_placeOf, .int i_bit, .int i_bitEnd])), (a_length, .inl (cI, 256, .inl v_length)), (a_symbolOf, .inl (cI, 2048, .inl v_symbolOf))]) [0, 1, 2] rfl
                have hDc := hD.sub (ws' := [(a_this, .inr (1, [.ref o_in, .int i_inLong, .int i_goesOn, .ref o_out, .int i_outLong, .ref o_counts, .int i_greatest, .ref a_length, .ref a_symbolOf, .ref o_draft, .ref o_knot, .ref o_inSum, .int i_knots, .ref o_halved, .ref o_made, .int i_bitsMade, .ref o_weight, .int i_weights, .int i_order, .ref o_points, .ref o_cutOff, .ref o_had, .ref o_placeOf, .int i_bit, .int i_bitEnd])), (a_length, .inl (cI, 256, .inl v_length)), (a_symbolOf, .inl (cI, 2048, .inl v_symbolOf))]) [0, 1, 2] (by decide) rfl
                have hFc := va_free (wc := [(a_this, .inr (1, [.ref o_in, .int i_inLong, .int i_goesOn, .ref o_out, .int i_outLong, .ref o_counts, .int i_greatest, .ref a_length, .ref a_symbolOf, .ref o_draft, .ref o_knot, .ref o_inSum, .int i_knots, .ref o_halved, .ref o_made, .int i_bitsMade, .ref o_weight, .int i_weights, .int i_order, .ref o_points, .ref o_cutOff, .ref o_had, .ref o_placeOf, .int i_bit, .int i_bitEnd])), (a_length, .inl (cI, 256, .inl v_length)), (a_symbolOf, .inl (cI, 2048, .inl v_symbolOf))]) hD hS hA [0, 1, 2] rfl
                refine va_calli (va_runV (As := [.int l1]) (rest := []) ⟨hx, hb, hml, hown, hts⟩ (c_MM_codeOf l D cI cL cZ H.size N a_this a_length a_symbolOf o_in o_out o_counts o_draft o_knot o_inSum o_halved o_made o_weight o_points o_cutOff o_had o_placeOf i_inLong i_goesOn i_outLong i_greatest i_knots i_bitsMade i_weights i_order i_bit i_bitEnd v_length v_symbolOf l1 r_9 hc_10) ⟨(my_cb 1 hts m_903 rfl rfl (hts _ m_76) (hts _ m_900) (by decide +kernel) ⟨Nat.le_of_ble_eq_true rfl, Nat.le_of_ble_eq_true rfl⟩), hts _ m_902, hts _ m_32⟩ ⟨fun a U g mk q => by obtain ⟨q0, q1, qP, qK, qD⟩ := q; exact ⟨q0, q1, qP, va_K.moved (u := U) (U := U.calling g mk a) (Vm.Alike.refl U.vm) qK, qD⟩, va_recv hK hPc (ci := 1) (q0 := 0) rfl rfl, fun U hU hW => ⟨rfl, by rw [hU], by rw [hU]; exact hPc, va_K.moved hW.alike hK, hDc.weaken (fun _ _ _ _ => trivial)⟩⟩ rfl rfl hl.1 rfl (lv_room (Nat.le_of_ble_eq_true rfl)) d_MM_code_55 ⟨Nat.zero_le _, Nat.zero_le _⟩) hS (fun q _ h => hFc q h) hFc (fun rr u t H1 locs ht hvm hw hB hz1 hk1 hS => ?_)
                obtain ⟨hP1, hK1, hD1⟩ := hB
                rw [ht] at hP1
                subst hw
                obtain ⟨hP, hD⟩ := va_join (wr := []) (w1 := [(a_this, .inr (1, [.ref o_in, .int i_inLong, .int i_goesOn, .ref o_out, .int i_outLong, .ref o_counts, .int i_greatest, .ref a_length, .ref a_symbolOf, .ref o_draft, .ref o_knot, .ref o_inSum, .int i_knots, .ref o_halved, .ref o_made, .int i_bitsMade, .ref o_weight, .int i_weights, .int i_order, .ref o_points, .ref o_cutOff, .ref o_had, .ref o_placeOf, .int i_bit, .int i_bitEnd])), (a_length, .inl (cI, 256, .inl v_length)), (a_symbolOf, .inl (cI, 2048, .inl v_symbolOf))]) hP hD [0, 1, 2] [] rfl rfl (by decide) (by decide) hk1 hFc hP1 hD1
                clear hPc hDc hFc hk1 hP1 hD1 hK1
                generalize H1 = H at hP hS ⊢
                have hP : va_P D classes [(a_this, .inr (1, [.ref o_in, .int i_inLong, .int i_goesOn, .ref o_out, .int i_outLong, .ref o_counts, .int i_greatest, .ref a_length, .ref a_symbolOf, .ref o_draft, .ref o_knot, .ref o_inSum, .int i_knots, .ref o_halved, .ref o_made, .int i_bitsMade, .ref o_weight, .int i_weights, .int i_order, .ref o_points, .ref o_cutOff, .ref o_had, .ref o_placeOf, .int i_bit, .int i_bitEnd])), (a_length, .inl (cI, 256, .inl v_length)), (a_symbolOf, .inl (cI, 2048, .inl v_symbolOf))] H := hP.sub [0, 1, 2] rfl
                have hD : va_D A [(a_this, .inr (1, [.ref o_in, .int i_inLong, .int i_goesOn, .ref o_out, .int i_outLong, .ref o_counts, .int i_greatest, .ref a_length, .ref a_symbolOf, .ref o_draft, .ref o_knot, .ref o_inSum, .int i_knots, .ref o_halved, .ref o_made, .int i_bitsMade, .ref o_weight, .int i_weights, .int i_order, .ref o_points, .ref o_cutOff, .ref o_had, .ref o_placeOf, .int i_bit, .int i_bitEnd])), (a_length, .inl (cI, 256, .inl v_length)), (a_symbolOf, .inl (cI, 2048, .inl v_symbolOf))] := hD.sub [0, 1, 2] (by decide) rfl
                exact hret _ _ _ _ r_9  h d_MM_code_58 hP hD hS
              · replace h := if_t h c_8
                refine lv_aload_n hx hb d_MM_code_44 rfl (lv_at hl 0 rfl) ?_
                refine va_get hx hb hts in_MM hown hK hP 0 rfl rfl 7 (by decide) (hts _ m_760) (fun _ h9 => h9) rfl d_MM_code_45 ?_
                refine lv_iload_n hx hb d_MM_code_48 rfl (lv_at hl 1 rfl) ?_
                obtain ⟨g_11, h⟩ := ck_s h
                refine va_iald hx hb hK hP 1 0 rfl rfl (inb_s g_11) d_MM_code_49 ?_
                refine lv_goto (tgt := 58) hx hb d_MM_code_50 (by decide) ?_
                exact hret _ _ _ _ (v_length (Int32.toNatClampNeg l1))  h d_MM_code_58 hP hD hS
            · replace h := if_t h c_7
              refine lv_iconst (v := (-1)) hx hb d_MM_code_38 (by decide) ?_
              exact hret _ _ _ _ (-1)  h d_MM_code_39 hP hD hS
          · replace h := if_f h c_5
            exact w_MM_code_b27 ⟨hx, hb, hml, hown, hts, hK, hA⟩ hret  () h H locs ls (lv_sub hl [] rfl) hP hD hS
set_option maxHeartbeats 4000000 in
set_option maxRecDepth 100000 in
theorem c_MM_code (l : Launch) (D : va_G) (cI cL cZ : ClassId) (sz N : Nat) (a_this : Nat) (a_length : Nat) (a_symbolOf : Nat) (o_in : Nat) (o_out : Nat) (o_counts : Nat) (o_draft : Nat) (o_knot : Nat) (o_inSum : Nat) (o_halved : Nat) (o_made : Nat) (o_weight : Nat) (o_points : Nat) (o_cutOff : Nat) (o_had : Nat) (o_placeOf : Nat) (i_inLong : Int32) (i_goesOn : Int32) (i_outLong : Int32) (i_greatest : Int32) (i_knots : Int32) (i_bitsMade : Int32) (i_weights : Int32) (i_order : Int32) (i_bit : Int32) (i_bitEnd : Int32) (v_length : Nat → Int32) (v_symbolOf : Nat → Int32) (l1 : Int32) (l2 : Int32) (rv : Int32) (h : f_MM_code N i_greatest v_length v_symbolOf l1 l2  = some (rv)) : Met l ({ cls := "PrefixMillModel", name := "code", desc := "(II)I" } : Jvm.MethodName) ws_MM_code R_MM_code (va_Pc [.ref a_this, .int l1, .int l2] (fun U => U.heap.size = sz ∧ va_P D classes [(a_this, .inr (1, [.ref o_in, .int i_inLong, .int i_goesOn, .ref o_out, .int i_outLong, .ref o_counts, .int i_greatest, .ref a_length, .ref a_symbolOf, .ref o_draft, .ref o_knot, .ref o_inSum, .int i_knots, .ref o_halved, .ref o_made, .int i_bitsMade, .ref o_weight, .int i_weights, .int i_order, .ref o_points, .ref o_cutOff, .ref o_had, .ref o_placeOf, .int i_bit, .int i_bitEnd])), (a_length, .inl (cI, 256, .inl v_length)), (a_symbolOf, .inl (cI, 2048, .inl v_symbolOf))] U.heap ∧ va_K D classes [(cI, .int), (cL, .long), (cZ, .boolean)] U ∧ va_D (fun _ => True) [(a_this, .inr (1, [.ref o_in, .int i_inLong, .int i_goesOn, .ref o_out, .int i_outLong, .ref o_counts, .int i_greatest, .ref a_length, .ref a_symbolOf, .ref o_draft, .ref o_knot, .ref o_inSum, .int i_knots, .ref o_halved, .ref o_made, .int i_bitsMade, .ref o_weight, .int i_weights, .int i_order, .ref o_points, .ref o_cutOff, .ref o_had, .ref o_placeOf, .int i_bit, .int i_bitEnd])), (a_length, .inl (cI, 256, .inl v_length)), (a_symbolOf, .inl (cI, 2048, .inl v_symbolOf))])) (va_Qi (fun (r0 : Int32) (_ : Unit) => rv = r0) (fun _ t => va_P D classes [(a_this, .inr (1, [.ref o_in, .int i_inLong, .int i_goesOn, .ref o_out, .int i_outLong, .ref o_counts, .int i_greatest, .ref a_length, .ref a_symbolOf, .ref o_draft, .ref o_knot, .ref o_inSum, .int i_knots, .ref o_halved, .ref o_made, .int i_bitsMade, .ref o_weight, .int i_weights, .int i_order, .ref o_points, .ref o_cutOff, .ref o_had, .ref o_placeOf, .int i_bit, .int i_bitEnd])), (a_length, .inl (cI, 256, .inl v_length)), (a_symbolOf, .inl (cI, 2048, .inl v_symbolOf))] t.heap ∧ va_K D classes [(cI, .int), (cL, .long), (cZ, .boolean)] t ∧ va_D (va_A [(a_this, .inr (1, [.ref o_in, .int i_inLong, .int i_goesOn, .ref o_out, .int i_outLong, .ref o_counts, .int i_greatest, .ref a_length, .ref a_symbolOf, .ref o_draft, .ref o_knot, .ref o_inSum, .int i_knots, .ref o_halved, .ref o_made, .int i_bitsMade, .ref o_weight, .int i_weights, .int i_order, .ref o_points, .ref o_cutOff, .ref o_had, .ref o_placeOf, .int i_bit, .int i_bitEnd])), (a_length, .inl (cI, 256, .inl v_length)), (a_symbolOf, .inl (cI, 2048, .inl v_symbolOf))] sz) [(a_this, .inr (1, [.ref o_in, .int i_inLong, .int i_goesOn, .ref o_out, .int i_outLong, .ref o_counts, .int i_greatest, .ref a_length, .ref a_symbolOf, .ref o_draft, .ref o_knot, .ref o_inSum, .int i_knots, .ref o_halved, .ref o_made, .int i_bitsMade, .ref o_weight, .int i_weights, .int i_order, .ref o_points, .ref o_cutOff, .ref o_had, .ref o_placeOf, .int i_bit, .int i_bitEnd])), (a_length, .inl (cI, 256, .inl v_length)), (a_symbolOf, .inl (cI, 2048, .inl v_symbolOf))]) (va_A [(a_this, .inr (1, [.ref o_in, .int i_inLong, .int i_goesOn, .ref o_out, .int i_outLong, .ref o_counts, .int i_greatest, .ref a_length, .ref a_symbolOf, .ref o_draft, .ref o_knot, .ref o_inSum, .int i_knots, .ref o_halved, .ref o_made, .int i_bitsMade, .ref o_weight, .int i_weights, .int i_order, .ref o_points, .ref o_cutOff, .ref o_had, .ref o_placeOf, .int i_bit, .int i_bitEnd])), (a_length, .inl (cI, 256, .inl v_length)), (a_symbolOf, .inl (cI, 2048, .inl v_symbolOf))] sz)) 0 0 (va_A [(a_this, .inr (1, [.ref o_in, .int i_inLong, .int i_goesOn, .ref o_out, .int i_outLong, .ref o_counts, .int i_greatest, .ref a_length, .ref a_symbolOf, .ref o_draft, .ref o_knot, .ref o_inSum, .int i_knots, .ref o_halved, .ref o_made, .int i_bitsMade, .ref o_weight, .int i_weights, .int i_order, .ref o_points, .ref o_cutOff, .ref o_had, .ref o_placeOf, .int i_bit, .int i_bitEnd])), (a_length, .inl (cI, 256, .inl v_length)), (a_symbolOf, .inl (cI, 2048, .inl v_symbolOf))] sz) := by
  refine Met.ofW (cc := b_MM_code) (maxL := 3) (ret := (some .int)) (by decide) rfl ?_
  intro p e s m args below meth c s₁ B hml hv
  obtain ⟨rfl, hsz, hP, hK, hD0⟩ := hv
  have hx := B.exec
  have hb := B.bytes
  have hr := B.returns
  have hts0 := atoms_spec (ws := ws_MM_code) B.pre
  have hts := gd_tl hts0
  clear hts0
  have hown : s.vm.findClass "PrefixMillModel" = some m.cls := findClass_of_methodNamed B.named
  have hlocks := B.notSynchronized
  subst hsz
  have hD := hD0.self (sz := s.heap.size)
  generalize hAe : va_A [(a_this, .inr (1, [.ref o_in, .int i_inLong, .int i_goesOn, .ref o_out, .int i_outLong, .ref o_counts, .int i_greatest, .ref a_length, .ref a_symbolOf, .ref o_draft, .ref o_knot, .ref o_inSum, .int i_knots, .ref o_halved, .ref o_made, .int i_bitsMade, .ref o_weight, .int i_weights, .int i_order, .ref o_points, .ref o_cutOff, .ref o_had, .ref o_placeOf, .int i_bit, .int i_bitEnd])), (a_length, .inl (cI, 256, .inl v_length)), (a_symbolOf, .inl (cI, 2048, .inl v_symbolOf))] s.heap.size = A at hD ⊢
  have hA : ∀ q : Nat, s.heap.size ≤ q → A q := fun q h => by rw [← hAe]; exact Or.inr h
  have hS : va_S A s.heap s.heap [] := va_S.rf
  have hP : va_P D classes [(a_this, .inr (1, [.ref o_in, .int i_inLong, .int i_goesOn, .ref o_out, .int i_outLong, .ref o_counts, .int i_greatest, .ref a_length, .ref a_symbolOf, .ref o_draft, .ref o_knot, .ref o_inSum, .int i_knots, .ref o_halved, .ref o_made, .int i_bitsMade, .ref o_weight, .int i_weights, .int i_order, .ref o_points, .ref o_cutOff, .ref o_had, .ref o_placeOf, .int i_bit, .int i_bitEnd])), (a_length, .inl (cI, 256, .inl v_length)), (a_symbolOf, .inl (cI, 2048, .inl v_symbolOf))] s.heap := hP
  have hl := lv_entry ([.ref a_this, .int l1, .int l2]) (n := 3) (Nat.le_of_ble_eq_true rfl)
  rw [lg_entry_eq]
  generalize (lg_sl ([.ref a_this, .int l1, .int l2]) ++ List.replicate (3 - (lg_sl ([.ref a_this, .int l1, .int l2])).length) Slot.unset).toArray = ls at hl ⊢
  have hl : lv_has ls 3 [(0, .ref a_this), (1, .int l1), (2, .int l2)] := hl
  have C : Cx p s m ([.ref a_this, .int l1, .int l2] : List Value).toArray c b_MM_code 3 "PrefixMillModel" D [(cI, .int), (cL, .long), (cZ, .boolean)] A := ⟨hx, hb, hml, hown, hts, hK, hA⟩
  refine w_MM_code_b0 (res := (rv)) C ?_ () h s.heap [] ls hl hP hD hS
  intro pc9 H9 locs9 ls9 rv9 e9 d9 hP9 hD9 hS9
  cases e9
  exact W.iret (v := rv) hx hb hr (fun t ht hW => ⟨⟨rv, (), rfl, rfl, by rw [ht]; exact hP9, va_K.moved hW.alike hK, hD9⟩, hS9.F ht⟩) hS9.2.2 d9
abbrev b_MM_begin : ByteArray := prog_12_method_20_code
def ws_MM_begin : List Cond := .code ({ cls := "PrefixMillModel", name := "begin", desc := "()V" } : Jvm.MethodName) b_MM_begin 2 none :: tt
theorem d_MM_begin_0 : decode b_MM_begin 0 = .ok (.iconst 0, 1) := by decide +kernel
theorem d_MM_begin_1 : decode b_MM_begin 1 = .ok (.istore_n 1, 1) := by decide +kernel
theorem d_MM_begin_2 : decode b_MM_begin 2 = .ok (.iload_n 1, 1) := by decide +kernel
theorem d_MM_begin_3 : decode b_MM_begin 3 = .ok (.sipush 6000, 3) := by decide +kernel
theorem d_MM_begin_6 : decode b_MM_begin 6 = .ok (.if_icmp .ge 16, 3) := by decide +kernel
theorem d_MM_begin_9 : decode b_MM_begin 9 = .ok (.aload_n 0, 1) := by decide +kernel
theorem d_MM_begin_10 : decode b_MM_begin 10 = .ok (.getfield 37, 3) := by decide +kernel
theorem d_MM_begin_13 : decode b_MM_begin 13 = .ok (.iload_n 1, 1) := by decide +kernel
theorem d_MM_begin_14 : decode b_MM_begin 14 = .ok (.iconst 0, 1) := by decide +kernel
theorem d_MM_begin_15 : decode b_MM_begin 15 = .ok (.iastore, 1) := by decide +kernel
theorem d_MM_begin_16 : decode b_MM_begin 16 = .ok (.iinc 1 1, 3) := by decide +kernel
theorem d_MM_begin_19 : decode b_MM_begin 19 = .ok (.goto (-17), 3) := by decide +kernel
theorem d_MM_begin_22 : decode b_MM_begin 22 = .ok (.aload_n 0, 1) := by decide +kernel
theorem d_MM_begin_23 : decode b_MM_begin 23 = .ok (.iconst 0, 1) := by decide +kernel
theorem d_MM_begin_24 : decode b_MM_begin 24 = .ok (.putfield 95, 3) := by decide +kernel
theorem d_MM_begin_27 : decode b_MM_begin 27 = .ok (.return_, 1) := by decide +kernel
def f_MM_begin_b22 (N : Nat)   (i_bitsMade : Int32) (v_made : Nat → Int32) : Option (Int32 × (Nat → Int32)) :=
  some (0, v_made)
def f_MM_begin_b2 (N : Nat)   : Nat → Int32 → Int32 → (Nat → Int32) → Option (Int32 × (Nat → Int32))
  | 0, _, _, _ => none
  | z + 1, l1, i_bitsMade, v_made =>
  if 6000 ≤ l1 then
  f_MM_begin_b22 N   i_bitsMade v_made
  else
  ck (inb l1 6000) <|
  nm (upd v_made (Int32.toNatClampNeg l1) 0) fun v_made_3 =>
  nm (l1 + 1) fun l1_4 =>
  f_MM_begin_b2 N   z l1_4 i_bitsMade v_made_3
def f_MM_begin (N : Nat)   (i_bitsMade : Int32) (v_made : Nat → Int32) : Option (Int32 × (Nat → Int32)) :=
  f_MM_begin_b2 N   N 0 i_bitsMade v_made
abbrev R_MM_begin : Room := ({ frames := 0, cells := 0, slots := 0, locals := 0 } : Room)
def E_MM_begin (p : Program) (l : Launch) (e : Env) (s : State) (m : MethodId) (args : Array Value) (below : List Frame) (meth : Method) (c : Code) (Q : State → Prop) (A : Nat → Prop) (D : va_G) (cI cL cZ : ClassId) (a_this : Nat) (a_made : Nat) (o_in : Nat) (o_out : Nat) (o_counts : Nat) (o_length : Nat) (o_symbolOf : Nat) (o_draft : Nat) (o_knot : Nat) (o_inSum : Nat) (o_halved : Nat) (o_weight : Nat) (o_points : Nat) (o_cutOff : Nat) (o_had : Nat) (o_placeOf : Nat) (i_inLong : Int32) (i_goesOn : Int32) (i_outLong : Int32) (i_greatest : Int32) (i_knots : Int32) (i_weights : Int32) (i_order : Int32) (i_bit : Int32) (i_bitEnd : Int32) (res : Int32 × (Nat → Int32)) : Prop := ∀ (pc : Nat) (H : Heap) (locs : List Loc) (ls : Array Slot) (i_bitsMade : Int32) (v_made : Nat → Int32), some (i_bitsMade, v_made) = some res → decode b_MM_begin pc = .ok (.return_, 1) → va_P D classes [(a_this, .inr (1, [.ref o_in, .int i_inLong, .int i_goesOn, .ref o_out, .int i_outLong, .ref o_counts, .int i_greatest, .ref o_length, .ref o_symbolOf, .ref o_draft, .ref o_knot, .ref o_inSum, .int i_knots, .ref o_halved, .ref a_made, .int i_bitsMade, .ref o_weight, .int i_weights, .int i_order, .ref o_points, .ref o_cutOff, .ref o_had, .ref o_placeOf, .int i_bit, .int i_bitEnd])), (a_made, .inl (cI, 6000, .inl v_made))] H → va_D A [(a_this, .inr (1, [.ref o_in, .int i_inLong, .int i_goesOn, .ref o_out, .int i_outLong, .ref o_counts, .int i_greatest, .ref o_length, .ref o_symbolOf, .ref o_draft, .ref o_knot, .ref o_inSum, .int i_knots, .ref o_halved, .ref a_made, .int i_bitsMade, .ref o_weight, .int i_weights, .int i_order, .ref o_points, .ref o_cutOff, .ref o_had, .ref o_placeOf, .int i_bit, .int i_bitEnd])), (a_made, .inl (cI, 6000, .inl v_made))] → va_S A s.heap H locs → W p l e R_MM_begin s m args below meth c H locs 0 0 Q (F0 m pc ls [])
def I_MM_begin_b22 (p : Program) (l : Launch) (e : Env) (s : State) (m : MethodId) (args : Array Value) (below : List Frame) (meth : Method) (c : Code) (Q : State → Prop) (A : Nat → Prop) (D : va_G) (cI cL cZ : ClassId) (a_this : Nat) (a_made : Nat) (o_in : Nat) (o_out : Nat) (o_counts : Nat) (o_length : Nat) (o_symbolOf : Nat) (o_draft : Nat) (o_knot : Nat) (o_inSum : Nat) (o_halved : Nat) (o_weight : Nat) (o_points : Nat) (o_cutOff : Nat) (o_had : Nat) (o_placeOf : Nat) (i_inLong : Int32) (i_goesOn : Int32) (i_outLong : Int32) (i_greatest : Int32) (i_knots : Int32) (i_weights : Int32) (i_order : Int32) (i_bit : Int32) (i_bitEnd : Int32) (res : Int32 × (Nat → Int32)) (kf : Int32 → (Nat → Int32) → Option (Int32 × (Nat → Int32))) : Prop := ∀ (i_bitsMade : Int32) (v_made : Nat → Int32), kf i_bitsMade v_made = some res → ∀ (H : Heap) (locs : List Loc) (ls : Array Slot), lv_has ls 2 [(0, .ref a_this)] → va_P D classes [(a_this, .inr (1, [.ref o_in, .int i_inLong, .int i_goesOn, .ref o_out, .int i_outLong, .ref o_counts, .int i_greatest, .ref o_length, .ref o_symbolOf, .ref o_draft, .ref o_knot, .ref o_inSum, .int i_knots, .ref o_halved, .ref a_made, .int i_bitsMade, .ref o_weight, .int i_weights, .int i_order, .ref o_points, .ref o_cutOff, .ref o_had, .ref o_placeOf, .int i_bit, .int i_bitEnd])), (a_made, .inl (cI, 6000, .inl v_made))] H → va_D A [(a_this, .inr (1, [.ref o_in, .int i_inLong, .int i_goesOn, .ref o_out, .int i_outLong, .ref o_counts, .int i_greatest, .ref o_length, .ref o_symbolOf, .ref o_draft, .ref o_knot, .ref o_inSum, .int i_knots, .ref o_halved, .ref a_made, .int i_bitsMade, .ref o_weight, .int i_weights, .int i_order, .ref o_points, .ref o_cutOff, .ref o_had, .ref o_placeOf, .int i_bit, .int i_bitEnd])), (a_made, .inl (cI, 6000, .inl v_made))] → va_S A s.heap H locs → W p l e R_MM_begin s m args below meth c H locs 0 0 Q (F0 m 22 ls [])
def I_MM_begin_b2 (p : Program) (l : Launch) (e : Env) (s : State) (m : MethodId) (args : Array Value) (below : List Frame) (meth : Method) (c : Code) (Q : State → Prop) (A : Nat → Prop) (D : va_G) (cI cL cZ : ClassId) (a_this : Nat) (a_made : Nat) (o_in : Nat) (o_out : Nat) (o_counts : Nat) (o_length : Nat) (o_symbolOf : Nat) (o_draft : Nat) (o_knot : Nat) (o_inSum : Nat) (o_halved : Nat) (o_weight : Nat) (o_points : Nat) (o_cutOff : Nat) (o_had : Nat) (o_placeOf : Nat) (i_inLong : Int32) (i_goesOn : Int32) (i_outLong : Int32) (i_greatest : Int32) (i_knots : Int32) (i_weights : Int32) (i_order : Int32) (i_bit : Int32) (i_bitEnd : Int32) (res : Int32 × (Nat → Int32)) (kf : Int32 → Int32 → (Nat → Int32) → Option (Int32 × (Nat → Int32))) : Prop := ∀ (l1 : Int32) (i_bitsMade : Int32) (v_made : Nat → Int32), kf l1 i_bitsMade v_made = some res → ∀ (H : Heap) (locs : List Loc) (ls : Array Slot), lv_has ls 2 [(0, .ref a_this), (1, .int l1)] → va_P D classes [(a_this, .inr (1, [.ref o_in, .int i_inLong, .int i_goesOn, .ref o_out, .int i_outLong, .ref o_counts, .int i_greatest, .ref o_length, .ref o_symbolOf, .ref o_draft, .ref o_knot, .ref o_inSum, .int i_knots, .ref o_halved, .ref a_made, .int i_bitsMade, .ref o_weight, .int i_weights, .int i_order, .ref o_points, .ref o_cutOff, .ref o_had, .ref o_placeOf, .int i_bit, .int i_bitEnd])), (a_made, .inl (cI, 6000, .inl v_made))] H → va_D A [(a_this, .inr (1, [.ref o_in, .int i_inLong, .int i_goesOn, .ref o_out, .int i_outLong, .ref o_counts, .int i_greatest, .ref o_length, .ref o_symbolOf, .ref o_draft, .ref o_knot, .ref o_inSum, .int i_knots, .ref o_halved, .ref a_made, .int i_bitsMade, .ref o_weight, .int i_weights, .int i_order, .ref o_points, .ref o_cutOff, .ref o_had, .ref o_placeOf, .int i_bit, .int i_bitEnd])), (a_made, .inl (cI, 6000, .inl v_made))] → va_S A s.heap H locs → W p l e R_MM_begin s m args below meth c H locs 0 0 Q (F0 m 2 ls [])
def I_MM_begin_b0 (p : Program) (l : Launch) (e : Env) (s : State) (m : MethodId) (args : Array Value) (below : List Frame) (meth : Method) (c : Code) (Q : State → Prop) (A : Nat → Prop) (D : va_G) (cI cL cZ : ClassId) (a_this : Nat) (a_made : Nat) (o_in : Nat) (o_out : Nat) (o_counts : Nat) (o_length : Nat) (o_symbolOf : Nat) (o_draft : Nat) (o_knot : Nat) (o_inSum : Nat) (o_halved : Nat) (o_weight : Nat) (o_points : Nat) (o_cutOff : Nat) (o_had : Nat) (o_placeOf : Nat) (i_inLong : Int32) (i_goesOn : Int32) (i_outLong : Int32) (i_greatest : Int32) (i_knots : Int32) (i_weights : Int32) (i_order : Int32) (i_bit : Int32) (i_bitEnd : Int32) (res : Int32 × (Nat → Int32)) (kf : Int32 → (Nat → Int32) → Option (Int32 × (Nat → Int32))) : Prop := ∀ (i_bitsMade : Int32) (v_made : Nat → Int32), kf i_bitsMade v_made = some res → ∀ (H : Heap) (locs : List Loc) (ls : Array Slot), lv_has ls 2 [(0, .ref a_this)] → va_P D classes [(a_this, .inr (1, [.ref o_in, .int i_inLong, .int i_goesOn, .ref o_out, .int i_outLong, .ref o_counts, .int i_greatest, .ref o_length, .ref o_symbolOf, .ref o_draft, .ref o_knot, .ref o_inSum, .int i_knots, .ref o_halved, .ref a_made, .int i_bitsMade, .ref o_weight, .int i_weights, .int i_order, .ref o_points, .ref o_cutOff, .ref o_had, .ref o_placeOf, .int i_bit, .int i_bitEnd])), (a_made, .inl (cI, 6000, .inl v_made))] H → va_D A [(a_this, .inr (1, [.ref o_in, .int i_inLong, .int i_goesOn, .ref o_out, .int i_outLong, .ref o_counts, .int i_greatest, .ref o_length, .ref o_symbolOf, .ref o_draft, .ref o_knot, .ref o_inSum, .int i_knots, .ref o_halved, .ref a_made, .int i_bitsMade, .ref o_weight, .int i_weights, .int i_order, .ref o_points, .ref o_cutOff, .ref o_had, .ref o_placeOf, .int i_bit, .int i_bitEnd])), (a_made, .inl (cI, 6000, .inl v_made))] → va_S A s.heap H locs → W p l e R_MM_begin s m args below meth c H locs 0 0 Q (F0 m 0 ls [])
set_option maxHeartbeats 4000000 in
set_option maxRecDepth 100000 in
theorem w_MM_begin_b22 {p : Program} {l : Launch} {e : Env} {s : State} {m : MethodId} {args : Array Value} {below : List Frame} {meth : Method} {c : Code} {Q : State → Prop} {A : Nat → Prop} {D : va_G} {cI cL cZ : ClassId} {a_this : Nat} {a_made : Nat} {o_in : Nat} {o_out : Nat} {o_counts : Nat} {o_length : Nat} {o_symbolOf : Nat} {o_draft : Nat} {o_knot : Nat} {o_inSum : Nat} {o_halved : Nat} {o_weight : Nat} {o_points : Nat} {o_cutOff : Nat} {o_had : Nat} {o_placeOf : Nat} {i_inLong : Int32} {i_goesOn : Int32} {i_outLong : Int32} {i_greatest : Int32} {i_knots : Int32} {i_weights : Int32} {i_order : Int32} {i_bit : Int32} {i_bitEnd : Int32} {N : Nat} {res : Int32 × (Nat → Int32)}  (C : Cx p s m args c b_MM_begin 2 "PrefixMillModel" D [(cI, .int), (cL, .long), (cZ, .boolean)] A) (hret : E_MM_begin p l e s m args below meth c Q A D cI cL cZ a_this a_made o_in o_out o_counts o_length o_symbolOf o_draft o_knot o_inSum o_halved o_weight o_points o_cutOff o_had o_placeOf i_inLong i_goesOn i_outLong i_greatest i_knots i_weights i_order i_bit i_bitEnd res)  : I_MM_begin_b22 p l e s m args below meth c Q A D cI cL cZ a_this a_made o_in o_out o_counts o_length o_symbolOf o_draft o_knot o_inSum o_halved o_weight o_points o_cutOff o_had o_placeOf i_inLong i_goesOn i_outLong i_greatest i_knots i_weights i_order i_bit i_bitEnd res (f_MM_begin_b22 N  ) := by
  obtain ⟨hx, hb, hml, hown, hts, hK, hA⟩ := C
  intro i_bitsMade v_made h H locs ls hl hP hD hS
  unfold f_MM_begin_b22 at h
  refine lv_aload_n hx hb d_MM_begin_22 rfl (lv_at hl 0 rfl) ?_
  refine lv_iconst (v := 0) hx hb d_MM_begin_23 (by decide) ?_
  refine va_put (v := .int 0) (ty := .int) hx hb hts in_MM t_MM t_MM_ok n_MM hown hK hP hD hS 0 rfl rfl 15 (by decide) (hts _ m_768) (fun _ h9 => h9) rfl (by decide +kernel) rfl rfl (Nat.le_of_ble_eq_true rfl) d_MM_begin_24 (fun H locs hP hD hS => ?_)
  have hP : va_P D classes [(a_this, .inr (1, [.ref o_in, .int i_inLong, .int i_goesOn, .ref o_out, .int i_outLong, .ref o_counts, .int i_greatest, .ref o_length, .ref o_symbolOf, .ref o_draft, .ref o_knot, .ref o_inSum, .int i_knots, .ref o_halved, .ref a_made, .int 0, .ref o_weight, .int i_weights, .int i_order, .ref o_points, .ref o_cutOff, .ref o_had, .ref o_placeOf, .int i_bit, .int i_bitEnd])), (a_made, .inl (cI, 6000, .inl v_made))] H := by exact hP
  have hD : va_D A [(a_this, .inr (1, [.ref o_in, .int i_inLong, .int i_goesOn, .ref o_out, .int i_outLong, .ref o_counts, .int i_greatest, .ref o_length, .ref o_symbolOf, .ref o_draft, .ref o_knot, .ref o_inSum, .int i_knots, .ref o_halved, .ref a_made, .int 0, .ref o_weight, .int i_weights, .int i_order, .ref o_points, .ref o_cutOff, .ref o_had, .ref o_placeOf, .int i_bit, .int i_bitEnd])), (a_made, .inl (cI, 6000, .inl v_made))] := by exact hD
  exact hret _ _ _ _ 0 v_made h d_MM_begin_27 hP hD hS
set_option maxHeartbeats 4000000 in
set_option maxRecDepth 100000 in
theorem w_MM_begin_b2 {p : Program} {l : Launch} {e : Env} {s : State} {m : MethodId} {args : Array Value} {below : List Frame} {meth : Method} {c : Code} {Q : State → Prop} {A : Nat → Prop} {D : va_G} {cI cL cZ : ClassId} {a_this : Nat} {a_made : Nat} {o_in : Nat} {o_out : Nat} {o_counts : Nat} {o_length : Nat} {o_symbolOf : Nat} {o_draft : Nat} {o_knot : Nat} {o_inSum : Nat} {o_halved : Nat} {o_weight : Nat} {o_points : Nat} {o_cutOff : Nat} {o_had : Nat} {o_placeOf : Nat} {i_inLong : Int32} {i_goesOn : Int32} {i_outLong : Int32} {i_greatest : Int32} {i_knots : Int32} {i_weights : Int32} {i_order : Int32} {i_bit : Int32} {i_bitEnd : Int32} {N : Nat} {res : Int32 × (Nat → Int32)}  (C : Cx p s m args c b_MM_begin 2 "PrefixMillModel" D [(cI, .int), (cL, .long), (cZ, .boolean)] A) (hret : E_MM_begin p l e s m args below meth c Q A D cI cL cZ a_this a_made o_in o_out o_counts o_length o_symbolOf o_draft o_knot o_inSum o_halved o_weight o_points o_cutOff o_had o_placeOf i_inLong i_goesOn i_outLong i_greatest i_knots i_weights i_order i_bit i_bitEnd res)  : ∀ z : Nat, I_MM_begin_b2 p l e s m args below meth c Q A D cI cL cZ a_this a_made o_in o_out o_counts o_length o_symbolOf o_draft o_knot o_inSum o_halved o_weight o_points o_cutOff o_had o_placeOf i_inLong i_goesOn i_outLong i_greatest i_knots i_weights i_order i_bit i_bitEnd res (f_MM_begin_b2 N   z) := by
  obtain ⟨hx, hb, hml, hown, hts, hK, hA⟩ := C
  intro z
  induction z with
  | zero => intro l1 i_bitsMade v_made h; cases h
  | succ z ih =>
    intro l1 i_bitsMade v_made h H locs ls hl hP hD hS
    refine lv_iload_n hx hb d_MM_begin_2 rfl (lv_at hl 1 rfl) ?_
    refine lv_sipush (v := 6000) hx hb d_MM_begin_3 (by decide) ?_
    refine lv_icmp_ge (tgt := 22) hx hb d_MM_begin_6 (by decide) (fun c_1 => ?_) (fun c_1 => ?_)
    · replace h := if_t h c_1
      exact w_MM_begin_b22 ⟨hx, hb, hml, hown, hts, hK, hA⟩ hret  _ _ h H locs ls (lv_sub hl [0] rfl) hP hD hS
    · replace h := if_f h c_1
      refine lv_aload_n hx hb d_MM_begin_9 rfl (lv_at hl 0 rfl) ?_
      refine va_get hx hb hts in_MM hown hK hP 0 rfl rfl 14 (by decide) (hts _ m_767) (fun _ h9 => h9) rfl d_MM_begin_10 ?_
      refine lv_iload_n hx hb d_MM_begin_13 rfl (lv_at hl 1 rfl) ?_
      refine lv_iconst (v := 0) hx hb d_MM_begin_14 (by decide) ?_
      obtain ⟨g_2, h⟩ := ck_s h
      refine va_iast hx hb hK hP hD hS 1 0 rfl rfl (inb_s g_2) d_MM_begin_15 (fun H locs hP hD hS => ?_)
      obtain ⟨v_made_3, ev_made_3⟩ : ∃ y, y = (upd v_made (Int32.toNatClampNeg l1) 0) := ⟨_, rfl⟩
      replace h := nm_s h ev_made_3
      have hP : va_P D classes [(a_this, .inr (1, [.ref o_in, .int i_inLong, .int i_goesOn, .ref o_out, .int i_outLong, .ref o_counts, .int i_greatest, .ref o_length, .ref o_symbolOf, .ref o_draft, .ref o_knot, .ref o_inSum, .int i_knots, .ref o_halved, .ref a_made, .int i_bitsMade, .ref o_weight, .int i_weights, .int i_order, .ref o_points, .ref o_cutOff, .ref o_had, .ref o_placeOf, .int i_bit, .int i_bitEnd])), (a_made, .inl (cI, 6000, .inl v_made_3))] H := by rw [ev_made_3]; exact hP
      have hD : va_D A [(a_this, .inr (1, [.ref o_in, .int i_inLong, .int i_goesOn, .ref o_out, .int i_outLong, .ref o_counts, .int i_greatest, .ref o_length, .ref o_symbolOf, .ref o_draft, .ref o_knot, .ref o_inSum, .int i_knots, .ref o_halved, .ref a_made, .int i_bitsMade, .ref o_weight, .int i_weights, .int i_order, .ref o_points, .ref o_cutOff, .ref o_had, .ref o_placeOf, .int i_bit, .int i_bitEnd])), (a_made, .inl (cI, 6000, .inl v_made_3))] := by rw [ev_made_3]; exact hD
      obtain ⟨l1_4, el1_4⟩ : ∃ y : Int32, y = l1 + 1 := ⟨_, rfl⟩
      replace h := nm_s h el1_4
      refine lv_iinc (v := l1_4) (lv' := [(1, .int l1_4), (0, .ref a_this)]) hx hb d_MM_begin_16 hl (k := 1) rfl (by rw [el1_4]; rfl) (by decide) rfl (fun ls hl => ?_)
      refine lv_goto (tgt := 2) hx hb d_MM_begin_19 (by decide) ?_
      exact ih _ _ _ h H locs ls (lv_sub hl [1, 0] rfl) hP hD hS
set_option maxHeartbeats 4000000 in
set_option maxRecDepth 100000 in
theorem w_MM_begin_b0 {p : Program} {l : Launch} {e : Env} {s : State} {m : MethodId} {args : Array Value} {below : List Frame} {meth : Method} {c : Code} {Q : State → Prop} {A : Nat → Prop} {D : va_G} {cI cL cZ : ClassId} {a_this : Nat} {a_made : Nat} {o_in : Nat} {o_out : Nat} {o_counts : Nat} {o_length : Nat} {o_symbolOf : Nat} {o_draft : Nat} {o_knot : Nat} {o_inSum : Nat} {o_halved : Nat} {o_weight : Nat} {o_points : Nat} {o_cutOff : Nat} {o_had : Nat} {o_placeOf : Nat} {i_inLong : Int32} {i_goesOn : Int32} {i_outLong : Int32} {i_greatest : Int32} {i_knots : Int32} {i_weights : Int32} {i_order : Int32} {i_bit : Int32} {i_bitEnd : Int32} {N : Nat} {res : Int32 × (Nat → Int32)}  (C : Cx p s m args c b_MM_begin 2 "PrefixMillModel" D [(cI, .int), (cL, .long), (cZ, .boolean)] A) (hret : E_MM_begin p l e s m args below meth c Q A D cI cL cZ a_this a_made o_in o_out o_counts o_length o_symbolOf o_draft o_knot o_inSum o_halved o_weight o_points o_cutOff o_had o_placeOf i_inLong i_goesOn i_outLong i_greatest i_knots i_weights i_order i_bit i_bitEnd res)  : I_MM_begin_b0 p l e s m args below meth c Q A D cI cL cZ a_this a_made o_in o_out o_counts o_length o_symbolOf o_draft o_knot o_inSum o_halved o_weight o_points o_cutOff o_had o_placeOf i_inLong i_goesOn i_outLong i_greatest i_knots i_weights i_order i_bit i_bitEnd res (f_MM_begin N  ) := by
  obtain ⟨hx, hb, hml, hown, hts, hK, hA⟩ := C
  intro i_bitsMade v_made h H locs ls hl hP hD hS
  unfold f_MM_begin at h
  refine lv_iconst (v := 0) hx hb d_MM_begin_0 (by decide) ?_
  refine lv_istore_n (lv' := [(1, .int 0), (0, .ref a_this)]) hx hb d_MM_begin_1 rfl hl (by decide) rfl (fun ls hl => ?_)
  exact w_MM_begin_b2 ⟨hx, hb, hml, hown, hts, hK, hA⟩ hret  N _ _ _ h H locs ls (lv_sub hl [1, 0] rfl) hP hD hS
set_option maxHeartbeats 4000000 in
set_option maxRecDepth 100000 in
theorem c_MM_begin (l : Launch) (D : va_G) (cI cL cZ : ClassId) (sz N : Nat) (a_this : Nat) (a_made : Nat) (o_in : Nat) (o_out : Nat) (o_counts : Nat) (o_length : Nat) (o_symbolOf : Nat) (o_draft : Nat) (o_knot : Nat) (o_inSum : Nat) (o_halved : Nat) (o_weight : Nat) (o_points : Nat) (o_cutOff : Nat) (o_had : Nat) (o_placeOf : Nat) (i_inLong : Int32) (i_goesOn : Int32) (i_outLong : Int32) (i_greatest : Int32) (i_knots : Int32) (i_bitsMade : Int32) (i_weights : Int32) (i_order : Int32) (i_bit : Int32) (i_bitEnd : Int32) (v_made : Nat → Int32) (i_bitsMade' : Int32) (v_made' : Nat → Int32) (h : f_MM_begin N  i_bitsMade v_made = some (i_bitsMade', v_made')) : Met l ({ cls := "PrefixMillModel", name := "begin", desc := "()V" } : Jvm.MethodName) ws_MM_begin R_MM_begin (va_Pc [.ref a_this] (fun U => U.heap.size = sz ∧ va_P D classes [(a_this, .inr (1, [.ref o_in, .int i_inLong, .int i_goesOn, .ref o_out, .int i_outLong, .ref o_counts, .int i_greatest, .ref o_length, .ref o_symbolOf, .ref o_draft, .ref o_knot, .ref o_inSum, .int i_knots, .ref o_halved, .ref a_made, .int i_bitsMade, .ref o_weight, .int i_weights, .int i_order, .ref o_points, .ref o_cutOff, .ref o_had, .ref o_placeOf, .int i_bit, .int i_bitEnd])), (a_made, .inl (cI, 6000, .inl v_made))] U.heap ∧ va_K D classes [(cI, .int), (cL, .long), (cZ, .boolean)] U ∧ va_D (fun _ => True) [(a_this, .inr (1, [.ref o_in, .int i_inLong, .int i_goesOn, .ref o_out, .int i_outLong, .ref o_counts, .int i_greatest, .ref o_length, .ref o_symbolOf, .ref o_draft, .ref o_knot, .ref o_inSum, .int i_knots, .ref o_halved, .ref a_made, .int i_bitsMade, .ref o_weight, .int i_weights, .int i_order, .ref o_points, .ref o_cutOff, .ref o_had, .ref o_placeOf, .int i_bit, .int i_bitEnd])), (a_made, .inl (cI, 6000, .inl v_made))])) (va_Qv (fun _ : Unit => True) (fun _ t => va_P D classes [(a_this, .inr (1, [.ref o_in, .int i_inLong, .int i_goesOn, .ref o_out, .int i_outLong, .ref o_counts, .int i_greatest, .ref o_length, .ref o_symbolOf, .ref o_draft, .ref o_knot, .ref o_inSum, .int i_knots, .ref o_halved, .ref a_made, .int i_bitsMade', .ref o_weight, .int i_weights, .int i_order, .ref o_points, .ref o_cutOff, .ref o_had, .ref o_placeOf, .int i_bit, .int i_bitEnd])), (a_made, .inl (cI, 6000, .inl v_made'))] t.heap ∧ va_K D classes [(cI, .int), (cL, .long), (cZ, .boolean)] t ∧ va_D (va_A [(a_this, .inr (1, [.ref o_in, .int i_inLong, .int i_goesOn, .ref o_out, .int i_outLong, .ref o_counts, .int i_greatest, .ref o_length, .ref o_symbolOf, .ref o_draft, .ref o_knot, .ref o_inSum, .int i_knots, .ref o_halved, .ref a_made, .int i_bitsMade, .ref o_weight, .int i_weights, .int i_order, .ref o_points, .ref o_cutOff, .ref o_had, .ref o_placeOf, .int i_bit, .int i_bitEnd])), (a_made, .inl (cI, 6000, .inl v_made))] sz) [(a_this, .inr (1, [.ref o_in, .int i_inLong, .int i_goesOn, .ref o_out, .int i_outLong, .ref o_counts, .int i_greatest, .ref o_length, .ref o_symbolOf, .ref o_draft, .ref o_knot, .ref o_inSum, .int i_knots, .ref o_halved, .ref a_made, .int i_bitsMade', .ref o_weight, .int i_weights, .int i_order, .ref o_points, .ref o_cutOff, .ref o_had, .ref o_placeOf, .int i_bit, .int i_bitEnd])), (a_made, .inl (cI, 6000, .inl v_made'))]) (va_A [(a_this, .inr (1, [.ref o_in, .int i_inLong, .int i_goesOn, .ref o_out, .int i_outLong, .ref o_counts, .int i_greatest, .ref o_length, .ref o_symbolOf, .ref o_draft, .ref o_knot, .ref o_inSum, .int i_knots, .ref o_halved, .ref a_made, .int i_bitsMade, .ref o_weight, .int i_weights, .int i_order, .ref o_points, .ref o_cutOff, .ref o_had, .ref o_placeOf, .int i_bit, .int i_bitEnd])), (a_made, .inl (cI, 6000, .inl v_made))] sz)) 0 0 (va_A [(a_this, .inr (1, [.ref o_in, .int i_inLong, .int i_goesOn, .ref o_out, .int i_outLong, .ref o_counts, .int i_greatest, .ref o_length, .ref o_symbolOf, .ref o_draft, .ref o_knot, .ref o_inSum, .int i_knots, .ref o_halved, .ref a_made, .int i_bitsMade, .ref o_weight, .int i_weights, .int i_order, .ref o_points, .ref o_cutOff, .ref o_had, .ref o_placeOf, .int i_bit, .int i_bitEnd])), (a_made, .inl (cI, 6000, .inl v_made))] sz) := by
  refine Met.ofW (cc := b_MM_begin) (maxL := 2) (ret := none) (by decide) rfl ?_
  intro p e s m args below meth c s₁ B hml hv
  obtain ⟨rfl, hsz, hP, hK, hD0⟩ := hv
  have hx := B.exec
  have hb := B.bytes
  have hr := B.returns
  have hts0 := atoms_spec (ws := ws_MM_begin) B.pre
  have hts := gd_tl hts0
  clear hts0
  have hown : s.vm.findClass "PrefixMillModel" = some m.cls := findClass_of_methodNamed B.named
  have hlocks := B.notSynchronized
  subst hsz
  have hD := hD0.self (sz := s.heap.size)
  generalize hAe : va_A [(a_this, .inr (1, [.ref o_in, .int i_inLong, .int i_goesOn, .ref o_out, .int i_outLong, .ref o_counts, .int i_greatest, .ref o_length, .ref o_symbolOf, .ref o_draft, .ref o_knot, .ref o_inSum, .int i_knots, .ref o_halved, .ref a_made, .int i_bitsMade, .ref o_weight, .int i_weights, .int i_order, .ref o_points, .ref o_cutOff, .ref o_had, .ref o_placeOf, .int i_bit, .int i_bitEnd])), (a_made, .inl (cI, 6000, .inl v_made))] s.heap.size = A at hD ⊢
  have hA : ∀ q : Nat, s.heap.size ≤ q → A q := fun q h => by rw [← hAe]; exact Or.inr h
  have hS : va_S A s.heap s.heap [] := va_S.rf
  have hP : va_P D classes [(a_this, .inr (1, [.ref o_in, .int i_inLong, .int i_goesOn, .ref o_out, .int i_outLong, .ref o_counts, .int i_greatest, .ref o_length, .ref o_symbolOf, .ref o_draft, .ref o_knot, .ref o_inSum, .int i_knots, .ref o_halved, .ref a_made, .int i_bitsMade, .ref o_weight, .int i_weights, .int i_order, .ref o_points, .ref o_cutOff, .ref o_had, .ref o_placeOf, .int i_bit, .int i_bitEnd])), (a_made, .inl (cI, 6000, .inl v_made))] s.heap := hP
  have hl := lv_entry ([.ref a_this]) (n := 2) (Nat.le_of_ble_eq_true rfl)
  rw [lg_entry_eq]
  generalize (lg_sl ([.ref a_this]) ++ List.replicate (2 - (lg_sl ([.ref a_this])).length) Slot.unset).toArray = ls at hl ⊢
  have hl : lv_has ls 2 [(0, .ref a_this)] := hl
  have C : Cx p s m ([.ref a_this] : List Value).toArray c b_MM_begin 2 "PrefixMillModel" D [(cI, .int), (cL, .long), (cZ, .boolean)] A := ⟨hx, hb, hml, hown, hts, hK, hA⟩
  refine w_MM_begin_b0 (res := (i_bitsMade', v_made')) C ?_ _ _ h s.heap [] ls hl hP hD hS
  intro pc9 H9 locs9 ls9 i_bitsMade9 v_made9 e9 d9 hP9 hD9 hS9
  cases e9
  exact W.vret hx hb hr (fun t ht hW => ⟨⟨(), rfl, trivial, by rw [ht]; exact hP9, va_K.moved hW.alike hK, hD9⟩, hS9.F ht⟩) hS9.2.2 d9
abbrev b_MM_put : ByteArray := prog_12_method_21_code
def ws_MM_put : List Cond := .code ({ cls := "PrefixMillModel", name := "put", desc := "(II)V" } : Jvm.MethodName) b_MM_put 4 none :: tt
theorem d_MM_put_0 : decode b_MM_put 0 = .ok (.iconst 0, 1) := by decide +kernel
theorem d_MM_put_1 : decode b_MM_put 1 = .ok (.istore_n 3, 1) := by decide +kernel
theorem d_MM_put_2 : decode b_MM_put 2 = .ok (.iload_n 3, 1) := by decide +kernel
theorem d_MM_put_3 : decode b_MM_put 3 = .ok (.iload_n 2, 1) := by decide +kernel
theorem d_MM_put_4 : decode b_MM_put 4 = .ok (.if_icmp .ge 47, 3) := by decide +kernel
theorem d_MM_put_7 : decode b_MM_put 7 = .ok (.aload_n 0, 1) := by decide +kernel
theorem d_MM_put_8 : decode b_MM_put 8 = .ok (.getfield 37, 3) := by decide +kernel
theorem d_MM_put_11 : decode b_MM_put 11 = .ok (.aload_n 0, 1) := by decide +kernel
theorem d_MM_put_12 : decode b_MM_put 12 = .ok (.getfield 95, 3) := by decide +kernel
theorem d_MM_put_15 : decode b_MM_put 15 = .ok (.bipush 8, 2) := by decide +kernel
theorem d_MM_put_17 : decode b_MM_put 17 = .ok (.idiv, 1) := by decide +kernel
theorem d_MM_put_18 : decode b_MM_put 18 = .ok (.dup2, 1) := by decide +kernel
theorem d_MM_put_19 : decode b_MM_put 19 = .ok (.iaload, 1) := by decide +kernel
theorem d_MM_put_20 : decode b_MM_put 20 = .ok (.iload_n 1, 1) := by decide +kernel
theorem d_MM_put_21 : decode b_MM_put 21 = .ok (.iload_n 3, 1) := by decide +kernel
theorem d_MM_put_22 : decode b_MM_put 22 = .ok (.ishr, 1) := by decide +kernel
theorem d_MM_put_23 : decode b_MM_put 23 = .ok (.iconst 1, 1) := by decide +kernel
theorem d_MM_put_24 : decode b_MM_put 24 = .ok (.iand, 1) := by decide +kernel
theorem d_MM_put_25 : decode b_MM_put 25 = .ok (.aload_n 0, 1) := by decide +kernel
theorem d_MM_put_26 : decode b_MM_put 26 = .ok (.getfield 95, 3) := by decide +kernel
theorem d_MM_put_29 : decode b_MM_put 29 = .ok (.bipush 8, 2) := by decide +kernel
theorem d_MM_put_31 : decode b_MM_put 31 = .ok (.irem, 1) := by decide +kernel
theorem d_MM_put_32 : decode b_MM_put 32 = .ok (.ishl, 1) := by decide +kernel
theorem d_MM_put_33 : decode b_MM_put 33 = .ok (.iadd, 1) := by decide +kernel
theorem d_MM_put_34 : decode b_MM_put 34 = .ok (.iastore, 1) := by decide +kernel
theorem d_MM_put_35 : decode b_MM_put 35 = .ok (.aload_n 0, 1) := by decide +kernel
theorem d_MM_put_36 : decode b_MM_put 36 = .ok (.dup, 1) := by decide +kernel
theorem d_MM_put_37 : decode b_MM_put 37 = .ok (.getfield 95, 3) := by decide +kernel
theorem d_MM_put_40 : decode b_MM_put 40 = .ok (.iconst 1, 1) := by decide +kernel
theorem d_MM_put_41 : decode b_MM_put 41 = .ok (.iadd, 1) := by decide +kernel
theorem d_MM_put_42 : decode b_MM_put 42 = .ok (.putfield 95, 3) := by decide +kernel
theorem d_MM_put_45 : decode b_MM_put 45 = .ok (.iinc 3 1, 3) := by decide +kernel
theorem d_MM_put_48 : decode b_MM_put 48 = .ok (.goto (-46), 3) := by decide +kernel
theorem d_MM_put_51 : decode b_MM_put 51 = .ok (.return_, 1) := by decide +kernel
def f_MM_put_b2 (N : Nat) (l1 : Int32) (l2 : Int32)  : Nat → Int32 → Int32 → (Nat → Int32) → Option (Int32 × (Nat → Int32))
  | 0, _, _, _ => none
  | z + 1, l3, i_bitsMade, v_made =>
  if l2 ≤ l3 then
  some (i_bitsMade, v_made)
  else
  ck (inb (i_bitsMade / 8) 6000) <|
  ck (inb (i_bitsMade / 8) 6000) <|
  nm (upd v_made (Int32.toNatClampNeg (i_bitsMade / 8)) ((v_made (Int32.toNatClampNeg (i_bitsMade / 8))) + (((l1 >>> (l3 &&& 31)) &&& 1) <<< ((i_bitsMade - i_bitsMade / 8 * 8) &&& 31)))) fun v_made_4 =>
  nm (i_bitsMade + 1) fun i_bitsMade_5 =>
  nm (l3 + 1) fun l3_6 =>
  f_MM_put_b2 N l1 l2  z l3_6 i_bitsMade_5 v_made_4
def f_MM_put (N : Nat) (l1 : Int32) (l2 : Int32)  (i_bitsMade : Int32) (v_made : Nat → Int32) : Option (Int32 × (Nat → Int32)) :=
  f_MM_put_b2 N l1 l2  N 0 i_bitsMade v_made
abbrev R_MM_put : Room := ({ frames := 0, cells := 0, slots := 0, locals := 0 } : Room)
def E_MM_put (p : Program) (l : Launch) (e : Env) (s : State) (m : MethodId) (args : Array Value) (below : List Frame) (meth : Method) (c : Code) (Q : State → Prop) (A : Nat → Prop) (D : va_G) (cI cL cZ : ClassId) (a_this : Nat) (a_made : Nat) (o_in : Nat) (o_out : Nat) (o_counts : Nat) (o_length : Nat) (o_symbolOf : Nat) (o_draft : Nat) (o_knot : Nat) (o_inSum : Nat) (o_halved : Nat) (o_weight : Nat) (o_points : Nat) (o_cutOff : Nat) (o_had : Nat) (o_placeOf : Nat) (i_inLong : Int32) (i_goesOn : Int32) (i_outLong : Int32) (i_greatest : Int32) (i_knots : Int32) (i_weights : Int32) (i_order : Int32) (i_bit : Int32) (i_bitEnd : Int32) (l1 : Int32) (l2 : Int32) (res : Int32 × (Nat → Int32)) : Prop := ∀ (pc : Nat) (H : Heap) (locs : List Loc) (ls : Array Slot) (i_bitsMade : Int32) (v_made : Nat → Int32), some (i_bitsMade, v_made) = some res → decode b_MM_put pc = .ok (.return_, 1) → va_P D classes [(a_this, .inr (1, [.ref o_in, .int i_inLong, .int i_goesOn, .ref o_out, .int i_outLong, .ref o_counts, .int i_greatest, .ref o_length, .ref o_symbolOf, .ref o_draft, .ref o_knot, .ref o_inSum, .int i_knots, .ref o_halved, .ref a_made, .int i_bitsMade, .ref o_weight, .int i_weights, .int i_order, .ref o_points, .ref o_cutOff, .ref o_had, .ref o_placeOf, .int i_bit, .int i_bitEnd])), (a_made, .inl (cI, 6000, .inl v_made))] H → va_D A [(a_this, .inr (1, [.ref o_in, .int i_inLong, .int i_goesOn, .ref o_out, .int i_outLong, .ref o_counts, .int i_greatest, .ref o_length, .ref o_symbolOf, .ref o_draft, .ref o_knot, .ref o_inSum, .int i_knots, .ref o_halved, .ref a_made, .int i_bitsMade, .ref o_weight, .int i_weights, .int i_order, .ref o_points, .ref o_cutOff, .ref o_had, .ref o_placeOf, .int i_bit, .int i_bitEnd])), (a_made, .inl (cI, 6000, .inl v_made))] → va_S A s.heap H locs → W p l e R_MM_put s m args below meth c H locs 0 0 Q (F0 m pc ls [])
def I_MM_put_b2 (p : Program) (l : Launch) (e : Env) (s : State) (m : MethodId) (args : Array Value) (below : List Frame) (meth : Method) (c : Code) (Q : State → Prop) (A : Nat → Prop) (D : va_G) (cI cL cZ : ClassId) (a_this : Nat) (a_made : Nat) (o_in : Nat) (o_out : Nat) (o_counts : Nat) (o_length : Nat) (o_symbolOf : Nat) (o_draft : Nat) (o_knot : Nat) (o_inSum : Nat) (o_halved : Nat) (o_weight : Nat) (o_points : Nat) (o_cutOff : Nat) (o_had : Nat) (o_placeOf : Nat) (i_inLong : Int32) (i_goesOn : Int32) (i_outLong : Int32) (i_greatest : Int32) (i_knots : Int32) (i_weights : Int32) (i_order : Int32) (i_bit : Int32) (i_bitEnd : Int32) (l1 : Int32) (l2 : Int32) (res : Int32 × (Nat → Int32)) (kf : Int32 → Int32 → (Nat → Int32) → Option (Int32 × (Nat → Int32))) : Prop := ∀ (l3 : Int32) (i_bitsMade : Int32) (v_made : Nat → Int32), kf l3 i_bitsMade v_made = some res → ∀ (H : Heap) (locs : List Loc) (ls : Array Slot), lv_has ls 4 [(0, .ref a_this), (1, .int l1), (2, .int l2), (3, .int l3)] → va_P D classes [(a_this, .inr (1, [.ref o_in, .int i_inLong, .int i_goesOn, .ref o_out, .int i_outLong, .ref o_counts, .int i_greatest, .ref o_length, .ref o_symbolOf, .ref o_draft, .ref o_knot, .ref o_inSum, .int i_knots, .ref o_halved, .ref a_made, .int i_bitsMade, .ref o_weight, .int i_weights, .int i_order, .ref o_points, .ref o_cutOff, .ref o_had, .ref o_placeOf, .int i_bit, .int i_bitEnd])), (a_made, .inl (cI, 6000, .inl v_made))] H → va_D A [(a_this, .inr (1, [.ref o_in, .int i_inLong, .int i_goesOn, .ref o_out, .int i_outLong, .ref o_counts, .int i_greatest, .ref o_length, .ref o_symbolOf, .ref o_draft, .ref o_knot, .ref o_inSum, .int i_knots, .ref o_halved, .ref a_made, .int i_bitsMade, .ref o_weight, .int i_weights, .int i_order, .ref o_points, .ref o_cutOff, .ref o_had, .ref o_placeOf, .int i_bit, .int i_bitEnd])), (a_made, .inl (cI, 6000, .inl v_made))] → va_S A s.heap H locs → W p l e R_MM_put s m args below meth c H locs 0 0 Q (F0 m 2 ls [])
def I_MM_put_b0 (p : Program) (l : Launch) (e : Env) (s : State) (m : MethodId) (args : Array Value) (below : List Frame) (meth : Method) (c : Code) (Q : State → Prop) (A : Nat → Prop) (D : va_G) (cI cL cZ : ClassId) (a_this : Nat) (a_made : Nat) (o_in : Nat) (o_out : Nat) (o_counts : Nat) (o_length : Nat) (o_symbolOf : Nat) (o_draft : Nat) (o_knot : Nat) (o_inSum : Nat) (o_halved : Nat) (o_weight : Nat) (o_points : Nat) (o_cutOff : Nat) (o_had : Nat) (o_placeOf : Nat) (i_inLong : Int32) (i_goesOn : Int32) (i_outLong : Int32) (i_greatest : Int32) (i_knots : Int32) (i_weights : Int32) (i_order : Int32) (i_bit : Int32) (i_bitEnd : Int32) (l1 : Int32) (l2 : Int32) (res : Int32 × (Nat → Int32)) (kf : Int32 → (Nat → Int32) → Option (Int32 × (Nat → Int32))) : Prop := ∀ (i_bitsMade : Int32) (v_made : Nat → Int32), kf i_bitsMade v_made = some res → ∀ (H : Heap) (locs : List Loc) (ls : Array Slot), lv_has ls 4 [(0, .ref a_this), (1, .int l1), (2, .int l2)] → va_P D classes [(a_this, .inr (1, [.ref o_in, .int i_inLong, .int i_goesOn, .ref o_out, .int i_outLong, .ref o_counts, .int i_greatest, .ref o_length, .ref o_symbolOf, .ref o_draft, .ref o_knot, .ref o_inSum, .int i_knots, .ref o_halved, .ref a_made, .int i_bitsMade, .ref o_weight, .int i_weights, .int i_order, .ref o_points, .ref o_cutOff, .ref o_had, .ref o_placeOf, .int i_bit, .int i_bitEnd])), (a_made, .inl (cI, 6000, .inl v_made))] H → va_D A [(a_this, .inr (1, [.ref o_in, .int i_inLong, .int i_goesOn, .ref o_out, .int i_outLong, .ref o_counts, .int i_greatest, .ref o_length, .ref o_symbolOf, .ref o_draft, .ref o_knot, .ref o_inSum, .int i_knots, .ref o_halved, .ref a_made, .int i_bitsMade, .ref o_weight, .int i_weights, .int i_order, .ref o_points, .ref o_cutOff, .ref o_had, .ref o_placeOf, .int i_bit, .int i_bitEnd])), (a_made, .inl (cI, 6000, .inl v_made))] → va_S A s.heap H locs → W p l e R_MM_put s m args below meth c H locs 0 0 Q (F0 m 0 ls [])
set_option maxHeartbeats 4000000 in
set_option maxRecDepth 100000 in
theorem w_MM_put_b2 {p : Program} {l : Launch} {e : Env} {s : State} {m : MethodId} {args : Array Value} {below : List Frame} {meth : Method} {c : Code} {Q : State → Prop} {A : Nat → Prop} {D : va_G} {cI cL cZ : ClassId} {a_this : Nat} {a_made : Nat} {o_in : Nat} {o_out : Nat} {o_counts : Nat} {o_length : Nat} {o_symbolOf : Nat} {o_draft : Nat} {o_knot : Nat} {o_inSum : Nat} {o_halved : Nat} {o_weight : Nat} {o_points : Nat} {o_cutOff : Nat} {o_had : Nat} {o_placeOf : Nat} {i_inLong : Int32} {i_goesOn : Int32} {i_outLong : Int32} {i_greatest : Int32} {i_knots : Int32} {i_weights : Int32} {i_order : Int32} {i_bit : Int32} {i_bitEnd : Int32} {l1 : Int32} {l2 : Int32} {N : Nat} {res : Int32 × (Nat → Int32)}  (C : Cx p s m args c b_MM_put 4 "PrefixMillModel" D [(cI, .int), (cL, .long), (cZ, .boolean)] A) (hret : E_MM_put p l e s m args below meth c Q A D cI cL cZ a_this a_made o_in o_out o_counts o_length o_symbolOf o_draft o_knot o_inSum o_halved o_weight o_points o_cutOff o_had o_placeOf i_inLong i_goesOn i_outLong i_greatest i_knots i_weights i_order i_bit i_bitEnd l1 l2 res)  : ∀ z : Nat, I_MM_put_b2 p l e s m args below meth c Q A D cI cL cZ a_this a_made o_in o_out o_counts o_length o_symbolOf o_draft o_knot o_inSum o_halved o_weight o_points o_cutOff o_had o_placeOf i_inLong i_goesOn i_outLong i_greatest i_knots i_weights i_order i_bit i_bitEnd l1 l2 res (f_MM_put_b2 N l1 l2  z) := by
  obtain ⟨hx, hb, hml, hown, hts, hK, hA⟩ := C
  intro z
  induction z with
  | zero => intro l3 i_bitsMade v_made h; cases h
  | succ z ih =>
    intro l3 i_bitsMade v_made h H locs ls hl hP hD hS
    refine lv_iload_n hx hb d_MM_put_2 rfl (lv_at hl 3 rfl) ?_
    refine lv_iload_n hx hb d_MM_put_3 rfl (lv_at hl 2 rfl) ?_
    refine lv_icmp_ge (tgt := 51) hx hb d_MM_put_4 (by decide) (fun c_1 => ?_) (fun c_1 => ?_)
    · replace h := if_t h c_1
      exact hret _ _ _ _ i_bitsMade v_made h d_MM_put_51 hP hD hS
    · replace h := if_f h c_1
      refine lv_aload_n hx hb d_MM_put_7 rfl (lv_at hl 0 rfl) ?_
      refine va_get hx hb hts in_MM hown hK hP 0 rfl rfl 14 (by decide) (hts _ m_767) (fun _ h9 => h9) rfl d_MM_put_8 ?_
      refine lv_aload_n hx hb d_MM_put_11 rfl (lv_at hl 0 rfl) ?_
      refine va_get hx hb hts in_MM hown hK hP 0 rfl rfl 15 (by decide) (hts _ m_768) (fun _ h9 => h9) rfl d_MM_put_12 ?_
      refine lv_bipush (v := 8) hx hb d_MM_put_15 (by decide) ?_
      refine lv_idiv hx hb d_MM_put_17 (by decide) ?_
      refine lv_dup2_11 hx hb d_MM_put_18 rfl rfl ?_
      obtain ⟨g_2, h⟩ := ck_s h
      refine va_iald hx hb hK hP 1 0 rfl rfl (inb_s g_2) d_MM_put_19 ?_
      refine lv_iload_n hx hb d_MM_put_20 rfl (lv_at hl 1 rfl) ?_
      refine lv_iload_n hx hb d_MM_put_21 rfl (lv_at hl 3 rfl) ?_
      refine lv_ishr hx hb d_MM_put_22 ?_
      refine lv_iconst (v := 1) hx hb d_MM_put_23 (by decide) ?_
      refine lv_iand hx hb d_MM_put_24 ?_
      refine lv_aload_n hx hb d_MM_put_25 rfl (lv_at hl 0 rfl) ?_
      refine va_get hx hb hts in_MM hown hK hP 0 rfl rfl 15 (by decide) (hts _ m_768) (fun _ h9 => h9) rfl d_MM_put_26 ?_
      refine lv_bipush (v := 8) hx hb d_MM_put_29 (by decide) ?_
      refine lv_irem hx hb d_MM_put_31 (by decide) ?_
      refine lv_ishl hx hb d_MM_put_32 ?_
      refine lv_iadd hx hb d_MM_put_33 ?_
      obtain ⟨g_3, h⟩ := ck_s h
      refine va_iast hx hb hK hP hD hS 1 0 rfl rfl (inb_s g_3) d_MM_put_34 (fun H locs hP hD hS => ?_)
      obtain ⟨v_made_4, ev_made_4⟩ : ∃ y, y = (upd v_made (Int32.toNatClampNeg (i_bitsMade / 8)) ((v_made (Int32.toNatClampNeg (i_bitsMade / 8))) + (((l1 >>> (l3 &&& 31)) &&& 1) <<< ((i_bitsMade - i_bitsMade / 8 * 8) &&& 31)))) := ⟨_, rfl⟩
      replace h := nm_s h ev_made_4
      have hP : va_P D classes [(a_this, .inr (1, [.ref o_in, .int i_inLong, .int i_goesOn, .ref o_out, .int i_outLong, .ref o_counts, .int i_greatest, .ref o_length, .ref o_symbolOf, .ref o_draft, .ref o_knot, .ref o_inSum, .int i_knots, .ref o_halved, .ref a_made, .int i_bitsMade, .ref o_weight, .int i_weights, .int i_order, .ref o_points, .ref o_cutOff, .ref o_had, .ref o_placeOf, .int i_bit, .int i_bitEnd])), (a_made, .inl (cI, 6000, .inl v_made_4))] H := by rw [ev_made_4]; exact hP
      have hD : va_D A [(a_this, .inr (1, [.ref o_in, .int i_inLong, .int i_goesOn, .ref o_out, .int i_outLong, .ref o_counts, .int i_greatest, .ref o_length, .ref o_symbolOf, .ref o_draft, .ref o_knot, .ref o_inSum, .int i_knots, .ref o_halved, .ref a_made, .int i_bitsMade, .ref o_weight, .int i_weights, .int i_order, .ref o_points, .ref o_cutOff, .ref o_had, .ref o_placeOf, .int i_bit, .int i_bitEnd])), (a_made, .inl (cI, 6000, .inl v_made_4))] := by rw [ev_made_4]; exact hD
      refine lv_aload_n hx hb d_MM_put_35 rfl (lv_at hl 0 rfl) ?_
      refine lv_dup hx hb d_MM_put_36 rfl ?_
      refine va_get hx hb hts in_MM hown hK hP 0 rfl rfl 15 (by decide) (hts _ m_768) (fun _ h9 => h9) rfl d_MM_put_37 ?_
      refine lv_iconst (v := 1) hx hb d_MM_put_40 (by decide) ?_
      refine lv_iadd hx hb d_MM_put_41 ?_
      refine lv_topi (fun i_bitsMade_5 ei_bitsMade_5 => ?_)
      replace h := nm_s h ei_bitsMade_5
      refine va_put (v := .int i_bitsMade_5) (ty := .int) hx hb hts in_MM t_MM t_MM_ok n_MM hown hK hP hD hS 0 rfl rfl 15 (by decide) (hts _ m_768) (fun _ h9 => h9) rfl (by decide +kernel) rfl rfl (Nat.le_of_ble_eq_true rfl) d_MM_put_42 (fun H locs hP hD hS => ?_)
      have hP : va_P D classes [(a_this, .inr (1, [.ref o_in, .int i_inLong, .int i_goesOn, .ref o_out, .int i_outLong, .ref o_counts, .int i_greatest, .ref o_length, .ref o_symbolOf, .ref o_draft, .ref o_knot, .ref o_inSum, .int i_knots, .ref o_halved, .ref a_made, .int i_bitsMade_5, .ref o_weight, .int i_weights, .int i_order, .ref o_points, .ref o_cutOff, .ref o_had, .ref o_placeOf, .int i_bit, .int i_bitEnd])), (a_made, .inl (cI, 6000, .inl v_made_4))] H := by exact hP
      have hD : va_D A [(a_this, .inr (1, [.ref o_in, .int i_inLong, .int i_goesOn, .ref o_out, .int i_outLong, .ref o_counts, .int i_greatest, .ref o_length, .ref o_symbolOf, .ref o_draft, .ref o_knot, .ref o_inSum, .int i_knots, .ref o_halved, .ref a_made, .int i_bitsMade_5, .ref o_weight, .int i_weights, .int i_order, .ref o_points, .ref o_cutOff, .ref o_had, .ref o_placeOf, .int i_bit, .int i_bitEnd])), (a_made, .inl (cI, 6000, .inl v_made_4))] := by exact hD
      obtain ⟨l3_6, el3_6⟩ : ∃ y : Int32, y = l3 + 1 := ⟨_, rfl⟩
      replace h := nm_s h el3_6
      refine lv_iinc (v := l3_6) (lv' := [(3, .int l3_6), (0, .ref a_this), (1, .int l1), (2, .int l2)]) hx hb d_MM_put_45 hl (k := 3) rfl (by rw [el3_6]; rfl) (by decide) rfl (fun ls hl => ?_)
      refine lv_goto (tgt := 2) hx hb d_MM_put_48 (by decide) ?_
      exact ih _ _ _ h H locs ls (lv_sub hl [1, 2, 3, 0] rfl) hP hD hS
set_option maxHeartbeats 4000000 in
set_option maxRecDepth 100000 in
theorem w_MM_put_b0 {p : Program} {l : Launch} {e : Env} {s : State} {m : MethodId} {args : Array Value} {below : List Frame} {meth : Method} {c : Code} {Q : State → Prop} {A : Nat → Prop} {D : va_G} {cI cL cZ : ClassId} {a_this : Nat} {a_made : Nat} {o_in : Nat} {o_out : Nat} {o_counts : Nat} {o_length : Nat} {o_symbolOf : Nat} {o_draft : Nat} {o_knot : Nat} {o_inSum : Nat} {o_halved : Nat} {o_weight : Nat} {o_points : Nat} {o_cutOff : Nat} {o_had : Nat} {o_placeOf : Nat} {i_inLong : Int32} {i_goesOn : Int32} {i_outLong : Int32} {i_greatest : Int32} {i_knots : Int32} {i_weights : Int32} {i_order : Int32} {i_bit : Int32} {i_bitEnd : Int32} {l1 : Int32} {l2 : Int32} {N : Nat} {res : Int32 × (Nat → Int32)}  (C : Cx p s m args c b_MM_put 4 "PrefixMillModel" D [(cI, .int), (cL, .long), (cZ, .boolean)] A) (hret : E_MM_put p l e s m args below meth c Q A D cI cL cZ a_this a_made o_in o_out o_counts o_length o_symbolOf o_draft o_knot o_inSum o_halved o_weight o_points o_cutOff o_had o_placeOf i_inLong i_goesOn i_outLong i_greatest i_knots i_weights i_order i_bit i_bitEnd l1 l2 res)  : I_MM_put_b0 p l e s m args below meth c Q A D cI cL cZ a_this a_made o_in o_out o_counts o_length o_symbolOf o_draft o_knot o_inSum o_halved o_weight o_points o_cutOff o_had o_placeOf i_inLong i_goesOn i_outLong i_greatest i_knots i_weights i_order i_bit i_bitEnd l1 l2 res (f_MM_put N l1 l2 ) := by
  obtain ⟨hx, hb, hml, hown, hts, hK, hA⟩ := C
  intro i_bitsMade v_made h H locs ls hl hP hD hS
  unfold f_MM_put at h
  refine lv_iconst (v := 0) hx hb d_MM_put_0 (by decide) ?_
  refine lv_istore_n (lv' := [(3, .int 0), (0, .ref a_this), (1, .int l1), (2, .int l2)]) hx hb d_MM_put_1 rfl hl (by decide) rfl (fun ls hl => ?_)
  exact w_MM_put_b2 ⟨hx, hb, hml, hown, hts, hK, hA⟩ hret  N _ _ _ h H locs ls (lv_sub hl [1, 2, 3, 0] rfl) hP hD hS
set_option maxHeartbeats 4000000 in
set_option maxRecDepth 100000 in
theorem c_MM_put (l : Launch) (D : va_G) (cI cL cZ : ClassId) (sz N : Nat) (a_this : Nat) (a_made : Nat) (o_in : Nat) (o_out : Nat) (o_counts : Nat) (o_length : Nat) (o_symbolOf : Nat) (o_draft : Nat) (o_knot : Nat) (o_inSum : Nat) (o_halved : Nat) (o_weight : Nat) (o_points : Nat) (o_cutOff : Nat) (o_had : Nat) (o_placeOf : Nat) (i_inLong : Int32) (i_goesOn : Int32) (i_outLong : Int32) (i_greatest : Int32) (i_knots : Int32) (i_bitsMade : Int32) (i_weights : Int32) (i_order : Int32) (i_bit : Int32) (i_bitEnd : Int32) (v_made : Nat → Int32) (l1 : Int32) (l2 : Int32) (i_bitsMade' : Int32) (v_made' : Nat → Int32) (h : f_MM_put N l1 l2 i_bitsMade v_made = some (i_bitsMade', v_made')) : Met l ({ cls := "PrefixMillModel", name := "put", desc := "(II)V" } : Jvm.MethodName) ws_MM_put R_MM_put (va_Pc [.ref a_this, .int l1, .int l2] (fun U => U.heap.size = sz ∧ va_P D classes [(a_this, .inr (1, [.ref o_in, .int i_inLong, .int i_goesOn, .ref o_out, .int i_outLong, .ref o_counts, .int i_greatest, .ref o_length, .ref o_symbolOf, .ref o_draft, .ref o_knot, .ref o_inSum, .int i_knots, .ref o_halved, .ref a_made, .int i_bitsMade, .ref o_weight, .int i_weights, .int i_order, .ref o_points, .ref o_cutOff, .ref o_had, .ref o_placeOf, .int i_bit, .int i_bitEnd])), (a_made, .inl (cI, 6000, .inl v_made))] U.heap ∧ va_K D classes [(cI, .int), (cL, .long), (cZ, .boolean)] U ∧ va_D (fun _ => True) [(a_this, .inr (1, [.ref o_in, .int i_inLong, .int i_goesOn, .ref o_out, .int i_outLong, .ref o_counts, .int i_greatest, .ref o_length, .ref o_symbolOf, .ref o_draft, .ref o_knot, .ref o_inSum, .int i_knots, .ref o_halved, .ref a_made, .int i_bitsMade, .ref o_weight, .int i_weights, .int i_order, .ref o_points, .ref o_cutOff, .ref o_had, .ref o_placeOf, .int i_bit, .int i_bitEnd])), (a_made, .inl (cI, 6000, .inl v_made))])) (va_Qv (fun _ : Unit => True) (fun _ t => va_P D classes [(a_this, .inr (1, [.ref o_in, .int i_inLong, .int i_goesOn, .ref o_out, .int i_outLong, .ref o_counts, .int i_greatest, .ref o_length, .ref o_symbolOf, .ref o_draft, .ref o_knot, .ref o_inSum, .int i_knots, .ref o_halved, .ref a_made, .int i_bitsMade', .ref o_weight, .int i_weights, .int i_order, .ref o_points, .ref o_cutOff, .ref o_had, .ref o_placeOf, .int i_bit, .int i_bitEnd])), (a_made, .inl (cI, 6000, .inl v_made'))] t.heap ∧ va_K D classes [(cI, .int), (cL, .long), (cZ, .boolean)] t ∧ va_D (va_A [(a_this, .inr (1, [.ref o_in, .int i_inLong, .int i_goesOn, .ref o_out, .int i_outLong, .ref o_counts, .int i_greatest, .ref o_length, .ref o_symbolOf, .ref o_draft, .ref o_knot, .ref o_inSum, .int i_knots, .ref o_halved, .ref a_made, .int i_bitsMade, .ref o_weight, .int i_weights, .int i_order, .ref o_points, .ref o_cutOff, .ref o_had, .ref o_placeOf, .int i_bit, .int i_bitEnd])), (a_made, .inl (cI, 6000, .inl v_made))] sz) [(a_this, .inr (1, [.ref o_in, .int i_inLong, .int i_goesOn, .ref o_out, .int i_outLong, .ref o_counts, .int i_greatest, .ref o_length, .ref o_symbolOf, .ref o_draft, .ref o_knot, .ref o_inSum, .int i_knots, .ref o_halved, .ref a_made, .int i_bitsMade', .ref o_weight, .int i_weights, .int i_order, .ref o_points, .ref o_cutOff, .ref o_had, .ref o_placeOf, .int i_bit, .int i_bitEnd])), (a_made, .inl (cI, 6000, .inl v_made'))]) (va_A [(a_this, .inr (1, [.ref o_in, .int i_inLong, .int i_goesOn, .ref o_out, .int i_outLong, .ref o_counts, .int i_greatest, .ref o_length, .ref o_symbolOf, .ref o_draft, .ref o_knot, .ref o_inSum, .int i_knots, .ref o_halved, .ref a_made, .int i_bitsMade, .ref o_weight, .int i_weights, .int i_order, .ref o_points, .ref o_cutOff, .ref o_had, .ref o_placeOf, .int i_bit, .int i_bitEnd])), (a_made, .inl (cI, 6000, .inl v_made))] sz)) 0 0 (va_A [(a_this, .inr (1, [.ref o_in, .int i_inLong, .int i_goesOn, .ref o_out, .int i_outLong, .ref o_counts, .int i_greatest, .ref o_length, .ref o_symbolOf, .ref o_draft, .ref o_knot, .ref o_inSum, .int i_knots, .ref o_halved, .ref a_made, .int i_bitsMade, .ref o_weight, .int i_weights, .int i_order, .ref o_points, .ref o_cutOff, .ref o_had, .ref o_placeOf, .int i_bit, .int i_bitEnd])), (a_made, .inl (cI, 6000, .inl v_made))] sz) := by
  refine Met.ofW (cc := b_MM_put) (maxL := 4) (ret := none) (by decide) rfl ?_
  intro p e s m args below meth c s₁ B hml hv
  obtain ⟨rfl, hsz, hP, hK, hD0⟩ := hv
  have hx := B.exec
  have hb := B.bytes
  have hr := B.returns
  have hts0 := atoms_spec (ws := ws_MM_put) B.pre
  have hts := gd_tl hts0
  clear hts0
  have hown : s.vm.findClass "PrefixMillModel" = some m.cls := findClass_of_methodNamed B.named
  have hlocks := B.notSynchronized
  subst hsz
  have hD := hD0.self (sz := s.heap.size)
  generalize hAe : va_A [(a_this, .inr (1, [.ref o_in, .int i_inLong, .int i_goesOn, .ref o_out, .int i_outLong, .ref o_counts, .int i_greatest, .ref o_length, .ref o_symbolOf, .ref o_draft, .ref o_knot, .ref o_inSum, .int i_knots, .ref o_halved, .ref a_made, .int i_bitsMade, .ref o_weight, .int i_weights, .int i_order, .ref o_points, .ref o_cutOff, .ref o_had, .ref o_placeOf, .int i_bit, .int i_bitEnd])), (a_made, .inl (cI, 6000, .inl v_made))] s.heap.size = A at hD ⊢
  have hA : ∀ q : Nat, s.heap.size ≤ q → A q := fun q h => by rw [← hAe]; exact Or.inr h
  have hS : va_S A s.heap s.heap [] := va_S.rf
  have hP : va_P D classes [(a_this, .inr (1, [.ref o_in, .int i_inLong, .int i_goesOn, .ref o_out, .int i_outLong, .ref o_counts, .int i_greatest, .ref o_length, .ref o_symbolOf, .ref o_draft, .ref o_knot, .ref o_inSum, .int i_knots, .ref o_halved, .ref a_made, .int i_bitsMade, .ref o_weight, .int i_weights, .int i_order, .ref o_points, .ref o_cutOff, .ref o_had, .ref o_placeOf, .int i_bit, .int i_bitEnd])), (a_made, .inl (cI, 6000, .inl v_made))] s.heap := hP
  have hl := lv_entry ([.ref a_this, .int l1, .int l2]) (n := 4) (Nat.le_of_ble_eq_true rfl)
  rw [lg_entry_eq]
  generalize (lg_sl ([.ref a_this, .int l1, .int l2]) ++ List.replicate (4 - (lg_sl ([.ref a_this, .int l1, .int l2])).length) Slot.unset).toArray = ls at hl ⊢
  have hl : lv_has ls 4 [(0, .ref a_this), (1, .int l1), (2, .int l2)] := hl
  have C : Cx p s m ([.ref a_this, .int l1, .int l2] : List Value).toArray c b_MM_put 4 "PrefixMillModel" D [(cI, .int), (cL, .long), (cZ, .boolean)] A := ⟨hx, hb, hml, hown, hts, hK, hA⟩
  refine w_MM_put_b0 (res := (i_bitsMade', v_made')) C ?_ _ _ h s.heap [] ls hl hP hD hS
  intro pc9 H9 locs9 ls9 i_bitsMade9 v_made9 e9 d9 hP9 hD9 hS9
  cases e9
  exact W.vret hx hb hr (fun t ht hW => ⟨⟨(), rfl, trivial, by rw [ht]; exact hP9, va_K.moved hW.alike hK, hD9⟩, hS9.F ht⟩) hS9.2.2 d9
abbrev b_MM_fill : ByteArray := prog_12_method_22_code
def ws_MM_fill : List Cond := .code ({ cls := "PrefixMillModel", name := "fill", desc := "()V" } : Jvm.MethodName) b_MM_fill 1 none :: tt
theorem d_MM_fill_0 : decode b_MM_fill 0 = .ok (.aload_n 0, 1) := by decide +kernel
theorem d_MM_fill_1 : decode b_MM_fill 1 = .ok (.aload_n 0, 1) := by decide +kernel
theorem d_MM_fill_2 : decode b_MM_fill 2 = .ok (.getfield 95, 3) := by decide +kernel
theorem d_MM_fill_5 : decode b_MM_fill 5 = .ok (.bipush 7, 2) := by decide +kernel
theorem d_MM_fill_7 : decode b_MM_fill 7 = .ok (.iadd, 1) := by decide +kernel
theorem d_MM_fill_8 : decode b_MM_fill 8 = .ok (.bipush 8, 2) := by decide +kernel
theorem d_MM_fill_10 : decode b_MM_fill 10 = .ok (.idiv, 1) := by decide +kernel
theorem d_MM_fill_11 : decode b_MM_fill 11 = .ok (.bipush 8, 2) := by decide +kernel
theorem d_MM_fill_13 : decode b_MM_fill 13 = .ok (.imul, 1) := by decide +kernel
theorem d_MM_fill_14 : decode b_MM_fill 14 = .ok (.putfield 95, 3) := by decide +kernel
theorem d_MM_fill_17 : decode b_MM_fill 17 = .ok (.return_, 1) := by decide +kernel
def f_MM_fill (N : Nat)   (i_bitsMade : Int32) : Option (Int32) :=
  nm (((i_bitsMade + 7) / 8) * 8) fun i_bitsMade_1 =>
  some (i_bitsMade_1)
abbrev R_MM_fill : Room := ({ frames := 0, cells := 0, slots := 0, locals := 0 } : Room)
def E_MM_fill (p : Program) (l : Launch) (e : Env) (s : State) (m : MethodId) (args : Array Value) (below : List Frame) (meth : Method) (c : Code) (Q : State → Prop) (A : Nat → Prop) (D : va_G) (cI cL cZ : ClassId) (a_this : Nat) (o_in : Nat) (o_out : Nat) (o_counts : Nat) (o_length : Nat) (o_symbolOf : Nat) (o_draft : Nat) (o_knot : Nat) (o_inSum : Nat) (o_halved : Nat) (o_made : Nat) (o_weight : Nat) (o_points : Nat) (o_cutOff : Nat) (o_had : Nat) (o_placeOf : Nat) (i_inLong : Int32) (i_goesOn : Int32) (i_outLong : Int32) (i_greatest : Int32) (i_knots : Int32) (i_weights : Int32) (i_order : Int32) (i_bit : Int32) (i_bitEnd : Int32) (res : Int32) : Prop := ∀ (pc : Nat) (H : Heap) (locs : List Loc) (ls : Array Slot) (i_bitsMade : Int32), some (i_bitsMade) = some res → decode b_MM_fill pc = .ok (.return_, 1) → va_P D classes [(a_this, .inr (1, [.ref o_in, .int i_inLong, .int i_goesOn, .ref o_out, .int i_outLong, .ref o_counts, .int i_greatest, .ref o_length, .ref o_symbolOf, .ref o_draft, .ref o_knot, .ref o_inSum, .int i_knots, .ref o_halved, .ref o_made, .int i_bitsMade, .ref o_weight, .int i_weights, .int i_order, .ref o_points, .ref o_cutOff, .ref o_had, .ref o_placeOf, .int i_bit, .int i_bitEnd]))] H → va_D A [(a_this, .inr (1, [.ref o_in, .int i_inLong, .int i_goesOn, .ref o_out, .int i_outLong, .ref o_counts, .int i_greatest, .ref o_length, .ref o_symbolOf, .ref o_draft, .ref o_knot, .ref o_inSum, .int i_knots, .ref o_halved, .ref o_made, .int i_bitsMade, .ref o_weight, .int i_weights, .int i_order, .ref o_points, .ref o_cutOff, .ref o_had, .ref o_placeOf, .int i_bit, .int i_bitEnd]))] → va_S A s.heap H locs → W p l e R_MM_fill s m args below meth c H locs 0 0 Q (F0 m pc ls [])
def I_MM_fill_b0 (p : Program) (l : Launch) (e : Env) (s : State) (m : MethodId) (args : Array Value) (below : List Frame) (meth : Method) (c : Code) (Q : State → Prop) (A : Nat → Prop) (D : va_G) (cI cL cZ : ClassId) (a_this : Nat) (o_in : Nat) (o_out : Nat) (o_counts : Nat) (o_length : Nat) (o_symbolOf : Nat) (o_draft : Nat) (o_knot : Nat) (o_inSum : Nat) (o_halved : Nat) (o_made : Nat) (o_weight : Nat) (o_points : Nat) (o_cutOff : Nat) (o_had : Nat) (o_placeOf : Nat) (i_inLong : Int32) (i_goesOn : Int32) (i_outLong : Int32) (i_greatest : Int32) (i_knots : Int32) (i_weights : Int32) (i_order : Int32) (i_bit : Int32) (i_bitEnd : Int32) (res : Int32) (kf : Int32 → Option (Int32)) : Prop := ∀ (i_bitsMade : Int32), kf i_bitsMade = some res → ∀ (H : Heap) (locs : List Loc) (ls : Array Slot), lv_has ls 1 [(0, .ref a_this)] → va_P D classes [(a_this, .inr (1, [.ref o_in, .int i_inLong, .int i_goesOn, .ref o_out, .int i_outLong, .ref o_counts, .int i_greatest, .ref o_length, .ref o_symbolOf, .ref o_draft, .ref o_knot, .ref o_inSum, .int i_knots, .ref o_halved, .ref o_made, .int i_bitsMade, .ref o_weight, .int i_weights, .int i_order, .ref o_points, .ref o_cutOff, .ref o_had, .ref o_placeOf, .int i_bit, .int i_bitEnd]))] H → va_D A [(a_this, .inr (1, [.ref o_in, .int i_inLong, .int i_goesOn, .ref o_out, .int i_outLong, .ref o_counts, .int i_greatest, .ref o_length, .ref o_symbolOf, .ref o_draft, .ref o_knot, .ref o_inSum, .int i_knots, .ref o_halved, .ref o_made, .int i_bitsMade, .ref o_weight, .int i_weights, .int i_order, .ref o_points, .ref o_cutOff, .ref o_had, .ref o_placeOf, .int i_bit, .int i_bitEnd]))] → va_S A s.heap H locs → W p l e R_MM_fill s m args below meth c H locs 0 0 Q (F0 m 0 ls [])
set_option maxHeartbeats 4000000 in
set_option maxRecDepth 100000 in
theorem w_MM_fill_b0 {p : Program} {l : Launch} {e : Env} {s : State} {m : MethodId} {args : Array Value} {below : List Frame} {meth : Method} {c : Code} {Q : State → Prop} {A : Nat → Prop} {D : va_G} {cI cL cZ : ClassId} {a_this : Nat} {o_in : Nat} {o_out : Nat} {o_counts : Nat} {o_length : Nat} {o_symbolOf : Nat} {o_draft : Nat} {o_knot : Nat} {o_inSum : Nat} {o_halved : Nat} {o_made : Nat} {o_weight : Nat} {o_points : Nat} {o_cutOff : Nat} {o_had : Nat} {o_placeOf : Nat} {i_inLong : Int32} {i_goesOn : Int32} {i_outLong : Int32} {i_greatest : Int32} {i_knots : Int32} {i_weights : Int32} {i_order : Int32} {i_bit : Int32} {i_bitEnd : Int32} {N : Nat} {res : Int32}  (C : Cx p s m args c b_MM_fill 1 "PrefixMillModel" D [(cI, .int), (cL, .long), (cZ, .boolean)] A) (hret : E_MM_fill p l e s m args below meth c Q A D cI cL cZ a_this o_in o_out o_counts o_length o_symbolOf o_draft o_knot o_inSum o_halved o_made o_weight o_points o_cutOff o_had o_placeOf i_inLong i_goesOn i_outLong i_greatest i_knots i_weights i_order i_bit i_bitEnd res)  : I_MM_fill_b0 p l e s m args below meth c Q A D cI cL cZ a_this o_in o_out o_counts o_length o_symbolOf o_draft o_knot o_inSum o_halved o_made o_weight o_points o_cutOff o_had o_placeOf i_inLong i_goesOn i_outLong i_greatest i_knots i_weights i_order i_bit i_bitEnd res (f_MM_fill N  ) := by
  obtain ⟨hx, hb, hml, hown, hts, hK, hA⟩ := C
  intro i_bitsMade h H locs ls hl hP hD hS
  unfold f_MM_fill at h
  refine lv_aload_n hx hb d_MM_fill_0 rfl (lv_at hl 0 rfl) ?_
  refine lv_aload_n hx hb d_MM_fill_1 rfl (lv_at hl 0 rfl) ?_
  refine va_get hx hb hts in_MM hown hK hP 0 rfl rfl 15 (by decide) (hts _ m_768) (fun _ h9 => h9) rfl d_MM_fill_2 ?_
  refine lv_bipush (v := 7) hx hb d_MM_fill_5 (by decide) ?_
  refine lv_iadd hx hb d_MM_fill_7 ?_
  refine lv_bipush (v := 8) hx hb d_MM_fill_8 (by decide) ?_
  refine lv_idiv hx hb d_MM_fill_10 (by decide) ?_
  refine lv_bipush (v := 8) hx hb d_MM_fill_11 (by decide) ?_
  refine lv_imul hx hb d_MM_fill_13 ?_
  refine lv_topi (fun i_bitsMade_1 ei_bitsMade_1 => ?_)
  replace h := nm_s h ei_bitsMade_1
  refine va_put (v := .int i_bitsMade_1) (ty := .int) hx hb hts in_MM t_MM t_MM_ok n_MM hown hK hP hD hS 0 rfl rfl 15 (by decide) (hts _ m_768) (fun _ h9 => h9) rfl (by decide +kernel) rfl rfl (Nat.le_of_ble_eq_true rfl) d_MM_fill_14 (fun H locs hP hD hS => ?_)
  have hP : va_P D classes [(a_this, .inr (1, [.ref o_in, .int i_inLong, .int i_goesOn, .ref o_out, .int i_outLong, .ref o_counts, .int i_greatest, .ref o_length, .ref o_symbolOf, .ref o_draft, .ref o_knot, .ref o_inSum, .int i_knots, .ref o_halved, .ref o_made, .int i_bitsMade_1, .ref o_weight, .int i_weights, .int i_order, .ref o_points, .ref o_cutOff, .ref o_had, .ref o_placeOf, .int i_bit, .int i_bitEnd]))] H := by exact hP
  have hD : va_D A [(a_this, .inr (1, [.ref o_in, .int i_inLong, .int i_goesOn, .ref o_out, .int i_outLong, .ref o_counts, .int i_greatest, .ref o_length, .ref o_symbolOf, .ref o_draft, .ref o_knot, .ref o_inSum, .int i_knots, .ref o_halved, .ref o_made, .int i_bitsMade_1, .ref o_weight, .int i_weights, .int i_order, .ref o_points, .ref o_cutOff, .ref o_had, .ref o_placeOf, .int i_bit, .int i_bitEnd]))] := by exact hD
  exact hret _ _ _ _ i_bitsMade_1 h d_MM_fill_17 hP hD hS
set_option maxHeartbeats 4000000 in
set_option maxRecDepth 100000 in
theorem c_MM_fill (l : Launch) (D : va_G) (cI cL cZ : ClassId) (sz N : Nat) (a_this : Nat) (o_in : Nat) (o_out : Nat) (o_counts : Nat) (o_length : Nat) (o_symbolOf : Nat) (o_draft : Nat) (o_knot : Nat) (o_inSum : Nat) (o_halved : Nat) (o_made : Nat) (o_weight : Nat) (o_points : Nat) (o_cutOff : Nat) (o_had : Nat) (o_placeOf : Nat) (i_inLong : Int32) (i_goesOn : Int32) (i_outLong : Int32) (i_greatest : Int32) (i_knots : Int32) (i_bitsMade : Int32) (i_weights : Int32) (i_order : Int32) (i_bit : Int32) (i_bitEnd : Int32) (i_bitsMade' : Int32) (h : f_MM_fill N  i_bitsMade = some (i_bitsMade')) : Met l ({ cls := "PrefixMillModel", name := "fill", desc := "()V" } : Jvm.MethodName) ws_MM_fill R_MM_fill (va_Pc [.ref a_this] (fun U => U.heap.size = sz ∧ va_P D classes [(a_this, .inr (1, [.ref o_in, .int i_inLong, .int i_goesOn, .ref o_out, .int i_outLong, .ref o_counts, .int i_greatest, .ref o_length, .ref o_symbolOf, .ref o_draft, .ref o_knot, .ref o_inSum, .int i_knots, .ref o_halved, .ref o_made, .int i_bitsMade, .ref o_weight, .int i_weights, .int i_order, .ref o_points, .ref o_cutOff, .ref o_had, .ref o_placeOf, .int i_bit, .int i_bitEnd]))] U.heap ∧ va_K D classes [(cI, .int), (cL, .long), (cZ, .boolean)] U ∧ va_D (fun _ => True) [(a_this, .inr (1, [.ref o_in, .int i_inLong, .int i_goesOn, .ref o_out, .int i_outLong, .ref o_counts, .int i_greatest, .ref o_length, .ref o_symbolOf, .ref o_draft, .ref o_knot, .ref o_inSum, .int i_knots, .ref o_halved, .ref o_made, .int i_bitsMade, .ref o_weight, .int i_weights, .int i_order, .ref o_points, .ref o_cutOff, .ref o_had, .ref o_placeOf, .int i_bit, .int i_bitEnd]))])) (va_Qv (fun _ : Unit => True) (fun _ t => va_P D classes [(a_this, .inr (1, [.ref o_in, .int i_inLong, .int i_goesOn, .ref o_out, .int i_outLong, .ref o_counts, .int i_greatest, .ref o_length, .ref o_symbolOf, .ref o_draft, .ref o_knot, .ref o_inSum, .int i_knots, .ref o_halved, .ref o_made, .int i_bitsMade', .ref o_weight, .int i_weights, .int i_order, .ref o_points, .ref o_cutOff, .ref o_had, .ref o_placeOf, .int i_bit, .int i_bitEnd]))] t.heap ∧ va_K D classes [(cI, .int), (cL, .long), (cZ, .boolean)] t ∧ va_D (va_A [(a_this, .inr (1, [.ref o_in, .int i_inLong, .int i_goesOn, .ref o_out, .int i_outLong, .ref o_counts, .int i_greatest, .ref o_length, .ref o_symbolOf, .ref o_draft, .ref o_knot, .ref o_inSum, .int i_knots, .ref o_halved, .ref o_made, .int i_bitsMade, .ref o_weight, .int i_weights, .int i_order, .ref o_points, .ref o_cutOff, .ref o_had, .ref o_placeOf, .int i_bit, .int i_bitEnd]))] sz) [(a_this, .inr (1, [.ref o_in, .int i_inLong, .int i_goesOn, .ref o_out, .int i_outLong, .ref o_counts, .int i_greatest, .ref o_length, .ref o_symbolOf, .ref o_draft, .ref o_knot, .ref o_inSum, .int i_knots, .ref o_halved, .ref o_made, .int i_bitsMade', .ref o_weight, .int i_weights, .int i_order, .ref o_points, .ref o_cutOff, .ref o_had, .ref o_placeOf, .int i_bit, .int i_bitEnd]))]) (va_A [(a_this, .inr (1, [.ref o_in, .int i_inLong, .int i_goesOn, .ref o_out, .int i_outLong, .ref o_counts, .int i_greatest, .ref o_length, .ref o_symbolOf, .ref o_draft, .ref o_knot, .ref o_inSum, .int i_knots, .ref o_halved, .ref o_made, .int i_bitsMade, .ref o_weight, .int i_weights, .int i_order, .ref o_points, .ref o_cutOff, .ref o_had, .ref o_placeOf, .int i_bit, .int i_bitEnd]))] sz)) 0 0 (va_A [(a_this, .inr (1, [.ref o_in, .int i_inLong, .int i_goesOn, .ref o_out, .int i_outLong, .ref o_counts, .int i_greatest, .ref o_length, .ref o_symbolOf, .ref o_draft, .ref o_knot, .ref o_inSum, .int i_knots, .ref o_halved, .ref o_made, .int i_bitsMade, .ref o_weight, .int i_weights, .int i_order, .ref o_points, .ref o_cutOff, .ref o_had, .ref o_placeOf, .int i_bit, .int i_bitEnd]))] sz) := by
  refine Met.ofW (cc := b_MM_fill) (maxL := 1) (ret := none) (by decide) rfl ?_
  intro p e s m args below meth c s₁ B hml hv
  obtain ⟨rfl, hsz, hP, hK, hD0⟩ := hv
  have hx := B.exec
  have hb := B.bytes
  have hr := B.returns
  have hts0 := atoms_spec (ws := ws_MM_fill) B.pre
  have hts := gd_tl hts0
  clear hts0
  have hown : s.vm.findClass "PrefixMillModel" = some m.cls := findClass_of_methodNamed B.named
  have hlocks := B.notSynchronized
  subst hsz
  have hD := hD0.self (sz := s.heap.size)
  generalize hAe : va_A [(a_this, .inr (1, [.ref o_in, .int i_inLong, .int i_goesOn, .ref o_out, .int i_outLong, .ref o_counts, .int i_greatest, .ref o_length, .ref o_symbolOf, .ref o_draft, .ref o_knot, .ref o_inSum, .int i_knots, .ref o_halved, .ref o_made, .int i_bitsMade, .ref o_weight, .int i_weights, .int i_order, .ref o_points, .ref o_cutOff, .ref o_had, .ref o_placeOf, .int i_bit, .int i_bitEnd]))] s.heap.size = A at hD ⊢
  have hA : ∀ q : Nat, s.heap.size ≤ q → A q := fun q h => by rw [← hAe]; exact Or.inr h
  have hS : va_S A s.heap s.heap [] := va_S.rf
  have hP : va_P D classes [(a_this, .inr (1, [.ref o_in, .int i_inLong, .int i_goesOn, .ref o_out, .int i_outLong, .ref o_counts, .int i_greatest, .ref o_length, .ref o_symbolOf, .ref o_draft, .ref o_knot, .ref o_inSum, .int i_knots, .ref o_halved, .ref o_made, .int i_bitsMade, .ref o_weight, .int i_weights, .int i_order, .ref o_points, .ref o_cutOff, .ref o_had, .ref o_placeOf, .int i_bit, .int i_bitEnd]))] s.heap := hP
  have hl := lv_entry ([.ref a_this]) (n := 1) (Nat.le_of_ble_eq_true rfl)
  rw [lg_entry_eq]
  generalize (lg_sl ([.ref a_this]) ++ List.replicate (1 - (lg_sl ([.ref a_this])).length) Slot.unset).toArray = ls at hl ⊢
  have hl : lv_has ls 1 [(0, .ref a_this)] := hl
  have C : Cx p s m ([.ref a_this] : List Value).toArray c b_MM_fill 1 "PrefixMillModel" D [(cI, .int), (cL, .long), (cZ, .boolean)] A := ⟨hx, hb, hml, hown, hts, hK, hA⟩
  refine w_MM_fill_b0 (res := (i_bitsMade')) C ?_ _ h s.heap [] ls hl hP hD hS
  intro pc9 H9 locs9 ls9 i_bitsMade9 e9 d9 hP9 hD9 hS9
  cases e9
  exact W.vret hx hb hr (fun t ht hW => ⟨⟨(), rfl, trivial, by rw [ht]; exact hP9, va_K.moved hW.alike hK, hD9⟩, hS9.F ht⟩) hS9.2.2 d9
