abbrev b_MM_write : ByteArray := prog_12_method_2_code
def ws_MM_write : List Cond := .code ({ cls := "PrefixMillModel", name := "write", desc := "(JI)Z" } : Jvm.MethodName) b_MM_write 5 (some .boolean) :: tt
theorem d_MM_write_0 : decode b_MM_write 0 = .ok (.iload_n 3, 1) := by decide +kernel
theorem d_MM_write_1 : decode b_MM_write 1 = .ok (.iconst 1, 1) := by decide +kernel
theorem d_MM_write_2 : decode b_MM_write 2 = .ok (.if_icmp .lt 21, 3) := by decide +kernel
theorem d_MM_write_5 : decode b_MM_write 5 = .ok (.iload_n 3, 1) := by decide +kernel
theorem d_MM_write_6 : decode b_MM_write 6 = .ok (.bipush 8, 2) := by decide +kernel
theorem d_MM_write_8 : decode b_MM_write 8 = .ok (.if_icmp .gt 15, 3) := by decide +kernel
theorem d_MM_write_11 : decode b_MM_write 11 = .ok (.aload_n 0, 1) := by decide +kernel
theorem d_MM_write_12 : decode b_MM_write 12 = .ok (.getfield 56, 3) := by decide +kernel
theorem d_MM_write_15 : decode b_MM_write 15 = .ok (.iload_n 3, 1) := by decide +kernel
theorem d_MM_write_16 : decode b_MM_write 16 = .ok (.iadd, 1) := by decide +kernel
theorem d_MM_write_17 : decode b_MM_write 17 = .ok (.sipush 6000, 3) := by decide +kernel
theorem d_MM_write_20 : decode b_MM_write 20 = .ok (.if_icmp .le 5, 3) := by decide +kernel
theorem d_MM_write_23 : decode b_MM_write 23 = .ok (.iconst 0, 1) := by decide +kernel
theorem d_MM_write_24 : decode b_MM_write 24 = .ok (.ireturn, 1) := by decide +kernel
theorem d_MM_write_25 : decode b_MM_write 25 = .ok (.iconst 0, 1) := by decide +kernel
theorem d_MM_write_26 : decode b_MM_write 26 = .ok (.istore 4, 2) := by decide +kernel
theorem d_MM_write_28 : decode b_MM_write 28 = .ok (.iload 4, 2) := by decide +kernel
theorem d_MM_write_30 : decode b_MM_write 30 = .ok (.iload_n 3, 1) := by decide +kernel
theorem d_MM_write_31 : decode b_MM_write 31 = .ok (.if_icmp .ge 43, 3) := by decide +kernel
theorem d_MM_write_34 : decode b_MM_write 34 = .ok (.aload_n 0, 1) := by decide +kernel
theorem d_MM_write_35 : decode b_MM_write 35 = .ok (.getfield 7, 3) := by decide +kernel
theorem d_MM_write_38 : decode b_MM_write 38 = .ok (.aload_n 0, 1) := by decide +kernel
theorem d_MM_write_39 : decode b_MM_write 39 = .ok (.getfield 56, 3) := by decide +kernel
theorem d_MM_write_42 : decode b_MM_write 42 = .ok (.lload_n 1, 1) := by decide +kernel
theorem d_MM_write_43 : decode b_MM_write 43 = .ok (.bipush 56, 2) := by decide +kernel
theorem d_MM_write_45 : decode b_MM_write 45 = .ok (.bipush 8, 2) := by decide +kernel
theorem d_MM_write_47 : decode b_MM_write 47 = .ok (.iload 4, 2) := by decide +kernel
theorem d_MM_write_49 : decode b_MM_write 49 = .ok (.imul, 1) := by decide +kernel
theorem d_MM_write_50 : decode b_MM_write 50 = .ok (.isub, 1) := by decide +kernel
theorem d_MM_write_51 : decode b_MM_write 51 = .ok (.lushr, 1) := by decide +kernel
theorem d_MM_write_52 : decode b_MM_write 52 = .ok (.l2i, 1) := by decide +kernel
theorem d_MM_write_53 : decode b_MM_write 53 = .ok (.sipush 255, 3) := by decide +kernel
theorem d_MM_write_56 : decode b_MM_write 56 = .ok (.iand, 1) := by decide +kernel
theorem d_MM_write_57 : decode b_MM_write 57 = .ok (.iastore, 1) := by decide +kernel
theorem d_MM_write_58 : decode b_MM_write 58 = .ok (.aload_n 0, 1) := by decide +kernel
theorem d_MM_write_59 : decode b_MM_write 59 = .ok (.dup, 1) := by decide +kernel
theorem d_MM_write_60 : decode b_MM_write 60 = .ok (.getfield 56, 3) := by decide +kernel
theorem d_MM_write_63 : decode b_MM_write 63 = .ok (.iconst 1, 1) := by decide +kernel
theorem d_MM_write_64 : decode b_MM_write 64 = .ok (.iadd, 1) := by decide +kernel
theorem d_MM_write_65 : decode b_MM_write 65 = .ok (.putfield 56, 3) := by decide +kernel
theorem d_MM_write_68 : decode b_MM_write 68 = .ok (.iinc 4 1, 3) := by decide +kernel
theorem d_MM_write_71 : decode b_MM_write 71 = .ok (.goto (-43), 3) := by decide +kernel
theorem d_MM_write_74 : decode b_MM_write 74 = .ok (.iconst 1, 1) := by decide +kernel
theorem d_MM_write_75 : decode b_MM_write 75 = .ok (.ireturn, 1) := by decide +kernel
def f_MM_write_b23 (N : Nat) (l1 : Int64) (l3 : Int32)  (i_inLong : Int32) (v_in : Nat → Int32) : Option (Int32 × Int32 × (Nat → Int32)) :=
  some (0, i_inLong, v_in)
def f_MM_write_b74 (N : Nat) (l1 : Int64) (l3 : Int32)  (i_inLong : Int32) (v_in : Nat → Int32) : Option (Int32 × Int32 × (Nat → Int32)) :=
  some (1, i_inLong, v_in)
def f_MM_write_b28 (N : Nat) (l1 : Int64) (l3 : Int32)  : Nat → Int32 → Int32 → (Nat → Int32) → Option (Int32 × Int32 × (Nat → Int32))
  | 0, _, _, _ => none
  | z + 1, l4, i_inLong, v_in =>
  if l3 ≤ l4 then
  f_MM_write_b74 N l1 l3  i_inLong v_in
  else
  ck (inb i_inLong 6000) <|
  nm (upd v_in (Int32.toNatClampNeg i_inLong) ((Int64.toInt32 ((Int64.toUInt64 l1 >>> (Int64.toUInt64 (Int32.toInt64 (56 - (8 * l4))) &&& Int64.toUInt64 63)).toInt64)) &&& 255)) fun v_in_3 =>
  nm (i_inLong + 1) fun i_inLong_4 =>
  nm (l4 + 1) fun l4_5 =>
  f_MM_write_b28 N l1 l3  z l4_5 i_inLong_4 v_in_3
def f_MM_write (N : Nat) (l1 : Int64) (l3 : Int32)  (i_inLong : Int32) (v_in : Nat → Int32) : Option (Int32 × Int32 × (Nat → Int32)) :=
  if l3 < 1 then
  f_MM_write_b23 N l1 l3  i_inLong v_in
  else
  if 8 < l3 then
  f_MM_write_b23 N l1 l3  i_inLong v_in
  else
  if (i_inLong + l3) ≤ 6000 then
  f_MM_write_b28 N l1 l3  N 0 i_inLong v_in
  else
  f_MM_write_b23 N l1 l3  i_inLong v_in
abbrev R_MM_write : Room := ({ frames := 0, cells := 0, slots := 0, locals := 0 } : Room)
def E_MM_write (p : Program) (l : Launch) (e : Env) (s : State) (m : MethodId) (args : Array Value) (below : List Frame) (meth : Method) (c : Code) (Q : State → Prop) (A : Nat → Prop) (D : va_G) (cI cL cZ : ClassId) (a_this : Nat) (a_in : Nat) (o_out : Nat) (o_counts : Nat) (o_length : Nat) (o_symbolOf : Nat) (o_draft : Nat) (o_knot : Nat) (o_inSum : Nat) (o_halved : Nat) (o_made : Nat) (o_weight : Nat) (o_points : Nat) (o_cutOff : Nat) (o_had : Nat) (o_placeOf : Nat) (i_goesOn : Int32) (i_outLong : Int32) (i_greatest : Int32) (i_knots : Int32) (i_bitsMade : Int32) (i_weights : Int32) (i_order : Int32) (i_bit : Int32) (i_bitEnd : Int32) (l1 : Int64) (l3 : Int32) (res : Int32 × Int32 × (Nat → Int32)) : Prop := ∀ (pc : Nat) (H : Heap) (locs : List Loc) (ls : Array Slot) (rv : Int32) (i_inLong : Int32) (v_in : Nat → Int32), some (rv, i_inLong, v_in) = some res → narrow .boolean (.int rv) = .int rv → decode b_MM_write pc = .ok (.ireturn, 1) → va_P D classes [(a_this, .inr (1, [.ref a_in, .int i_inLong, .int i_goesOn, .ref o_out, .int i_outLong, .ref o_counts, .int i_greatest, .ref o_length, .ref o_symbolOf, .ref o_draft, .ref o_knot, .ref o_inSum, .int i_knots, .ref o_halved, .ref o_made, .int i_bitsMade, .ref o_weight, .int i_weights, .int i_order, .ref o_points, .ref o_cutOff, .ref o_had, .ref o_placeOf, .int i_bit, .int i_bitEnd])), (a_in, .inl (cI, 6000, .inl v_in))] H → va_D A [(a_this, .inr (1, [.ref a_in, .int i_inLong, .int i_goesOn, .ref o_out, .int i_outLong, .ref o_counts, .int i_greatest, .ref o_length, .ref o_symbolOf, .ref o_draft, .ref o_knot, .ref o_inSum, .int i_knots, .ref o_halved, .ref o_made, .int i_bitsMade, .ref o_weight, .int i_weights, .int i_order, .ref o_points, .ref o_cutOff, .ref o_had, .ref o_placeOf, .int i_bit, .int i_bitEnd])), (a_in, .inl (cI, 6000, .inl v_in))] → va_S A s.heap H locs → W p l e R_MM_write s m args below meth c H locs 0 0 Q (F0 m pc ls [.int rv])
def I_MM_write_b23 (p : Program) (l : Launch) (e : Env) (s : State) (m : MethodId) (args : Array Value) (below : List Frame) (meth : Method) (c : Code) (Q : State → Prop) (A : Nat → Prop) (D : va_G) (cI cL cZ : ClassId) (a_this : Nat) (a_in : Nat) (o_out : Nat) (o_counts : Nat) (o_length : Nat) (o_symbolOf : Nat) (o_draft : Nat) (o_knot : Nat) (o_inSum : Nat) (o_halved : Nat) (o_made : Nat) (o_weight : Nat) (o_points : Nat) (o_cutOff : Nat) (o_had : Nat) (o_placeOf : Nat) (i_goesOn : Int32) (i_outLong : Int32) (i_greatest : Int32) (i_knots : Int32) (i_bitsMade : Int32) (i_weights : Int32) (i_order : Int32) (i_bit : Int32) (i_bitEnd : Int32) (l1 : Int64) (l3 : Int32) (res : Int32 × Int32 × (Nat → Int32)) (kf : Int32 → (Nat → Int32) → Option (Int32 × Int32 × (Nat → Int32))) : Prop := ∀ (i_inLong : Int32) (v_in : Nat → Int32), kf i_inLong v_in = some res → ∀ (H : Heap) (locs : List Loc) (ls : Array Slot), lv_has ls 5 [] → va_P D classes [(a_this, .inr (1, [.ref a_in, .int i_inLong, .int i_goesOn, .ref o_out, .int i_outLong, .ref o_counts, .int i_greatest, .ref o_length, .ref o_symbolOf, .ref o_draft, .ref o_knot, .ref o_inSum, .int i_knots, .ref o_halved, .ref o_made, .int i_bitsMade, .ref o_weight, .int i_weights, .int i_order, .ref o_points, .ref o_cutOff, .ref o_had, .ref o_placeOf, .int i_bit, .int i_bitEnd])), (a_in, .inl (cI, 6000, .inl v_in))] H → va_D A [(a_this, .inr (1, [.ref a_in, .int i_inLong, .int i_goesOn, .ref o_out, .int i_outLong, .ref o_counts, .int i_greatest, .ref o_length, .ref o_symbolOf, .ref o_draft, .ref o_knot, .ref o_inSum, .int i_knots, .ref o_halved, .ref o_made, .int i_bitsMade, .ref o_weight, .int i_weights, .int i_order, .ref o_points, .ref o_cutOff, .ref o_had, .ref o_placeOf, .int i_bit, .int i_bitEnd])), (a_in, .inl (cI, 6000, .inl v_in))] → va_S A s.heap H locs → W p l e R_MM_write s m args below meth c H locs 0 0 Q (F0 m 23 ls [])
def I_MM_write_b74 (p : Program) (l : Launch) (e : Env) (s : State) (m : MethodId) (args : Array Value) (below : List Frame) (meth : Method) (c : Code) (Q : State → Prop) (A : Nat → Prop) (D : va_G) (cI cL cZ : ClassId) (a_this : Nat) (a_in : Nat) (o_out : Nat) (o_counts : Nat) (o_length : Nat) (o_symbolOf : Nat) (o_draft : Nat) (o_knot : Nat) (o_inSum : Nat) (o_halved : Nat) (o_made : Nat) (o_weight : Nat) (o_points : Nat) (o_cutOff : Nat) (o_had : Nat) (o_placeOf : Nat) (i_goesOn : Int32) (i_outLong : Int32) (i_greatest : Int32) (i_knots : Int32) (i_bitsMade : Int32) (i_weights : Int32) (i_order : Int32) (i_bit : Int32) (i_bitEnd : Int32) (l1 : Int64) (l3 : Int32) (res : Int32 × Int32 × (Nat → Int32)) (kf : Int32 → (Nat → Int32) → Option (Int32 × Int32 × (Nat → Int32))) : Prop := ∀ (i_inLong : Int32) (v_in : Nat → Int32), kf i_inLong v_in = some res → ∀ (H : Heap) (locs : List Loc) (ls : Array Slot), lv_has ls 5 [] → va_P D classes [(a_this, .inr (1, [.ref a_in, .int i_inLong, .int i_goesOn, .ref o_out, .int i_outLong, .ref o_counts, .int i_greatest, .ref o_length, .ref o_symbolOf, .ref o_draft, .ref o_knot, .ref o_inSum, .int i_knots, .ref o_halved, .ref o_made, .int i_bitsMade, .ref o_weight, .int i_weights, .int i_order, .ref o_points, .ref o_cutOff, .ref o_had, .ref o_placeOf, .int i_bit, .int i_bitEnd])), (a_in, .inl (cI, 6000, .inl v_in))] H → va_D A [(a_this, .inr (1, [.ref a_in, .int i_inLong, .int i_goesOn, .ref o_out, .int i_outLong, .ref o_counts, .int i_greatest, .ref o_length, .ref o_symbolOf, .ref o_draft, .ref o_knot, .ref o_inSum, .int i_knots, .ref o_halved, .ref o_made, .int i_bitsMade, .ref o_weight, .int i_weights, .int i_order, .ref o_points, .ref o_cutOff, .ref o_had, .ref o_placeOf, .int i_bit, .int i_bitEnd])), (a_in, .inl (cI, 6000, .inl v_in))] → va_S A s.heap H locs → W p l e R_MM_write s m args below meth c H locs 0 0 Q (F0 m 74 ls [])
def I_MM_write_b28 (p : Program) (l : Launch) (e : Env) (s : State) (m : MethodId) (args : Array Value) (below : List Frame) (meth : Method) (c : Code) (Q : State → Prop) (A : Nat → Prop) (D : va_G) (cI cL cZ : ClassId) (a_this : Nat) (a_in : Nat) (o_out : Nat) (o_counts : Nat) (o_length : Nat) (o_symbolOf : Nat) (o_draft : Nat) (o_knot : Nat) (o_inSum : Nat) (o_halved : Nat) (o_made : Nat) (o_weight : Nat) (o_points : Nat) (o_cutOff : Nat) (o_had : Nat) (o_placeOf : Nat) (i_goesOn : Int32) (i_outLong : Int32) (i_greatest : Int32) (i_knots : Int32) (i_bitsMade : Int32) (i_weights : Int32) (i_order : Int32) (i_bit : Int32) (i_bitEnd : Int32) (l1 : Int64) (l3 : Int32) (res : Int32 × Int32 × (Nat → Int32)) (kf : Int32 → Int32 → (Nat → Int32) → Option (Int32 × Int32 × (Nat → Int32))) : Prop := ∀ (l4 : Int32) (i_inLong : Int32) (v_in : Nat → Int32), kf l4 i_inLong v_in = some res → ∀ (H : Heap) (locs : List Loc) (ls : Array Slot), lv_has ls 5 [(0, .ref a_this), (1, .long l1), (3, .int l3), (4, .int l4)] → va_P D classes [(a_this, .inr (1, [.ref a_in, .int i_inLong, .int i_goesOn, .ref o_out, .int i_outLong, .ref o_counts, .int i_greatest, .ref o_length, .ref o_symbolOf, .ref o_draft, .ref o_knot, .ref o_inSum, .int i_knots, .ref o_halved, .ref o_made, .int i_bitsMade, .ref o_weight, .int i_weights, .int i_order, .ref o_points, .ref o_cutOff, .ref o_had, .ref o_placeOf, .int i_bit, .int i_bitEnd])), (a_in, .inl (cI, 6000, .inl v_in))] H → va_D A [(a_this, .inr (1, [.ref a_in, .int i_inLong, .int i_goesOn, .ref o_out, .int i_outLong, .ref o_counts, .int i_greatest, .ref o_length, .ref o_symbolOf, .ref o_draft, .ref o_knot, .ref o_inSum, .int i_knots, .ref o_halved, .ref o_made, .int i_bitsMade, .ref o_weight, .int i_weights, .int i_order, .ref o_points, .ref o_cutOff, .ref o_had, .ref o_placeOf, .int i_bit, .int i_bitEnd])), (a_in, .inl (cI, 6000, .inl v_in))] → va_S A s.heap H locs → W p l e R_MM_write s m args below meth c H locs 0 0 Q (F0 m 28 ls [])
def I_MM_write_b0 (p : Program) (l : Launch) (e : Env) (s : State) (m : MethodId) (args : Array Value) (below : List Frame) (meth : Method) (c : Code) (Q : State → Prop) (A : Nat → Prop) (D : va_G) (cI cL cZ : ClassId) (a_this : Nat) (a_in : Nat) (o_out : Nat) (o_counts : Nat) (o_length : Nat) (o_symbolOf : Nat) (o_draft : Nat) (o_knot : Nat) (o_inSum : Nat) (o_halved : Nat) (o_made : Nat) (o_weight : Nat) (o_points : Nat) (o_cutOff : Nat) (o_had : Nat) (o_placeOf : Nat) (i_goesOn : Int32) (i_outLong : Int32) (i_greatest : Int32) (i_knots : Int32) (i_bitsMade : Int32) (i_weights : Int32) (i_order : Int32) (i_bit : Int32) (i_bitEnd : Int32) (l1 : Int64) (l3 : Int32) (res : Int32 × Int32 × (Nat → Int32)) (kf : Int32 → (Nat → Int32) → Option (Int32 × Int32 × (Nat → Int32))) : Prop := ∀ (i_inLong : Int32) (v_in : Nat → Int32), kf i_inLong v_in = some res → ∀ (H : Heap) (locs : List Loc) (ls : Array Slot), lv_has ls 5 [(0, .ref a_this), (1, .long l1), (3, .int l3)] → va_P D classes [(a_this, .inr (1, [.ref a_in, .int i_inLong, .int i_goesOn, .ref o_out, .int i_outLong, .ref o_counts, .int i_greatest, .ref o_length, .ref o_symbolOf, .ref o_draft, .ref o_knot, .ref o_inSum, .int i_knots, .ref o_halved, .ref o_made, .int i_bitsMade, .ref o_weight, .int i_weights, .int i_order, .ref o_points, .ref o_cutOff, .ref o_had, .ref o_placeOf, .int i_bit, .int i_bitEnd])), (a_in, .inl (cI, 6000, .inl v_in))] H → va_D A [(a_this, .inr (1, [.ref a_in, .int i_inLong, .int i_goesOn, .ref o_out, .int i_outLong, .ref o_counts, .int i_greatest, .ref o_length, .ref o_symbolOf, .ref o_draft, .ref o_knot, .ref o_inSum, .int i_knots, .ref o_halved, .ref o_made, .int i_bitsMade, .ref o_weight, .int i_weights, .int i_order, .ref o_points, .ref o_cutOff, .ref o_had, .ref o_placeOf, .int i_bit, .int i_bitEnd])), (a_in, .inl (cI, 6000, .inl v_in))] → va_S A s.heap H locs → W p l e R_MM_write s m args below meth c H locs 0 0 Q (F0 m 0 ls [])
set_option maxHeartbeats 4000000 in
set_option maxRecDepth 100000 in
theorem w_MM_write_b23 {p : Program} {l : Launch} {e : Env} {s : State} {m : MethodId} {args : Array Value} {below : List Frame} {meth : Method} {c : Code} {Q : State → Prop} {A : Nat → Prop} {D : va_G} {cI cL cZ : ClassId} {a_this : Nat} {a_in : Nat} {o_out : Nat} {o_counts : Nat} {o_length : Nat} {o_symbolOf : Nat} {o_draft : Nat} {o_knot : Nat} {o_inSum : Nat} {o_halved : Nat} {o_made : Nat} {o_weight : Nat} {o_points : Nat} {o_cutOff : Nat} {o_had : Nat} {o_placeOf : Nat} {i_goesOn : Int32} {i_outLong : Int32} {i_greatest : Int32} {i_knots : Int32} {i_bitsMade : Int32} {i_weights : Int32} {i_order : Int32} {i_bit : Int32} {i_bitEnd : Int32} {l1 : Int64} {l3 : Int32} {N : Nat} {res : Int32 × Int32 × (Nat → Int32)}  (C : Cx p s m args c b_MM_write 5 "PrefixMillModel" D [(cI, .int), (cL, .long), (cZ, .boolean)] A) (hret : E_MM_write p l e s m args below meth c Q A D cI cL cZ a_this a_in o_out o_counts o_length o_symbolOf o_draft o_knot o_inSum o_halved o_made o_weight o_points o_cutOff o_had o_placeOf i_goesOn i_outLong i_greatest i_knots i_bitsMade i_weights i_order i_bit i_bitEnd l1 l3 res)  : I_MM_write_b23 p l e s m args below meth c Q A D cI cL cZ a_this a_in o_out o_counts o_length o_symbolOf o_draft o_knot o_inSum o_halved o_made o_weight o_points o_cutOff o_had o_placeOf i_goesOn i_outLong i_greatest i_knots i_bitsMade i_weights i_order i_bit i_bitEnd l1 l3 res (f_MM_write_b23 N l1 l3 ) := by
  obtain ⟨hx, hb, hml, hown, hts, hK, hA⟩ := C
  intro i_inLong v_in h H locs ls hl hP hD hS
  unfold f_MM_write_b23 at h
  refine lv_iconst (v := 0) hx hb d_MM_write_23 (by decide) ?_
  exact hret _ _ _ _ 0 i_inLong v_in h rfl d_MM_write_24 hP hD hS
set_option maxHeartbeats 4000000 in
set_option maxRecDepth 100000 in
theorem w_MM_write_b74 {p : Program} {l : Launch} {e : Env} {s : State} {m : MethodId} {args : Array Value} {below : List Frame} {meth : Method} {c : Code} {Q : State → Prop} {A : Nat → Prop} {D : va_G} {cI cL cZ : ClassId} {a_this : Nat} {a_in : Nat} {o_out : Nat} {o_counts : Nat} {o_length : Nat} {o_symbolOf : Nat} {o_draft : Nat} {o_knot : Nat} {o_inSum : Nat} {o_halved : Nat} {o_made : Nat} {o_weight : Nat} {o_points : Nat} {o_cutOff : Nat} {o_had : Nat} {o_placeOf : Nat} {i_goesOn : Int32} {i_outLong : Int32} {i_greatest : Int32} {i_knots : Int32} {i_bitsMade : Int32} {i_weights : Int32} {i_order : Int32} {i_bit : Int32} {i_bitEnd : Int32} {l1 : Int64} {l3 : Int32} {N : Nat} {res : Int32 × Int32 × (Nat → Int32)}  (C : Cx p s m args c b_MM_write 5 "PrefixMillModel" D [(cI, .int), (cL, .long), (cZ, .boolean)] A) (hret : E_MM_write p l e s m args below meth c Q A D cI cL cZ a_this a_in o_out o_counts o_length o_symbolOf o_draft o_knot o_inSum o_halved o_made o_weight o_points o_cutOff o_had o_placeOf i_goesOn i_outLong i_greatest i_knots i_bitsMade i_weights i_order i_bit i_bitEnd l1 l3 res)  : I_MM_write_b74 p l e s m args below meth c Q A D cI cL cZ a_this a_in o_out o_counts o_length o_symbolOf o_draft o_knot o_inSum o_halved o_made o_weight o_points o_cutOff o_had o_placeOf i_goesOn i_outLong i_greatest i_knots i_bitsMade i_weights i_order i_bit i_bitEnd l1 l3 res (f_MM_write_b74 N l1 l3 ) := by
  obtain ⟨hx, hb, hml, hown, hts, hK, hA⟩ := C
  intro i_inLong v_in h H locs ls hl hP hD hS
  unfold f_MM_write_b74 at h
  refine lv_iconst (v := 1) hx hb d_MM_write_74 (by decide) ?_
  exact hret _ _ _ _ 1 i_inLong v_in h rfl d_MM_write_75 hP hD hS
set_option maxHeartbeats 4000000 in
set_option maxRecDepth 100000 in
theorem w_MM_write_b28 {p : Program} {l : Launch} {e : Env} {s : State} {m : MethodId} {args : Array Value} {below : List Frame} {meth : Method} {c : Code} {Q : State → Prop} {A : Nat → Prop} {D : va_G} {cI cL cZ : ClassId} {a_this : Nat} {a_in : Nat} {o_out : Nat} {o_counts : Nat} {o_length : Nat} {o_symbolOf : Nat} {o_draft : Nat} {o_knot : Nat} {o_inSum : Nat} {o_halved : Nat} {o_made : Nat} {o_weight : Nat} {o_points : Nat} {o_cutOff : Nat} {o_had : Nat} {o_placeOf : Nat} {i_goesOn : Int32} {i_outLong : Int32} {i_greatest : Int32} {i_knots : Int32} {i_bitsMade : Int32} {i_weights : Int32} {i_order : Int32} {i_bit : Int32} {i_bitEnd : Int32} {l1 : Int64} {l3 : Int32} {N : Nat} {res : Int32 × Int32 × (Nat → Int32)}  (C : Cx p s m args c b_MM_write 5 "PrefixMillModel" D [(cI, .int), (cL, .long), (cZ, .boolean)] A) (hret : E_MM_write p l e s m args below meth c Q A D cI cL cZ a_this a_in o_out o_counts o_length o_symbolOf o_draft o_knot o_inSum o_halved o_made o_weight o_points o_cutOff o_had o_placeOf i_goesOn i_outLong i_greatest i_knots i_bitsMade i_weights i_order i_bit i_bitEnd l1 l3 res)  : ∀ z : Nat, I_MM_write_b28 p l e s m args below meth c Q A D cI cL cZ a_this a_in o_out o_counts o_length o_symbolOf o_draft o_knot o_inSum o_halved o_made o_weight o_points o_cutOff o_had o_placeOf i_goesOn i_outLong i_greatest i_knots i_bitsMade i_weights i_order i_bit i_bitEnd l1 l3 res (f_MM_write_b28 N l1 l3  z) := by
  obtain ⟨hx, hb, hml, hown, hts, hK, hA⟩ := C
  intro z
  induction z with
  | zero => intro l4 i_inLong v_in h; cases h
  | succ z ih =>
    intro l4 i_inLong v_in h H locs ls hl hP hD hS
    refine lv_iload hx hb d_MM_write_28 (lv_at hl 3 rfl) ?_
    refine lv_iload_n hx hb d_MM_write_30 rfl (lv_at hl 2 rfl) ?_
    refine lv_icmp_ge (tgt := 74) hx hb d_MM_write_31 (by decide) (fun c_1 => ?_) (fun c_1 => ?_)
    · replace h := if_t h c_1
      exact w_MM_write_b74 ⟨hx, hb, hml, hown, hts, hK, hA⟩ hret  _ _ h H locs ls (lv_sub hl [] rfl) hP hD hS
    · replace h := if_f h c_1
      refine lv_aload_n hx hb d_MM_write_34 rfl (lv_at hl 0 rfl) ?_
      refine va_get hx hb hts in_MM hown hK hP 0 rfl rfl 0 (by decide) (hts _ m_753) (fun _ h9 => h9) rfl d_MM_write_35 ?_
      refine lv_aload_n hx hb d_MM_write_38 rfl (lv_at hl 0 rfl) ?_
      refine va_get hx hb hts in_MM hown hK hP 0 rfl rfl 1 (by decide) (hts _ m_754) (fun _ h9 => h9) rfl d_MM_write_39 ?_
      refine lv_lload_n hx hb d_MM_write_42 rfl (lv_at hl 1 rfl) ?_
      refine lv_bipush (v := 56) hx hb d_MM_write_43 (by decide) ?_
      refine lv_bipush (v := 8) hx hb d_MM_write_45 (by decide) ?_
      refine lv_iload hx hb d_MM_write_47 (lv_at hl 3 rfl) ?_
      refine lv_imul hx hb d_MM_write_49 ?_
      refine lv_isub hx hb d_MM_write_50 ?_
      refine lv_lushr hx hb d_MM_write_51 rfl ?_
      refine lv_l2i hx hb d_MM_write_52 rfl ?_
      refine lv_sipush (v := 255) hx hb d_MM_write_53 (by decide) ?_
      refine lv_iand hx hb d_MM_write_56 ?_
      obtain ⟨g_2, h⟩ := ck_s h
      refine va_iast hx hb hK hP hD hS 1 0 rfl rfl (inb_s g_2) d_MM_write_57 (fun H locs hP hD hS => ?_)
      obtain ⟨v_in_3, ev_in_3⟩ : ∃ y, y = (upd v_in (Int32.toNatClampNeg i_inLong) ((Int64.toInt32 ((Int64.toUInt64 l1 >>> (Int64.toUInt64 (Int32.toInt64 (56 - (8 * l4))) &&& Int64.toUInt64 63)).toInt64)) &&& 255)) := ⟨_, rfl⟩
      replace h := nm_s h ev_in_3
      have hP : va_P D classes [(a_this, .inr (1, [.ref a_in, .int i_inLong, .int i_goesOn, .ref o_out, .int i_outLong, .ref o_counts, .int i_greatest, .ref o_length, .ref o_symbolOf, .ref o_draft, .ref o_knot, .ref o_inSum, .int i_knots, .ref o_halved, .ref o_made, .int i_bitsMade, .ref o_weight, .int i_weights, .int i_order, .ref o_points, .ref o_cutOff, .ref o_had, .ref o_placeOf, .int i_bit, .int i_bitEnd])), (a_in, .inl (cI, 6000, .inl v_in_3))] H := by rw [ev_in_3]; exact hP
      have hD : va_D A [(a_this, .inr (1, [.ref a_in, .int i_inLong, .int i_goesOn, .ref o_out, .int i_outLong, .ref o_counts, .int i_greatest, .ref o_length, .ref o_symbolOf, .ref o_draft, .ref o_knot, .ref o_inSum, .int i_knots, .ref o_halved, .ref o_made, .int i_bitsMade, .ref o_weight, .int i_weights, .int i_order, .ref o_points, .ref o_cutOff, .ref o_had, .ref o_placeOf, .int i_bit, .int i_bitEnd])), (a_in, .inl (cI, 6000, .inl v_in_3))] := by rw [ev_in_3]; exact hD
      refine lv_aload_n hx hb d_MM_write_58 rfl (lv_at hl 0 rfl) ?_
      refine lv_dup hx hb d_MM_write_59 rfl ?_
      refine va_get hx hb hts in_MM hown hK hP 0 rfl rfl 1 (by decide) (hts _ m_754) (fun _ h9 => h9) rfl d_MM_write_60 ?_
      refine lv_iconst (v := 1) hx hb d_MM_write_63 (by decide) ?_
      refine lv_iadd hx hb d_MM_write_64 ?_
      refine lv_topi (fun i_inLong_4 ei_inLong_4 => ?_)
      replace h := nm_s h ei_inLong_4
      refine va_put (v := .int i_inLong_4) (ty := .int) hx hb hts in_MM t_MM t_MM_ok n_MM hown hK hP hD hS 0 rfl rfl 1 (by decide) (hts _ m_754) (fun _ h9 => h9) rfl (by decide +kernel) rfl rfl (Nat.le_of_ble_eq_true rfl) d_MM_write_65 (fun H locs hP hD hS => ?_)
      have hP : va_P D classes [(a_this, .inr (1, [.ref a_in, .int i_inLong_4, .int i_goesOn, .ref o_out, .int i_outLong, .ref o_counts, .int i_greatest, .ref o_length, .ref o_symbolOf, .ref o_draft, .ref o_knot, .ref o_inSum, .int i_knots, .ref o_halved, .ref o_made, .int i_bitsMade, .ref o_weight, .int i_weights, .int i_order, .ref o_points, .ref o_cutOff, .ref o_had, .ref o_placeOf, .int i_bit, .int i_bitEnd])), (a_in, .inl (cI, 6000, .inl v_in_3))] H := by exact hP
      have hD : va_D A [(a_this, .inr (1, [.ref a_in, .int i_inLong_4, .int i_goesOn, .ref o_out, .int i_outLong, .ref o_counts, .int i_greatest, .ref o_length, .ref o_symbolOf, .ref o_draft, .ref o_knot, .ref o_inSum, .int i_knots, .ref o_halved, .ref o_made, .int i_bitsMade, .ref o_weight, .int i_weights, .int i_order, .ref o_points, .ref o_cutOff, .ref o_had, .ref o_placeOf, .int i_bit, .int i_bitEnd])), (a_in, .inl (cI, 6000, .inl v_in_3))] := by exact hD
      obtain ⟨l4_5, el4_5⟩ : ∃ y : Int32, y = l4 + 1 := ⟨_, rfl⟩
      replace h := nm_s h el4_5
      refine lv_iinc (v := l4_5) (lv' := [(4, .int l4_5), (0, .ref a_this), (1, .long l1), (3, .int l3)]) hx hb d_MM_write_68 hl (k := 3) rfl (by rw [el4_5]; rfl) (by decide) rfl (fun ls hl => ?_)
      refine lv_goto (tgt := 28) hx hb d_MM_write_71 (by decide) ?_
      exact ih _ _ _ h H locs ls (lv_sub hl [1, 2, 3, 0] rfl) hP hD hS
set_option maxHeartbeats 4000000 in
set_option maxRecDepth 100000 in
theorem w_MM_write_b0 {p : Program} {l : Launch} {e : Env} {s : State} {m : MethodId} {args : Array Value} {below : List Frame} {meth : Method} {c : Code} {Q : State → Prop} {A : Nat → Prop} {D : va_G} {cI cL cZ : ClassId} {a_this : Nat} {a_in : Nat} {o_out : Nat} {o_counts : Nat} {o_length : Nat} {o_symbolOf : Nat} {o_draft : Nat} {o_knot : Nat} {o_inSum : Nat} {o_halved : Nat} {o_made : Nat} {o_weight : Nat} {o_points : Nat} {o_cutOff : Nat} {o_had : Nat} {o_placeOf : Nat} {i_goesOn : Int32} {i_outLong : Int32} {i_greatest : Int32} {i_knots : Int32} {i_bitsMade : Int32} {i_weights : Int32} {i_order : Int32} {i_bit : Int32} {i_bitEnd : Int32} {l1 : Int64} {l3 : Int32} {N : Nat} {res : Int32 × Int32 × (Nat → Int32)}  (C : Cx p s m args c b_MM_write 5 "PrefixMillModel" D [(cI, .int), (cL, .long), (cZ, .boolean)] A) (hret : E_MM_write p l e s m args below meth c Q A D cI cL cZ a_this a_in o_out o_counts o_length o_symbolOf o_draft o_knot o_inSum o_halved o_made o_weight o_points o_cutOff o_had o_placeOf i_goesOn i_outLong i_greatest i_knots i_bitsMade i_weights i_order i_bit i_bitEnd l1 l3 res)  : I_MM_write_b0 p l e s m args below meth c Q A D cI cL cZ a_this a_in o_out o_counts o_length o_symbolOf o_draft o_knot o_inSum o_halved o_made o_weight o_points o_cutOff o_had o_placeOf i_goesOn i_outLong i_greatest i_knots i_bitsMade i_weights i_order i_bit i_bitEnd l1 l3 res (f_MM_write N l1 l3 ) := by
  obtain ⟨hx, hb, hml, hown, hts, hK, hA⟩ := C
  intro i_inLong v_in h H locs ls hl hP hD hS
  unfold f_MM_write at h
  refine lv_iload_n hx hb d_MM_write_0 rfl (lv_at hl 2 rfl) ?_
  refine lv_iconst (v := 1) hx hb d_MM_write_1 (by decide) ?_
  refine lv_icmp_lt (tgt := 23) hx hb d_MM_write_2 (by decide) (fun c_1 => ?_) (fun c_1 => ?_)
  · replace h := if_t h c_1
    exact w_MM_write_b23 ⟨hx, hb, hml, hown, hts, hK, hA⟩ hret  _ _ h H locs ls (lv_sub hl [] rfl) hP hD hS
  · replace h := if_f h c_1
    refine lv_iload_n hx hb d_MM_write_5 rfl (lv_at hl 2 rfl) ?_
    refine lv_bipush (v := 8) hx hb d_MM_write_6 (by decide) ?_
    refine lv_icmp_gt (tgt := 23) hx hb d_MM_write_8 (by decide) (fun c_2 => ?_) (fun c_2 => ?_)
    · replace h := if_t h c_2
      exact w_MM_write_b23 ⟨hx, hb, hml, hown, hts, hK, hA⟩ hret  _ _ h H locs ls (lv_sub hl [] rfl) hP hD hS
    · replace h := if_f h c_2
      refine lv_aload_n hx hb d_MM_write_11 rfl (lv_at hl 0 rfl) ?_
      refine va_get hx hb hts in_MM hown hK hP 0 rfl rfl 1 (by decide) (hts _ m_754) (fun _ h9 => h9) rfl d_MM_write_12 ?_
      refine lv_iload_n hx hb d_MM_write_15 rfl (lv_at hl 2 rfl) ?_
      refine lv_iadd hx hb d_MM_write_16 ?_
      refine lv_sipush (v := 6000) hx hb d_MM_write_17 (by decide) ?_
      refine lv_icmp_le (tgt := 25) hx hb d_MM_write_20 (by decide) (fun c_3 => ?_) (fun c_3 => ?_)
      · replace h := if_t h c_3
        refine lv_iconst (v := 0) hx hb d_MM_write_25 (by decide) ?_
        refine lv_istore (lv' := [(4, .int 0), (0, .ref a_this), (1, .long l1), (3, .int l3)]) hx hb d_MM_write_26 hl (by decide) rfl (fun ls hl => ?_)
        exact w_MM_write_b28 ⟨hx, hb, hml, hown, hts, hK, hA⟩ hret  N _ _ _ h H locs ls (lv_sub hl [1, 2, 3, 0] rfl) hP hD hS
      · replace h := if_f h c_3
        exact w_MM_write_b23 ⟨hx, hb, hml, hown, hts, hK, hA⟩ hret  _ _ h H locs ls (lv_sub hl [] rfl) hP hD hS
set_option maxHeartbeats 4000000 in
set_option maxRecDepth 100000 in
theorem c_MM_write (l : Launch) (D : va_G) (cI cL cZ : ClassId) (sz N : Nat) (a_this : Nat) (a_in : Nat) (o_out : Nat) (o_counts : Nat) (o_length : Nat) (o_symbolOf : Nat) (o_draft : Nat) (o_knot : Nat) (o_inSum : Nat) (o_halved : Nat) (o_made : Nat) (o_weight : Nat) (o_points : Nat) (o_cutOff : Nat) (o_had : Nat) (o_placeOf : Nat) (i_inLong : Int32) (i_goesOn : Int32) (i_outLong : Int32) (i_greatest : Int32) (i_knots : Int32) (i_bitsMade : Int32) (i_weights : Int32) (i_order : Int32) (i_bit : Int32) (i_bitEnd : Int32) (v_in : Nat → Int32) (l1 : Int64) (l3 : Int32) (rv : Int32) (i_inLong' : Int32) (v_in' : Nat → Int32) (h : f_MM_write N l1 l3 i_inLong v_in = some (rv, i_inLong', v_in')) : Met l ({ cls := "PrefixMillModel", name := "write", desc := "(JI)Z" } : Jvm.MethodName) ws_MM_write R_MM_write (va_Pc [.ref a_this, .long l1, .int l3] (fun U => U.heap.size = sz ∧ va_P D classes [(a_this, .inr (1, [.ref a_in, .int i_inLong, .int i_goesOn, .ref o_out, .int i_outLong, .ref o_counts, .int i_greatest, .ref o_length, .ref o_symbolOf, .ref o_draft, .ref o_knot, .ref o_inSum, .int i_knots, .ref o_halved, .ref o_made, .int i_bitsMade, .ref o_weight, .int i_weights, .int i_order, .ref o_points, .ref o_cutOff, .ref o_had, .ref o_placeOf, .int i_bit, .int i_bitEnd])), (a_in, .inl (cI, 6000, .inl v_in))] U.heap ∧ va_K D classes [(cI, .int), (cL, .long), (cZ, .boolean)] U ∧ va_D (fun _ => True) [(a_this, .inr (1, [.ref a_in, .int i_inLong, .int i_goesOn, .ref o_out, .int i_outLong, .ref o_counts, .int i_greatest, .ref o_length, .ref o_symbolOf, .ref o_draft, .ref o_knot, .ref o_inSum, .int i_knots, .ref o_halved, .ref o_made, .int i_bitsMade, .ref o_weight, .int i_weights, .int i_order, .ref o_points, .ref o_cutOff, .ref o_had, .ref o_placeOf, .int i_bit, .int i_bitEnd])), (a_in, .inl (cI, 6000, .inl v_in))])) (va_Qi (fun (r0 : Int32) (_ : Unit) => rv = r0) (fun _ t => va_P D classes [(a_this, .inr (1, [.ref a_in, .int i_inLong', .int i_goesOn, .ref o_out, .int i_outLong, .ref o_counts, .int i_greatest, .ref o_length, .ref o_symbolOf, .ref o_draft, .ref o_knot, .ref o_inSum, .int i_knots, .ref o_halved, .ref o_made, .int i_bitsMade, .ref o_weight, .int i_weights, .int i_order, .ref o_points, .ref o_cutOff, .ref o_had, .ref o_placeOf, .int i_bit, .int i_bitEnd])), (a_in, .inl (cI, 6000, .inl v_in'))] t.heap ∧ va_K D classes [(cI, .int), (cL, .long), (cZ, .boolean)] t ∧ va_D (va_A [(a_this, .inr (1, [.ref a_in, .int i_inLong, .int i_goesOn, .ref o_out, .int i_outLong, .ref o_counts, .int i_greatest, .ref o_length, .ref o_symbolOf, .ref o_draft, .ref o_knot, .ref o_inSum, .int i_knots, .ref o_halved, .ref o_made, .int i_bitsMade, .ref o_weight, .int i_weights, .int i_order, .ref o_points, .ref o_cutOff, .ref o_had, .ref o_placeOf, .int i_bit, .int i_bitEnd])), (a_in, .inl (cI, 6000, .inl v_in))] sz) [(a_this, .inr (1, [.ref a_in, .int i_inLong', .int i_goesOn, .ref o_out, .int i_outLong, .ref o_counts, .int i_greatest, .ref o_length, .ref o_symbolOf, .ref o_draft, .ref o_knot, .ref o_inSum, .int i_knots, .ref o_halved, .ref o_made, .int i_bitsMade, .ref o_weight, .int i_weights, .int i_order, .ref o_points, .ref o_cutOff, .ref o_had, .ref o_placeOf, .int i_bit, .int i_bitEnd])), (a_in, .inl (cI, 6000, .inl v_in'))]) (va_A [(a_this, .inr (1, [.ref a_in, .int i_inLong, .int i_goesOn, .ref o_out, .int i_outLong, .ref o_counts, .int i_greatest, .ref o_length, .ref o_symbolOf, .ref o_draft, .ref o_knot, .ref o_inSum, .int i_knots, .ref o_halved, .ref o_made, .int i_bitsMade, .ref o_weight, .int i_weights, .int i_order, .ref o_points, .ref o_cutOff, .ref o_had, .ref o_placeOf, .int i_bit, .int i_bitEnd])), (a_in, .inl (cI, 6000, .inl v_in))] sz)) 0 0 (va_A [(a_this, .inr (1, [.ref a_in, .int i_inLong, .int i_goesOn, .ref o_out, .int i_outLong, .ref o_counts, .int i_greatest, .ref o_length, .ref o_symbolOf, .ref o_draft, .ref o_knot, .ref o_inSum, .int i_knots, .ref o_halved, .ref o_made, .int i_bitsMade, .ref o_weight, .int i_weights, .int i_order, .ref o_points, .ref o_cutOff, .ref o_had, .ref o_placeOf, .int i_bit, .int i_bitEnd])), (a_in, .inl (cI, 6000, .inl v_in))] sz) := by
  refine Met.ofW (cc := b_MM_write) (maxL := 5) (ret := (some .boolean)) (by decide) rfl ?_
  intro p e s m args below meth c s₁ B hml hv
  obtain ⟨rfl, hsz, hP, hK, hD0⟩ := hv
  have hx := B.exec
  have hb := B.bytes
  have hr := B.returns
  have hts0 := atoms_spec (ws := ws_MM_write) B.pre
  have hts := gd_tl hts0
  clear hts0
  have hown : s.vm.findClass "PrefixMillModel" = some m.cls := findClass_of_methodNamed B.named
  have hlocks := B.notSynchronized
  subst hsz
  have hD := hD0.self (sz := s.heap.size)
  generalize hAe : va_A [(a_this, .inr (1, [.ref a_in, .int i_inLong, .int i_goesOn, .ref o_out, .int i_outLong, .ref o_counts, .int i_greatest, .ref o_length, .ref o_symbolOf, .ref o_draft, .ref o_knot, .ref o_inSum, .int i_knots, .ref o_halved, .ref o_made, .int i_bitsMade, .ref o_weight, .int i_weights, .int i_order, .ref o_points, .ref o_cutOff, .ref o_had, .ref o_placeOf, .int i_bit, .int i_bitEnd])), (a_in, .inl (cI, 6000, .inl v_in))] s.heap.size = A at hD ⊢
  have hA : ∀ q : Nat, s.heap.size ≤ q → A q := fun q h => by rw [← hAe]; exact Or.inr h
  have hS : va_S A s.heap s.heap [] := va_S.rf
  have hP : va_P D classes [(a_this, .inr (1, [.ref a_in, .int i_inLong, .int i_goesOn, .ref o_out, .int i_outLong, .ref o_counts, .int i_greatest, .ref o_length, .ref o_symbolOf, .ref o_draft, .ref o_knot, .ref o_inSum, .int i_knots, .ref o_halved, .ref o_made, .int i_bitsMade, .ref o_weight, .int i_weights, .int i_order, .ref o_points, .ref o_cutOff, .ref o_had, .ref o_placeOf, .int i_bit, .int i_bitEnd])), (a_in, .inl (cI, 6000, .inl v_in))] s.heap := hP
  have hl := lv_entry ([.ref a_this, .long l1, .int l3]) (n := 5) (Nat.le_of_ble_eq_true rfl)
  rw [lg_entry_eq]
  generalize (lg_sl ([.ref a_this, .long l1, .int l3]) ++ List.replicate (5 - (lg_sl ([.ref a_this, .long l1, .int l3])).length) Slot.unset).toArray = ls at hl ⊢
  have hl : lv_has ls 5 [(0, .ref a_this), (1, .long l1), (3, .int l3)] := hl
  have C : Cx p s m ([.ref a_this, .long l1, .int l3] : List Value).toArray c b_MM_write 5 "PrefixMillModel" D [(cI, .int), (cL, .long), (cZ, .boolean)] A := ⟨hx, hb, hml, hown, hts, hK, hA⟩
  refine w_MM_write_b0 (res := (rv, i_inLong', v_in')) C ?_ _ _ h s.heap [] ls hl hP hD hS
  intro pc9 H9 locs9 ls9 rv9 i_inLong9 v_in9 e9 z9 d9 hP9 hD9 hS9
  cases e9
  exact W.zret (v := rv) hx hb hr z9 (fun t ht hW => ⟨⟨rv, (), rfl, rfl, by rw [ht]; exact hP9, va_K.moved hW.alike hK, hD9⟩, hS9.F ht⟩) hS9.2.2 d9
abbrev b_MM_again : ByteArray := prog_12_method_3_code
def ws_MM_again : List Cond := .code ({ cls := "PrefixMillModel", name := "again", desc := "(II)Z" } : Jvm.MethodName) b_MM_again 5 (some .boolean) :: tt
theorem d_MM_again_0 : decode b_MM_again 0 = .ok (.iload_n 1, 1) := by decide +kernel
theorem d_MM_again_1 : decode b_MM_again 1 = .ok (.iconst 1, 1) := by decide +kernel
theorem d_MM_again_2 : decode b_MM_again 2 = .ok (.if_icmp .lt 33, 3) := by decide +kernel
theorem d_MM_again_5 : decode b_MM_again 5 = .ok (.iload_n 1, 1) := by decide +kernel
theorem d_MM_again_6 : decode b_MM_again 6 = .ok (.aload_n 0, 1) := by decide +kernel
theorem d_MM_again_7 : decode b_MM_again 7 = .ok (.getfield 56, 3) := by decide +kernel
theorem d_MM_again_10 : decode b_MM_again 10 = .ok (.if_icmp .gt 25, 3) := by decide +kernel
theorem d_MM_again_13 : decode b_MM_again 13 = .ok (.iload_n 2, 1) := by decide +kernel
theorem d_MM_again_14 : decode b_MM_again 14 = .ok (.ifCond .lt 21, 3) := by decide +kernel
theorem d_MM_again_17 : decode b_MM_again 17 = .ok (.aload_n 0, 1) := by decide +kernel
theorem d_MM_again_18 : decode b_MM_again 18 = .ok (.getfield 56, 3) := by decide +kernel
theorem d_MM_again_21 : decode b_MM_again 21 = .ok (.i2l, 1) := by decide +kernel
theorem d_MM_again_22 : decode b_MM_again 22 = .ok (.iload_n 1, 1) := by decide +kernel
theorem d_MM_again_23 : decode b_MM_again 23 = .ok (.i2l, 1) := by decide +kernel
theorem d_MM_again_24 : decode b_MM_again 24 = .ok (.iload_n 2, 1) := by decide +kernel
theorem d_MM_again_25 : decode b_MM_again 25 = .ok (.i2l, 1) := by decide +kernel
theorem d_MM_again_26 : decode b_MM_again 26 = .ok (.lmul, 1) := by decide +kernel
theorem d_MM_again_27 : decode b_MM_again 27 = .ok (.ladd, 1) := by decide +kernel
theorem d_MM_again_28 : decode b_MM_again 28 = .ok (.ldc2_w 60, 3) := by decide +kernel
theorem d_MM_again_31 : decode b_MM_again 31 = .ok (.lcmp, 1) := by decide +kernel
theorem d_MM_again_32 : decode b_MM_again 32 = .ok (.ifCond .le 5, 3) := by decide +kernel
theorem d_MM_again_35 : decode b_MM_again 35 = .ok (.iconst 0, 1) := by decide +kernel
theorem d_MM_again_36 : decode b_MM_again 36 = .ok (.ireturn, 1) := by decide +kernel
theorem d_MM_again_37 : decode b_MM_again 37 = .ok (.iload_n 1, 1) := by decide +kernel
theorem d_MM_again_38 : decode b_MM_again 38 = .ok (.iload_n 2, 1) := by decide +kernel
theorem d_MM_again_39 : decode b_MM_again 39 = .ok (.imul, 1) := by decide +kernel
theorem d_MM_again_40 : decode b_MM_again 40 = .ok (.istore_n 3, 1) := by decide +kernel
theorem d_MM_again_41 : decode b_MM_again 41 = .ok (.iconst 0, 1) := by decide +kernel
theorem d_MM_again_42 : decode b_MM_again 42 = .ok (.istore 4, 2) := by decide +kernel
theorem d_MM_again_44 : decode b_MM_again 44 = .ok (.iload 4, 2) := by decide +kernel
theorem d_MM_again_46 : decode b_MM_again 46 = .ok (.iload_n 3, 1) := by decide +kernel
theorem d_MM_again_47 : decode b_MM_again 47 = .ok (.if_icmp .ge 39, 3) := by decide +kernel
theorem d_MM_again_50 : decode b_MM_again 50 = .ok (.aload_n 0, 1) := by decide +kernel
theorem d_MM_again_51 : decode b_MM_again 51 = .ok (.getfield 7, 3) := by decide +kernel
theorem d_MM_again_54 : decode b_MM_again 54 = .ok (.aload_n 0, 1) := by decide +kernel
theorem d_MM_again_55 : decode b_MM_again 55 = .ok (.getfield 56, 3) := by decide +kernel
theorem d_MM_again_58 : decode b_MM_again 58 = .ok (.aload_n 0, 1) := by decide +kernel
theorem d_MM_again_59 : decode b_MM_again 59 = .ok (.getfield 7, 3) := by decide +kernel
theorem d_MM_again_62 : decode b_MM_again 62 = .ok (.aload_n 0, 1) := by decide +kernel
theorem d_MM_again_63 : decode b_MM_again 63 = .ok (.getfield 56, 3) := by decide +kernel
theorem d_MM_again_66 : decode b_MM_again 66 = .ok (.iload_n 1, 1) := by decide +kernel
theorem d_MM_again_67 : decode b_MM_again 67 = .ok (.isub, 1) := by decide +kernel
theorem d_MM_again_68 : decode b_MM_again 68 = .ok (.iaload, 1) := by decide +kernel
theorem d_MM_again_69 : decode b_MM_again 69 = .ok (.iastore, 1) := by decide +kernel
theorem d_MM_again_70 : decode b_MM_again 70 = .ok (.aload_n 0, 1) := by decide +kernel
theorem d_MM_again_71 : decode b_MM_again 71 = .ok (.dup, 1) := by decide +kernel
theorem d_MM_again_72 : decode b_MM_again 72 = .ok (.getfield 56, 3) := by decide +kernel
theorem d_MM_again_75 : decode b_MM_again 75 = .ok (.iconst 1, 1) := by decide +kernel
theorem d_MM_again_76 : decode b_MM_again 76 = .ok (.iadd, 1) := by decide +kernel
theorem d_MM_again_77 : decode b_MM_again 77 = .ok (.putfield 56, 3) := by decide +kernel
theorem d_MM_again_80 : decode b_MM_again 80 = .ok (.iinc 4 1, 3) := by decide +kernel
theorem d_MM_again_83 : decode b_MM_again 83 = .ok (.goto (-39), 3) := by decide +kernel
theorem d_MM_again_86 : decode b_MM_again 86 = .ok (.iconst 1, 1) := by decide +kernel
theorem d_MM_again_87 : decode b_MM_again 87 = .ok (.ireturn, 1) := by decide +kernel
def f_MM_again_b35 (N : Nat) (l1 : Int32) (l2 : Int32)  (i_inLong : Int32) (v_in : Nat → Int32) : Option (Int32 × Int32 × (Nat → Int32)) :=
  some (0, i_inLong, v_in)
def f_MM_again_b86 (N : Nat) (l1 : Int32) (l2 : Int32)  (i_inLong : Int32) (v_in : Nat → Int32) : Option (Int32 × Int32 × (Nat → Int32)) :=
  some (1, i_inLong, v_in)
def f_MM_again_b44 (N : Nat) (l1 : Int32) (l2 : Int32)  : Nat → Int32 → Int32 → Int32 → (Nat → Int32) → Option (Int32 × Int32 × (Nat → Int32))
  | 0, _, _, _, _ => none
  | z + 1, l3, l4, i_inLong, v_in =>
  if l3 ≤ l4 then
  f_MM_again_b86 N l1 l2  i_inLong v_in
  else
  ck (inb (i_inLong - l1) 6000) <|
  ck (inb i_inLong 6000) <|
  nm (upd v_in (Int32.toNatClampNeg i_inLong) (v_in (Int32.toNatClampNeg (i_inLong - l1)))) fun v_in_4 =>
  nm (i_inLong + 1) fun i_inLong_5 =>
  nm (l4 + 1) fun l4_6 =>
  f_MM_again_b44 N l1 l2  z l3 l4_6 i_inLong_5 v_in_4
def f_MM_again (N : Nat) (l1 : Int32) (l2 : Int32)  (i_inLong : Int32) (v_in : Nat → Int32) : Option (Int32 × Int32 × (Nat → Int32)) :=
  if l1 < 1 then
  f_MM_again_b35 N l1 l2  i_inLong v_in
  else
  if i_inLong < l1 then
  f_MM_again_b35 N l1 l2  i_inLong v_in
  else
  if l2 < 0 then
  f_MM_again_b35 N l1 l2  i_inLong v_in
  else
  if (lg_cmp ((Int32.toInt64 i_inLong) + ((Int32.toInt64 l1) * (Int32.toInt64 l2))) 6000) ≤ 0 then
  nm (l1 * l2) fun l3_5 =>
  f_MM_again_b44 N l1 l2  N l3_5 0 i_inLong v_in
  else
  f_MM_again_b35 N l1 l2  i_inLong v_in
abbrev R_MM_again : Room := ({ frames := 0, cells := 0, slots := 0, locals := 0 } : Room)
def E_MM_again (p : Program) (l : Launch) (e : Env) (s : State) (m : MethodId) (args : Array Value) (below : List Frame) (meth : Method) (c : Code) (Q : State → Prop) (A : Nat → Prop) (D : va_G) (cI cL cZ : ClassId) (a_this : Nat) (a_in : Nat) (o_out : Nat) (o_counts : Nat) (o_length : Nat) (o_symbolOf : Nat) (o_draft : Nat) (o_knot : Nat) (o_inSum : Nat) (o_halved : Nat) (o_made : Nat) (o_weight : Nat) (o_points : Nat) (o_cutOff : Nat) (o_had : Nat) (o_placeOf : Nat) (i_goesOn : Int32) (i_outLong : Int32) (i_greatest : Int32) (i_knots : Int32) (i_bitsMade : Int32) (i_weights : Int32) (i_order : Int32) (i_bit : Int32) (i_bitEnd : Int32) (l1 : Int32) (l2 : Int32) (res : Int32 × Int32 × (Nat → Int32)) : Prop := ∀ (pc : Nat) (H : Heap) (locs : List Loc) (ls : Array Slot) (rv : Int32) (i_inLong : Int32) (v_in : Nat → Int32), some (rv, i_inLong, v_in) = some res → narrow .boolean (.int rv) = .int rv → decode b_MM_again pc = .ok (.ireturn, 1) → va_P D classes [(a_this, .inr (1, [.ref a_in, .int i_inLong, .int i_goesOn, .ref o_out, .int i_outLong, .ref o_counts, .int i_greatest, .ref o_length, .ref o_symbolOf, .ref o_draft, .ref o_knot, .ref o_inSum, .int i_knots, .ref o_halved, .ref o_made, .int i_bitsMade, .ref o_weight, .int i_weights, .int i_order, .ref o_points, .ref o_cutOff, .ref o_had, .ref o_placeOf, .int i_bit, .int i_bitEnd])), (a_in, .inl (cI, 6000, .inl v_in))] H → va_D A [(a_this, .inr (1, [.ref a_in, .int i_inLong, .int i_goesOn, .ref o_out, .int i_outLong, .ref o_counts, .int i_greatest, .ref o_length, .ref o_symbolOf, .ref o_draft, .ref o_knot, .ref o_inSum, .int i_knots, .ref o_halved, .ref o_made, .int i_bitsMade, .ref o_weight, .int i_weights, .int i_order, .ref o_points, .ref o_cutOff, .ref o_had, .ref o_placeOf, .int i_bit, .int i_bitEnd])), (a_in, .inl (cI, 6000, .inl v_in))] → va_S A s.heap H locs → W p l e R_MM_again s m args below meth c H locs 0 0 Q (F0 m pc ls [.int rv])
def I_MM_again_b35 (p : Program) (l : Launch) (e : Env) (s : State) (m : MethodId) (args : Array Value) (below : List Frame) (meth : Method) (c : Code) (Q : State → Prop) (A : Nat → Prop) (D : va_G) (cI cL cZ : ClassId) (a_this : Nat) (a_in : Nat) (o_out : Nat) (o_counts : Nat) (o_length : Nat) (o_symbolOf : Nat) (o_draft : Nat) (o_knot : Nat) (o_inSum : Nat) (o_halved : Nat) (o_made : Nat) (o_weight : Nat) (o_points : Nat) (o_cutOff : Nat) (o_had : Nat) (o_placeOf : Nat) (i_goesOn : Int32) (i_outLong : Int32) (i_greatest : Int32) (i_knots : Int32) (i_bitsMade : Int32) (i_weights : Int32) (i_order : Int32) (i_bit : Int32) (i_bitEnd : Int32) (l1 : Int32) (l2 : Int32) (res : Int32 × Int32 × (Nat → Int32)) (kf : Int32 → (Nat → Int32) → Option (Int32 × Int32 × (Nat → Int32))) : Prop := ∀ (i_inLong : Int32) (v_in : Nat → Int32), kf i_inLong v_in = some res → ∀ (H : Heap) (locs : List Loc) (ls : Array Slot), lv_has ls 5 [] → va_P D classes [(a_this, .inr (1, [.ref a_in, .int i_inLong, .int i_goesOn, .ref o_out, .int i_outLong, .ref o_counts, .int i_greatest, .ref o_length, .ref o_symbolOf, .ref o_draft, .ref o_knot, .ref o_inSum, .int i_knots, .ref o_halved, .ref o_made, .int i_bitsMade, .ref o_weight, .int i_weights, .int i_order, .ref o_points, .ref o_cutOff, .ref o_had, .ref o_placeOf, .int i_bit, .int i_bitEnd])), (a_in, .inl (cI, 6000, .inl v_in))] H → va_D A [(a_this, .inr (1, [.ref a_in, .int i_inLong, .int i_goesOn, .ref o_out, .int i_outLong, .ref o_counts, .int i_greatest, .ref o_length, .ref o_symbolOf, .ref o_draft, .ref o_knot, .ref o_inSum, .int i_knots, .ref o_halved, .ref o_made, .int i_bitsMade, .ref o_weight, .int i_weights, .int i_order, .ref o_points, .ref o_cutOff, .ref o_had, .ref o_placeOf, .int i_bit, .int i_bitEnd])), (a_in, .inl (cI, 6000, .inl v_in))] → va_S A s.heap H locs → W p l e R_MM_again s m args below meth c H locs 0 0 Q (F0 m 35 ls [])
def I_MM_again_b86 (p : Program) (l : Launch) (e : Env) (s : State) (m : MethodId) (args : Array Value) (below : List Frame) (meth : Method) (c : Code) (Q : State → Prop) (A : Nat → Prop) (D : va_G) (cI cL cZ : ClassId) (a_this : Nat) (a_in : Nat) (o_out : Nat) (o_counts : Nat) (o_length : Nat) (o_symbolOf : Nat) (o_draft : Nat) (o_knot : Nat) (o_inSum : Nat) (o_halved : Nat) (o_made : Nat) (o_weight : Nat) (o_points : Nat) (o_cutOff : Nat) (o_had : Nat) (o_placeOf : Nat) (i_goesOn : Int32) (i_outLong : Int32) (i_greatest : Int32) (i_knots : Int32) (i_bitsMade : Int32) (i_weights : Int32) (i_order : Int32) (i_bit : Int32) (i_bitEnd : Int32) (l1 : Int32) (l2 : Int32) (res : Int32 × Int32 × (Nat → Int32)) (kf : Int32 → (Nat → Int32) → Option (Int32 × Int32 × (Nat → Int32))) : Prop := ∀ (i_inLong : Int32) (v_in : Nat → Int32), kf i_inLong v_in = some res → ∀ (H : Heap) (locs : List Loc) (ls : Array Slot), lv_has ls 5 [] → va_P D classes [(a_this, .inr (1, [.ref a_in, .int i_inLong, .int i_goesOn, .ref o_out, .int i_outLong, .ref o_counts, .int i_greatest, .ref o_length, .ref o_symbolOf, .ref o_draft, .ref o_knot, .ref o_inSum, .int i_knots, .ref o_halved, .ref o_made, .int i_bitsMade, .ref o_weight, .int i_weights, .int i_order, .ref o_points, .ref o_cutOff, .ref o_had, .ref o_placeOf, .int i_bit, .int i_bitEnd])), (a_in, .inl (cI, 6000, .inl v_in))] H → va_D A [(a_this, .inr (1, [.ref a_in, .int i_inLong, .int i_goesOn, .ref o_out, .int i_outLong, .ref o_counts, .int i_greatest, .ref o_length, .ref o_symbolOf, .ref o_draft, .ref o_knot, .ref o_inSum, .int i_knots, .ref o_halved, .ref o_made, .int i_bitsMade, .ref o_weight, .int i_weights, .int i_order, .ref o_points, .ref o_cutOff, .ref o_had, .ref o_placeOf, .int i_bit, .int i_bitEnd])), (a_in, .inl (cI, 6000, .inl v_in))] → va_S A s.heap H locs → W p l e R_MM_again s m args below meth c H locs 0 0 Q (F0 m 86 ls [])
def I_MM_again_b44 (p : Program) (l : Launch) (e : Env) (s : State) (m : MethodId) (args : Array Value) (below : List Frame) (meth : Method) (c : Code) (Q : State → Prop) (A : Nat → Prop) (D : va_G) (cI cL cZ : ClassId) (a_this : Nat) (a_in : Nat) (o_out : Nat) (o_counts : Nat) (o_length : Nat) (o_symbolOf : Nat) (o_draft : Nat) (o_knot : Nat) (o_inSum : Nat) (o_halved : Nat) (o_made : Nat) (o_weight : Nat) (o_points : Nat) (o_cutOff : Nat) (o_had : Nat) (o_placeOf : Nat) (i_goesOn : Int32) (i_outLong : Int32) (i_greatest : Int32) (i_knots : Int32) (i_bitsMade : Int32) (i_weights : Int32) (i_order : Int32) (i_bit : Int32) (i_bitEnd : Int32) (l1 : Int32) (l2 : Int32) (res : Int32 × Int32 × (Nat → Int32)) (kf : Int32 → Int32 → Int32 → (Nat → Int32) → Option (Int32 × Int32 × (Nat → Int32))) : Prop := ∀ (l3 : Int32) (l4 : Int32) (i_inLong : Int32) (v_in : Nat → Int32), kf l3 l4 i_inLong v_in = some res → ∀ (H : Heap) (locs : List Loc) (ls : Array Slot), lv_has ls 5 [(0, .ref a_this), (1, .int l1), (3, .int l3), (4, .int l4)] → va_P D classes [(a_this, .inr (1, [.ref a_in, .int i_inLong, .int i_goesOn, .ref o_out, .int i_outLong, .ref o_counts, .int i_greatest, .ref o_length, .ref o_symbolOf, .ref o_draft, .ref o_knot, .ref o_inSum, .int i_knots, .ref o_halved, .ref o_made, .int i_bitsMade, .ref o_weight, .int i_weights, .int i_order, .ref o_points, .ref o_cutOff, .ref o_had, .ref o_placeOf, .int i_bit, .int i_bitEnd])), (a_in, .inl (cI, 6000, .inl v_in))] H → va_D A [(a_this, .inr (1, [.ref a_in, .int i_inLong, .int i_goesOn, .ref o_out, .int i_outLong, .ref o_counts, .int i_greatest, .ref o_length, .ref o_symbolOf, .ref o_draft, .ref o_knot, .ref o_inSum, .int i_knots, .ref o_halved, .ref o_made, .int i_bitsMade, .ref o_weight, .int i_weights, .int i_order, .ref o_points, .ref o_cutOff, .ref o_had, .ref o_placeOf, .int i_bit, .int i_bitEnd])), (a_in, .inl (cI, 6000, .inl v_in))] → va_S A s.heap H locs → W p l e R_MM_again s m args below meth c H locs 0 0 Q (F0 m 44 ls [])
def I_MM_again_b0 (p : Program) (l : Launch) (e : Env) (s : State) (m : MethodId) (args : Array Value) (below : List Frame) (meth : Method) (c : Code) (Q : State → Prop) (A : Nat → Prop) (D : va_G) (cI cL cZ : ClassId) (a_this : Nat) (a_in : Nat) (o_out : Nat) (o_counts : Nat) (o_length : Nat) (o_symbolOf : Nat) (o_draft : Nat) (o_knot : Nat) (o_inSum : Nat) (o_halved : Nat) (o_made : Nat) (o_weight : Nat) (o_points : Nat) (o_cutOff : Nat) (o_had : Nat) (o_placeOf : Nat) (i_goesOn : Int32) (i_outLong : Int32) (i_greatest : Int32) (i_knots : Int32) (i_bitsMade : Int32) (i_weights : Int32) (i_order : Int32) (i_bit : Int32) (i_bitEnd : Int32) (l1 : Int32) (l2 : Int32) (res : Int32 × Int32 × (Nat → Int32)) (kf : Int32 → (Nat → Int32) → Option (Int32 × Int32 × (Nat → Int32))) : Prop := ∀ (i_inLong : Int32) (v_in : Nat → Int32), kf i_inLong v_in = some res → ∀ (H : Heap) (locs : List Loc) (ls : Array Slot), lv_has ls 5 [(0, .ref a_this), (1, .int l1), (2, .int l2)] → va_P D classes [(a_this, .inr (1, [.ref a_in, .int i_inLong, .int i_goesOn, .ref o_out, .int i_outLong, .ref o_counts, .int i_greatest, .ref o_length, .ref o_symbolOf, .ref o_draft, .ref o_knot, .ref o_inSum, .int i_knots, .ref o_halved, .ref o_made, .int i_bitsMade, .ref o_weight, .int i_weights, .int i_order, .ref o_points, .ref o_cutOff, .ref o_had, .ref o_placeOf, .int i_bit, .int i_bitEnd])), (a_in, .inl (cI, 6000, .inl v_in))] H → va_D A [(a_this, .inr (1, [.ref a_in, .int i_inLong, .int i_goesOn, .ref o_out, .int i_outLong, .ref o_counts, .int i_greatest, .ref o_length, .ref o_symbolOf, .ref o_draft, .ref o_knot, .ref o_inSum, .int i_knots, .ref o_halved, .ref o_made, .int i_bitsMade, .ref o_weight, .int i_weights, .int i_order, .ref o_points, .ref o_cutOff, .ref o_had, .ref o_placeOf, .int i_bit, .int i_bitEnd])), (a_in, .inl (cI, 6000, .inl v_in))] → va_S A s.heap H locs → W p l e R_MM_again s m args below meth c H locs 0 0 Q (F0 m 0 ls [])
set_option maxHeartbeats 4000000 in
set_option maxRecDepth 100000 in
theorem w_MM_again_b35 {p : Program} {l : Launch} {e : Env} {s : State} {m : MethodId} {args : Array Value} {below : List Frame} {meth : Method} {c : Code} {Q : State → Prop} {A : Nat → Prop} {D : va_G} {cI cL cZ : ClassId} {a_this : Nat} {a_in : Nat} {o_out : Nat} {o_counts : Nat} {o_length : Nat} {o_symbolOf : Nat} {o_draft : Nat} {o_knot : Nat} {o_inSum : Nat} {o_halved : Nat} {o_made : Nat} {o_weight : Nat} {o_points : Nat} {o_cutOff : Nat} {o_had : Nat} {o_placeOf : Nat} {i_goesOn : Int32} {i_outLong : Int32} {i_greatest : Int32} {i_knots : Int32} {i_bitsMade : Int32} {i_weights : Int32} {i_order : Int32} {i_bit : Int32} {i_bitEnd : Int32} {l1 : Int32} {l2 : Int32} {N : Nat} {res : Int32 × Int32 × (Nat → Int32)}  (C : Cx p s m args c b_MM_again 5 "PrefixMillModel" D [(cI, .int), (cL, .long), (cZ, .boolean)] A) (hret : E_MM_again p l e s m args below meth c Q A D cI cL cZ a_this a_in o_out o_counts o_length o_symbolOf o_draft o_knot o_inSum o_halved o_made o_weight o_points o_cutOff o_had o_placeOf i_goesOn i_outLong i_greatest i_knots i_bitsMade i_weights i_order i_bit i_bitEnd l1 l2 res)  : I_MM_again_b35 p l e s m args below meth c Q A D cI cL cZ a_this a_in o_out o_counts o_length o_symbolOf o_draft o_knot o_inSum o_halved o_made o_weight o_points o_cutOff o_had o_placeOf i_goesOn i_outLong i_greatest i_knots i_bitsMade i_weights i_order i_bit i_bitEnd l1 l2 res (f_MM_again_b35 N l1 l2 ) := by
  obtain ⟨hx, hb, hml, hown, hts, hK, hA⟩ := C
  intro i_inLong v_in h H locs ls hl hP hD hS
  unfold f_MM_again_b35 at h
  refine lv_iconst (v := 0) hx hb d_MM_again_35 (by decide) ?_
  exact hret _ _ _ _ 0 i_inLong v_in h rfl d_MM_again_36 hP hD hS
set_option maxHeartbeats 4000000 in
set_option maxRecDepth 100000 in
theorem w_MM_again_b86 {p : Program} {l : Launch} {e : Env} {s : State} {m : MethodId} {args : Array Value} {below : List Frame} {meth : Method} {c : Code} {Q : State → Prop} {A : Nat → Prop} {D : va_G} {cI cL cZ : ClassId} {a_this : Nat} {a_in : Nat} {o_out : Nat} {o_counts : Nat} {o_length : Nat} {o_symbolOf : Nat} {o_draft : Nat} {o_knot : Nat} {o_inSum : Nat} {o_halved : Nat} {o_made : Nat} {o_weight : Nat} {o_points : Nat} {o_cutOff : Nat} {o_had : Nat} {o_placeOf : Nat} {i_goesOn : Int32} {i_outLong : Int32} {i_greatest : Int32} {i_knots : Int32} {i_bitsMade : Int32} {i_weights : Int32} {i_order : Int32} {i_bit : Int32} {i_bitEnd : Int32} {l1 : Int32} {l2 : Int32} {N : Nat} {res : Int32 × Int32 × (Nat → Int32)}  (C : Cx p s m args c b_MM_again 5 "PrefixMillModel" D [(cI, .int), (cL, .long), (cZ, .boolean)] A) (hret : E_MM_again p l e s m args below meth c Q A D cI cL cZ a_this a_in o_out o_counts o_length o_symbolOf o_draft o_knot o_inSum o_halved o_made o_weight o_points o_cutOff o_had o_placeOf i_goesOn i_outLong i_greatest i_knots i_bitsMade i_weights i_order i_bit i_bitEnd l1 l2 res)  : I_MM_again_b86 p l e s m args below meth c Q A D cI cL cZ a_this a_in o_out o_counts o_length o_symbolOf o_draft o_knot o_inSum o_halved o_made o_weight o_points o_cutOff o_had o_placeOf i_goesOn i_outLong i_greatest i_knots i_bitsMade i_weights i_order i_bit i_bitEnd l1 l2 res (f_MM_again_b86 N l1 l2 ) := by
  obtain ⟨hx, hb, hml, hown, hts, hK, hA⟩ := C
  intro i_inLong v_in h H locs ls hl hP hD hS
  unfold f_MM_again_b86 at h
  refine lv_iconst (v := 1) hx hb d_MM_again_86 (by decide) ?_
  exact hret _ _ _ _ 1 i_inLong v_in h rfl d_MM_again_87 hP hD hS
set_option maxHeartbeats 4000000 in
set_option maxRecDepth 100000 in
theorem w_MM_again_b44 {p : Program} {l : Launch} {e : Env} {s : State} {m : MethodId} {args : Array Value} {below : List Frame} {meth : Method} {c : Code} {Q : State → Prop} {A : Nat → Prop} {D : va_G} {cI cL cZ : ClassId} {a_this : Nat} {a_in : Nat} {o_out : Nat} {o_counts : Nat} {o_length : Nat} {o_symbolOf : Nat} {o_draft : Nat} {o_knot : Nat} {o_inSum : Nat} {o_halved : Nat} {o_made : Nat} {o_weight : Nat} {o_points : Nat} {o_cutOff : Nat} {o_had : Nat} {o_placeOf : Nat} {i_goesOn : Int32} {i_outLong : Int32} {i_greatest : Int32} {i_knots : Int32} {i_bitsMade : Int32} {i_weights : Int32} {i_order : Int32} {i_bit : Int32} {i_bitEnd : Int32} {l1 : Int32} {l2 : Int32} {N : Nat} {res : Int32 × Int32 × (Nat → Int32)}  (C : Cx p s m args c b_MM_again 5 "PrefixMillModel" D [(cI, .int), (cL, .long), (cZ, .boolean)] A) (hret : E_MM_again p l e s m args below meth c Q A D cI cL cZ a_this a_in o_out o_counts o_length o_symbolOf o_draft o_knot o_inSum o_halved o_made o_weight o_points o_cutOff o_had o_placeOf i_goesOn i_outLong i_greatest i_knots i_bitsMade i_weights i_order i_bit i_bitEnd l1 l2 res)  : ∀ z : Nat, I_MM_again_b44 p l e s m args below meth c Q A D cI cL cZ a_this a_in o_out o_counts o_length o_symbolOf o_draft o_knot o_inSum o_halved o_made o_weight o_points o_cutOff o_had o_placeOf i_goesOn i_outLong i_greatest i_knots i_bitsMade i_weights i_order i_bit i_bitEnd l1 l2 res (f_MM_again_b44 N l1 l2  z) := by
  obtain ⟨hx, hb, hml, hown, hts, hK, hA⟩ := C
  intro z
  induction z with
  | zero => intro l3 l4 i_inLong v_in h; cases h
  | succ z ih =>
    intro l3 l4 i_inLong v_in h H locs ls hl hP hD hS
    refine lv_iload hx hb d_MM_again_44 (lv_at hl 3 rfl) ?_
    refine lv_iload_n hx hb d_MM_again_46 rfl (lv_at hl 2 rfl) ?_
    refine lv_icmp_ge (tgt := 86) hx hb d_MM_again_47 (by decide) (fun c_1 => ?_) (fun c_1 => ?_)
    · replace h := if_t h c_1
      exact w_MM_again_b86 ⟨hx, hb, hml, hown, hts, hK, hA⟩ hret  _ _ h H locs ls (lv_sub hl [] rfl) hP hD hS
    · replace h := if_f h c_1
      refine lv_aload_n hx hb d_MM_again_50 rfl (lv_at hl 0 rfl) ?_
      refine va_get hx hb hts in_MM hown hK hP 0 rfl rfl 0 (by decide) (hts _ m_753) (fun _ h9 => h9) rfl d_MM_again_51 ?_
      refine lv_aload_n hx hb d_MM_again_54 rfl (lv_at hl 0 rfl) ?_
      refine va_get hx hb hts in_MM hown hK hP 0 rfl rfl 1 (by decide) (hts _ m_754) (fun _ h9 => h9) rfl d_MM_again_55 ?_
      refine lv_aload_n hx hb d_MM_again_58 rfl (lv_at hl 0 rfl) ?_
      refine va_get hx hb hts in_MM hown hK hP 0 rfl rfl 0 (by decide) (hts _ m_753) (fun _ h9 => h9) rfl d_MM_again_59 ?_
      refine lv_aload_n hx hb d_MM_again_62 rfl (lv_at hl 0 rfl) ?_
      refine va_get hx hb hts in_MM hown hK hP 0 rfl rfl 1 (by decide) (hts _ m_754) (fun _ h9 => h9) rfl d_MM_again_63 ?_
      refine lv_iload_n hx hb d_MM_again_66 rfl (lv_at hl 1 rfl) ?_
      refine lv_isub hx hb d_MM_again_67 ?_
      obtain ⟨g_2, h⟩ := ck_s h
      refine va_iald hx hb hK hP 1 0 rfl rfl (inb_s g_2) d_MM_again_68 ?_
      obtain ⟨g_3, h⟩ := ck_s h
      refine va_iast hx hb hK hP hD hS 1 0 rfl rfl (inb_s g_3) d_MM_again_69 (fun H locs hP hD hS => ?_)
      obtain ⟨v_in_4, ev_in_4⟩ : ∃ y, y = (upd v_in (Int32.toNatClampNeg i_inLong) (v_in (Int32.toNatClampNeg (i_inLong - l1)))) := ⟨_, rfl⟩
      replace h := nm_s h ev_in_4
      have hP : va_P D classes [(a_this, .inr (1, [.ref a_in, .int i_inLong, .int i_goesOn, .ref o_out, .int i_outLong, .ref o_counts, .int i_greatest, .ref o_length, .ref o_symbolOf, .ref o_draft, .ref o_knot, .ref o_inSum, .int i_knots, .ref o_halved, .ref o_made, .int i_bitsMade, .ref o_weight, .int i_weights, .int i_order, .ref o_points, .ref o_cutOff, .ref o_had, .ref o_placeOf, .int i_bit, .int i_bitEnd])), (a_in, .inl (cI, 6000, .inl v_in_4))] H := by rw [ev_in_4]; exact hP
      have hD : va_D A [(a_this, .inr (1, [.ref a_in, .int i_inLong, .int i_goesOn, .ref o_out, .int i_outLong, .ref o_counts, .int i_greatest, .ref o_length, .ref o_symbolOf, .ref o_draft, .ref o_knot, .ref o_inSum, .int i_knots, .ref o_halved, .ref o_made, .int i_bitsMade, .ref o_weight, .int i_weights, .int i_order, .ref o_points, .ref o_cutOff, .ref o_had, .ref o_placeOf, .int i_bit, .int i_bitEnd])), (a_in, .inl (cI, 6000, .inl v_in_4))] := by rw [ev_in_4]; exact hD
      refine lv_aload_n hx hb d_MM_again_70 rfl (lv_at hl 0 rfl) ?_
      refine lv_dup hx hb d_MM_again_71 rfl ?_
      refine va_get hx hb hts in_MM hown hK hP 0 rfl rfl 1 (by decide) (hts _ m_754) (fun _ h9 => h9) rfl d_MM_again_72 ?_
      refine lv_iconst (v := 1) hx hb d_MM_again_75 (by decide) ?_
      refine lv_iadd hx hb d_MM_again_76 ?_
      refine lv_topi (fun i_inLong_5 ei_inLong_5 => ?_)
      replace h := nm_s h ei_inLong_5
      refine va_put (v := .int i_inLong_5) (ty := .int) hx hb hts in_MM t_MM t_MM_ok n_MM hown hK hP hD hS 0 rfl rfl 1 (by decide) (hts _ m_754) (fun _ h9 => h9) rfl (by decide +kernel) rfl rfl (Nat.le_of_ble_eq_true rfl) d_MM_again_77 (fun H locs hP hD hS => ?_)
      have hP : va_P D classes [(a_this, .inr (1, [.ref a_in, .int i_inLong_5, .int i_goesOn, .ref o_out, .int i_outLong, .ref o_counts, .int i_greatest, .ref o_length, .ref o_symbolOf, .ref o_draft, .ref o_knot, .ref o_inSum, .int i_knots, .ref o_halved, .ref o_made, .int i_bitsMade, .ref o_weight, .int i_weights, .int i_order, .ref o_points, .ref o_cutOff, .ref o_had, .ref o_placeOf, .int i_bit, .int i_bitEnd])), (a_in, .inl (cI, 6000, .inl v_in_4))] H := by exact hP
      have hD : va_D A [(a_this, .inr (1, [.ref a_in, .int i_inLong_5, .int i_goesOn, .ref o_out, .int i_outLong, .ref o_counts, .int i_greatest, .ref o_length, .ref o_symbolOf, .ref o_draft, .ref o_knot, .ref o_inSum, .int i_knots, .ref o_halved, .ref o_made, .int i_bitsMade, .ref o_weight, .int i_weights, .int i_order, .ref o_points, .ref o_cutOff, .ref o_had, .ref o_placeOf, .int i_bit, .int i_bitEnd])), (a_in, .inl (cI, 6000, .inl v_in_4))] := by exact hD
      obtain ⟨l4_6, el4_6⟩ : ∃ y : Int32, y = l4 + 1 := ⟨_, rfl⟩
      replace h := nm_s h el4_6
      refine lv_iinc (v := l4_6) (lv' := [(4, .int l4_6), (0, .ref a_this), (1, .int l1), (3, .int l3)]) hx hb d_MM_again_80 hl (k := 3) rfl (by rw [el4_6]; rfl) (by decide) rfl (fun ls hl => ?_)
      refine lv_goto (tgt := 44) hx hb d_MM_again_83 (by decide) ?_
      exact ih _ _ _ _ h H locs ls (lv_sub hl [1, 2, 3, 0] rfl) hP hD hS
set_option maxHeartbeats 4000000 in
set_option maxRecDepth 100000 in
theorem w_MM_again_b0 {p : Program} {l : Launch} {e : Env} {s : State} {m : MethodId} {args : Array Value} {below : List Frame} {meth : Method} {c : Code} {Q : State → Prop} {A : Nat → Prop} {D : va_G} {cI cL cZ : ClassId} {a_this : Nat} {a_in : Nat} {o_out : Nat} {o_counts : Nat} {o_length : Nat} {o_symbolOf : Nat} {o_draft : Nat} {o_knot : Nat} {o_inSum : Nat} {o_halved : Nat} {o_made : Nat} {o_weight : Nat} {o_points : Nat} {o_cutOff : Nat} {o_had : Nat} {o_placeOf : Nat} {i_goesOn : Int32} {i_outLong : Int32} {i_greatest : Int32} {i_knots : Int32} {i_bitsMade : Int32} {i_weights : Int32} {i_order : Int32} {i_bit : Int32} {i_bitEnd : Int32} {l1 : Int32} {l2 : Int32} {N : Nat} {res : Int32 × Int32 × (Nat → Int32)}  (C : Cx p s m args c b_MM_again 5 "PrefixMillModel" D [(cI, .int), (cL, .long), (cZ, .boolean)] A) (hret : E_MM_again p l e s m args below meth c Q A D cI cL cZ a_this a_in o_out o_counts o_length o_symbolOf o_draft o_knot o_inSum o_halved o_made o_weight o_points o_cutOff o_had o_placeOf i_goesOn i_outLong i_greatest i_knots i_bitsMade i_weights i_order i_bit i_bitEnd l1 l2 res)  : I_MM_again_b0 p l e s m args below meth c Q A D cI cL cZ a_this a_in o_out o_counts o_length o_symbolOf o_draft o_knot o_inSum o_halved o_made o_weight o_points o_cutOff o_had o_placeOf i_goesOn i_outLong i_greatest i_knots i_bitsMade i_weights i_order i_bit i_bitEnd l1 l2 res (f_MM_again N l1 l2 ) := by
  obtain ⟨hx, hb, hml, hown, hts, hK, hA⟩ := C
  intro i_inLong v_in h H locs ls hl hP hD hS
  unfold f_MM_again at h
  refine lv_iload_n hx hb d_MM_again_0 rfl (lv_at hl 1 rfl) ?_
  refine lv_iconst (v := 1) hx hb d_MM_again_1 (by decide) ?_
  refine lv_icmp_lt (tgt := 35) hx hb d_MM_again_2 (by decide) (fun c_1 => ?_) (fun c_1 => ?_)
  · replace h := if_t h c_1
    exact w_MM_again_b35 ⟨hx, hb, hml, hown, hts, hK, hA⟩ hret  _ _ h H locs ls (lv_sub hl [] rfl) hP hD hS
  · replace h := if_f h c_1
    refine lv_iload_n hx hb d_MM_again_5 rfl (lv_at hl 1 rfl) ?_
    refine lv_aload_n hx hb d_MM_again_6 rfl (lv_at hl 0 rfl) ?_
    refine va_get hx hb hts in_MM hown hK hP 0 rfl rfl 1 (by decide) (hts _ m_754) (fun _ h9 => h9) rfl d_MM_again_7 ?_
    refine lv_icmp_gt (tgt := 35) hx hb d_MM_again_10 (by decide) (fun c_2 => ?_) (fun c_2 => ?_)
    · replace h := if_t h c_2
      exact w_MM_again_b35 ⟨hx, hb, hml, hown, hts, hK, hA⟩ hret  _ _ h H locs ls (lv_sub hl [] rfl) hP hD hS
    · replace h := if_f h c_2
      refine lv_iload_n hx hb d_MM_again_13 rfl (lv_at hl 2 rfl) ?_
      refine lv_if_lt (tgt := 35) hx hb d_MM_again_14 (by decide) (fun c_3 => ?_) (fun c_3 => ?_)
      · replace h := if_t h c_3
        exact w_MM_again_b35 ⟨hx, hb, hml, hown, hts, hK, hA⟩ hret  _ _ h H locs ls (lv_sub hl [] rfl) hP hD hS
      · replace h := if_f h c_3
        refine lv_aload_n hx hb d_MM_again_17 rfl (lv_at hl 0 rfl) ?_
        refine va_get hx hb hts in_MM hown hK hP 0 rfl rfl 1 (by decide) (hts _ m_754) (fun _ h9 => h9) rfl d_MM_again_18 ?_
        refine lv_i2l hx hb d_MM_again_21 rfl ?_
        refine lv_iload_n hx hb d_MM_again_22 rfl (lv_at hl 1 rfl) ?_
        refine lv_i2l hx hb d_MM_again_23 rfl ?_
        refine lv_iload_n hx hb d_MM_again_24 rfl (lv_at hl 2 rfl) ?_
        refine lv_i2l hx hb d_MM_again_25 rfl ?_
        refine lv_lmul hx hb d_MM_again_26 ?_
        refine lv_ladd hx hb d_MM_again_27 ?_
        refine lv_ldc2 (v := 6000) hx hb hown (hts _ m_838) d_MM_again_28 ?_
        refine W.lcmp hx hb d_MM_again_31 ?_
        refine lv_if_le (tgt := 37) hx hb d_MM_again_32 (by decide) (fun c_4 => ?_) (fun c_4 => ?_)
        · replace h := if_t h c_4
          refine lv_iload_n hx hb d_MM_again_37 rfl (lv_at hl 1 rfl) ?_
          refine lv_iload_n hx hb d_MM_again_38 rfl (lv_at hl 2 rfl) ?_
          refine lv_imul hx hb d_MM_again_39 ?_
          refine lv_topi (fun l3_5 el3_5 => ?_)
          replace h := nm_s h el3_5
          refine lv_istore_n (lv' := [(3, .int l3_5), (0, .ref a_this), (1, .int l1), (2, .int l2)]) hx hb d_MM_again_40 rfl hl (by decide) rfl (fun ls hl => ?_)
          refine lv_iconst (v := 0) hx hb d_MM_again_41 (by decide) ?_
          refine lv_istore (lv' := [(4, .int 0), (3, .int l3_5), (0, .ref a_this), (1, .int l1), (2, .int l2)]) hx hb d_MM_again_42 hl (by decide) rfl (fun ls hl => ?_)
          exact w_MM_again_b44 ⟨hx, hb, hml, hown, hts, hK, hA⟩ hret  N _ _ _ _ h H locs ls (lv_sub hl [2, 3, 1, 0] rfl) hP hD hS
        · replace h := if_f h c_4
          exact w_MM_again_b35 ⟨hx, hb, hml, hown, hts, hK, hA⟩ hret  _ _ h H locs ls (lv_sub hl [] rfl) hP hD hS
set_option maxHeartbeats 4000000 in
set_option maxRecDepth 100000 in
theorem c_MM_again (l : Launch) (D : va_G) (cI cL cZ : ClassId) (sz N : Nat) (a_this : Nat) (a_in : Nat) (o_out : Nat) (o_counts : Nat) (o_length : Nat) (o_symbolOf : Nat) (o_draft : Nat) (o_knot : Nat) (o_inSum : Nat) (o_halved : Nat) (o_made : Nat) (o_weight : Nat) (o_points : Nat) (o_cutOff : Nat) (o_had : Nat) (o_placeOf : Nat) (i_inLong : Int32) (i_goesOn : Int32) (i_outLong : Int32) (i_greatest : Int32) (i_knots : Int32) (i_bitsMade : Int32) (i_weights : Int32) (i_order : Int32) (i_bit : Int32) (i_bitEnd : Int32) (v_in : Nat → Int32) (l1 : Int32) (l2 : Int32) (rv : Int32) (i_inLong' : Int32) (v_in' : Nat → Int32) (h : f_MM_again N l1 l2 i_inLong v_in = some (rv, i_inLong', v_in')) : Met l ({ cls := "PrefixMillModel", name := "again", desc := "(II)Z" } : Jvm.MethodName) ws_MM_again R_MM_again (va_Pc [.ref a_this, .int l1, .int l2] (fun U => U.heap.size = sz ∧ va_P D classes [(a_this, .inr (1, [.ref a_in, .int i_inLong, .int i_goesOn, .ref o_out, .int i_outLong, .ref o_counts, .int i_greatest, .ref o_length, .ref o_symbolOf, .ref o_draft, .ref o_knot, .ref o_inSum, .int i_knots, .ref o_halved, .ref o_made, .int i_bitsMade, .ref o_weight, .int i_weights, .int i_order, .ref o_points, .ref o_cutOff, .ref o_had, .ref o_placeOf, .int i_bit, .int i_bitEnd])), (a_in, .inl (cI, 6000, .inl v_in))] U.heap ∧ va_K D classes [(cI, .int), (cL, .long), (cZ, .boolean)] U ∧ va_D (fun _ => True) [(a_this, .inr (1, [.ref a_in, .int i_inLong, .int i_goesOn, .ref o_out, .int i_outLong, .ref o_counts, .int i_greatest, .ref o_length, .ref o_symbolOf, .ref o_draft, .ref o_knot, .ref o_inSum, .int i_knots, .ref o_halved, .ref o_made, .int i_bitsMade, .ref o_weight, .int i_weights, .int i_order, .ref o_points, .ref o_cutOff, .ref o_had, .ref o_placeOf, .int i_bit, .int i_bitEnd])), (a_in, .inl (cI, 6000, .inl v_in))])) (va_Qi (fun (r0 : Int32) (_ : Unit) => rv = r0) (fun _ t => va_P D classes [(a_this, .inr (1, [.ref a_in, .int i_inLong', .int i_goesOn, .ref o_out, .int i_outLong, .ref o_counts, .int i_greatest, .ref o_length, .ref o_symbolOf, .ref o_draft, .ref o_knot, .ref o_inSum, .int i_knots, .ref o_halved, .ref o_made, .int i_bitsMade, .ref o_weight, .int i_weights, .int i_order, .ref o_points, .ref o_cutOff, .ref o_had, .ref o_placeOf, .int i_bit, .int i_bitEnd])), (a_in, .inl (cI, 6000, .inl v_in'))] t.heap ∧ va_K D classes [(cI, .int), (cL, .long), (cZ, .boolean)] t ∧ va_D (va_A [(a_this, .inr (1, [.ref a_in, .int i_inLong, .int i_goesOn, .ref o_out, .int i_outLong, .ref o_counts, .int i_greatest, .ref o_length, .ref o_symbolOf, .ref o_draft, .ref o_knot, .ref o_inSum, .int i_knots, .ref o_halved, .ref o_made, .int i_bitsMade, .ref o_weight, .int i_weights, .int i_order, .ref o_points, .ref o_cutOff, .ref o_had, .ref o_placeOf, .int i_bit, .int i_bitEnd])), (a_in, .inl (cI, 6000, .inl v_in))] sz) [(a_this, .inr (1, [.ref a_in, .int i_inLong', .int i_goesOn, .ref o_out, .int i_outLong, .ref o_counts, .int i_greatest, .ref o_length, .ref o_symbolOf, .ref o_draft, .ref o_knot, .ref o_inSum, .int i_knots, .ref o_halved, .ref o_made, .int i_bitsMade, .ref o_weight, .int i_weights, .int i_order, .ref o_points, .ref o_cutOff, .ref o_had, .ref o_placeOf, .int i_bit, .int i_bitEnd])), (a_in, .inl (cI, 6000, .inl v_in'))]) (va_A [(a_this, .inr (1, [.ref a_in, .int i_inLong, .int i_goesOn, .ref o_out, .int i_outLong, .ref o_counts, .int i_greatest, .ref o_length, .ref o_symbolOf, .ref o_draft, .ref o_knot, .ref o_inSum, .int i_knots, .ref o_halved, .ref o_made, .int i_bitsMade, .ref o_weight, .int i_weights, .int i_order, .ref o_points, .ref o_cutOff, .ref o_had, .ref o_placeOf, .int i_bit, .int i_bitEnd])), (a_in, .inl (cI, 6000, .inl v_in))] sz)) 0 0 (va_A [(a_this, .inr (1, [.ref a_in, .int i_inLong, .int i_goesOn, .ref o_out, .int i_outLong, .ref o_counts, .int i_greatest, .ref o_length, .ref o_symbolOf, .ref o_draft, .ref o_knot, .ref o_inSum, .int i_knots, .ref o_halved, .ref o_made, .int i_bitsMade, .ref o_weight, .int i_weights, .int i_order, .ref o_points, .ref o_cutOff, .ref o_had, .ref o_placeOf, .int i_bit, .int i_bitEnd])), (a_in, .inl (cI, 6000, .inl v_in))] sz) := by
  refine Met.ofW (cc := b_MM_again) (maxL := 5) (ret := (some .boolean)) (by decide) rfl ?_
  intro p e s m args below meth c s₁ B hml hv
  obtain ⟨rfl, hsz, hP, hK, hD0⟩ := hv
  have hx := B.exec
  have hb := B.bytes
  have hr := B.returns
  have hts0 := atoms_spec (ws := ws_MM_again) B.pre
  have hts := gd_tl hts0
  clear hts0
  have hown : s.vm.findClass "PrefixMillModel" = some m.cls := findClass_of_methodNamed B.named
  have hlocks := B.notSynchronized
  subst hsz
  have hD := hD0.self (sz := s.heap.size)
  generalize hAe : va_A [(a_this, .inr (1, [.ref a_in, .int i_inLong, .int i_goesOn, .ref o_out, .int i_outLong, .ref o_counts, .int i_greatest, .ref o_length, .ref o_symbolOf, .ref o_draft, .ref o_knot, .ref o_inSum, .int i_knots, .ref o_halved, .ref o_made, .int i_bitsMade, .ref o_weight, .int i_weights, .int i_order, .ref o_points, .ref o_cutOff, .ref o_had, .ref o_placeOf, .int i_bit, .int i_bitEnd])), (a_in, .inl (cI, 6000, .inl v_in))] s.heap.size = A at hD ⊢
  have hA : ∀ q : Nat, s.heap.size ≤ q → A q := fun q h => by rw [← hAe]; exact Or.inr h
  have hS : va_S A s.heap s.heap [] := va_S.rf
  have hP : va_P D classes [(a_this, .inr (1, [.ref a_in, .int i_inLong, .int i_goesOn, .ref o_out, .int i_outLong, .ref o_counts, .int i_greatest, .ref o_length, .ref o_symbolOf, .ref o_draft, .ref o_knot, .ref o_inSum, .int i_knots, .ref o_halved, .ref o_made, .int i_bitsMade, .ref o_weight, .int i_weights, .int i_order, .ref o_points, .ref o_cutOff, .ref o_had, .ref o_placeOf, .int i_bit, .int i_bitEnd])), (a_in, .inl (cI, 6000, .inl v_in))] s.heap := hP
  have hl := lv_entry ([.ref a_this, .int l1, .int l2]) (n := 5) (Nat.le_of_ble_eq_true rfl)
  rw [lg_entry_eq]
  generalize (lg_sl ([.ref a_this, .int l1, .int l2]) ++ List.replicate (5 - (lg_sl ([.ref a_this, .int l1, .int l2])).length) Slot.unset).toArray = ls at hl ⊢
  have hl : lv_has ls 5 [(0, .ref a_this), (1, .int l1), (2, .int l2)] := hl
  have C : Cx p s m ([.ref a_this, .int l1, .int l2] : List Value).toArray c b_MM_again 5 "PrefixMillModel" D [(cI, .int), (cL, .long), (cZ, .boolean)] A := ⟨hx, hb, hml, hown, hts, hK, hA⟩
  refine w_MM_again_b0 (res := (rv, i_inLong', v_in')) C ?_ _ _ h s.heap [] ls hl hP hD hS
  intro pc9 H9 locs9 ls9 rv9 i_inLong9 v_in9 e9 z9 d9 hP9 hD9 hS9
  cases e9
  exact W.zret (v := rv) hx hb hr z9 (fun t ht hW => ⟨⟨rv, (), rfl, rfl, by rw [ht]; exact hP9, va_K.moved hW.alike hK, hD9⟩, hS9.F ht⟩) hS9.2.2 d9
abbrev b_MM_turn : ByteArray := prog_12_method_4_code
def ws_MM_turn : List Cond := .code ({ cls := "PrefixMillModel", name := "turn", desc := "()V" } : Jvm.MethodName) b_MM_turn 2 none :: tt
theorem d_MM_turn_0 : decode b_MM_turn 0 = .ok (.iconst 0, 1) := by decide +kernel
theorem d_MM_turn_1 : decode b_MM_turn 1 = .ok (.istore_n 1, 1) := by decide +kernel
theorem d_MM_turn_2 : decode b_MM_turn 2 = .ok (.iload_n 1, 1) := by decide +kernel
theorem d_MM_turn_3 : decode b_MM_turn 3 = .ok (.aload_n 0, 1) := by decide +kernel
theorem d_MM_turn_4 : decode b_MM_turn 4 = .ok (.getfield 62, 3) := by decide +kernel
theorem d_MM_turn_7 : decode b_MM_turn 7 = .ok (.if_icmp .ge 21, 3) := by decide +kernel
theorem d_MM_turn_10 : decode b_MM_turn 10 = .ok (.aload_n 0, 1) := by decide +kernel
theorem d_MM_turn_11 : decode b_MM_turn 11 = .ok (.getfield 7, 3) := by decide +kernel
theorem d_MM_turn_14 : decode b_MM_turn 14 = .ok (.iload_n 1, 1) := by decide +kernel
theorem d_MM_turn_15 : decode b_MM_turn 15 = .ok (.aload_n 0, 1) := by decide +kernel
theorem d_MM_turn_16 : decode b_MM_turn 16 = .ok (.getfield 13, 3) := by decide +kernel
theorem d_MM_turn_19 : decode b_MM_turn 19 = .ok (.iload_n 1, 1) := by decide +kernel
theorem d_MM_turn_20 : decode b_MM_turn 20 = .ok (.iaload, 1) := by decide +kernel
theorem d_MM_turn_21 : decode b_MM_turn 21 = .ok (.iastore, 1) := by decide +kernel
theorem d_MM_turn_22 : decode b_MM_turn 22 = .ok (.iinc 1 1, 3) := by decide +kernel
theorem d_MM_turn_25 : decode b_MM_turn 25 = .ok (.goto (-23), 3) := by decide +kernel
theorem d_MM_turn_28 : decode b_MM_turn 28 = .ok (.aload_n 0, 1) := by decide +kernel
theorem d_MM_turn_29 : decode b_MM_turn 29 = .ok (.aload_n 0, 1) := by decide +kernel
theorem d_MM_turn_30 : decode b_MM_turn 30 = .ok (.getfield 62, 3) := by decide +kernel
theorem d_MM_turn_33 : decode b_MM_turn 33 = .ok (.putfield 56, 3) := by decide +kernel
theorem d_MM_turn_36 : decode b_MM_turn 36 = .ok (.aload_n 0, 1) := by decide +kernel
theorem d_MM_turn_37 : decode b_MM_turn 37 = .ok (.iconst 0, 1) := by decide +kernel
theorem d_MM_turn_38 : decode b_MM_turn 38 = .ok (.putfield 65, 3) := by decide +kernel
theorem d_MM_turn_41 : decode b_MM_turn 41 = .ok (.return_, 1) := by decide +kernel
def f_MM_turn_b28 (N : Nat) (i_outLong : Int32) (v_out : Nat → Int32)  (i_inLong : Int32) (i_goesOn : Int32) (v_in : Nat → Int32) : Option (Int32 × Int32 × (Nat → Int32)) :=
  some (i_outLong, 0, v_in)
def f_MM_turn_b2 (N : Nat) (i_outLong : Int32) (v_out : Nat → Int32)  : Nat → Int32 → Int32 → Int32 → (Nat → Int32) → Option (Int32 × Int32 × (Nat → Int32))
  | 0, _, _, _, _ => none
  | z + 1, l1, i_inLong, i_goesOn, v_in =>
  if i_outLong ≤ l1 then
  f_MM_turn_b28 N i_outLong v_out  i_inLong i_goesOn v_in
  else
  ck (inb l1 6000) <|
  ck (inb l1 6000) <|
  nm (upd v_in (Int32.toNatClampNeg l1) (v_out (Int32.toNatClampNeg l1))) fun v_in_4 =>
  nm (l1 + 1) fun l1_5 =>
  f_MM_turn_b2 N i_outLong v_out  z l1_5 i_inLong i_goesOn v_in_4
def f_MM_turn (N : Nat) (i_outLong : Int32) (v_out : Nat → Int32)  (i_inLong : Int32) (i_goesOn : Int32) (v_in : Nat → Int32) : Option (Int32 × Int32 × (Nat → Int32)) :=
  f_MM_turn_b2 N i_outLong v_out  N 0 i_inLong i_goesOn v_in
abbrev R_MM_turn : Room := ({ frames := 0, cells := 0, slots := 0, locals := 0 } : Room)
def E_MM_turn (p : Program) (l : Launch) (e : Env) (s : State) (m : MethodId) (args : Array Value) (below : List Frame) (meth : Method) (c : Code) (Q : State → Prop) (A : Nat → Prop) (D : va_G) (cI cL cZ : ClassId) (a_this : Nat) (a_in : Nat) (a_out : Nat) (o_counts : Nat) (o_length : Nat) (o_symbolOf : Nat) (o_draft : Nat) (o_knot : Nat) (o_inSum : Nat) (o_halved : Nat) (o_made : Nat) (o_weight : Nat) (o_points : Nat) (o_cutOff : Nat) (o_had : Nat) (o_placeOf : Nat) (i_outLong : Int32) (i_greatest : Int32) (i_knots : Int32) (i_bitsMade : Int32) (i_weights : Int32) (i_order : Int32) (i_bit : Int32) (i_bitEnd : Int32) (v_out : Nat → Int32) (res : Int32 × Int32 × (Nat → Int32)) : Prop := ∀ (pc : Nat) (H : Heap) (locs : List Loc) (ls : Array Slot) (i_inLong : Int32) (i_goesOn : Int32) (v_in : Nat → Int32), some (i_inLong, i_goesOn, v_in) = some res → decode b_MM_turn pc = .ok (.return_, 1) → va_P D classes [(a_this, .inr (1, [.ref a_in, .int i_inLong, .int i_goesOn, .ref a_out, .int i_outLong, .ref o_counts, .int i_greatest, .ref o_length, .ref o_symbolOf, .ref o_draft, .ref o_knot, .ref o_inSum, .int i_knots, .ref o_halved, .ref o_made, .int i_bitsMade, .ref o_weight, .int i_weights, .int i_order, .ref o_points, .ref o_cutOff, .ref o_had, .ref o_placeOf, .int i_bit, .int i_bitEnd])), (a_in, .inl (cI, 6000, .inl v_in)), (a_out, .inl (cI, 6000, .inl v_out))] H → va_D A [(a_this, .inr (1, [.ref a_in, .int i_inLong, .int i_goesOn, .ref a_out, .int i_outLong, .ref o_counts, .int i_greatest, .ref o_length, .ref o_symbolOf, .ref o_draft, .ref o_knot, .ref o_inSum, .int i_knots, .ref o_halved, .ref o_made, .int i_bitsMade, .ref o_weight, .int i_weights, .int i_order, .ref o_points, .ref o_cutOff, .ref o_had, .ref o_placeOf, .int i_bit, .int i_bitEnd])), (a_in, .inl (cI, 6000, .inl v_in)), (a_out, .inl (cI, 6000, .inl v_out))] → va_S A s.heap H locs → W p l e R_MM_turn s m args below meth c H locs 0 0 Q (F0 m pc ls [])
def I_MM_turn_b28 (p : Program) (l : Launch) (e : Env) (s : State) (m : MethodId) (args : Array Value) (below : List Frame) (meth : Method) (c : Code) (Q : State → Prop) (A : Nat → Prop) (D : va_G) (cI cL cZ : ClassId) (a_this : Nat) (a_in : Nat) (a_out : Nat) (o_counts : Nat) (o_length : Nat) (o_symbolOf : Nat) (o_draft : Nat) (o_knot : Nat) (o_inSum : Nat) (o_halved : Nat) (o_made : Nat) (o_weight : Nat) (o_points : Nat) (o_cutOff : Nat) (o_had : Nat) (o_placeOf : Nat) (i_outLong : Int32) (i_greatest : Int32) (i_knots : Int32) (i_bitsMade : Int32) (i_weights : Int32) (i_order : Int32) (i_bit : Int32) (i_bitEnd : Int32) (v_out : Nat → Int32) (res : Int32 × Int32 × (Nat → Int32)) (kf : Int32 → Int32 → (Nat → Int32) → Option (Int32 × Int32 × (Nat → Int32))) : Prop := ∀ (i_inLong : Int32) (i_goesOn : Int32) (v_in : Nat → Int32), kf i_inLong i_goesOn v_in = some res → ∀ (H : Heap) (locs : List Loc) (ls : Array Slot), lv_has ls 2 [(0, .ref a_this)] → va_P D classes [(a_this, .inr (1, [.ref a_in, .int i_inLong, .int i_goesOn, .ref a_out, .int i_outLong, .ref o_counts, .int i_greatest, .ref o_length, .ref o_symbolOf, .ref o_draft, .ref o_knot, .ref o_inSum, .int i_knots, .ref o_halved, .ref o_made, .int i_bitsMade, .ref o_weight, .int i_weights, .int i_order, .ref o_points, .ref o_cutOff, .ref o_had, .ref o_placeOf, .int i_bit, .int i_bitEnd])), (a_in, .inl (cI, 6000, .inl v_in)), (a_out, .inl (cI, 6000, .inl v_out))] H → va_D A [(a_this, .inr (1, [.ref a_in, .int i_inLong, .int i_goesOn, .ref a_out, .int i_outLong, .ref o_counts, .int i_greatest, .ref o_length, .ref o_symbolOf, .ref o_draft, .ref o_knot, .ref o_inSum, .int i_knots, .ref o_halved, .ref o_made, .int i_bitsMade, .ref o_weight, .int i_weights, .int i_order, .ref o_points, .ref o_cutOff, .ref o_had, .ref o_placeOf, .int i_bit, .int i_bitEnd])), (a_in, .inl (cI, 6000, .inl v_in)), (a_out, .inl (cI, 6000, .inl v_out))] → va_S A s.heap H locs → W p l e R_MM_turn s m args below meth c H locs 0 0 Q (F0 m 28 ls [])
def I_MM_turn_b2 (p : Program) (l : Launch) (e : Env) (s : State) (m : MethodId) (args : Array Value) (below : List Frame) (meth : Method) (c : Code) (Q : State → Prop) (A : Nat → Prop) (D : va_G) (cI cL cZ : ClassId) (a_this : Nat) (a_in : Nat) (a_out : Nat) (o_counts : Nat) (o_length : Nat) (o_symbolOf : Nat) (o_draft : Nat) (o_knot : Nat) (o_inSum : Nat) (o_halved : Nat) (o_made : Nat) (o_weight : Nat) (o_points : Nat) (o_cutOff : Nat) (o_had : Nat) (o_placeOf : Nat) (i_outLong : Int32) (i_greatest : Int32) (i_knots : Int32) (i_bitsMade : Int32) (i_weights : Int32) (i_order : Int32) (i_bit : Int32) (i_bitEnd : Int32) (v_out : Nat → Int32) (res : Int32 × Int32 × (Nat → Int32)) (kf : Int32 → Int32 → Int32 → (Nat → Int32) → Option (Int32 × Int32 × (Nat → Int32))) : Prop := ∀ (l1 : Int32) (i_inLong : Int32) (i_goesOn : Int32) (v_in : Nat → Int32), kf l1 i_inLong i_goesOn v_in = some res → ∀ (H : Heap) (locs : List Loc) (ls : Array Slot), lv_has ls 2 [(0, .ref a_this), (1, .int l1)] → va_P D classes [(a_this, .inr (1, [.ref a_in, .int i_inLong, .int i_goesOn, .ref a_out, .int i_outLong, .ref o_counts, .int i_greatest, .ref o_length, .ref o_symbolOf, .ref o_draft, .ref o_knot, .ref o_inSum, .int i_knots, .ref o_halved, .ref o_made, .int i_bitsMade, .ref o_weight, .int i_weights, .int i_order, .ref o_points, .ref o_cutOff, .ref o_had, .ref o_placeOf, .int i_bit, .int i_bitEnd])), (a_in, .inl (cI, 6000, .inl v_in)), (a_out, .inl (cI, 6000, .inl v_out))] H → va_D A [(a_this, .inr (1, [.ref a_in, .int i_inLong, .int i_goesOn, .ref a_out, .int i_outLong, .ref o_counts, .int i_greatest, .ref o_length, .ref o_symbolOf, .ref o_draft, .ref o_knot, .ref o_inSum, .int i_knots, .ref o_halved, .ref o_made, .int i_bitsMade, .ref o_weight, .int i_weights, .int i_order, .ref o_points, .ref o_cutOff, .ref o_had, .ref o_placeOf, .int i_bit, .int i_bitEnd])), (a_in, .inl (cI, 6000, .inl v_in)), (a_out, .inl (cI, 6000, .inl v_out))] → va_S A s.heap H locs → W p l e R_MM_turn s m args below meth c H locs 0 0 Q (F0 m 2 ls [])
def I_MM_turn_b0 (p : Program) (l : Launch) (e : Env) (s : State) (m : MethodId) (args : Array Value) (below : List Frame) (meth : Method) (c : Code) (Q : State → Prop) (A : Nat → Prop) (D : va_G) (cI cL cZ : ClassId) (a_this : Nat) (a_in : Nat) (a_out : Nat) (o_counts : Nat) (o_length : Nat) (o_symbolOf : Nat) (o_draft : Nat) (o_knot : Nat) (o_inSum : Nat) (o_halved : Nat) (o_made : Nat) (o_weight : Nat) (o_points : Nat) (o_cutOff : Nat) (o_had : Nat) (o_placeOf : Nat) (i_outLong : Int32) (i_greatest : Int32) (i_knots : Int32) (i_bitsMade : Int32) (i_weights : Int32) (i_order : Int32) (i_bit : Int32) (i_bitEnd : Int32) (v_out : Nat → Int32) (res : Int32 × Int32 × (Nat → Int32)) (kf : Int32 → Int32 → (Nat → Int32) → Option (Int32 × Int32 × (Nat → Int32))) : Prop := ∀ (i_inLong : Int32) (i_goesOn : Int32) (v_in : Nat → Int32), kf i_inLong i_goesOn v_in = some res → ∀ (H : Heap) (locs : List Loc) (ls : Array Slot), lv_has ls 2 [(0, .ref a_this)] → va_P D classes [(a_this, .inr (1, [.ref a_in, .int i_inLong, .int i_goesOn, .ref a_out, .int i_outLong, .ref o_counts, .int i_greatest, .ref o_length, .ref o_symbolOf, .ref o_draft, .ref o_knot, .ref o_inSum, .int i_knots, .ref o_halved, .ref o_made, .int i_bitsMade, .ref o_weight, .int i_weights, .int i_order, .ref o_points, .ref o_cutOff, .ref o_had, .ref o_placeOf, .int i_bit, .int i_bitEnd])), (a_in, .inl (cI, 6000, .inl v_in)), (a_out, .inl (cI, 6000, .inl v_out))] H → va_D A [(a_this, .inr (1, [.ref a_in, .int i_inLong, .int i_goesOn, .ref a_out, .int i_outLong, .ref o_counts, .int i_greatest, .ref o_length, .ref o_symbolOf, .ref o_draft, .ref o_knot, .ref o_inSum, .int i_knots, .ref o_halved, .ref o_made, .int i_bitsMade, .ref o_weight, .int i_weights, .int i_order, .ref o_points, .ref o_cutOff, .ref o_had, .ref o_placeOf, .int i_bit, .int i_bitEnd])), (a_in, .inl (cI, 6000, .inl v_in)), (a_out, .inl (cI, 6000, .inl v_out))] → va_S A s.heap H locs → W p l e R_MM_turn s m args below meth c H locs 0 0 Q (F0 m 0 ls [])
set_option maxHeartbeats 4000000 in
set_option maxRecDepth 100000 in
theorem w_MM_turn_b28 {p : Program} {l : Launch} {e : Env} {s : State} {m : MethodId} {args : Array Value} {below : List Frame} {meth : Method} {c : Code} {Q : State → Prop} {A : Nat → Prop} {D : va_G} {cI cL cZ : ClassId} {a_this : Nat} {a_in : Nat} {a_out : Nat} {o_counts : Nat} {o_length : Nat} {o_symbolOf : Nat} {o_draft : Nat} {o_knot : Nat} {o_inSum : Nat} {o_halved : Nat} {o_made : Nat} {o_weight : Nat} {o_points : Nat} {o_cutOff : Nat} {o_had : Nat} {o_placeOf : Nat} {i_outLong : Int32} {i_greatest : Int32} {i_knots : Int32} {i_bitsMade : Int32} {i_weights : Int32} {i_order : Int32} {i_bit : Int32} {i_bitEnd : Int32} {v_out : Nat → Int32} {N : Nat} {res : Int32 × Int32 × (Nat → Int32)}  (C : Cx p s m args c b_MM_turn 2 "PrefixMillModel" D [(cI, .int), (cL, .long), (cZ, .boolean)] A) (hret : E_MM_turn p l e s m args below meth c Q A D cI cL cZ a_this a_in a_out o_counts o_length o_symbolOf o_draft o_knot o_inSum o_halved o_made o_weight o_points o_cutOff o_had o_placeOf i_outLong i_greatest i_knots i_bitsMade i_weights i_order i_bit i_bitEnd v_out res)  : I_MM_turn_b28 p l e s m args below meth c Q A D cI cL cZ a_this a_in a_out o_counts o_length o_symbolOf o_draft o_knot o_inSum o_halved o_made o_weight o_points o_cutOff o_had o_placeOf i_outLong i_greatest i_knots i_bitsMade i_weights i_order i_bit i_bitEnd v_out res (f_MM_turn_b28 N i_outLong v_out ) := by
  obtain ⟨hx, hb, hml, hown, hts, hK, hA⟩ := C
  intro i_inLong i_goesOn v_in h H locs ls hl hP hD hS
  unfold f_MM_turn_b28 at h
  refine lv_aload_n hx hb d_MM_turn_28 rfl (lv_at hl 0 rfl) ?_
  refine lv_aload_n hx hb d_MM_turn_29 rfl (lv_at hl 0 rfl) ?_
  refine va_get hx hb hts in_MM hown hK hP 0 rfl rfl 4 (by decide) (hts _ m_757) (fun _ h9 => h9) rfl d_MM_turn_30 ?_
  refine va_put (v := .int i_outLong) (ty := .int) hx hb hts in_MM t_MM t_MM_ok n_MM hown hK hP hD hS 0 rfl rfl 1 (by decide) (hts _ m_754) (fun _ h9 => h9) rfl (by decide +kernel) rfl rfl (Nat.le_of_ble_eq_true rfl) d_MM_turn_33 (fun H locs hP hD hS => ?_)
  have hP : va_P D classes [(a_this, .inr (1, [.ref a_in, .int i_outLong, .int i_goesOn, .ref a_out, .int i_outLong, .ref o_counts, .int i_greatest, .ref o_length, .ref o_symbolOf, .ref o_draft, .ref o_knot, .ref o_inSum, .int i_knots, .ref o_halved, .ref o_made, .int i_bitsMade, .ref o_weight, .int i_weights, .int i_order, .ref o_points, .ref o_cutOff, .ref o_had, .ref o_placeOf, .int i_bit, .int i_bitEnd])), (a_in, .inl (cI, 6000, .inl v_in)), (a_out, .inl (cI, 6000, .inl v_out))] H := by exact hP
  have hD : va_D A [(a_this, .inr (1, [.ref a_in, .int i_outLong, .int i_goesOn, .ref a_out, .int i_outLong, .ref o_counts, .int i_greatest, .ref o_length, .ref o_symbolOf, .ref o_draft, .ref o_knot, .ref o_inSum, .int i_knots, .ref o_halved, .ref o_made, .int i_bitsMade, .ref o_weight, .int i_weights, .int i_order, .ref o_points, .ref o_cutOff, .ref o_had, .ref o_placeOf, .int i_bit, .int i_bitEnd])), (a_in, .inl (cI, 6000, .inl v_in)), (a_out, .inl (cI, 6000, .inl v_out))] := by exact hD
  refine lv_aload_n hx hb d_MM_turn_36 rfl (lv_at hl 0 rfl) ?_
  refine lv_iconst (v := 0) hx hb d_MM_turn_37 (by decide) ?_
  refine va_put (v := .int 0) (ty := .int) hx hb hts in_MM t_MM t_MM_ok n_MM hown hK hP hD hS 0 rfl rfl 2 (by decide) (hts _ m_755) (fun _ h9 => h9) rfl (by decide +kernel) rfl rfl (Nat.le_of_ble_eq_true rfl) d_MM_turn_38 (fun H locs hP hD hS => ?_)
  have hP : va_P D classes [(a_this, .inr (1, [.ref a_in, .int i_outLong, .int 0, .ref a_out, .int i_outLong, .ref o_counts, .int i_greatest, .ref o_length, .ref o_symbolOf, .ref o_draft, .ref o_knot, .ref o_inSum, .int i_knots, .ref o_halved, .ref o_made, .int i_bitsMade, .ref o_weight, .int i_weights, .int i_order, .ref o_points, .ref o_cutOff, .ref o_had, .ref o_placeOf, .int i_bit, .int i_bitEnd])), (a_in, .inl (cI, 6000, .inl v_in)), (a_out, .inl (cI, 6000, .inl v_out))] H := by exact hP
  have hD : va_D A [(a_this, .inr (1, [.ref a_in, .int i_outLong, .int 0, .ref a_out, .int i_outLong, .ref o_counts, .int i_greatest, .ref o_length, .ref o_symbolOf, .ref o_draft, .ref o_knot, .ref o_inSum, .int i_knots, .ref o_halved, .ref o_made, .int i_bitsMade, .ref o_weight, .int i_weights, .int i_order, .ref o_points, .ref o_cutOff, .ref o_had, .ref o_placeOf, .int i_bit, .int i_bitEnd])), (a_in, .inl (cI, 6000, .inl v_in)), (a_out, .inl (cI, 6000, .inl v_out))] := by exact hD
  exact hret _ _ _ _ i_outLong 0 v_in h d_MM_turn_41 hP hD hS
set_option maxHeartbeats 4000000 in
set_option maxRecDepth 100000 in
theorem w_MM_turn_b2 {p : Program} {l : Launch} {e : Env} {s : State} {m : MethodId} {args : Array Value} {below : List Frame} {meth : Method} {c : Code} {Q : State → Prop} {A : Nat → Prop} {D : va_G} {cI cL cZ : ClassId} {a_this : Nat} {a_in : Nat} {a_out : Nat} {o_counts : Nat} {o_length : Nat} {o_symbolOf : Nat} {o_draft : Nat} {o_knot : Nat} {o_inSum : Nat} {o_halved : Nat} {o_made : Nat} {o_weight : Nat} {o_points : Nat} {o_cutOff : Nat} {o_had : Nat} {o_placeOf : Nat} {i_outLong : Int32} {i_greatest : Int32} {i_knots : Int32} {i_bitsMade : Int32} {i_weights : Int32} {i_order : Int32} {i_bit : Int32} {i_bitEnd : Int32} {v_out : Nat → Int32} {N : Nat} {res : Int32 × Int32 × (Nat → Int32)}  (C : Cx p s m args c b_MM_turn 2 "PrefixMillModel" D [(cI, .int), (cL, .long), (cZ, .boolean)] A) (hret : E_MM_turn p l e s m args below meth c Q A D cI cL cZ a_this a_in a_out o_counts o_length o_symbolOf o_draft o_knot o_inSum o_halved o_made o_weight o_points o_cutOff o_had o_placeOf i_outLong i_greatest i_knots i_bitsMade i_weights i_order i_bit i_bitEnd v_out res)  : ∀ z : Nat, I_MM_turn_b2 p l e s m args below meth c Q A D cI cL cZ a_this a_in a_out o_counts o_length o_symbolOf o_draft o_knot o_inSum o_halved o_made o_weight o_points o_cutOff o_had o_placeOf i_outLong i_greatest i_knots i_bitsMade i_weights i_order i_bit i_bitEnd v_out res (f_MM_turn_b2 N i_outLong v_out  z) := by
  obtain ⟨hx, hb, hml, hown, hts, hK, hA⟩ := C
  intro z
  induction z with
  | zero => intro l1 i_inLong i_goesOn v_in h; cases h
  | succ z ih =>
    intro l1 i_inLong i_goesOn v_in h H locs ls hl hP hD hS
    refine lv_iload_n hx hb d_MM_turn_2 rfl (lv_at hl 1 rfl) ?_
    refine lv_aload_n hx hb d_MM_turn_3 rfl (lv_at hl 0 rfl) ?_
    refine va_get hx hb hts in_MM hown hK hP 0 rfl rfl 4 (by decide) (hts _ m_757) (fun _ h9 => h9) rfl d_MM_turn_4 ?_
    refine lv_icmp_ge (tgt := 28) hx hb d_MM_turn_7 (by decide) (fun c_1 => ?_) (fun c_1 => ?_)
    · replace h := if_t h c_1
      exact w_MM_turn_b28 ⟨hx, hb, hml, hown, hts, hK, hA⟩ hret  _ _ _ h H locs ls (lv_sub hl [0] rfl) hP hD hS
    · replace h := if_f h c_1
      refine lv_aload_n hx hb d_MM_turn_10 rfl (lv_at hl 0 rfl) ?_
      refine va_get hx hb hts in_MM hown hK hP 0 rfl rfl 0 (by decide) (hts _ m_753) (fun _ h9 => h9) rfl d_MM_turn_11 ?_
      refine lv_iload_n hx hb d_MM_turn_14 rfl (lv_at hl 1 rfl) ?_
      refine lv_aload_n hx hb d_MM_turn_15 rfl (lv_at hl 0 rfl) ?_
      refine va_get hx hb hts in_MM hown hK hP 0 rfl rfl 3 (by decide) (hts _ m_756) (fun _ h9 => h9) rfl d_MM_turn_16 ?_
      refine lv_iload_n hx hb d_MM_turn_19 rfl (lv_at hl 1 rfl) ?_
      obtain ⟨g_2, h⟩ := ck_s h
      refine va_iald hx hb hK hP 2 0 rfl rfl (inb_s g_2) d_MM_turn_20 ?_
      obtain ⟨g_3, h⟩ := ck_s h
      refine va_iast hx hb hK hP hD hS 1 0 rfl rfl (inb_s g_3) d_MM_turn_21 (fun H locs hP hD hS => ?_)
      obtain ⟨v_in_4, ev_in_4⟩ : ∃ y, y = (upd v_in (Int32.toNatClampNeg l1) (v_out (Int32.toNatClampNeg l1))) := ⟨_, rfl⟩
      replace h := nm_s h ev_in_4
      have hP : va_P D classes [(a_this, .inr (1, [.ref a_in, .int i_inLong, .int i_goesOn, .ref a_out, .int i_outLong, .ref o_counts, .int i_greatest, .ref o_length, .ref o_symbolOf, .ref o_draft, .ref o_knot, .ref o_inSum, .int i_knots, .ref o_halved, .ref o_made, .int i_bitsMade, .ref o_weight, .int i_weights, .int i_order, .ref o_points, .ref o_cutOff, .ref o_had, .ref o_placeOf, .int i_bit, .int i_bitEnd])), (a_in, .inl (cI, 6000, .inl v_in_4)), (a_out, .inl (cI, 6000, .inl v_out))] H := by rw [ev_in_4]; exact hP
      have hD : va_D A [(a_this, .inr (1, [.ref a_in, .int i_inLong, .int i_goesOn, .ref a_out, .int i_outLong, .ref o_counts, .int i_greatest, .ref o_length, .ref o_symbolOf, .ref o_draft, .ref o_knot, .ref o_inSum, .int i_knots, .ref o_halved, .ref o_made, .int i_bitsMade, .ref o_weight, .int i_weights, .int i_order, .ref o_points, .ref o_cutOff, .ref o_had, .ref o_placeOf, .int i_bit, .int i_bitEnd])), (a_in, .inl (cI, 6000, .inl v_in_4)), (a_out, .inl (cI, 6000, .inl v_out))] := by rw [ev_in_4]; exact hD
      obtain ⟨l1_5, el1_5⟩ : ∃ y : Int32, y = l1 + 1 := ⟨_, rfl⟩
      replace h := nm_s h el1_5
      refine lv_iinc (v := l1_5) (lv' := [(1, .int l1_5), (0, .ref a_this)]) hx hb d_MM_turn_22 hl (k := 1) rfl (by rw [el1_5]; rfl) (by decide) rfl (fun ls hl => ?_)
      refine lv_goto (tgt := 2) hx hb d_MM_turn_25 (by decide) ?_
      exact ih _ _ _ _ h H locs ls (lv_sub hl [1, 0] rfl) hP hD hS
set_option maxHeartbeats 4000000 in
set_option maxRecDepth 100000 in
theorem w_MM_turn_b0 {p : Program} {l : Launch} {e : Env} {s : State} {m : MethodId} {args : Array Value} {below : List Frame} {meth : Method} {c : Code} {Q : State → Prop} {A : Nat → Prop} {D : va_G} {cI cL cZ : ClassId} {a_this : Nat} {a_in : Nat} {a_out : Nat} {o_counts : Nat} {o_length : Nat} {o_symbolOf : Nat} {o_draft : Nat} {o_knot : Nat} {o_inSum : Nat} {o_halved : Nat} {o_made : Nat} {o_weight : Nat} {o_points : Nat} {o_cutOff : Nat} {o_had : Nat} {o_placeOf : Nat} {i_outLong : Int32} {i_greatest : Int32} {i_knots : Int32} {i_bitsMade : Int32} {i_weights : Int32} {i_order : Int32} {i_bit : Int32} {i_bitEnd : Int32} {v_out : Nat → Int32} {N : Nat} {res : Int32 × Int32 × (Nat → Int32)}  (C : Cx p s m args c b_MM_turn 2 "PrefixMillModel" D [(cI, .int), (cL, .long), (cZ, .boolean)] A) (hret : E_MM_turn p l e s m args below meth c Q A D cI cL cZ a_this a_in a_out o_counts o_length o_symbolOf o_draft o_knot o_inSum o_halved o_made o_weight o_points o_cutOff o_had o_placeOf i_outLong i_greatest i_knots i_bitsMade i_weights i_order i_bit i_bitEnd v_out res)  : I_MM_turn_b0 p l e s m args below meth c Q A D cI cL cZ a_this a_in a_out o_counts o_length o_symbolOf o_draft o_knot o_inSum o_halved o_made o_weight o_points o_cutOff o_had o_placeOf i_outLong i_greatest i_knots i_bitsMade i_weights i_order i_bit i_bitEnd v_out res (f_MM_turn N i_outLong v_out ) := by
  obtain ⟨hx, hb, hml, hown, hts, hK, hA⟩ := C
  intro i_inLong i_goesOn v_in h H locs ls hl hP hD hS
  unfold f_MM_turn at h
  refine lv_iconst (v := 0) hx hb d_MM_turn_0 (by decide) ?_
  refine lv_istore_n (lv' := [(1, .int 0), (0, .ref a_this)]) hx hb d_MM_turn_1 rfl hl (by decide) rfl (fun ls hl => ?_)
  exact w_MM_turn_b2 ⟨hx, hb, hml, hown, hts, hK, hA⟩ hret  N _ _ _ _ h H locs ls (lv_sub hl [1, 0] rfl) hP hD hS
set_option maxHeartbeats 4000000 in
set_option maxRecDepth 100000 in
theorem c_MM_turn (l : Launch) (D : va_G) (cI cL cZ : ClassId) (sz N : Nat) (a_this : Nat) (a_in : Nat) (a_out : Nat) (o_counts : Nat) (o_length : Nat) (o_symbolOf : Nat) (o_draft : Nat) (o_knot : Nat) (o_inSum : Nat) (o_halved : Nat) (o_made : Nat) (o_weight : Nat) (o_points : Nat) (o_cutOff : Nat) (o_had : Nat) (o_placeOf : Nat) (i_inLong : Int32) (i_goesOn : Int32) (i_outLong : Int32) (i_greatest : Int32) (i_knots : Int32) (i_bitsMade : Int32) (i_weights : Int32) (i_order : Int32) (i_bit : Int32) (i_bitEnd : Int32) (v_in : Nat → Int32) (v_out : Nat → Int32) (i_inLong' : Int32) (i_goesOn' : Int32) (v_in' : Nat → Int32) (h : f_MM_turn N i_outLong v_out i_inLong i_goesOn v_in = some (i_inLong', i_goesOn', v_in')) : Met l ({ cls := "PrefixMillModel", name := "turn", desc := "()V" } : Jvm.MethodName) ws_MM_turn R_MM_turn (va_Pc [.ref a_this] (fun U => U.heap.size = sz ∧ va_P D classes [(a_this, .inr (1, [.ref a_in, .int i_inLong, .int i_goesOn, .ref a_out, .int i_outLong, .ref o_counts, .int i_greatest, .ref o_length, .ref o_symbolOf, .ref o_draft, .ref o_knot, .ref o_inSum, .int i_knots, .ref o_halved, .ref o_made, .int i_bitsMade, .ref o_weight, .int i_weights, .int i_order, .ref o_points, .ref o_cutOff, .ref o_had, .ref o_placeOf, .int i_bit, .int i_bitEnd])), (a_in, .inl (cI, 6000, .inl v_in)), (a_out, .inl (cI, 6000, .inl v_out))] U.heap ∧ va_K D classes [(cI, .int), (cL, .long), (cZ, .boolean)] U ∧ va_D (fun _ => True) [(a_this, .inr (1, [.ref a_in, .int i_inLong, .int i_goesOn, .ref a_out, .int i_outLong, .ref o_counts, .int i_greatest, .ref o_length, .ref o_symbolOf, .ref o_draft, .ref o_knot, .ref o_inSum, .int i_knots, .ref o_halved, .ref o_made, .int i_bitsMade, .ref o_weight, .int i_weights, .int i_order, .ref o_points, .ref o_cutOff, .ref o_had, .ref o_placeOf, .int i_bit, .int i_bitEnd])), (a_in, .inl (cI, 6000, .inl v_in)), (a_out, .inl (cI, 6000, .inl v_out))])) (va_Qv (fun _ : Unit => True) (fun _ t => va_P D classes [(a_this, .inr (1, [.ref a_in, .int i_inLong', .int i_goesOn', .ref a_out, .int i_outLong, .ref o_counts, .int i_greatest, .ref o_length, .ref o_symbolOf, .ref o_draft, .ref o_knot, .ref o_inSum, .int i_knots, .ref o_halved, .ref o_made, .int i_bitsMade, .ref o_weight, .int i_weights, .int i_order, .ref o_points, .ref o_cutOff, .ref o_had, .ref o_placeOf, .int i_bit, .int i_bitEnd])), (a_in, .inl (cI, 6000, .inl v_in')), (a_out, .inl (cI, 6000, .inl v_out))] t.heap ∧ va_K D classes [(cI, .int), (cL, .long), (cZ, .boolean)] t ∧ va_D (va_A [(a_this, .inr (1, [.ref a_in, .int i_inLong, .int i_goesOn, .ref a_out, .int i_outLong, .ref o_counts, .int i_greatest, .ref o_length, .ref o_symbolOf, .ref o_draft, .ref o_knot, .ref o_inSum, .int i_knots, .ref o_halved, .ref o_made, .int i_bitsMade, .ref o_weight, .int i_weights, .int i_order, .ref o_points, .ref o_cutOff, .ref o_had, .ref o_placeOf, .int i_bit, .int i_bitEnd])), (a_in, .inl (cI, 6000, .inl v_in)), (a_out, .inl (cI, 6000, .inl v_out))] sz) [(a_this, .inr (1, [.ref a_in, .int i_inLong', .int i_goesOn', .ref a_out, .int i_outLong, .ref o_counts, .int i_greatest, .ref o_length, .ref o_symbolOf, .ref o_draft, .ref o_knot, .ref o_inSum, .int i_knots, .ref o_halved, .ref o_made, .int i_bitsMade, .ref o_weight, .int i_weights, .int i_order, .ref o_points, .ref o_cutOff, .ref o_had, .ref o_placeOf, .int i_bit, .int i_bitEnd])), (a_in, .inl (cI, 6000, .inl v_in')), (a_out, .inl (cI, 6000, .inl v_out))]) (va_A [(a_this, .inr (1, [.ref a_in, .int i_inLong, .int i_goesOn, .ref a_out, .int i_outLong, .ref o_counts, .int i_greatest, .ref o_length, .ref o_symbolOf, .ref o_draft, .ref o_knot, .ref o_inSum, .int i_knots, .ref o_halved, .ref o_made, .int i_bitsMade, .ref o_weight, .int i_weights, .int i_order, .ref o_points, .ref o_cutOff, .ref o_had, .ref o_placeOf, .int i_bit, .int i_bitEnd])), (a_in, .inl (cI, 6000, .inl v_in)), (a_out, .inl (cI, 6000, .inl v_out))] sz)) 0 0 (va_A [(a_this, .inr (1, [.ref a_in, .int i_inLong, .int i_goesOn, .ref a_out, .int i_outLong, .ref o_counts, .int i_greatest, .ref o_length, .ref o_symbolOf, .ref o_draft, .ref o_knot, .ref o_inSum, .int i_knots, .ref o_halved, .ref o_made, .int i_bitsMade, .ref o_weight, .int i_weights, .int i_order, .ref o_points, .ref o_cutOff, .ref o_had, .ref o_placeOf, .int i_bit, .int i_bitEnd])), (a_in, .inl (cI, 6000, .inl v_in)), (a_out, .inl (cI, 6000, .inl v_out))] sz) := by
  refine Met.ofW (cc := b_MM_turn) (maxL := 2) (ret := none) (by decide) rfl ?_
  intro p e s m args below meth c s₁ B hml hv
  obtain ⟨rfl, hsz, hP, hK, hD0⟩ := hv
  have hx := B.exec
  have hb := B.bytes
  have hr := B.returns
  have hts0 := atoms_spec (ws := ws_MM_turn) B.pre
  have hts := gd_tl hts0
  clear hts0
  have hown : s.vm.findClass "PrefixMillModel" = some m.cls := findClass_of_methodNamed B.named
  have hlocks := B.notSynchronized
  subst hsz
  have hD := hD0.self (sz := s.heap.size)
  generalize hAe : va_A [(a_this, .inr (1, [.ref a_in, .int i_inLong, .int i_goesOn, .ref a_out, .int i_outLong, .ref o_counts, .int i_greatest, .ref o_length, .ref o_symbolOf, .ref o_draft, .ref o_knot, .ref o_inSum, .int i_knots, .ref o_halved, .ref o_made, .int i_bitsMade, .ref o_weight, .int i_weights, .int i_order, .ref o_points, .ref o_cutOff, .ref o_had, .ref o_placeOf, .int i_bit, .int i_bitEnd])), (a_in, .inl (cI, 6000, .inl v_in)), (a_out, .inl (cI, 6000, .inl v_out))] s.heap.size = A at hD ⊢
  have hA : ∀ q : Nat, s.heap.size ≤ q → A q := fun q h => by rw [← hAe]; exact Or.inr h
  have hS : va_S A s.heap s.heap [] := va_S.rf
  have hP : va_P D classes [(a_this, .inr (1, [.ref a_in, .int i_inLong, .int i_goesOn, .ref a_out, .int i_outLong, .ref o_counts, .int i_greatest, .ref o_length, .ref o_symbolOf, .ref o_draft, .ref o_knot, .ref o_inSum, .int i_knots, .ref o_halved, .ref o_made, .int i_bitsMade, .ref o_weight, .int i_weights, .int i_order, .ref o_points, .ref o_cutOff, .ref o_had, .ref o_placeOf, .int i_bit, .int i_bitEnd])), (a_in, .inl (cI, 6000, .inl v_in)), (a_out, .inl (cI, 6000, .inl v_out))] s.heap := hP
  have hl := lv_entry ([.ref a_this]) (n := 2) (Nat.le_of_ble_eq_true rfl)
  rw [lg_entry_eq]
  generalize (lg_sl ([.ref a_this]) ++ List.replicate (2 - (lg_sl ([.ref a_this])).length) Slot.unset).toArray = ls at hl ⊢
  have hl : lv_has ls 2 [(0, .ref a_this)] := hl
  have C : Cx p s m ([.ref a_this] : List Value).toArray c b_MM_turn 2 "PrefixMillModel" D [(cI, .int), (cL, .long), (cZ, .boolean)] A := ⟨hx, hb, hml, hown, hts, hK, hA⟩
  refine w_MM_turn_b0 (res := (i_inLong', i_goesOn', v_in')) C ?_ _ _ _ h s.heap [] ls hl hP hD hS
  intro pc9 H9 locs9 ls9 i_inLong9 i_goesOn9 v_in9 e9 d9 hP9 hD9 hS9
  cases e9
  exact W.vret hx hb hr (fun t ht hW => ⟨⟨(), rfl, trivial, by rw [ht]; exact hP9, va_K.moved hW.alike hK, hD9⟩, hS9.F ht⟩) hS9.2.2 d9
abbrev b_MM_clear : ByteArray := prog_12_method_5_code
def ws_MM_clear : List Cond := .code ({ cls := "PrefixMillModel", name := "clear", desc := "()V" } : Jvm.MethodName) b_MM_clear 2 none :: tt
theorem d_MM_clear_0 : decode b_MM_clear 0 = .ok (.aload_n 0, 1) := by decide +kernel
theorem d_MM_clear_1 : decode b_MM_clear 1 = .ok (.iconst 0, 1) := by decide +kernel
theorem d_MM_clear_2 : decode b_MM_clear 2 = .ok (.putfield 56, 3) := by decide +kernel
theorem d_MM_clear_5 : decode b_MM_clear 5 = .ok (.aload_n 0, 1) := by decide +kernel
theorem d_MM_clear_6 : decode b_MM_clear 6 = .ok (.iconst 0, 1) := by decide +kernel
theorem d_MM_clear_7 : decode b_MM_clear 7 = .ok (.putfield 65, 3) := by decide +kernel
theorem d_MM_clear_10 : decode b_MM_clear 10 = .ok (.iconst 0, 1) := by decide +kernel
theorem d_MM_clear_11 : decode b_MM_clear 11 = .ok (.istore_n 1, 1) := by decide +kernel
theorem d_MM_clear_12 : decode b_MM_clear 12 = .ok (.iload_n 1, 1) := by decide +kernel
theorem d_MM_clear_13 : decode b_MM_clear 13 = .ok (.sipush 256, 3) := by decide +kernel
theorem d_MM_clear_16 : decode b_MM_clear 16 = .ok (.if_icmp .ge 16, 3) := by decide +kernel
theorem d_MM_clear_19 : decode b_MM_clear 19 = .ok (.aload_n 0, 1) := by decide +kernel
theorem d_MM_clear_20 : decode b_MM_clear 20 = .ok (.getfield 16, 3) := by decide +kernel
theorem d_MM_clear_23 : decode b_MM_clear 23 = .ok (.iload_n 1, 1) := by decide +kernel
theorem d_MM_clear_24 : decode b_MM_clear 24 = .ok (.iconst 0, 1) := by decide +kernel
theorem d_MM_clear_25 : decode b_MM_clear 25 = .ok (.iastore, 1) := by decide +kernel
theorem d_MM_clear_26 : decode b_MM_clear 26 = .ok (.iinc 1 1, 3) := by decide +kernel
theorem d_MM_clear_29 : decode b_MM_clear 29 = .ok (.goto (-17), 3) := by decide +kernel
theorem d_MM_clear_32 : decode b_MM_clear 32 = .ok (.return_, 1) := by decide +kernel
def f_MM_clear_b12 (N : Nat)   : Nat → Int32 → Int32 → Int32 → (Nat → Int32) → Option (Int32 × Int32 × (Nat → Int32))
  | 0, _, _, _, _ => none
  | z + 1, l1, i_inLong, i_goesOn, v_counts =>
  if 256 ≤ l1 then
  some (i_inLong, i_goesOn, v_counts)
  else
  ck (inb l1 256) <|
  nm (upd v_counts (Int32.toNatClampNeg l1) 0) fun v_counts_3 =>
  nm (l1 + 1) fun l1_4 =>
  f_MM_clear_b12 N   z l1_4 i_inLong i_goesOn v_counts_3
def f_MM_clear (N : Nat)   (i_inLong : Int32) (i_goesOn : Int32) (v_counts : Nat → Int32) : Option (Int32 × Int32 × (Nat → Int32)) :=
  f_MM_clear_b12 N   N 0 0 0 v_counts
abbrev R_MM_clear : Room := ({ frames := 0, cells := 0, slots := 0, locals := 0 } : Room)
def E_MM_clear (p : Program) (l : Launch) (e : Env) (s : State) (m : MethodId) (args : Array Value) (below : List Frame) (meth : Method) (c : Code) (Q : State → Prop) (A : Nat → Prop) (D : va_G) (cI cL cZ : ClassId) (a_this : Nat) (a_counts : Nat) (o_in : Nat) (o_out : Nat) (o_length : Nat) (o_symbolOf : Nat) (o_draft : Nat) (o_knot : Nat) (o_inSum : Nat) (o_halved : Nat) (o_made : Nat) (o_weight : Nat) (o_points : Nat) (o_cutOff : Nat) (o_had : Nat) (o_placeOf : Nat) (i_outLong : Int32) (i_greatest : Int32) (i_knots : Int32) (i_bitsMade : Int32) (i_weights : Int32) (i_order : Int32) (i_bit : Int32) (i_bitEnd : Int32) (res : Int32 × Int32 × (Nat → Int32)) : Prop := ∀ (pc : Nat) (H : Heap) (locs : List Loc) (ls : Array Slot) (i_inLong : Int32) (i_goesOn : Int32) (v_counts : Nat → Int32), some (i_inLong, i_goesOn, v_counts) = some res → decode b_MM_clear pc = .ok (.return_, 1) → va_P D classes [(a_this, .inr (1, [.ref o_in, .int i_inLong, .int i_goesOn, .ref o_out, .int i_outLong, .ref a_counts, .int i_greatest, .ref o_length, .ref o_symbolOf, .ref o_draft, .ref o_knot, .ref o_inSum, .int i_knots, .ref o_halved, .ref o_made, .int i_bitsMade, .ref o_weight, .int i_weights, .int i_order, .ref o_points, .ref o_cutOff, .ref o_had, .ref o_placeOf, .int i_bit, .int i_bitEnd])), (a_counts, .inl (cI, 256, .inl v_counts))] H → va_D A [(a_this, .inr (1, [.ref o_in, .int i_inLong, .int i_goesOn, .ref o_out, .int i_outLong, .ref a_counts, .int i_greatest, .ref o_length, .ref o_symbolOf, .ref o_draft, .ref o_knot, .ref o_inSum, .int i_knots, .ref o_halved, .ref o_made, .int i_bitsMade, .ref o_weight, .int i_weights, .int i_order, .ref o_points, .ref o_cutOff, .ref o_had, .ref o_placeOf, .int i_bit, .int i_bitEnd])), (a_counts, .inl (cI, 256, .inl v_counts))] → va_S A s.heap H locs → W p l e R_MM_clear s m args below meth c H locs 0 0 Q (F0 m pc ls [])
def I_MM_clear_b12 (p : Program) (l : Launch) (e : Env) (s : State) (m : MethodId) (args : Array Value) (below : List Frame) (meth : Method) (c : Code) (Q : State → Prop) (A : Nat → Prop) (D : va_G) (cI cL cZ : ClassId) (a_this : Nat) (a_counts : Nat) (o_in : Nat) (o_out : Nat) (o_length : Nat) (o_symbolOf : Nat) (o_draft : Nat) (o_knot : Nat) (o_inSum : Nat) (o_halved : Nat) (o_made : Nat) (o_weight : Nat) (o_points : Nat) (o_cutOff : Nat) (o_had : Nat) (o_placeOf : Nat) (i_outLong : Int32) (i_greatest : Int32) (i_knots : Int32) (i_bitsMade : Int32) (i_weights : Int32) (i_order : Int32) (i_bit : Int32) (i_bitEnd : Int32) (res : Int32 × Int32 × (Nat → Int32)) (kf : Int32 → Int32 → Int32 → (Nat → Int32) → Option (Int32 × Int32 × (Nat → Int32))) : Prop := ∀ (l1 : Int32) (i_inLong : Int32) (i_goesOn : Int32) (v_counts : Nat → Int32), kf l1 i_inLong i_goesOn v_counts = some res → ∀ (H : Heap) (locs : List Loc) (ls : Array Slot), lv_has ls 2 [(0, .ref a_this), (1, .int l1)] → va_P D classes [(a_this, .inr (1, [.ref o_in, .int i_inLong, .int i_goesOn, .ref o_out, .int i_outLong, .ref a_counts, .int i_greatest, .ref o_length, .ref o_symbolOf, .ref o_draft, .ref o_knot, .ref o_inSum, .int i_knots, .ref o_halved, .ref o_made, .int i_bitsMade, .ref o_weight, .int i_weights, .int i_order, .ref o_points, .ref o_cutOff, .ref o_had, .ref o_placeOf, .int i_bit, .int i_bitEnd])), (a_counts, .inl (cI, 256, .inl v_counts))] H → va_D A [(a_this, .inr (1, [.ref o_in, .int i_inLong, .int i_goesOn, .ref o_out, .int i_outLong, .ref a_counts, .int i_greatest, .ref o_length, .ref o_symbolOf, .ref o_draft, .ref o_knot, .ref o_inSum, .int i_knots, .ref o_halved, .ref o_made, .int i_bitsMade, .ref o_weight, .int i_weights, .int i_order, .ref o_points, .ref o_cutOff, .ref o_had, .ref o_placeOf, .int i_bit, .int i_bitEnd])), (a_counts, .inl (cI, 256, .inl v_counts))] → va_S A s.heap H locs → W p l e R_MM_clear s m args below meth c H locs 0 0 Q (F0 m 12 ls [])
def I_MM_clear_b0 (p : Program) (l : Launch) (e : Env) (s : State) (m : MethodId) (args : Array Value) (below : List Frame) (meth : Method) (c : Code) (Q : State → Prop) (A : Nat → Prop) (D : va_G) (cI cL cZ : ClassId) (a_this : Nat) (a_counts : Nat) (o_in : Nat) (o_out : Nat) (o_length : Nat) (o_symbolOf : Nat) (o_draft : Nat) (o_knot : Nat) (o_inSum : Nat) (o_halved : Nat) (o_made : Nat) (o_weight : Nat) (o_points : Nat) (o_cutOff : Nat) (o_had : Nat) (o_placeOf : Nat) (i_outLong : Int32) (i_greatest : Int32) (i_knots : Int32) (i_bitsMade : Int32) (i_weights : Int32) (i_order : Int32) (i_bit : Int32) (i_bitEnd : Int32) (res : Int32 × Int32 × (Nat → Int32)) (kf : Int32 → Int32 → (Nat → Int32) → Option (Int32 × Int32 × (Nat → Int32))) : Prop := ∀ (i_inLong : Int32) (i_goesOn : Int32) (v_counts : Nat → Int32), kf i_inLong i_goesOn v_counts = some res → ∀ (H : Heap) (locs : List Loc) (ls : Array Slot), lv_has ls 2 [(0, .ref a_this)] → va_P D classes [(a_this, .inr (1, [.ref o_in, .int i_inLong, .int i_goesOn, .ref o_out, .int i_outLong, .ref a_counts, .int i_greatest, .ref o_length, .ref o_symbolOf, .ref o_draft, .ref o_knot, .ref o_inSum, .int i_knots, .ref o_halved, .ref o_made, .int i_bitsMade, .ref o_weight, .int i_weights, .int i_order, .ref o_points, .ref o_cutOff, .ref o_had, .ref o_placeOf, .int i_bit, .int i_bitEnd])), (a_counts, .inl (cI, 256, .inl v_counts))] H → va_D A [(a_this, .inr (1, [.ref o_in, .int i_inLong, .int i_goesOn, .ref o_out, .int i_outLong, .ref a_counts, .int i_greatest, .ref o_length, .ref o_symbolOf, .ref o_draft, .ref o_knot, .ref o_inSum, .int i_knots, .ref o_halved, .ref o_made, .int i_bitsMade, .ref o_weight, .int i_weights, .int i_order, .ref o_points, .ref o_cutOff, .ref o_had, .ref o_placeOf, .int i_bit, .int i_bitEnd])), (a_counts, .inl (cI, 256, .inl v_counts))] → va_S A s.heap H locs → W p l e R_MM_clear s m args below meth c H locs 0 0 Q (F0 m 0 ls [])
set_option maxHeartbeats 4000000 in
set_option maxRecDepth 100000 in
theorem w_MM_clear_b12 {p : Program} {l : Launch} {e : Env} {s : State} {m : MethodId} {args : Array Value} {below : List Frame} {meth : Method} {c : Code} {Q : State → Prop} {A : Nat → Prop} {D : va_G} {cI cL cZ : ClassId} {a_this : Nat} {a_counts : Nat} {o_in : Nat} {o_out : Nat} {o_length : Nat} {o_symbolOf : Nat} {o_draft : Nat} {o_knot : Nat} {o_inSum : Nat} {o_halved : Nat} {o_made : Nat} {o_weight : Nat} {o_points : Nat} {o_cutOff : Nat} {o_had : Nat} {o_placeOf : Nat} {i_outLong : Int32} {i_greatest : Int32} {i_knots : Int32} {i_bitsMade : Int32} {i_weights : Int32} {i_order : Int32} {i_bit : Int32} {i_bitEnd : Int32} {N : Nat} {res : Int32 × Int32 × (Nat → Int32)}  (C : Cx p s m args c b_MM_clear 2 "PrefixMillModel" D [(cI, .int), (cL, .long), (cZ, .boolean)] A) (hret : E_MM_clear p l e s m args below meth c Q A D cI cL cZ a_this a_counts o_in o_out o_length o_symbolOf o_draft o_knot o_inSum o_halved o_made o_weight o_points o_cutOff o_had o_placeOf i_outLong i_greatest i_knots i_bitsMade i_weights i_order i_bit i_bitEnd res)  : ∀ z : Nat, I_MM_clear_b12 p l e s m args below meth c Q A D cI cL cZ a_this a_counts o_in o_out o_length o_symbolOf o_draft o_knot o_inSum o_halved o_made o_weight o_points o_cutOff o_had o_placeOf i_outLong i_greatest i_knots i_bitsMade i_weights i_order i_bit i_bitEnd res (f_MM_clear_b12 N   z) := by
  obtain ⟨hx, hb, hml, hown, hts, hK, hA⟩ := C
  intro z
  induction z with
  | zero => intro l1 i_inLong i_goesOn v_counts h; cases h
  | succ z ih =>
    intro l1 i_inLong i_goesOn v_counts h H locs ls hl hP hD hS
    refine lv_iload_n hx hb d_MM_clear_12 rfl (lv_at hl 1 rfl) ?_
    refine lv_sipush (v := 256) hx hb d_MM_clear_13 (by decide) ?_
    refine lv_icmp_ge (tgt := 32) hx hb d_MM_clear_16 (by decide) (fun c_1 => ?_) (fun c_1 => ?_)
    · replace h := if_t h c_1
      exact hret _ _ _ _ i_inLong i_goesOn v_counts h d_MM_clear_32 hP hD hS
    · replace h := if_f h c_1
      refine lv_aload_n hx hb d_MM_clear_19 rfl (lv_at hl 0 rfl) ?_
      refine va_get hx hb hts in_MM hown hK hP 0 rfl rfl 5 (by decide) (hts _ m_758) (fun _ h9 => h9) rfl d_MM_clear_20 ?_
      refine lv_iload_n hx hb d_MM_clear_23 rfl (lv_at hl 1 rfl) ?_
      refine lv_iconst (v := 0) hx hb d_MM_clear_24 (by decide) ?_
      obtain ⟨g_2, h⟩ := ck_s h
      refine va_iast hx hb hK hP hD hS 1 0 rfl rfl (inb_s g_2) d_MM_clear_25 (fun H locs hP hD hS => ?_)
      obtain ⟨v_counts_3, ev_counts_3⟩ : ∃ y, y = (upd v_counts (Int32.toNatClampNeg l1) 0) := ⟨_, rfl⟩
      replace h := nm_s h ev_counts_3
      have hP : va_P D classes [(a_this, .inr (1, [.ref o_in, .int i_inLong, .int i_goesOn, .ref o_out, .int i_outLong, .ref a_counts, .int i_greatest, .ref o_length, .ref o_symbolOf, .ref o_draft, .ref o_knot, .ref o_inSum, .int i_knots, .ref o_halved, .ref o_made, .int i_bitsMade, .ref o_weight, .int i_weights, .int i_order, .ref o_points, .ref o_cutOff, .ref o_had, .ref o_placeOf, .int i_bit, .int i_bitEnd])), (a_counts, .inl (cI, 256, .inl v_counts_3))] H := by rw [ev_counts_3]; exact hP
      have hD : va_D A [(a_this, .inr (1, [.ref o_in, .int i_inLong, .int i_goesOn, .ref o_out, .int i_outLong, .ref a_counts, .int i_greatest, .ref o_length, .ref o_symbolOf, .ref o_draft, .ref o_knot, .ref o_inSum, .int i_knots, .ref o_halved, .ref o_made, .int i_bitsMade, .ref o_weight, .int i_weights, .int i_order, .ref o_points, .ref o_cutOff, .ref o_had, .ref o_placeOf, .int i_bit, .int i_bitEnd])), (a_counts, .inl (cI, 256, .inl v_counts_3))] := by rw [ev_counts_3]; exact hD
      obtain ⟨l1_4, el1_4⟩ : ∃ y : Int32, y = l1 + 1 := ⟨_, rfl⟩
      replace h := nm_s h el1_4
      refine lv_iinc (v := l1_4) (lv' := [(1, .int l1_4), (0, .ref a_this)]) hx hb d_MM_clear_26 hl (k := 1) rfl (by rw [el1_4]; rfl) (by decide) rfl (fun ls hl => ?_)
      refine lv_goto (tgt := 12) hx hb d_MM_clear_29 (by decide) ?_
      exact ih _ _ _ _ h H locs ls (lv_sub hl [1, 0] rfl) hP hD hS
set_option maxHeartbeats 4000000 in
set_option maxRecDepth 100000 in
theorem w_MM_clear_b0 {p : Program} {l : Launch} {e : Env} {s : State} {m : MethodId} {args : Array Value} {below : List Frame} {meth : Method} {c : Code} {Q : State → Prop} {A : Nat → Prop} {D : va_G} {cI cL cZ : ClassId} {a_this : Nat} {a_counts : Nat} {o_in : Nat} {o_out : Nat} {o_length : Nat} {o_symbolOf : Nat} {o_draft : Nat} {o_knot : Nat} {o_inSum : Nat} {o_halved : Nat} {o_made : Nat} {o_weight : Nat} {o_points : Nat} {o_cutOff : Nat} {o_had : Nat} {o_placeOf : Nat} {i_outLong : Int32} {i_greatest : Int32} {i_knots : Int32} {i_bitsMade : Int32} {i_weights : Int32} {i_order : Int32} {i_bit : Int32} {i_bitEnd : Int32} {N : Nat} {res : Int32 × Int32 × (Nat → Int32)}  (C : Cx p s m args c b_MM_clear 2 "PrefixMillModel" D [(cI, .int), (cL, .long), (cZ, .boolean)] A) (hret : E_MM_clear p l e s m args below meth c Q A D cI cL cZ a_this a_counts o_in o_out o_length o_symbolOf o_draft o_knot o_inSum o_halved o_made o_weight o_points o_cutOff o_had o_placeOf i_outLong i_greatest i_knots i_bitsMade i_weights i_order i_bit i_bitEnd res)  : I_MM_clear_b0 p l e s m args below meth c Q A D cI cL cZ a_this a_counts o_in o_out o_length o_symbolOf o_draft o_knot o_inSum o_halved o_made o_weight o_points o_cutOff o_had o_placeOf i_outLong i_greatest i_knots i_bitsMade i_weights i_order i_bit i_bitEnd res (f_MM_clear N  ) := by
  obtain ⟨hx, hb, hml, hown, hts, hK, hA⟩ := C
  intro i_inLong i_goesOn v_counts h H locs ls hl hP hD hS
  unfold f_MM_clear at h
  refine lv_aload_n hx hb d_MM_clear_0 rfl (lv_at hl 0 rfl) ?_
  refine lv_iconst (v := 0) hx hb d_MM_clear_1 (by decide) ?_
  refine va_put (v := .int 0) (ty := .int) hx hb hts in_MM t_MM t_MM_ok n_MM hown hK hP hD hS 0 rfl rfl 1 (by decide) (hts _ m_754) (fun _ h9 => h9) rfl (by decide +kernel) rfl rfl (Nat.le_of_ble_eq_true rfl) d_MM_clear_2 (fun H locs hP hD hS => ?_)
  have hP : va_P D classes [(a_this, .inr (1, [.ref o_in, .int 0, .int i_goesOn, .ref o_out, .int i_outLong, .ref a_counts, .int i_greatest, .ref o_length, .ref o_symbolOf, .ref o_draft, .ref o_knot, .ref o_inSum, .int i_knots, .ref o_halved, .ref o_made, .int i_bitsMade, .ref o_weight, .int i_weights, .int i_order, .ref o_points, .ref o_cutOff, .ref o_had, .ref o_placeOf, .int i_bit, .int i_bitEnd])), (a_counts, .inl (cI, 256, .inl v_counts))] H := by exact hP
  have hD : va_D A [(a_this, .inr (1, [.ref o_in, .int 0, .int i_goesOn, .ref o_out, .int i_outLong, .ref a_counts, .int i_greatest, .ref o_length, .ref o_symbolOf, .ref o_draft, .ref o_knot, .ref o_inSum, .int i_knots, .ref o_halved, .ref o_made, .int i_bitsMade, .ref o_weight, .int i_weights, .int i_order, .ref o_points, .ref o_cutOff, .ref o_had, .ref o_placeOf, .int i_bit, .int i_bitEnd])), (a_counts, .inl (cI, 256, .inl v_counts))] := by exact hD
  refine lv_aload_n hx hb d_MM_clear_5 rfl (lv_at hl 0 rfl) ?_
  refine lv_iconst (v := 0) hx hb d_MM_clear_6 (by decide) ?_
  refine va_put (v := .int 0) (ty := .int) hx hb hts in_MM t_MM t_MM_ok n_MM hown hK hP hD hS 0 rfl rfl 2 (by decide) (hts _ m_755) (fun _ h9 => h9) rfl (by decide +kernel) rfl rfl (Nat.le_of_ble_eq_true rfl) d_MM_clear_7 (fun H locs hP hD hS => ?_)
  have hP : va_P D classes [(a_this, .inr (1, [.ref o_in, .int 0, .int 0, .ref o_out, .int i_outLong, .ref a_counts, .int i_greatest, .ref o_length, .ref o_symbolOf, .ref o_draft, .ref o_knot, .ref o_inSum, .int i_knots, .ref o_halved, .ref o_made, .int i_bitsMade, .ref o_weight, .int i_weights, .int i_order, .ref o_points, .ref o_cutOff, .ref o_had, .ref o_placeOf, .int i_bit, .int i_bitEnd])), (a_counts, .inl (cI, 256, .inl v_counts))] H := by exact hP
  have hD : va_D A [(a_this, .inr (1, [.ref o_in, .int 0, .int 0, .ref o_out, .int i_outLong, .ref a_counts, .int i_greatest, .ref o_length, .ref o_symbolOf, .ref o_draft, .ref o_knot, .ref o_inSum, .int i_knots, .ref o_halved, .ref o_made, .int i_bitsMade, .ref o_weight, .int i_weights, .int i_order, .ref o_points, .ref o_cutOff, .ref o_had, .ref o_placeOf, .int i_bit, .int i_bitEnd])), (a_counts, .inl (cI, 256, .inl v_counts))] := by exact hD
  refine lv_iconst (v := 0) hx hb d_MM_clear_10 (by decide) ?_
  refine lv_istore_n (lv' := [(1, .int 0), (0, .ref a_this)]) hx hb d_MM_clear_11 rfl hl (by decide) rfl (fun ls hl => ?_)
  exact w_MM_clear_b12 ⟨hx, hb, hml, hown, hts, hK, hA⟩ hret  N _ _ _ _ h H locs ls (lv_sub hl [1, 0] rfl) hP hD hS
set_option maxHeartbeats 4000000 in
set_option maxRecDepth 100000 in
theorem c_MM_clear (l : Launch) (D : va_G) (cI cL cZ : ClassId) (sz N : Nat) (a_this : Nat) (a_counts : Nat) (o_in : Nat) (o_out : Nat) (o_length : Nat) (o_symbolOf : Nat) (o_draft : Nat) (o_knot : Nat) (o_inSum : Nat) (o_halved : Nat) (o_made : Nat) (o_weight : Nat) (o_points : Nat) (o_cutOff : Nat) (o_had : Nat) (o_placeOf : Nat) (i_inLong : Int32) (i_goesOn : Int32) (i_outLong : Int32) (i_greatest : Int32) (i_knots : Int32) (i_bitsMade : Int32) (i_weights : Int32) (i_order : Int32) (i_bit : Int32) (i_bitEnd : Int32) (v_counts : Nat → Int32) (i_inLong' : Int32) (i_goesOn' : Int32) (v_counts' : Nat → Int32) (h : f_MM_clear N  i_inLong i_goesOn v_counts = some (i_inLong', i_goesOn', v_counts')) : Met l ({ cls := "PrefixMillModel", name := "clear", desc := "()V" } : Jvm.MethodName) ws_MM_clear R_MM_clear (va_Pc [.ref a_this] (fun U => U.heap.size = sz ∧ va_P D classes [(a_this, .inr (1, [.ref o_in, .int i_inLong, .int i_goesOn, .ref o_out, .int i_outLong, .ref a_counts, .int i_greatest, .ref o_length, .ref o_symbolOf, .ref o_draft, .ref o_knot, .ref o_inSum, .int i_knots, .ref o_halved, .ref o_made, .int i_bitsMade, .ref o_weight, .int i_weights, .int i_order, .ref o_points, .ref o_cutOff, .ref o_had, .ref o_placeOf, .int i_bit, .int i_bitEnd])), (a_counts, .inl (cI, 256, .inl v_counts))] U.heap ∧ va_K D classes [(cI, .int), (cL, .long), (cZ, .boolean)] U ∧ va_D (fun _ => True) [(a_this, .inr (1, [.ref o_in, .int i_inLong, .int i_goesOn, .ref o_out, .int i_outLong, .ref a_counts, .int i_greatest, .ref o_length, .ref o_symbolOf, .ref o_draft, .ref o_knot, .ref o_inSum, .int i_knots, .ref o_halved, .ref o_made, .int i_bitsMade, .ref o_weight, .int i_weights, .int i_order, .ref o_points, .ref o_cutOff, .ref o_had, .ref o_placeOf, .int i_bit, .int i_bitEnd])), (a_counts, .inl (cI, 256, .inl v_counts))])) (va_Qv (fun _ : Unit => True) (fun _ t => va_P D classes [(a_this, .inr (1, [.ref o_in, .int i_inLong', .int i_goesOn', .ref o_out, .int i_outLong, .ref a_counts, .int i_greatest, .ref o_length, .ref o_symbolOf, .ref o_draft, .ref o_knot, .ref o_inSum, .int i_knots, .ref o_halved, .ref o_made, .int i_bitsMade, .ref o_weight, .int i_weights, .int i_order, .ref o_points, .ref o_cutOff, .ref o_had, .ref o_placeOf, .int i_bit, .int i_bitEnd])), (a_counts, .inl (cI, 256, .inl v_counts'))] t.heap ∧ va_K D classes [(cI, .int), (cL, .long), (cZ, .boolean)] t ∧ va_D (va_A [(a_this, .inr (1, [.ref o_in, .int i_inLong, .int i_goesOn, .ref o_out, .int i_outLong, .ref a_counts, .int i_greatest, .ref o_length, .ref o_symbolOf, .ref o_draft, .ref o_knot, .ref o_inSum, .int i_knots, .ref o_halved, .ref o_made, .int i_bitsMade, .ref o_weight, .int i_weights, .int i_order, .ref o_points, .ref o_cutOff, .ref o_had, .ref o_placeOf, .int i_bit, .int i_bitEnd])), (a_counts, .inl (cI, 256, .inl v_counts))] sz) [(a_this, .inr (1, [.ref o_in, .int i_inLong', .int i_goesOn', .ref o_out, .int i_outLong, .ref a_counts, .int i_greatest, .ref o_length, .ref o_symbolOf, .ref o_draft, .ref o_knot, .ref o_inSum, .int i_knots, .ref o_halved, .ref o_made, .int i_bitsMade, .ref o_weight, .int i_weights, .int i_order, .ref o_points, .ref o_cutOff, .ref o_had, .ref o_placeOf, .int i_bit, .int i_bitEnd])), (a_counts, .inl (cI, 256, .inl v_counts'))]) (va_A [(a_this, .inr (1, [.ref o_in, .int i_inLong, .int i_goesOn, .ref o_out, .int i_outLong, .ref a_counts, .int i_greatest, .ref o_length, .ref o_symbolOf, .ref o_draft, .ref o_knot, .ref o_inSum, .int i_knots, .ref o_halved, .ref o_made, .int i_bitsMade, .ref o_weight, .int i_weights, .int i_order, .ref o_points, .ref o_cutOff, .ref o_had, .ref o_placeOf, .int i_bit, .int i_bitEnd])), (a_counts, .inl (cI, 256, .inl v_counts))] sz)) 0 0 (va_A [(a_this, .inr (1, [.ref o_in, .int i_inLong, .int i_goesOn, .ref o_out, .int i_outLong, .ref a_counts, .int i_greatest, .ref o_length, .ref o_symbolOf, .ref o_draft, .ref o_knot, .ref o_inSum, .int i_knots, .ref o_halved, .ref o_made, .int i_bitsMade, .ref o_weight, .int i_weights, .int i_order, .ref o_points, .ref o_cutOff, .ref o_had, .ref o_placeOf, .int i_bit, .int i_bitEnd])), (a_counts, .inl (cI, 256, .inl v_counts))] sz) := by
  refine Met.ofW (cc := b_MM_clear) (maxL := 2) (ret := none) (by decide) rfl ?_
  intro p e s m args below meth c s₁ B hml hv
  obtain ⟨rfl, hsz, hP, hK, hD0⟩ := hv
  have hx := B.exec
  have hb := B.bytes
  have hr := B.returns
  have hts0 := atoms_spec (ws := ws_MM_clear) B.pre
  have hts := gd_tl hts0
  clear hts0
  have hown : s.vm.findClass "PrefixMillModel" = some m.cls := findClass_of_methodNamed B.named
  have hlocks := B.notSynchronized
  subst hsz
  have hD := hD0.self (sz := s.heap.size)
  generalize hAe : va_A [(a_this, .inr (1, [.ref o_in, .int i_inLong, .int i_goesOn, .ref o_out, .int i_outLong, .ref a_counts, .int i_greatest, .ref o_length, .ref o_symbolOf, .ref o_draft, .ref o_knot, .ref o_inSum, .int i_knots, .ref o_halved, .ref o_made, .int i_bitsMade, .ref o_weight, .int i_weights, .int i_order, .ref o_points, .ref o_cutOff, .ref o_had, .ref o_placeOf, .int i_bit, .int i_bitEnd])), (a_counts, .inl (cI, 256, .inl v_counts))] s.heap.size = A at hD ⊢
  have hA : ∀ q : Nat, s.heap.size ≤ q → A q := fun q h => by rw [← hAe]; exact Or.inr h
  have hS : va_S A s.heap s.heap [] := va_S.rf
  have hP : va_P D classes [(a_this, .inr (1, [.ref o_in, .int i_inLong, .int i_goesOn, .ref o_out, .int i_outLong, .ref a_counts, .int i_greatest, .ref o_length, .ref o_symbolOf, .ref o_draft, .ref o_knot, .ref o_inSum, .int i_knots, .ref o_halved, .ref o_made, .int i_bitsMade, .ref o_weight, .int i_weights, .int i_order, .ref o_points, .ref o_cutOff, .ref o_had, .ref o_placeOf, .int i_bit, .int i_bitEnd])), (a_counts, .inl (cI, 256, .inl v_counts))] s.heap := hP
  have hl := lv_entry ([.ref a_this]) (n := 2) (Nat.le_of_ble_eq_true rfl)
  rw [lg_entry_eq]
  generalize (lg_sl ([.ref a_this]) ++ List.replicate (2 - (lg_sl ([.ref a_this])).length) Slot.unset).toArray = ls at hl ⊢
  have hl : lv_has ls 2 [(0, .ref a_this)] := hl
  have C : Cx p s m ([.ref a_this] : List Value).toArray c b_MM_clear 2 "PrefixMillModel" D [(cI, .int), (cL, .long), (cZ, .boolean)] A := ⟨hx, hb, hml, hown, hts, hK, hA⟩
  refine w_MM_clear_b0 (res := (i_inLong', i_goesOn', v_counts')) C ?_ _ _ _ h s.heap [] ls hl hP hD hS
  intro pc9 H9 locs9 ls9 i_inLong9 i_goesOn9 v_counts9 e9 d9 hP9 hD9 hS9
  cases e9
  exact W.vret hx hb hr (fun t ht hW => ⟨⟨(), rfl, trivial, by rw [ht]; exact hP9, va_K.moved hW.alike hK, hD9⟩, hS9.F ht⟩) hS9.2.2 d9
abbrev b_MM_place : ByteArray := prog_12_method_6_code
def ws_MM_place : List Cond := .code ({ cls := "PrefixMillModel", name := "place", desc := "(I)Z" } : Jvm.MethodName) b_MM_place 2 (some .boolean) :: tt
theorem d_MM_place_0 : decode b_MM_place 0 = .ok (.iload_n 1, 1) := by decide +kernel
theorem d_MM_place_1 : decode b_MM_place 1 = .ok (.ifCond .lt 11, 3) := by decide +kernel
theorem d_MM_place_4 : decode b_MM_place 4 = .ok (.iload_n 1, 1) := by decide +kernel
theorem d_MM_place_5 : decode b_MM_place 5 = .ok (.aload_n 0, 1) := by decide +kernel
theorem d_MM_place_6 : decode b_MM_place 6 = .ok (.getfield 56, 3) := by decide +kernel
theorem d_MM_place_9 : decode b_MM_place 9 = .ok (.if_icmp .le 5, 3) := by decide +kernel
theorem d_MM_place_12 : decode b_MM_place 12 = .ok (.iconst 0, 1) := by decide +kernel
theorem d_MM_place_13 : decode b_MM_place 13 = .ok (.ireturn, 1) := by decide +kernel
theorem d_MM_place_14 : decode b_MM_place 14 = .ok (.aload_n 0, 1) := by decide +kernel
theorem d_MM_place_15 : decode b_MM_place 15 = .ok (.iload_n 1, 1) := by decide +kernel
theorem d_MM_place_16 : decode b_MM_place 16 = .ok (.putfield 65, 3) := by decide +kernel
theorem d_MM_place_19 : decode b_MM_place 19 = .ok (.iconst 1, 1) := by decide +kernel
theorem d_MM_place_20 : decode b_MM_place 20 = .ok (.ireturn, 1) := by decide +kernel
def f_MM_place_b12 (N : Nat) (i_inLong : Int32) (l1 : Int32)  (i_goesOn : Int32) : Option (Int32 × Int32) :=
  some (0, i_goesOn)
def f_MM_place (N : Nat) (i_inLong : Int32) (l1 : Int32)  (i_goesOn : Int32) : Option (Int32 × Int32) :=
  if l1 < 0 then
  f_MM_place_b12 N i_inLong l1  i_goesOn
  else
  if l1 ≤ i_inLong then
  some (1, l1)
  else
  f_MM_place_b12 N i_inLong l1  i_goesOn
abbrev R_MM_place : Room := ({ frames := 0, cells := 0, slots := 0, locals := 0 } : Room)
def E_MM_place (p : Program) (l : Launch) (e : Env) (s : State) (m : MethodId) (args : Array Value) (below : List Frame) (meth : Method) (c : Code) (Q : State → Prop) (A : Nat → Prop) (D : va_G) (cI cL cZ : ClassId) (a_this : Nat) (o_in : Nat) (o_out : Nat) (o_counts : Nat) (o_length : Nat) (o_symbolOf : Nat) (o_draft : Nat) (o_knot : Nat) (o_inSum : Nat) (o_halved : Nat) (o_made : Nat) (o_weight : Nat) (o_points : Nat) (o_cutOff : Nat) (o_had : Nat) (o_placeOf : Nat) (i_inLong : Int32) (i_outLong : Int32) (i_greatest : Int32) (i_knots : Int32) (i_bitsMade : Int32) (i_weights : Int32) (i_order : Int32) (i_bit : Int32) (i_bitEnd : Int32) (l1 : Int32) (res : Int32 × Int32) : Prop := ∀ (pc : Nat) (H : Heap) (locs : List Loc) (ls : Array Slot) (rv : Int32) (i_goesOn : Int32), some (rv, i_goesOn) = some res → narrow .boolean (.int rv) = .int rv → decode b_MM_place pc = .ok (.ireturn, 1) → va_P D classes [(a_this, .inr (1, [.ref o_in, .int i_inLong, .int i_goesOn, .ref o_out, .int i_outLong, .ref o_counts, .int i_greatest, .ref o_length, .ref o_symbolOf, .ref o_draft, .ref o_knot, .ref o_inSum, .int i_knots, .ref o_halved, .ref o_made, .int i_bitsMade, .ref o_weight, .int i_weights, .int i_order, .ref o_points, .ref o_cutOff, .ref o_had, .ref o_placeOf, .int i_bit, .int i_bitEnd]))] H → va_D A [(a_this, .inr (1, [.ref o_in, .int i_inLong, .int i_goesOn, .ref o_out, .int i_outLong, .ref o_counts, .int i_greatest, .ref o_length, .ref o_symbolOf, .ref o_draft, .ref o_knot, .ref o_inSum, .int i_knots, .ref o_halved, .ref o_made, .int i_bitsMade, .ref o_weight, .int i_weights, .int i_order, .ref o_points, .ref o_cutOff, .ref o_had, .ref o_placeOf, .int i_bit, .int i_bitEnd]))] → va_S A s.heap H locs → W p l e R_MM_place s m args below meth c H locs 0 0 Q (F0 m pc ls [.int rv])
def I_MM_place_b12 (p : Program) (l : Launch) (e : Env) (s : State) (m : MethodId) (args : Array Value) (below : List Frame) (meth : Method) (c : Code) (Q : State → Prop) (A : Nat → Prop) (D : va_G) (cI cL cZ : ClassId) (a_this : Nat) (o_in : Nat) (o_out : Nat) (o_counts : Nat) (o_length : Nat) (o_symbolOf : Nat) (o_draft : Nat) (o_knot : Nat) (o_inSum : Nat) (o_halved : Nat) (o_made : Nat) (o_weight : Nat) (o_points : Nat) (o_cutOff : Nat) (o_had : Nat) (o_placeOf : Nat) (i_inLong : Int32) (i_outLong : Int32) (i_greatest : Int32) (i_knots : Int32) (i_bitsMade : Int32) (i_weights : Int32) (i_order : Int32) (i_bit : Int32) (i_bitEnd : Int32) (l1 : Int32) (res : Int32 × Int32) (kf : Int32 → Option (Int32 × Int32)) : Prop := ∀ (i_goesOn : Int32), kf i_goesOn = some res → ∀ (H : Heap) (locs : List Loc) (ls : Array Slot), lv_has ls 2 [] → va_P D classes [(a_this, .inr (1, [.ref o_in, .int i_inLong, .int i_goesOn, .ref o_out, .int i_outLong, .ref o_counts, .int i_greatest, .ref o_length, .ref o_symbolOf, .ref o_draft, .ref o_knot, .ref o_inSum, .int i_knots, .ref o_halved, .ref o_made, .int i_bitsMade, .ref o_weight, .int i_weights, .int i_order, .ref o_points, .ref o_cutOff, .ref o_had, .ref o_placeOf, .int i_bit, .int i_bitEnd]))] H → va_D A [(a_this, .inr (1, [.ref o_in, .int i_inLong, .int i_goesOn, .ref o_out, .int i_outLong, .ref o_counts, .int i_greatest, .ref o_length, .ref o_symbolOf, .ref o_draft, .ref o_knot, .ref o_inSum, .int i_knots, .ref o_halved, .ref o_made, .int i_bitsMade, .ref o_weight, .int i_weights, .int i_order, .ref o_points, .ref o_cutOff, .ref o_had, .ref o_placeOf, .int i_bit, .int i_bitEnd]))] → va_S A s.heap H locs → W p l e R_MM_place s m args below meth c H locs 0 0 Q (F0 m 12 ls [])
def I_MM_place_b0 (p : Program) (l : Launch) (e : Env) (s : State) (m : MethodId) (args : Array Value) (below : List Frame) (meth : Method) (c : Code) (Q : State → Prop) (A : Nat → Prop) (D : va_G) (cI cL cZ : ClassId) (a_this : Nat) (o_in : Nat) (o_out : Nat) (o_counts : Nat) (o_length : Nat) (o_symbolOf : Nat) (o_draft : Nat) (o_knot : Nat) (o_inSum : Nat) (o_halved : Nat) (o_made : Nat) (o_weight : Nat) (o_points : Nat) (o_cutOff : Nat) (o_had : Nat) (o_placeOf : Nat) (i_inLong : Int32) (i_outLong : Int32) (i_greatest : Int32) (i_knots : Int32) (i_bitsMade : Int32) (i_weights : Int32) (i_order : Int32) (i_bit : Int32) (i_bitEnd : Int32) (l1 : Int32) (res : Int32 × Int32) (kf : Int32 → Option (Int32 × Int32)) : Prop := ∀ (i_goesOn : Int32), kf i_goesOn = some res → ∀ (H : Heap) (locs : List Loc) (ls : Array Slot), lv_has ls 2 [(0, .ref a_this), (1, .int l1)] → va_P D classes [(a_this, .inr (1, [.ref o_in, .int i_inLong, .int i_goesOn, .ref o_out, .int i_outLong, .ref o_counts, .int i_greatest, .ref o_length, .ref o_symbolOf, .ref o_draft, .ref o_knot, .ref o_inSum, .int i_knots, .ref o_halved, .ref o_made, .int i_bitsMade, .ref o_weight, .int i_weights, .int i_order, .ref o_points, .ref o_cutOff, .ref o_had, .ref o_placeOf, .int i_bit, .int i_bitEnd]))] H → va_D A [(a_this, .inr (1, [.ref o_in, .int i_inLong, .int i_goesOn, .ref o_out, .int i_outLong, .ref o_counts, .int i_greatest, .ref o_length, .ref o_symbolOf, .ref o_draft, .ref o_knot, .ref o_inSum, .int i_knots, .ref o_halved, .ref o_made, .int i_bitsMade, .ref o_weight, .int i_weights, .int i_order, .ref o_points, .ref o_cutOff, .ref o_had, .ref o_placeOf, .int i_bit, .int i_bitEnd]))] → va_S A s.heap H locs → W p l e R_MM_place s m args below meth c H locs 0 0 Q (F0 m 0 ls [])
set_option maxHeartbeats 4000000 in
set_option maxRecDepth 100000 in
theorem w_MM_place_b12 {p : Program} {l : Launch} {e : Env} {s : State} {m : MethodId} {args : Array Value} {below : List Frame} {meth : Method} {c : Code} {Q : State → Prop} {A : Nat → Prop} {D : va_G} {cI cL cZ : ClassId} {a_this : Nat} {o_in : Nat} {o_out : Nat} {o_counts : Nat} {o_length : Nat} {o_symbolOf : Nat} {o_draft : Nat} {o_knot : Nat} {o_inSum : Nat} {o_halved : Nat} {o_made : Nat} {o_weight : Nat} {o_points : Nat} {o_cutOff : Nat} {o_had : Nat} {o_placeOf : Nat} {i_inLong : Int32} {i_outLong : Int32} {i_greatest : Int32} {i_knots : Int32} {i_bitsMade : Int32} {i_weights : Int32} {i_order : Int32} {i_bit : Int32} {i_bitEnd : Int32} {l1 : Int32} {N : Nat} {res : Int32 × Int32}  (C : Cx p s m args c b_MM_place 2 "PrefixMillModel" D [(cI, .int), (cL, .long), (cZ, .boolean)] A) (hret : E_MM_place p l e s m args below meth c Q A D cI cL cZ a_this o_in o_out o_counts o_length o_symbolOf o_draft o_knot o_inSum o_halved o_made o_weight o_points o_cutOff o_had o_placeOf i_inLong i_outLong i_greatest i_knots i_bitsMade i_weights i_order i_bit i_bitEnd l1 res)  : I_MM_place_b12 p l e s m args below meth c Q A D cI cL cZ a_this o_in o_out o_counts o_length o_symbolOf o_draft o_knot o_inSum o_halved o_made o_weight o_points o_cutOff o_had o_placeOf i_inLong i_outLong i_greatest i_knots i_bitsMade i_weights i_order i_bit i_bitEnd l1 res (f_MM_place_b12 N i_inLong l1 ) := by
  obtain ⟨hx, hb, hml, hown, hts, hK, hA⟩ := C
  intro i_goesOn h H locs ls hl hP hD hS
  unfold f_MM_place_b12 at h
  refine lv_iconst (v := 0) hx hb d_MM_place_12 (by decide) ?_
  exact hret _ _ _ _ 0 i_goesOn h rfl d_MM_place_13 hP hD hS
set_option maxHeartbeats 4000000 in
set_option maxRecDepth 100000 in
theorem w_MM_place_b0 {p : Program} {l : Launch} {e : Env} {s : State} {m : MethodId} {args : Array Value} {below : List Frame} {meth : Method} {c : Code} {Q : State → Prop} {A : Nat → Prop} {D : va_G} {cI cL cZ : ClassId} {a_this : Nat} {o_in : Nat} {o_out : Nat} {o_counts : Nat} {o_length : Nat} {o_symbolOf : Nat} {o_draft : Nat} {o_knot : Nat} {o_inSum : Nat} {o_halved : Nat} {o_made : Nat} {o_weight : Nat} {o_points : Nat} {o_cutOff : Nat} {o_had : Nat} {o_placeOf : Nat} {i_inLong : Int32} {i_outLong : Int32} {i_greatest : Int32} {i_knots : Int32} {i_bitsMade : Int32} {i_weights : Int32} {i_order : Int32} {i_bit : Int32} {i_bitEnd : Int32} {l1 : Int32} {N : Nat} {res : Int32 × Int32}  (C : Cx p s m args c b_MM_place 2 "PrefixMillModel" D [(cI, .int), (cL, .long), (cZ, .boolean)] A) (hret : E_MM_place p l e s m args below meth c Q A D cI cL cZ a_this o_in o_out o_counts o_length o_symbolOf o_draft o_knot o_inSum o_halved o_made o_weight o_points o_cutOff o_had o_placeOf i_inLong i_outLong i_greatest i_knots i_bitsMade i_weights i_order i_bit i_bitEnd l1 res)  : I_MM_place_b0 p l e s m args below meth c Q A D cI cL cZ a_this o_in o_out o_counts o_length o_symbolOf o_draft o_knot o_inSum o_halved o_made o_weight o_points o_cutOff o_had o_placeOf i_inLong i_outLong i_greatest i_knots i_bitsMade i_weights i_order i_bit i_bitEnd l1 res (f_MM_place N i_inLong l1 ) := by
  obtain ⟨hx, hb, hml, hown, hts, hK, hA⟩ := C
  intro i_goesOn h H locs ls hl hP hD hS
  unfold f_MM_place at h
  refine lv_iload_n hx hb d_MM_place_0 rfl (lv_at hl 1 rfl) ?_
  refine lv_if_lt (tgt := 12) hx hb d_MM_place_1 (by decide) (fun c_1 => ?_) (fun c_1 => ?_)
  · replace h := if_t h c_1
    exact w_MM_place_b12 ⟨hx, hb, hml, hown, hts, hK, hA⟩ hret  _ h H locs ls (lv_sub hl [] rfl) hP hD hS
  · replace h := if_f h c_1
    refine lv_iload_n hx hb d_MM_place_4 rfl (lv_at hl 1 rfl) ?_
    refine lv_aload_n hx hb d_MM_place_5 rfl (lv_at hl 0 rfl) ?_
    refine va_get hx hb hts in_MM hown hK hP 0 rfl rfl 1 (by decide) (hts _ m_754) (fun _ h9 => h9) rfl d_MM_place_6 ?_
    refine lv_icmp_le (tgt := 14) hx hb d_MM_place_9 (by decide) (fun c_2 => ?_) (fun c_2 => ?_)
    · replace h := if_t h c_2
      refine lv_aload_n hx hb d_MM_place_14 rfl (lv_at hl 0 rfl) ?_
      refine lv_iload_n hx hb d_MM_place_15 rfl (lv_at hl 1 rfl) ?_
      refine va_put (v := .int l1) (ty := .int) hx hb hts in_MM t_MM t_MM_ok n_MM hown hK hP hD hS 0 rfl rfl 2 (by decide) (hts _ m_755) (fun _ h9 => h9) rfl (by decide +kernel) rfl rfl (Nat.le_of_ble_eq_true rfl) d_MM_place_16 (fun H locs hP hD hS => ?_)
      have hP : va_P D classes [(a_this, .inr (1, [.ref o_in, .int i_inLong, .int l1, .ref o_out, .int i_outLong, .ref o_counts, .int i_greatest, .ref o_length, .ref o_symbolOf, .ref o_draft, .ref o_knot, .ref o_inSum, .int i_knots, .ref o_halved, .ref o_made, .int i_bitsMade, .ref o_weight, .int i_weights, .int i_order, .ref o_points, .ref o_cutOff, .ref o_had, .ref o_placeOf, .int i_bit, .int i_bitEnd]))] H := by exact hP
      have hD : va_D A [(a_this, .inr (1, [.ref o_in, .int i_inLong, .int l1, .ref o_out, .int i_outLong, .ref o_counts, .int i_greatest, .ref o_length, .ref o_symbolOf, .ref o_draft, .ref o_knot, .ref o_inSum, .int i_knots, .ref o_halved, .ref o_made, .int i_bitsMade, .ref o_weight, .int i_weights, .int i_order, .ref o_points, .ref o_cutOff, .ref o_had, .ref o_placeOf, .int i_bit, .int i_bitEnd]))] := by exact hD
      refine lv_iconst (v := 1) hx hb d_MM_place_19 (by decide) ?_
      exact hret _ _ _ _ 1 l1 h rfl d_MM_place_20 hP hD hS
    · replace h := if_f h c_2
      exact w_MM_place_b12 ⟨hx, hb, hml, hown, hts, hK, hA⟩ hret  _ h H locs ls (lv_sub hl [] rfl) hP hD hS
set_option maxHeartbeats 4000000 in
set_option maxRecDepth 100000 in
theorem c_MM_place (l : Launch) (D : va_G) (cI cL cZ : ClassId) (sz N : Nat) (a_this : Nat) (o_in : Nat) (o_out : Nat) (o_counts : Nat) (o_length : Nat) (o_symbolOf : Nat) (o_draft : Nat) (o_knot : Nat) (o_inSum : Nat) (o_halved : Nat) (o_made : Nat) (o_weight : Nat) (o_points : Nat) (o_cutOff : Nat) (o_had : Nat) (o_placeOf : Nat) (i_inLong : Int32) (i_goesOn : Int32) (i_outLong : Int32) (i_greatest : Int32) (i_knots : Int32) (i_bitsMade : Int32) (i_weights : Int32) (i_order : Int32) (i_bit : Int32) (i_bitEnd : Int32) (l1 : Int32) (rv : Int32) (i_goesOn' : Int32) (h : f_MM_place N i_inLong l1 i_goesOn = some (rv, i_goesOn')) : Met l ({ cls := "PrefixMillModel", name := "place", desc := "(I)Z" } : Jvm.MethodName) ws_MM_place R_MM_place (va_Pc [.ref a_this, .int l1] (fun U => U.heap.size = sz ∧ va_P D classes [(a_this, .inr (1, [.ref o_in, .int i_inLong, .int i_goesOn, .ref o_out, .int i_outLong, .ref o_counts, .int i_greatest, .ref o_length, .ref o_symbolOf, .ref o_draft, .ref o_knot, .ref o_inSum, .int i_knots, .ref o_halved, .ref o_made, .int i_bitsMade, .ref o_weight, .int i_weights, .int i_order, .ref o_points, .ref o_cutOff, .ref o_had, .ref o_placeOf, .int i_bit, .int i_bitEnd]))] U.heap ∧ va_K D classes [(cI, .int), (cL, .long), (cZ, .boolean)] U ∧ va_D (fun _ => True) [(a_this, .inr (1, [.ref o_in, .int i_inLong, .int i_goesOn, .ref o_out, .int i_outLong, .ref o_counts, .int i_greatest, .ref o_length, .ref o_symbolOf, .ref o_draft, .ref o_knot, .ref o_inSum, .int i_knots, .ref o_halved, .ref o_made, .int i_bitsMade, .ref o_weight, .int i_weights, .int i_order, .ref o_points, .ref o_cutOff, .ref o_had, .ref o_placeOf, .int i_bit, .int i_bitEnd]))])) (va_Qi (fun (r0 : Int32) (_ : Unit) => rv = r0) (fun _ t => va_P D classes [(a_this, .inr (1, [.ref o_in, .int i_inLong, .int i_goesOn', .ref o_out, .int i_outLong, .ref o_counts, .int i_greatest, .ref o_length, .ref o_symbolOf, .ref o_draft, .ref o_knot, .ref o_inSum, .int i_knots, .ref o_halved, .ref o_made, .int i_bitsMade, .ref o_weight, .int i_weights, .int i_order, .ref o_points, .ref o_cutOff, .ref o_had, .ref o_placeOf, .int i_bit, .int i_bitEnd]))] t.heap ∧ va_K D classes [(cI, .int), (cL, .long), (cZ, .boolean)] t ∧ va_D (va_A [(a_this, .inr (1, [.ref o_in, .int i_inLong, .int i_goesOn, .ref o_out, .int i_outLong, .ref o_counts, .int i_greatest, .ref o_length, .ref o_symbolOf, .ref o_draft, .ref o_knot, .ref o_inSum, .int i_knots, .ref o_halved, .ref o_made, .int i_bitsMade, .ref o_weight, .int i_weights, .int i_order, .ref o_points, .ref o_cutOff, .ref o_had, .ref o_placeOf, .int i_bit, .int i_bitEnd]))] sz) [(a_this, .inr (1, [.ref o_in, .int i_inLong, .int i_goesOn', .ref o_out, .int i_outLong, .ref o_counts, .int i_greatest, .ref o_length, .ref o_symbolOf, .ref o_draft, .ref o_knot, .ref o_inSum, .int i_knots, .ref o_halved, .ref o_made, .int i_bitsMade, .ref o_weight, .int i_weights, .int i_order, .ref o_points, .ref o_cutOff, .ref o_had, .ref o_placeOf, .int i_bit, .int i_bitEnd]))]) (va_A [(a_this, .inr (1, [.ref o_in, .int i_inLong, .int i_goesOn, .ref o_out, .int i_outLong, .ref o_counts, .int i_greatest, .ref o_length, .ref o_symbolOf, .ref o_draft, .ref o_knot, .ref o_inSum, .int i_knots, .ref o_halved, .ref o_made, .int i_bitsMade, .ref o_weight, .int i_weights, .int i_order, .ref o_points, .ref o_cutOff, .ref o_had, .ref o_placeOf, .int i_bit, .int i_bitEnd]))] sz)) 0 0 (va_A [(a_this, .inr (1, [.ref o_in, .int i_inLong, .int i_goesOn, .ref o_out, .int i_outLong, .ref o_counts, .int i_greatest, .ref o_length, .ref o_symbolOf, .ref o_draft, .ref o_knot, .ref o_inSum, .int i_knots, .ref o_halved, .ref o_made, .int i_bitsMade, .ref o_weight, .int i_weights, .int i_order, .ref o_points, .ref o_cutOff, .ref o_had, .ref o_placeOf, .int i_bit, .int i_bitEnd]))] sz) := by
  refine Met.ofW (cc := b_MM_place) (maxL := 2) (ret := (some .boolean)) (by decide) rfl ?_
  intro p e s m args below meth c s₁ B hml hv
  obtain ⟨rfl, hsz, hP, hK, hD0⟩ := hv
  have hx := B.exec
  have hb := B.bytes
  have hr := B.returns
  have hts0 := atoms_spec (ws := ws_MM_place) B.pre
  have hts := gd_tl hts0
  clear hts0
  have hown : s.vm.findClass "PrefixMillModel" = some m.cls := findClass_of_methodNamed B.named
  have hlocks := B.notSynchronized
  subst hsz
  have hD := hD0.self (sz := s.heap.size)
  generalize hAe : va_A [(a_this, .inr (1, [.ref o_in, .int i_inLong, .int i_goesOn, .ref o_out, .int i_outLong, .ref o_counts, .int i_greatest, .ref o_length, .ref o_symbolOf, .ref o_draft, .ref o_knot, .ref o_inSum, .int i_knots, .ref o_halved, .ref o_made, .int i_bitsMade, .ref o_weight, .int i_weights, .int i_order, .ref o_points, .ref o_cutOff, .ref o_had, .ref o_placeOf, .int i_bit, .int i_bitEnd]))] s.heap.size = A at hD ⊢
  have hA : ∀ q : Nat, s.heap.size ≤ q → A q := fun q h => by rw [← hAe]; exact Or.inr h
  have hS : va_S A s.heap s.heap [] := va_S.rf
  have hP : va_P D classes [(a_this, .inr (1, [.ref o_in, .int i_inLong, .int i_goesOn, .ref o_out, .int i_outLong, .ref o_counts, .int i_greatest, .ref o_length, .ref o_symbolOf, .ref o_draft, .ref o_knot, .ref o_inSum, .int i_knots, .ref o_halved, .ref o_made, .int i_bitsMade, .ref o_weight, .int i_weights, .int i_order, .ref o_points, .ref o_cutOff, .ref o_had, .ref o_placeOf, .int i_bit, .int i_bitEnd]))] s.heap := hP
  have hl := lv_entry ([.ref a_this, .int l1]) (n := 2) (Nat.le_of_ble_eq_true rfl)
  rw [lg_entry_eq]
  generalize (lg_sl ([.ref a_this, .int l1]) ++ List.replicate (2 - (lg_sl ([.ref a_this, .int l1])).length) Slot.unset).toArray = ls at hl ⊢
  have hl : lv_has ls 2 [(0, .ref a_this), (1, .int l1)] := hl
  have C : Cx p s m ([.ref a_this, .int l1] : List Value).toArray c b_MM_place 2 "PrefixMillModel" D [(cI, .int), (cL, .long), (cZ, .boolean)] A := ⟨hx, hb, hml, hown, hts, hK, hA⟩
  refine w_MM_place_b0 (res := (rv, i_goesOn')) C ?_ _ h s.heap [] ls hl hP hD hS
  intro pc9 H9 locs9 ls9 rv9 i_goesOn9 e9 z9 d9 hP9 hD9 hS9
  cases e9
  exact W.zret (v := rv) hx hb hr z9 (fun t ht hW => ⟨⟨rv, (), rfl, rfl, by rw [ht]; exact hP9, va_K.moved hW.alike hK, hD9⟩, hS9.F ht⟩) hS9.2.2 d9
abbrev b_MM_at : ByteArray := prog_12_method_7_code
def ws_MM_at : List Cond := .code ({ cls := "PrefixMillModel", name := "at", desc := "()I" } : Jvm.MethodName) b_MM_at 1 (some .int) :: tt
theorem d_MM_at_0 : decode b_MM_at 0 = .ok (.aload_n 0, 1) := by decide +kernel
theorem d_MM_at_1 : decode b_MM_at 1 = .ok (.getfield 65, 3) := by decide +kernel
theorem d_MM_at_4 : decode b_MM_at 4 = .ok (.ireturn, 1) := by decide +kernel
def f_MM_at (N : Nat) (i_goesOn : Int32)   : Option (Int32) :=
  some (i_goesOn)
abbrev R_MM_at : Room := ({ frames := 0, cells := 0, slots := 0, locals := 0 } : Room)
def E_MM_at (p : Program) (l : Launch) (e : Env) (s : State) (m : MethodId) (args : Array Value) (below : List Frame) (meth : Method) (c : Code) (Q : State → Prop) (A : Nat → Prop) (D : va_G) (cI cL cZ : ClassId) (a_this : Nat) (o_in : Nat) (o_out : Nat) (o_counts : Nat) (o_length : Nat) (o_symbolOf : Nat) (o_draft : Nat) (o_knot : Nat) (o_inSum : Nat) (o_halved : Nat) (o_made : Nat) (o_weight : Nat) (o_points : Nat) (o_cutOff : Nat) (o_had : Nat) (o_placeOf : Nat) (i_inLong : Int32) (i_goesOn : Int32) (i_outLong : Int32) (i_greatest : Int32) (i_knots : Int32) (i_bitsMade : Int32) (i_weights : Int32) (i_order : Int32) (i_bit : Int32) (i_bitEnd : Int32) (res : Int32) : Prop := ∀ (pc : Nat) (H : Heap) (locs : List Loc) (ls : Array Slot) (rv : Int32), some (rv) = some res → decode b_MM_at pc = .ok (.ireturn, 1) → va_P D classes [(a_this, .inr (1, [.ref o_in, .int i_inLong, .int i_goesOn, .ref o_out, .int i_outLong, .ref o_counts, .int i_greatest, .ref o_length, .ref o_symbolOf, .ref o_draft, .ref o_knot, .ref o_inSum, .int i_knots, .ref o_halved, .ref o_made, .int i_bitsMade, .ref o_weight, .int i_weights, .int i_order, .ref o_points, .ref o_cutOff, .ref o_had, .ref o_placeOf, .int i_bit, .int i_bitEnd]))] H → va_D A [(a_this, .inr (1, [.ref o_in, .int i_inLong, .int i_goesOn, .ref o_out, .int i_outLong, .ref o_counts, .int i_greatest, .ref o_length, .ref o_symbolOf, .ref o_draft, .ref o_knot, .ref o_inSum, .int i_knots, .ref o_halved, .ref o_made, .int i_bitsMade, .ref o_weight, .int i_weights, .int i_order, .ref o_points, .ref o_cutOff, .ref o_had, .ref o_placeOf, .int i_bit, .int i_bitEnd]))] → va_S A s.heap H locs → W p l e R_MM_at s m args below meth c H locs 0 0 Q (F0 m pc ls [.int rv])
def I_MM_at_b0 (p : Program) (l : Launch) (e : Env) (s : State) (m : MethodId) (args : Array Value) (below : List Frame) (meth : Method) (c : Code) (Q : State → Prop) (A : Nat → Prop) (D : va_G) (cI cL cZ : ClassId) (a_this : Nat) (o_in : Nat) (o_out : Nat) (o_counts : Nat) (o_length : Nat) (o_symbolOf : Nat) (o_draft : Nat) (o_knot : Nat) (o_inSum : Nat) (o_halved : Nat) (o_made : Nat) (o_weight : Nat) (o_points : Nat) (o_cutOff : Nat) (o_had : Nat) (o_placeOf : Nat) (i_inLong : Int32) (i_goesOn : Int32) (i_outLong : Int32) (i_greatest : Int32) (i_knots : Int32) (i_bitsMade : Int32) (i_weights : Int32) (i_order : Int32) (i_bit : Int32) (i_bitEnd : Int32) (res : Int32) (kf : Option (Int32)) : Prop := ∀ (_ : Unit), kf  = some res → ∀ (H : Heap) (locs : List Loc) (ls : Array Slot), lv_has ls 1 [(0, .ref a_this)] → va_P D classes [(a_this, .inr (1, [.ref o_in, .int i_inLong, .int i_goesOn, .ref o_out, .int i_outLong, .ref o_counts, .int i_greatest, .ref o_length, .ref o_symbolOf, .ref o_draft, .ref o_knot, .ref o_inSum, .int i_knots, .ref o_halved, .ref o_made, .int i_bitsMade, .ref o_weight, .int i_weights, .int i_order, .ref o_points, .ref o_cutOff, .ref o_had, .ref o_placeOf, .int i_bit, .int i_bitEnd]))] H → va_D A [(a_this, .inr (1, [.ref o_in, .int i_inLong, .int i_goesOn, .ref o_out, .int i_outLong, .ref o_counts, .int i_greatest, .ref o_length, .ref o_symbolOf, .ref o_draft, .ref o_knot, .ref o_inSum, .int i_knots, .ref o_halved, .ref o_made, .int i_bitsMade, .ref o_weight, .int i_weights, .int i_order, .ref o_points, .ref o_cutOff, .ref o_had, .ref o_placeOf, .int i_bit, .int i_bitEnd]))] → va_S A s.heap H locs → W p l e R_MM_at s m args below meth c H locs 0 0 Q (F0 m 0 ls [])
set_option maxHeartbeats 4000000 in
set_option maxRecDepth 100000 in
theorem w_MM_at_b0 {p : Program} {l : Launch} {e : Env} {s : State} {m : MethodId} {args : Array Value} {below : List Frame} {meth : Method} {c : Code} {Q : State → Prop} {A : Nat → Prop} {D : va_G} {cI cL cZ : ClassId} {a_this : Nat} {o_in : Nat} {o_out : Nat} {o_counts : Nat} {o_length : Nat} {o_symbolOf : Nat} {o_draft : Nat} {o_knot : Nat} {o_inSum : Nat} {o_halved : Nat} {o_made : Nat} {o_weight : Nat} {o_points : Nat} {o_cutOff : Nat} {o_had : Nat} {o_placeOf : Nat} {i_inLong : Int32} {i_goesOn : Int32} {i_outLong : Int32} {i_greatest : Int32} {i_knots : Int32} {i_bitsMade : Int32} {i_weights : Int32} {i_order : Int32} {i_bit : Int32} {i_bitEnd : Int32} {N : Nat} {res : Int32}  (C : Cx p s m args c b_MM_at 1 "PrefixMillModel" D [(cI, .int), (cL, .long), (cZ, .boolean)] A) (hret : E_MM_at p l e s m args below meth c Q A D cI cL cZ a_this o_in o_out o_counts o_length o_symbolOf o_draft o_knot o_inSum o_halved o_made o_weight o_points o_cutOff o_had o_placeOf i_inLong i_goesOn i_outLong i_greatest i_knots i_bitsMade i_weights i_order i_bit i_bitEnd res)  : I_MM_at_b0 p l e s m args below meth c Q A D cI cL cZ a_this o_in o_out o_counts o_length o_symbolOf o_draft o_knot o_inSum o_halved o_made o_weight o_points o_cutOff o_had o_placeOf i_inLong i_goesOn i_outLong i_greatest i_knots i_bitsMade i_weights i_order i_bit i_bitEnd res (f_MM_at N i_goesOn ) := by
  obtain ⟨hx, hb, hml, hown, hts, hK, hA⟩ := C
  intro _ h H locs ls hl hP hD hS
  unfold f_MM_at at h
  refine lv_aload_n hx hb d_MM_at_0 rfl (lv_at hl 0 rfl) ?_
  refine va_get hx hb hts in_MM hown hK hP 0 rfl rfl 2 (by decide) (hts _ m_755) (fun _ h9 => h9) rfl d_MM_at_1 ?_
  exact hret _ _ _ _ i_goesOn  h d_MM_at_4 hP hD hS
set_option maxHeartbeats 4000000 in
set_option maxRecDepth 100000 in
theorem c_MM_at (l : Launch) (D : va_G) (cI cL cZ : ClassId) (sz N : Nat) (a_this : Nat) (o_in : Nat) (o_out : Nat) (o_counts : Nat) (o_length : Nat) (o_symbolOf : Nat) (o_draft : Nat) (o_knot : Nat) (o_inSum : Nat) (o_halved : Nat) (o_made : Nat) (o_weight : Nat) (o_points : Nat) (o_cutOff : Nat) (o_had : Nat) (o_placeOf : Nat) (i_inLong : Int32) (i_goesOn : Int32) (i_outLong : Int32) (i_greatest : Int32) (i_knots : Int32) (i_bitsMade : Int32) (i_weights : Int32) (i_order : Int32) (i_bit : Int32) (i_bitEnd : Int32) (rv : Int32) (h : f_MM_at N i_goesOn  = some (rv)) : Met l ({ cls := "PrefixMillModel", name := "at", desc := "()I" } : Jvm.MethodName) ws_MM_at R_MM_at (va_Pc [.ref a_this] (fun U => U.heap.size = sz ∧ va_P D classes [(a_this, .inr (1, [.ref o_in, .int i_inLong, .int i_goesOn, .ref o_out, .int i_outLong, .ref o_counts, .int i_greatest, .ref o_length, .ref o_symbolOf, .ref o_draft, .ref o_knot, .ref o_inSum, .int i_knots, .ref o_halved, .ref o_made, .int i_bitsMade, .ref o_weight, .int i_weights, .int i_order, .ref o_points, .ref o_cutOff, .ref o_had, .ref o_placeOf, .int i_bit, .int i_bitEnd]))] U.heap ∧ va_K D classes [(cI, .int), (cL, .long), (cZ, .boolean)] U ∧ va_D (fun _ => True) [(a_this, .inr (1, [.ref o_in, .int i_inLong, .int i_goesOn, .ref o_out, .int i_outLong, .ref o_counts, .int i_greatest, .ref o_length, .ref o_symbolOf, .ref o_draft, .ref o_knot, .ref o_inSum, .int i_knots, .ref o_halved, .ref o_made, .int i_bitsMade, .ref o_weight, .int i_weights, .int i_order, .ref o_points, .ref o_cutOff, .ref o_had, .ref o_placeOf, .int i_bit, .int i_bitEnd]))])) (va_Qi (fun (r0 : Int32) (_ : Unit) => rv = r0) (fun _ t => va_P D classes [(a_this, .inr (1, [.ref o_in, .int i_inLong, .int i_goesOn, .ref o_out, .int i_outLong, .ref o_counts, .int i_greatest, .ref o_length, .ref o_symbolOf, .ref o_draft, .ref o_knot, .ref o_inSum, .int i_knots, .ref o_halved, .ref o_made, .int i_bitsMade, .ref o_weight, .int i_weights, .int i_order, .ref o_points, .ref o_cutOff, .ref o_had, .ref o_placeOf, .int i_bit, .int i_bitEnd]))] t.heap ∧ va_K D classes [(cI, .int), (cL, .long), (cZ, .boolean)] t ∧ va_D (va_A [(a_this, .inr (1, [.ref o_in, .int i_inLong, .int i_goesOn, .ref o_out, .int i_outLong, .ref o_counts, .int i_greatest, .ref o_length, .ref o_symbolOf, .ref o_draft, .ref o_knot, .ref o_inSum, .int i_knots, .ref o_halved, .ref o_made, .int i_bitsMade, .ref o_weight, .int i_weights, .int i_order, .ref o_points, .ref o_cutOff, .ref o_had, .ref o_placeOf, .int i_bit, .int i_bitEnd]))] sz) [(a_this, .inr (1, [.ref o_in, .int i_inLong, .int i_goesOn, .ref o_out, .int i_outLong, .ref o_counts, .int i_greatest, .ref o_length, .ref o_symbolOf, .ref o_draft, .ref o_knot, .ref o_inSum, .int i_knots, .ref o_halved, .ref o_made, .int i_bitsMade, .ref o_weight, .int i_weights, .int i_order, .ref o_points, .ref o_cutOff, .ref o_had, .ref o_placeOf, .int i_bit, .int i_bitEnd]))]) (va_A [(a_this, .inr (1, [.ref o_in, .int i_inLong, .int i_goesOn, .ref o_out, .int i_outLong, .ref o_counts, .int i_greatest, .ref o_length, .ref o_symbolOf, .ref o_draft, .ref o_knot, .ref o_inSum, .int i_knots, .ref o_halved, .ref o_made, .int i_bitsMade, .ref o_weight, .int i_weights, .int i_order, .ref o_points, .ref o_cutOff, .ref o_had, .ref o_placeOf, .int i_bit, .int i_bitEnd]))] sz)) 0 0 (va_A [(a_this, .inr (1, [.ref o_in, .int i_inLong, .int i_goesOn, .ref o_out, .int i_outLong, .ref o_counts, .int i_greatest, .ref o_length, .ref o_symbolOf, .ref o_draft, .ref o_knot, .ref o_inSum, .int i_knots, .ref o_halved, .ref o_made, .int i_bitsMade, .ref o_weight, .int i_weights, .int i_order, .ref o_points, .ref o_cutOff, .ref o_had, .ref o_placeOf, .int i_bit, .int i_bitEnd]))] sz) := by
  refine Met.ofW (cc := b_MM_at) (maxL := 1) (ret := (some .int)) (by decide) rfl ?_
  intro p e s m args below meth c s₁ B hml hv
  obtain ⟨rfl, hsz, hP, hK, hD0⟩ := hv
  have hx := B.exec
  have hb := B.bytes
  have hr := B.returns
  have hts0 := atoms_spec (ws := ws_MM_at) B.pre
  have hts := gd_tl hts0
  clear hts0
  have hown : s.vm.findClass "PrefixMillModel" = some m.cls := findClass_of_methodNamed B.named
  have hlocks := B.notSynchronized
  subst hsz
  have hD := hD0.self (sz := s.heap.size)
  generalize hAe : va_A [(a_this, .inr (1, [.ref o_in, .int i_inLong, .int i_goesOn, .ref o_out, .int i_outLong, .ref o_counts, .int i_greatest, .ref o_length, .ref o_symbolOf, .ref o_draft, .ref o_knot, .ref o_inSum, .int i_knots, .ref o_halved, .ref o_made, .int i_bitsMade, .ref o_weight, .int i_weights, .int i_order, .ref o_points, .ref o_cutOff, .ref o_had, .ref o_placeOf, .int i_bit, .int i_bitEnd]))] s.heap.size = A at hD ⊢
  have hA : ∀ q : Nat, s.heap.size ≤ q → A q := fun q h => by rw [← hAe]; exact Or.inr h
  have hS : va_S A s.heap s.heap [] := va_S.rf
  have hP : va_P D classes [(a_this, .inr (1, [.ref o_in, .int i_inLong, .int i_goesOn, .ref o_out, .int i_outLong, .ref o_counts, .int i_greatest, .ref o_length, .ref o_symbolOf, .ref o_draft, .ref o_knot, .ref o_inSum, .int i_knots, .ref o_halved, .ref o_made, .int i_bitsMade, .ref o_weight, .int i_weights, .int i_order, .ref o_points, .ref o_cutOff, .ref o_had, .ref o_placeOf, .int i_bit, .int i_bitEnd]))] s.heap := hP
  have hl := lv_entry ([.ref a_this]) (n := 1) (Nat.le_of_ble_eq_true rfl)
  rw [lg_entry_eq]
  generalize (lg_sl ([.ref a_this]) ++ List.replicate (1 - (lg_sl ([.ref a_this])).length) Slot.unset).toArray = ls at hl ⊢
  have hl : lv_has ls 1 [(0, .ref a_this)] := hl
  have C : Cx p s m ([.ref a_this] : List Value).toArray c b_MM_at 1 "PrefixMillModel" D [(cI, .int), (cL, .long), (cZ, .boolean)] A := ⟨hx, hb, hml, hown, hts, hK, hA⟩
  refine w_MM_at_b0 (res := (rv)) C ?_ () h s.heap [] ls hl hP hD hS
  intro pc9 H9 locs9 ls9 rv9 e9 d9 hP9 hD9 hS9
  cases e9
  exact W.iret (v := rv) hx hb hr (fun t ht hW => ⟨⟨rv, (), rfl, rfl, by rw [ht]; exact hP9, va_K.moved hW.alike hK, hD9⟩, hS9.F ht⟩) hS9.2.2 d9
abbrev b_MM_count : ByteArray := prog_12_method_8_code
def ws_MM_count : List Cond := .code ({ cls := "PrefixMillModel", name := "count", desc := "(II)Z" } : Jvm.MethodName) b_MM_count 3 (some .boolean) :: tt
theorem d_MM_count_0 : decode b_MM_count 0 = .ok (.iload_n 1, 1) := by decide +kernel
theorem d_MM_count_1 : decode b_MM_count 1 = .ok (.ifCond .lt 20, 3) := by decide +kernel
theorem d_MM_count_4 : decode b_MM_count 4 = .ok (.iload_n 1, 1) := by decide +kernel
theorem d_MM_count_5 : decode b_MM_count 5 = .ok (.sipush 256, 3) := by decide +kernel
theorem d_MM_count_8 : decode b_MM_count 8 = .ok (.if_icmp .ge 13, 3) := by decide +kernel
theorem d_MM_count_11 : decode b_MM_count 11 = .ok (.iload_n 2, 1) := by decide +kernel
theorem d_MM_count_12 : decode b_MM_count 12 = .ok (.ifCond .lt 9, 3) := by decide +kernel
theorem d_MM_count_15 : decode b_MM_count 15 = .ok (.iload_n 2, 1) := by decide +kernel
theorem d_MM_count_16 : decode b_MM_count 16 = .ok (.ldc 68, 2) := by decide +kernel
theorem d_MM_count_18 : decode b_MM_count 18 = .ok (.if_icmp .le 5, 3) := by decide +kernel
theorem d_MM_count_21 : decode b_MM_count 21 = .ok (.iconst 0, 1) := by decide +kernel
theorem d_MM_count_22 : decode b_MM_count 22 = .ok (.ireturn, 1) := by decide +kernel
theorem d_MM_count_23 : decode b_MM_count 23 = .ok (.aload_n 0, 1) := by decide +kernel
theorem d_MM_count_24 : decode b_MM_count 24 = .ok (.getfield 16, 3) := by decide +kernel
theorem d_MM_count_27 : decode b_MM_count 27 = .ok (.iload_n 1, 1) := by decide +kernel
theorem d_MM_count_28 : decode b_MM_count 28 = .ok (.iload_n 2, 1) := by decide +kernel
theorem d_MM_count_29 : decode b_MM_count 29 = .ok (.iastore, 1) := by decide +kernel
theorem d_MM_count_30 : decode b_MM_count 30 = .ok (.iconst 1, 1) := by decide +kernel
theorem d_MM_count_31 : decode b_MM_count 31 = .ok (.ireturn, 1) := by decide +kernel
def f_MM_count_b21 (N : Nat) (l1 : Int32) (l2 : Int32)  (v_counts : Nat → Int32) : Option (Int32 × (Nat → Int32)) :=
  some (0, v_counts)
def f_MM_count (N : Nat) (l1 : Int32) (l2 : Int32)  (v_counts : Nat → Int32) : Option (Int32 × (Nat → Int32)) :=
  if l1 < 0 then
  f_MM_count_b21 N l1 l2  v_counts
  else
  if 256 ≤ l1 then
  f_MM_count_b21 N l1 l2  v_counts
  else
  if l2 < 0 then
  f_MM_count_b21 N l1 l2  v_counts
  else
  if l2 ≤ 65535 then
  ck (inb l1 256) <|
  nm (upd v_counts (Int32.toNatClampNeg l1) l2) fun v_counts_6 =>
  some (1, v_counts_6)
  else
  f_MM_count_b21 N l1 l2  v_counts
abbrev R_MM_count : Room := ({ frames := 0, cells := 0, slots := 0, locals := 0 } : Room)
def E_MM_count (p : Program) (l : Launch) (e : Env) (s : State) (m : MethodId) (args : Array Value) (below : List Frame) (meth : Method) (c : Code) (Q : State → Prop) (A : Nat → Prop) (D : va_G) (cI cL cZ : ClassId) (a_this : Nat) (a_counts : Nat) (o_in : Nat) (o_out : Nat) (o_length : Nat) (o_symbolOf : Nat) (o_draft : Nat) (o_knot : Nat) (o_inSum : Nat) (o_halved : Nat) (o_made : Nat) (o_weight : Nat) (o_points : Nat) (o_cutOff : Nat) (o_had : Nat) (o_placeOf : Nat) (i_inLong : Int32) (i_goesOn : Int32) (i_outLong : Int32) (i_greatest : Int32) (i_knots : Int32) (i_bitsMade : Int32) (i_weights : Int32) (i_order : Int32) (i_bit : Int32) (i_bitEnd : Int32) (l1 : Int32) (l2 : Int32) (res : Int32 × (Nat → Int32)) : Prop := ∀ (pc : Nat) (H : Heap) (locs : List Loc) (ls : Array Slot) (rv : Int32) (v_counts : Nat → Int32), some (rv, v_counts) = some res → narrow .boolean (.int rv) = .int rv → decode b_MM_count pc = .ok (.ireturn, 1) → va_P D classes [(a_this, .inr (1, [.ref o_in, .int i_inLong, .int i_goesOn, .ref o_out, .int i_outLong, .ref a_counts, .int i_greatest, .ref o_length, .ref o_symbolOf, .ref o_draft, .ref o_knot, .ref o_inSum, .int i_knots, .ref o_halved, .ref o_made, .int i_bitsMade, .ref o_weight, .int i_weights, .int i_order, .ref o_points, .ref o_cutOff, .ref o_had, .ref o_placeOf, .int i_bit, .int i_bitEnd])), (a_counts, .inl (cI, 256, .inl v_counts))] H → va_D A [(a_this, .inr (1, [.ref o_in, .int i_inLong, .int i_goesOn, .ref o_out, .int i_outLong, .ref a_counts, .int i_greatest, .ref o_length, .ref o_symbolOf, .ref o_draft, .ref o_knot, .ref o_inSum, .int i_knots, .ref o_halved, .ref o_made, .int i_bitsMade, .ref o_weight, .int i_weights, .int i_order, .ref o_points, .ref o_cutOff, .ref o_had, .ref o_placeOf, .int i_bit, .int i_bitEnd])), (a_counts, .inl (cI, 256, .inl v_counts))] → va_S A s.heap H locs → W p l e R_MM_count s m args below meth c H locs 0 0 Q (F0 m pc ls [.int rv])
def I_MM_count_b21 (p : Program) (l : Launch) (e : Env) (s : State) (m : MethodId) (args : Array Value) (below : List Frame) (meth : Method) (c : Code) (Q : State → Prop) (A : Nat → Prop) (D : va_G) (cI cL cZ : ClassId) (a_this : Nat) (a_counts : Nat) (o_in : Nat) (o_out : Nat) (o_length : Nat) (o_symbolOf : Nat) (o_draft : Nat) (o_knot : Nat) (o_inSum : Nat) (o_halved : Nat) (o_made : Nat) (o_weight : Nat) (o_points : Nat) (o_cutOff : Nat) (o_had : Nat) (o_placeOf : Nat) (i_inLong : Int32) (i_goesOn : Int32) (i_outLong : Int32) (i_greatest : Int32) (i_knots : Int32) (i_bitsMade : Int32) (i_weights : Int32) (i_order : Int32) (i_bit : Int32) (i_bitEnd : Int32) (l1 : Int32) (l2 : Int32) (res : Int32 × (Nat → Int32)) (kf : (Nat → Int32) → Option (Int32 × (Nat → Int32))) : Prop := ∀ (v_counts : Nat → Int32), kf v_counts = some res → ∀ (H : Heap) (locs : List Loc) (ls : Array Slot), lv_has ls 3 [] → va_P D classes [(a_this, .inr (1, [.ref o_in, .int i_inLong, .int i_goesOn, .ref o_out, .int i_outLong, .ref a_counts, .int i_greatest, .ref o_length, .ref o_symbolOf, .ref o_draft, .ref o_knot, .ref o_inSum, .int i_knots, .ref o_halved, .ref o_made, .int i_bitsMade, .ref o_weight, .int i_weights, .int i_order, .ref o_points, .ref o_cutOff, .ref o_had, .ref o_placeOf, .int i_bit, .int i_bitEnd])), (a_counts, .inl (cI, 256, .inl v_counts))] H → va_D A [(a_this, .inr (1, [.ref o_in, .int i_inLong, .int i_goesOn, .ref o_out, .int i_outLong, .ref a_counts, .int i_greatest, .ref o_length, .ref o_symbolOf, .ref o_draft, .ref o_knot, .ref o_inSum, .int i_knots, .ref o_halved, .ref o_made, .int i_bitsMade, .ref o_weight, .int i_weights, .int i_order, .ref o_points, .ref o_cutOff, .ref o_had, .ref o_placeOf, .int i_bit, .int i_bitEnd])), (a_counts, .inl (cI, 256, .inl v_counts))] → va_S A s.heap H locs → W p l e R_MM_count s m args below meth c H locs 0 0 Q (F0 m 21 ls [])
def I_MM_count_b0 (p : Program) (l : Launch) (e : Env) (s : State) (m : MethodId) (args : Array Value) (below : List Frame) (meth : Method) (c : Code) (Q : State → Prop) (A : Nat → Prop) (D : va_G) (cI cL cZ : ClassId) (a_this : Nat) (a_counts : Nat) (o_in : Nat) (o_out : Nat) (o_length : Nat) (o_symbolOf : Nat) (o_draft : Nat) (o_knot : Nat) (o_inSum : Nat) (o_halved : Nat) (o_made : Nat) (o_weight : Nat) (o_points : Nat) (o_cutOff : Nat) (o_had : Nat) (o_placeOf : Nat) (i_inLong : Int32) (i_goesOn : Int32) (i_outLong : Int32) (i_greatest : Int32) (i_knots : Int32) (i_bitsMade : Int32) (i_weights : Int32) (i_order : Int32) (i_bit : Int32) (i_bitEnd : Int32) (l1 : Int32) (l2 : Int32) (res : Int32 × (Nat → Int32)) (kf : (Nat → Int32) → Option (Int32 × (Nat → Int32))) : Prop := ∀ (v_counts : Nat → Int32), kf v_counts = some res → ∀ (H : Heap) (locs : List Loc) (ls : Array Slot), lv_has ls 3 [(0, .ref a_this), (1, .int l1), (2, .int l2)] → va_P D classes [(a_this, .inr (1, [.ref o_in, .int i_inLong, .int i_goesOn, .ref o_out, .int i_outLong, .ref a_counts, .int i_greatest, .ref o_length, .ref o_symbolOf, .ref o_draft, .ref o_knot, .ref o_inSum, .int i_knots, .ref o_halved, .ref o_made, .int i_bitsMade, .ref o_weight, .int i_weights, .int i_order, .ref o_points, .ref o_cutOff, .ref o_had, .ref o_placeOf, .int i_bit, .int i_bitEnd])), (a_counts, .inl (cI, 256, .inl v_counts))] H → va_D A [(a_this, .inr (1, [.ref o_in, .int i_inLong, .int i_goesOn, .ref o_out, .int i_outLong, .ref a_counts, .int i_greatest, .ref o_length, .ref o_symbolOf, .ref o_draft, .ref o_knot, .ref o_inSum, .int i_knots, .ref o_halved, .ref o_made, .int i_bitsMade, .ref o_weight, .int i_weights, .int i_order, .ref o_points, .ref o_cutOff, .ref o_had, .ref o_placeOf, .int i_bit, .int i_bitEnd])), (a_counts, .inl (cI, 256, .inl v_counts))] → va_S A s.heap H locs → W p l e R_MM_count s m args below meth c H locs 0 0 Q (F0 m 0 ls [])
set_option maxHeartbeats 4000000 in
set_option maxRecDepth 100000 in
theorem w_MM_count_b21 {p : Program} {l : Launch} {e : Env} {s : State} {m : MethodId} {args : Array Value} {below : List Frame} {meth : Method} {c : Code} {Q : State → Prop} {A : Nat → Prop} {D : va_G} {cI cL cZ : ClassId} {a_this : Nat} {a_counts : Nat} {o_in : Nat} {o_out : Nat} {o_length : Nat} {o_symbolOf : Nat} {o_draft : Nat} {o_knot : Nat} {o_inSum : Nat} {o_halved : Nat} {o_made : Nat} {o_weight : Nat} {o_points : Nat} {o_cutOff : Nat} {o_had : Nat} {o_placeOf : Nat} {i_inLong : Int32} {i_goesOn : Int32} {i_outLong : Int32} {i_greatest : Int32} {i_knots : Int32} {i_bitsMade : Int32} {i_weights : Int32} {i_order : Int32} {i_bit : Int32} {i_bitEnd : Int32} {l1 : Int32} {l2 : Int32} {N : Nat} {res : Int32 × (Nat → Int32)}  (C : Cx p s m args c b_MM_count 3 "PrefixMillModel" D [(cI, .int), (cL, .long), (cZ, .boolean)] A) (hret : E_MM_count p l e s m args below meth c Q A D cI cL cZ a_this a_counts o_in o_out o_length o_symbolOf o_draft o_knot o_inSum o_halved o_made o_weight o_points o_cutOff o_had o_placeOf i_inLong i_goesOn i_outLong i_greatest i_knots i_bitsMade i_weights i_order i_bit i_bitEnd l1 l2 res)  : I_MM_count_b21 p l e s m args below meth c Q A D cI cL cZ a_this a_counts o_in o_out o_length o_symbolOf o_draft o_knot o_inSum o_halved o_made o_weight o_points o_cutOff o_had o_placeOf i_inLong i_goesOn i_outLong i_greatest i_knots i_bitsMade i_weights i_order i_bit i_bitEnd l1 l2 res (f_MM_count_b21 N l1 l2 ) := by
  obtain ⟨hx, hb, hml, hown, hts, hK, hA⟩ := C
  intro v_counts h H locs ls hl hP hD hS
  unfold f_MM_count_b21 at h
  refine lv_iconst (v := 0) hx hb d_MM_count_21 (by decide) ?_
  exact hret _ _ _ _ 0 v_counts h rfl d_MM_count_22 hP hD hS
set_option maxHeartbeats 4000000 in
set_option maxRecDepth 100000 in
theorem w_MM_count_b0 {p : Program} {l : Launch} {e : Env} {s : State} {m : MethodId} {args : Array Value} {below : List Frame} {meth : Method} {c : Code} {Q : State → Prop} {A : Nat → Prop} {D : va_G} {cI cL cZ : ClassId} {a_this : Nat} {a_counts : Nat} {o_in : Nat} {o_out : Nat} {o_length : Nat} {o_symbolOf : Nat} {o_draft : Nat} {o_knot : Nat} {o_inSum : Nat} {o_halved : Nat} {o_made : Nat} {o_weight : Nat} {o_points : Nat} {o_cutOff : Nat} {o_had : Nat} {o_placeOf : Nat} {i_inLong : Int32} {i_goesOn : Int32} {i_outLong : Int32} {i_greatest : Int32} {i_knots : Int32} {i_bitsMade : Int32} {i_weights : Int32} {i_order : Int32} {i_bit : Int32} {i_bitEnd : Int32} {l1 : Int32} {l2 : Int32} {N : Nat} {res : Int32 × (Nat → Int32)}  (C : Cx p s m args c b_MM_count 3 "PrefixMillModel" D [(cI, .int), (cL, .long), (cZ, .boolean)] A) (hret : E_MM_count p l e s m args below meth c Q A D cI cL cZ a_this a_counts o_in o_out o_length o_symbolOf o_draft o_knot o_inSum o_halved o_made o_weight o_points o_cutOff o_had o_placeOf i_inLong i_goesOn i_outLong i_greatest i_knots i_bitsMade i_weights i_order i_bit i_bitEnd l1 l2 res)  : I_MM_count_b0 p l e s m args below meth c Q A D cI cL cZ a_this a_counts o_in o_out o_length o_symbolOf o_draft o_knot o_inSum o_halved o_made o_weight o_points o_cutOff o_had o_placeOf i_inLong i_goesOn i_outLong i_greatest i_knots i_bitsMade i_weights i_order i_bit i_bitEnd l1 l2 res (f_MM_count N l1 l2 ) := by
  obtain ⟨hx, hb, hml, hown, hts, hK, hA⟩ := C
  intro v_counts h H locs ls hl hP hD hS
  unfold f_MM_count at h
  refine lv_iload_n hx hb d_MM_count_0 rfl (lv_at hl 1 rfl) ?_
  refine lv_if_lt (tgt := 21) hx hb d_MM_count_1 (by decide) (fun c_1 => ?_) (fun c_1 => ?_)
  · replace h := if_t h c_1
    exact w_MM_count_b21 ⟨hx, hb, hml, hown, hts, hK, hA⟩ hret  _ h H locs ls (lv_sub hl [] rfl) hP hD hS
  · replace h := if_f h c_1
    refine lv_iload_n hx hb d_MM_count_4 rfl (lv_at hl 1 rfl) ?_
    refine lv_sipush (v := 256) hx hb d_MM_count_5 (by decide) ?_
    refine lv_icmp_ge (tgt := 21) hx hb d_MM_count_8 (by decide) (fun c_2 => ?_) (fun c_2 => ?_)
    · replace h := if_t h c_2
      exact w_MM_count_b21 ⟨hx, hb, hml, hown, hts, hK, hA⟩ hret  _ h H locs ls (lv_sub hl [] rfl) hP hD hS
    · replace h := if_f h c_2
      refine lv_iload_n hx hb d_MM_count_11 rfl (lv_at hl 2 rfl) ?_
      refine lv_if_lt (tgt := 21) hx hb d_MM_count_12 (by decide) (fun c_3 => ?_) (fun c_3 => ?_)
      · replace h := if_t h c_3
        exact w_MM_count_b21 ⟨hx, hb, hml, hown, hts, hK, hA⟩ hret  _ h H locs ls (lv_sub hl [] rfl) hP hD hS
      · replace h := if_f h c_3
        refine lv_iload_n hx hb d_MM_count_15 rfl (lv_at hl 2 rfl) ?_
        refine lv_ldc (v := 65535) hx hb hown (hts _ m_859) d_MM_count_16 ?_
        refine lv_icmp_le (tgt := 23) hx hb d_MM_count_18 (by decide) (fun c_4 => ?_) (fun c_4 => ?_)
        · replace h := if_t h c_4
          refine lv_aload_n hx hb d_MM_count_23 rfl (lv_at hl 0 rfl) ?_
          refine va_get hx hb hts in_MM hown hK hP 0 rfl rfl 5 (by decide) (hts _ m_758) (fun _ h9 => h9) rfl d_MM_count_24 ?_
          refine lv_iload_n hx hb d_MM_count_27 rfl (lv_at hl 1 rfl) ?_
          refine lv_iload_n hx hb d_MM_count_28 rfl (lv_at hl 2 rfl) ?_
          obtain ⟨g_5, h⟩ := ck_s h
          refine va_iast hx hb hK hP hD hS 1 0 rfl rfl (inb_s g_5) d_MM_count_29 (fun H locs hP hD hS => ?_)
          obtain ⟨v_counts_6, ev_counts_6⟩ : ∃ y, y = (upd v_counts (Int32.toNatClampNeg l1) l2) := ⟨_, rfl⟩
          replace h := nm_s h ev_counts_6
          have hP : va_P D classes [(a_this, .inr (1, [.ref o_in, .int i_inLong, .int i_goesOn, .ref o_out, .int i_outLong, .ref a_counts, .int i_greatest, .ref o_length, .ref o_symbolOf, .ref o_draft, .ref o_knot, .ref o_inSum, .int i_knots, .ref o_halved, .ref o_made, .int i_bitsMade, .ref o_weight, .int i_weights, .int i_order, .ref o_points, .ref o_cutOff, .ref o_had, .ref o_placeOf, .int i_bit, .int i_bitEnd])), (a_counts, .inl (cI, 256, .inl v_counts_6))] H := by rw [ev_counts_6]; exact hP
          have hD : va_D A [(a_this, .inr (1, [.ref o_in, .int i_inLong, .int i_goesOn, .ref o_out, .int i_outLong, .ref a_counts, .int i_greatest, .ref o_length, .ref o_symbolOf, .ref o_draft, .ref o_knot, .ref o_inSum, .int i_knots, .ref o_halved, .ref o_made, .int i_bitsMade, .ref o_weight, .int i_weights, .int i_order, .ref o_points, .ref o_cutOff, .ref o_had, .ref o_placeOf, .int i_bit, .int i_bitEnd])), (a_counts, .inl (cI, 256, .inl v_counts_6))] := by rw [ev_counts_6]; exact hD
          refine lv_iconst (v := 1) hx hb d_MM_count_30 (by decide) ?_
          exact hret _ _ _ _ 1 v_counts_6 h rfl d_MM_count_31 hP hD hS
        · replace h := if_f h c_4
          exact w_MM_count_b21 ⟨hx, hb, hml, hown, hts, hK, hA⟩ hret  _ h H locs ls (lv_sub hl [] rfl) hP hD hS
set_option maxHeartbeats 4000000 in
set_option maxRecDepth 100000 in
theorem c_MM_count (l : Launch) (D : va_G) (cI cL cZ : ClassId) (sz N : Nat) (a_this : Nat) (a_counts : Nat) (o_in : Nat) (o_out : Nat) (o_length : Nat) (o_symbolOf : Nat) (o_draft : Nat) (o_knot : Nat) (o_inSum : Nat) (o_halved : Nat) (o_made : Nat) (o_weight : Nat) (o_points : Nat) (o_cutOff : Nat) (o_had : Nat) (o_placeOf : Nat) (i_inLong : Int32) (i_goesOn : Int32) (i_outLong : Int32) (i_greatest : Int32) (i_knots : Int32) (i_bitsMade : Int32) (i_weights : Int32) (i_order : Int32) (i_bit : Int32) (i_bitEnd : Int32) (v_counts : Nat → Int32) (l1 : Int32) (l2 : Int32) (rv : Int32) (v_counts' : Nat → Int32) (h : f_MM_count N l1 l2 v_counts = some (rv, v_counts')) : Met l ({ cls := "PrefixMillModel", name := "count", desc := "(II)Z" } : Jvm.MethodName) ws_MM_count R_MM_count (va_Pc [.ref a_this, .int l1, .int l2] (fun U => U.heap.size = sz ∧ va_P D classes [(a_this, .inr (1, [.ref o_in, .int i_inLong, .int i_goesOn, .ref o_out, .int i_outLong, .ref a_counts, .int i_greatest, .ref o_length, .ref o_symbolOf, .ref o_draft, .ref o_knot, .ref o_inSum, .int i_knots, .ref o_halved, .ref o_made, .int i_bitsMade, .ref o_weight, .int i_weights, .int i_order, .ref o_points, .ref o_cutOff, .ref o_had, .ref o_placeOf, .int i_bit, .int i_bitEnd])), (a_counts, .inl (cI, 256, .inl v_counts))] U.heap ∧ va_K D classes [(cI, .int), (cL, .long), (cZ, .boolean)] U ∧ va_D (fun _ => True) [(a_this, .inr (1, [.ref o_in, .int i_inLong, .int i_goesOn, .ref o_out, .int i_outLong, .ref a_counts, .int i_greatest, .ref o_length, .ref o_symbolOf, .ref o_draft, .ref o_knot, .ref o_inSum, .int i_knots, .ref o_halved, .ref o_made, .int i_bitsMade, .ref o_weight, .int i_weights, .int i_order, .ref o_points, .ref o_cutOff, .ref o_had, .ref o_placeOf, .int i_bit, .int i_bitEnd])), (a_counts, .inl (cI, 256, .inl v_counts))])) (va_Qi (fun (r0 : Int32) (_ : Unit) => rv = r0) (fun _ t => va_P D classes [(a_this, .inr (1, [.ref o_in, .int i_inLong, .int i_goesOn, .ref o_out, .int i_outLong, .ref a_counts, .int i_greatest, .ref o_length, .ref o_symbolOf, .ref o_draft, .ref o_knot, .ref o_inSum, .int i_knots, .ref o_halved, .ref o_made, .int i_bitsMade, .ref o_weight, .int i_weights, .int i_order, .ref o_points, .ref o_cutOff, .ref o_had, .ref o_placeOf, .int i_bit, .int i_bitEnd])), (a_counts, .inl (cI, 256, .inl v_counts'))] t.heap ∧ va_K D classes [(cI, .int), (cL, .long), (cZ, .boolean)] t ∧ va_D (va_A [(a_this, .inr (1, [.ref o_in, .int i_inLong, .int i_goesOn, .ref o_out, .int i_outLong, .ref a_counts, .int i_greatest, .ref o_length, .ref o_symbolOf, .ref o_draft, .ref o_knot, .ref o_inSum, .int i_knots, .ref o_halved, .ref o_made, .int i_bitsMade, .ref o_weight, .int i_weights, .int i_order, .ref o_points, .ref o_cutOff, .ref o_had, .ref o_placeOf, .int i_bit, .int i_bitEnd])), (a_counts, .inl (cI, 256, .inl v_counts))] sz) [(a_this, .inr (1, [.ref o_in, .int i_inLong, .int i_goesOn, .ref o_out, .int i_outLong, .ref a_counts, .int i_greatest, .ref o_length, .ref o_symbolOf, .ref o_draft, .ref o_knot, .ref o_inSum, .int i_knots, .ref o_halved, .ref o_made, .int i_bitsMade, .ref o_weight, .int i_weights, .int i_order, .ref o_points, .ref o_cutOff, .ref o_had, .ref o_placeOf, .int i_bit, .int i_bitEnd])), (a_counts, .inl (cI, 256, .inl v_counts'))]) (va_A [(a_this, .inr (1, [.ref o_in, .int i_inLong, .int i_goesOn, .ref o_out, .int i_outLong, .ref a_counts, .int i_greatest, .ref o_length, .ref o_symbolOf, .ref o_draft, .ref o_knot, .ref o_inSum, .int i_knots, .ref o_halved, .ref o_made, .int i_bitsMade, .ref o_weight, .int i_weights, .int i_order, .ref o_points, .ref o_cutOff, .ref o_had, .ref o_placeOf, .int i_bit, .int i_bitEnd])), (a_counts, .inl (cI, 256, .inl v_counts))] sz)) 0 0 (va_A [(a_this, .inr (1, [.ref o_in, .int i_inLong, .int i_goesOn, .ref o_out, .int i_outLong, .ref a_counts, .int i_greatest, .ref o_length, .ref o_symbolOf, .ref o_draft, .ref o_knot, .ref o_inSum, .int i_knots, .ref o_halved, .ref o_made, .int i_bitsMade, .ref o_weight, .int i_weights, .int i_order, .ref o_points, .ref o_cutOff, .ref o_had, .ref o_placeOf, .int i_bit, .int i_bitEnd])), (a_counts, .inl (cI, 256, .inl v_counts))] sz) := by
  refine Met.ofW (cc := b_MM_count) (maxL := 3) (ret := (some .boolean)) (by decide) rfl ?_
  intro p e s m args below meth c s₁ B hml hv
  obtain ⟨rfl, hsz, hP, hK, hD0⟩ := hv
  have hx := B.exec
  have hb := B.bytes
  have hr := B.returns
  have hts0 := atoms_spec (ws := ws_MM_count) B.pre
  have hts := gd_tl hts0
  clear hts0
  have hown : s.vm.findClass "PrefixMillModel" = some m.cls := findClass_of_methodNamed B.named
  have hlocks := B.notSynchronized
  subst hsz
  have hD := hD0.self (sz := s.heap.size)
  generalize hAe : va_A [(a_this, .inr (1, [.ref o_in, .int i_inLong, .int i_goesOn, .ref o_out, .int i_outLong, .ref a_counts, .int i_greatest, .ref o_length, .ref o_symbolOf, .ref o_draft, .ref o_knot, .ref o_inSum, .int i_knots, .ref o_halved, .ref o_made, .int i_bitsMade, .ref o_weight, .int i_weights, .int i_order, .ref o_points, .ref o_cutOff, .ref o_had, .ref o_placeOf, .int i_bit, .int i_bitEnd])), (a_counts, .inl (cI, 256, .inl v_counts))] s.heap.size = A at hD ⊢
  have hA : ∀ q : Nat, s.heap.size ≤ q → A q := fun q h => by rw [← hAe]; exact Or.inr h
  have hS : va_S A s.heap s.heap [] := va_S.rf
  have hP : va_P D classes [(a_this, .inr (1, [.ref o_in, .int i_inLong, .int i_goesOn, .ref o_out, .int i_outLong, .ref a_counts, .int i_greatest, .ref o_length, .ref o_symbolOf, .ref o_draft, .ref o_knot, .ref o_inSum, .int i_knots, .ref o_halved, .ref o_made, .int i_bitsMade, .ref o_weight, .int i_weights, .int i_order, .ref o_points, .ref o_cutOff, .ref o_had, .ref o_placeOf, .int i_bit, .int i_bitEnd])), (a_counts, .inl (cI, 256, .inl v_counts))] s.heap := hP
  have hl := lv_entry ([.ref a_this, .int l1, .int l2]) (n := 3) (Nat.le_of_ble_eq_true rfl)
  rw [lg_entry_eq]
  generalize (lg_sl ([.ref a_this, .int l1, .int l2]) ++ List.replicate (3 - (lg_sl ([.ref a_this, .int l1, .int l2])).length) Slot.unset).toArray = ls at hl ⊢
  have hl : lv_has ls 3 [(0, .ref a_this), (1, .int l1), (2, .int l2)] := hl
  have C : Cx p s m ([.ref a_this, .int l1, .int l2] : List Value).toArray c b_MM_count 3 "PrefixMillModel" D [(cI, .int), (cL, .long), (cZ, .boolean)] A := ⟨hx, hb, hml, hown, hts, hK, hA⟩
  refine w_MM_count_b0 (res := (rv, v_counts')) C ?_ _ h s.heap [] ls hl hP hD hS
  intro pc9 H9 locs9 ls9 rv9 v_counts9 e9 z9 d9 hP9 hD9 hS9
  cases e9
  exact W.zret (v := rv) hx hb hr z9 (fun t ht hW => ⟨⟨rv, (), rfl, rfl, by rw [ht]; exact hP9, va_K.moved hW.alike hK, hD9⟩, hS9.F ht⟩) hS9.2.2 d9
abbrev b_MM_countAll : ByteArray := prog_12_method_9_code
def ws_MM_countAll : List Cond := .code ({ cls := "PrefixMillModel", name := "countAll", desc := "()I" } : Jvm.MethodName) b_MM_countAll 2 (some .int) :: tt
theorem d_MM_countAll_0 : decode b_MM_countAll 0 = .ok (.iconst 0, 1) := by decide +kernel
theorem d_MM_countAll_1 : decode b_MM_countAll 1 = .ok (.istore_n 1, 1) := by decide +kernel
theorem d_MM_countAll_2 : decode b_MM_countAll 2 = .ok (.iload_n 1, 1) := by decide +kernel
theorem d_MM_countAll_3 : decode b_MM_countAll 3 = .ok (.sipush 256, 3) := by decide +kernel
theorem d_MM_countAll_6 : decode b_MM_countAll 6 = .ok (.if_icmp .ge 16, 3) := by decide +kernel
theorem d_MM_countAll_9 : decode b_MM_countAll 9 = .ok (.aload_n 0, 1) := by decide +kernel
theorem d_MM_countAll_10 : decode b_MM_countAll 10 = .ok (.getfield 16, 3) := by decide +kernel
theorem d_MM_countAll_13 : decode b_MM_countAll 13 = .ok (.iload_n 1, 1) := by decide +kernel
theorem d_MM_countAll_14 : decode b_MM_countAll 14 = .ok (.iconst 0, 1) := by decide +kernel
theorem d_MM_countAll_15 : decode b_MM_countAll 15 = .ok (.iastore, 1) := by decide +kernel
theorem d_MM_countAll_16 : decode b_MM_countAll 16 = .ok (.iinc 1 1, 3) := by decide +kernel
theorem d_MM_countAll_19 : decode b_MM_countAll 19 = .ok (.goto (-17), 3) := by decide +kernel
theorem d_MM_countAll_22 : decode b_MM_countAll 22 = .ok (.aload_n 0, 1) := by decide +kernel
theorem d_MM_countAll_23 : decode b_MM_countAll 23 = .ok (.getfield 65, 3) := by decide +kernel
theorem d_MM_countAll_26 : decode b_MM_countAll 26 = .ok (.istore_n 1, 1) := by decide +kernel
theorem d_MM_countAll_27 : decode b_MM_countAll 27 = .ok (.iload_n 1, 1) := by decide +kernel
theorem d_MM_countAll_28 : decode b_MM_countAll 28 = .ok (.aload_n 0, 1) := by decide +kernel
theorem d_MM_countAll_29 : decode b_MM_countAll 29 = .ok (.getfield 56, 3) := by decide +kernel
theorem d_MM_countAll_32 : decode b_MM_countAll 32 = .ok (.if_icmp .ge 24, 3) := by decide +kernel
theorem d_MM_countAll_35 : decode b_MM_countAll 35 = .ok (.aload_n 0, 1) := by decide +kernel
theorem d_MM_countAll_36 : decode b_MM_countAll 36 = .ok (.getfield 16, 3) := by decide +kernel
theorem d_MM_countAll_39 : decode b_MM_countAll 39 = .ok (.aload_n 0, 1) := by decide +kernel
theorem d_MM_countAll_40 : decode b_MM_countAll 40 = .ok (.getfield 7, 3) := by decide +kernel
theorem d_MM_countAll_43 : decode b_MM_countAll 43 = .ok (.iload_n 1, 1) := by decide +kernel
theorem d_MM_countAll_44 : decode b_MM_countAll 44 = .ok (.iaload, 1) := by decide +kernel
theorem d_MM_countAll_45 : decode b_MM_countAll 45 = .ok (.dup2, 1) := by decide +kernel
theorem d_MM_countAll_46 : decode b_MM_countAll 46 = .ok (.iaload, 1) := by decide +kernel
theorem d_MM_countAll_47 : decode b_MM_countAll 47 = .ok (.iconst 1, 1) := by decide +kernel
theorem d_MM_countAll_48 : decode b_MM_countAll 48 = .ok (.iadd, 1) := by decide +kernel
theorem d_MM_countAll_49 : decode b_MM_countAll 49 = .ok (.iastore, 1) := by decide +kernel
theorem d_MM_countAll_50 : decode b_MM_countAll 50 = .ok (.iinc 1 1, 3) := by decide +kernel
theorem d_MM_countAll_53 : decode b_MM_countAll 53 = .ok (.goto (-26), 3) := by decide +kernel
theorem d_MM_countAll_56 : decode b_MM_countAll 56 = .ok (.aload_n 0, 1) := by decide +kernel
theorem d_MM_countAll_57 : decode b_MM_countAll 57 = .ok (.getfield 56, 3) := by decide +kernel
theorem d_MM_countAll_60 : decode b_MM_countAll 60 = .ok (.aload_n 0, 1) := by decide +kernel
theorem d_MM_countAll_61 : decode b_MM_countAll 61 = .ok (.getfield 65, 3) := by decide +kernel
theorem d_MM_countAll_64 : decode b_MM_countAll 64 = .ok (.isub, 1) := by decide +kernel
theorem d_MM_countAll_65 : decode b_MM_countAll 65 = .ok (.ireturn, 1) := by decide +kernel
def f_MM_countAll_b56 (N : Nat) (i_inLong : Int32) (i_goesOn : Int32) (v_in : Nat → Int32)  (v_counts : Nat → Int32) : Option (Int32 × (Nat → Int32)) :=
  some ((i_inLong - i_goesOn), v_counts)
def f_MM_countAll_b27 (N : Nat) (i_inLong : Int32) (i_goesOn : Int32) (v_in : Nat → Int32)  : Nat → Int32 → (Nat → Int32) → Option (Int32 × (Nat → Int32))
  | 0, _, _ => none
  | z + 1, l1, v_counts =>
  if i_inLong ≤ l1 then
  f_MM_countAll_b56 N i_inLong i_goesOn v_in  v_counts
  else
  ck (inb l1 6000) <|
  ck (inb (v_in (Int32.toNatClampNeg l1)) 256) <|
  ck (inb (v_in (Int32.toNatClampNeg l1)) 256) <|
  nm (upd v_counts (Int32.toNatClampNeg (v_in (Int32.toNatClampNeg l1))) ((v_counts (Int32.toNatClampNeg (v_in (Int32.toNatClampNeg l1)))) + 1)) fun v_counts_5 =>
  nm (l1 + 1) fun l1_6 =>
  f_MM_countAll_b27 N i_inLong i_goesOn v_in  z l1_6 v_counts_5
def f_MM_countAll_b22 (N : Nat) (i_inLong : Int32) (i_goesOn : Int32) (v_in : Nat → Int32)  (v_counts : Nat → Int32) : Option (Int32 × (Nat → Int32)) :=
  f_MM_countAll_b27 N i_inLong i_goesOn v_in  N i_goesOn v_counts
def f_MM_countAll_b2 (N : Nat) (i_inLong : Int32) (i_goesOn : Int32) (v_in : Nat → Int32)  : Nat → Int32 → (Nat → Int32) → Option (Int32 × (Nat → Int32))
  | 0, _, _ => none
  | z + 1, l1, v_counts =>
  if 256 ≤ l1 then
  f_MM_countAll_b22 N i_inLong i_goesOn v_in  v_counts
  else
  ck (inb l1 256) <|
  nm (upd v_counts (Int32.toNatClampNeg l1) 0) fun v_counts_3 =>
  nm (l1 + 1) fun l1_4 =>
  f_MM_countAll_b2 N i_inLong i_goesOn v_in  z l1_4 v_counts_3
def f_MM_countAll (N : Nat) (i_inLong : Int32) (i_goesOn : Int32) (v_in : Nat → Int32)  (v_counts : Nat → Int32) : Option (Int32 × (Nat → Int32)) :=
  f_MM_countAll_b2 N i_inLong i_goesOn v_in  N 0 v_counts
abbrev R_MM_countAll : Room := ({ frames := 0, cells := 0, slots := 0, locals := 0 } : Room)
def E_MM_countAll (p : Program) (l : Launch) (e : Env) (s : State) (m : MethodId) (args : Array Value) (below : List Frame) (meth : Method) (c : Code) (Q : State → Prop) (A : Nat → Prop) (D : va_G) (cI cL cZ : ClassId) (a_this : Nat) (a_in : Nat) (a_counts : Nat) (o_out : Nat) (o_length : Nat) (o_symbolOf : Nat) (o_draft : Nat) (o_knot : Nat) (o_inSum : Nat) (o_halved : Nat) (o_made : Nat) (o_weight : Nat) (o_points : Nat) (o_cutOff : Nat) (o_had : Nat) (o_placeOf : Nat) (i_inLong : Int32) (i_goesOn : Int32) (i_outLong : Int32) (i_greatest : Int32) (i_knots : Int32) (i_bitsMade : Int32) (i_weights : Int32) (i_order : Int32) (i_bit : Int32) (i_bitEnd : Int32) (v_in : Nat → Int32) (res : Int32 × (Nat → Int32)) : Prop := ∀ (pc : Nat) (H : Heap) (locs : List Loc) (ls : Array Slot) (rv : Int32) (v_counts : Nat → Int32), some (rv, v_counts) = some res → decode b_MM_countAll pc = .ok (.ireturn, 1) → va_P D classes [(a_this, .inr (1, [.ref a_in, .int i_inLong, .int i_goesOn, .ref o_out, .int i_outLong, .ref a_counts, .int i_greatest, .ref o_length, .ref o_symbolOf, .ref o_draft, .ref o_knot, .ref o_inSum, .int i_knots, .ref o_halved, .ref o_made, .int i_bitsMade, .ref o_weight, .int i_weights, .int i_order, .ref o_points, .ref o_cutOff, .ref o_had, .ref o_placeOf, .int i_bit, .int i_bitEnd])), (a_in, .inl (cI, 6000, .inl v_in)), (a_counts, .inl (cI, 256, .inl v_counts))] H → va_D A [(a_this, .inr (1, [.ref a_in, .int i_inLong, .int i_goesOn, .ref o_out, .int i_outLong, .ref a_counts, .int i_greatest, .ref o_length, .ref o_symbolOf, .ref o_draft, .ref o_knot, .ref o_inSum, .int i_knots, .ref o_halved, .ref o_made, .int i_bitsMade, .ref o_weight, .int i_weights, .int i_order, .ref o_points, .ref o_cutOff, .ref o_had, .ref o_placeOf, .int i_bit, .int i_bitEnd])), (a_in, .inl (cI, 6000, .inl v_in)), (a_counts, .inl (cI, 256, .inl v_counts))] → va_S A s.heap H locs → W p l e R_MM_countAll s m args below meth c H locs 0 0 Q (F0 m pc ls [.int rv])
def I_MM_countAll_b56 (p : Program) (l : Launch) (e : Env) (s : State) (m : MethodId) (args : Array Value) (below : List Frame) (meth : Method) (c : Code) (Q : State → Prop) (A : Nat → Prop) (D : va_G) (cI cL cZ : ClassId) (a_this : Nat) (a_in : Nat) (a_counts : Nat) (o_out : Nat) (o_length : Nat) (o_symbolOf : Nat) (o_draft : Nat) (o_knot : Nat) (o_inSum : Nat) (o_halved : Nat) (o_made : Nat) (o_weight : Nat) (o_points : Nat) (o_cutOff : Nat) (o_had : Nat) (o_placeOf : Nat) (i_inLong : Int32) (i_goesOn : Int32) (i_outLong : Int32) (i_greatest : Int32) (i_knots : Int32) (i_bitsMade : Int32) (i_weights : Int32) (i_order : Int32) (i_bit : Int32) (i_bitEnd : Int32) (v_in : Nat → Int32) (res : Int32 × (Nat → Int32)) (kf : (Nat → Int32) → Option (Int32 × (Nat → Int32))) : Prop := ∀ (v_counts : Nat → Int32), kf v_counts = some res → ∀ (H : Heap) (locs : List Loc) (ls : Array Slot), lv_has ls 2 [(0, .ref a_this)] → va_P D classes [(a_this, .inr (1, [.ref a_in, .int i_inLong, .int i_goesOn, .ref o_out, .int i_outLong, .ref a_counts, .int i_greatest, .ref o_length, .ref o_symbolOf, .ref o_draft, .ref o_knot, .ref o_inSum, .int i_knots, .ref o_halved, .ref o_made, .int i_bitsMade, .ref o_weight, .int i_weights, .int i_order, .ref o_points, .ref o_cutOff, .ref o_had, .ref o_placeOf, .int i_bit, .int i_bitEnd])), (a_in, .inl (cI, 6000, .inl v_in)), (a_counts, .inl (cI, 256, .inl v_counts))] H → va_D A [(a_this, .inr (1, [.ref a_in, .int i_inLong, .int i_goesOn, .ref o_out, .int i_outLong, .ref a_counts, .int i_greatest, .ref o_length, .ref o_symbolOf, .ref o_draft, .ref o_knot, .ref o_inSum, .int i_knots, .ref o_halved, .ref o_made, .int i_bitsMade, .ref o_weight, .int i_weights, .int i_order, .ref o_points, .ref o_cutOff, .ref o_had, .ref o_placeOf, .int i_bit, .int i_bitEnd])), (a_in, .inl (cI, 6000, .inl v_in)), (a_counts, .inl (cI, 256, .inl v_counts))] → va_S A s.heap H locs → W p l e R_MM_countAll s m args below meth c H locs 0 0 Q (F0 m 56 ls [])
def I_MM_countAll_b27 (p : Program) (l : Launch) (e : Env) (s : State) (m : MethodId) (args : Array Value) (below : List Frame) (meth : Method) (c : Code) (Q : State → Prop) (A : Nat → Prop) (D : va_G) (cI cL cZ : ClassId) (a_this : Nat) (a_in : Nat) (a_counts : Nat) (o_out : Nat) (o_length : Nat) (o_symbolOf : Nat) (o_draft : Nat) (o_knot : Nat) (o_inSum : Nat) (o_halved : Nat) (o_made : Nat) (o_weight : Nat) (o_points : Nat) (o_cutOff : Nat) (o_had : Nat) (o_placeOf : Nat) (i_inLong : Int32) (i_goesOn : Int32) (i_outLong : Int32) (i_greatest : Int32) (i_knots : Int32) (i_bitsMade : Int32) (i_weights : Int32) (i_order : Int32) (i_bit : Int32) (i_bitEnd : Int32) (v_in : Nat → Int32) (res : Int32 × (Nat → Int32)) (kf : Int32 → (Nat → Int32) → Option (Int32 × (Nat → Int32))) : Prop := ∀ (l1 : Int32) (v_counts : Nat → Int32), kf l1 v_counts = some res → ∀ (H : Heap) (locs : List Loc) (ls : Array Slot), lv_has ls 2 [(0, .ref a_this), (1, .int l1)] → va_P D classes [(a_this, .inr (1, [.ref a_in, .int i_inLong, .int i_goesOn, .ref o_out, .int i_outLong, .ref a_counts, .int i_greatest, .ref o_length, .ref o_symbolOf, .ref o_draft, .ref o_knot, .ref o_inSum, .int i_knots, .ref o_halved, .ref o_made, .int i_bitsMade, .ref o_weight, .int i_weights, .int i_order, .ref o_points, .ref o_cutOff, .ref o_had, .ref o_placeOf, .int i_bit, .int i_bitEnd])), (a_in, .inl (cI, 6000, .inl v_in)), (a_counts, .inl (cI, 256, .inl v_counts))] H → va_D A [(a_this, .inr (1, [.ref a_in, .int i_inLong, .int i_goesOn, .ref o_out, .int i_outLong, .ref a_counts, .int i_greatest, .ref o_length, .ref o_symbolOf, .ref o_draft, .ref o_knot, .ref o_inSum, .int i_knots, .ref o_halved, .ref o_made, .int i_bitsMade, .ref o_weight, .int i_weights, .int i_order, .ref o_points, .ref o_cutOff, .ref o_had, .ref o_placeOf, .int i_bit, .int i_bitEnd])), (a_in, .inl (cI, 6000, .inl v_in)), (a_counts, .inl (cI, 256, .inl v_counts))] → va_S A s.heap H locs → W p l e R_MM_countAll s m args below meth c H locs 0 0 Q (F0 m 27 ls [])
def I_MM_countAll_b22 (p : Program) (l : Launch) (e : Env) (s : State) (m : MethodId) (args : Array Value) (below : List Frame) (meth : Method) (c : Code) (Q : State → Prop) (A : Nat → Prop) (D : va_G) (cI cL cZ : ClassId) (a_this : Nat) (a_in : Nat) (a_counts : Nat) (o_out : Nat) (o_length : Nat) (o_symbolOf : Nat) (o_draft : Nat) (o_knot : Nat) (o_inSum : Nat) (o_halved : Nat) (o_made : Nat) (o_weight : Nat) (o_points : Nat) (o_cutOff : Nat) (o_had : Nat) (o_placeOf : Nat) (i_inLong : Int32) (i_goesOn : Int32) (i_outLong : Int32) (i_greatest : Int32) (i_knots : Int32) (i_bitsMade : Int32) (i_weights : Int32) (i_order : Int32) (i_bit : Int32) (i_bitEnd : Int32) (v_in : Nat → Int32) (res : Int32 × (Nat → Int32)) (kf : (Nat → Int32) → Option (Int32 × (Nat → Int32))) : Prop := ∀ (v_counts : Nat → Int32), kf v_counts = some res → ∀ (H : Heap) (locs : List Loc) (ls : Array Slot), lv_has ls 2 [(0, .ref a_this)] → va_P D classes [(a_this, .inr (1, [.ref a_in, .int i_inLong, .int i_goesOn, .ref o_out, .int i_outLong, .ref a_counts, .int i_greatest, .ref o_length, .ref o_symbolOf, .ref o_draft, .ref o_knot, .ref o_inSum, .int i_knots, .ref o_halved, .ref o_made, .int i_bitsMade, .ref o_weight, .int i_weights, .int i_order, .ref o_points, .ref o_cutOff, .ref o_had, .ref o_placeOf, .int i_bit, .int i_bitEnd])), (a_in, .inl (cI, 6000, .inl v_in)), (a_counts, .inl (cI, 256, .inl v_counts))] H → va_D A [(a_this, .inr (1, [.ref a_in, .int i_inLong, .int i_goesOn, .ref o_out, .int i_outLong, .ref a_counts, .int i_greatest, .ref o_length, .ref o_symbolOf, .ref o_draft, .ref o_knot, .ref o_inSum, .int i_knots, .ref o_halved, .ref o_made, .int i_bitsMade, .ref o_weight, .int i_weights, .int i_order, .ref o_points, .ref o_cutOff, .ref o_had, .ref o_placeOf, .int i_bit, .int i_bitEnd])), (a_in, .inl (cI, 6000, .inl v_in)), (a_counts, .inl (cI, 256, .inl v_counts))] → va_S A s.heap H locs → W p l e R_MM_countAll s m args below meth c H locs 0 0 Q (F0 m 22 ls [])
def I_MM_countAll_b2 (p : Program) (l : Launch) (e : Env) (s : State) (m : MethodId) (args : Array Value) (below : List Frame) (meth : Method) (c : Code) (Q : State → Prop) (A : Nat → Prop) (D : va_G) (cI cL cZ : ClassId) (a_this : Nat) (a_in : Nat) (a_counts : Nat) (o_out : Nat) (o_length : Nat) (o_symbolOf : Nat) (o_draft : Nat) (o_knot : Nat) (o_inSum : Nat) (o_halved : Nat) (o_made : Nat) (o_weight : Nat) (o_points : Nat) (o_cutOff : Nat) (o_had : Nat) (o_placeOf : Nat) (i_inLong : Int32) (i_goesOn : Int32) (i_outLong : Int32) (i_greatest : Int32) (i_knots : Int32) (i_bitsMade : Int32) (i_weights : Int32) (i_order : Int32) (i_bit : Int32) (i_bitEnd : Int32) (v_in : Nat → Int32) (res : Int32 × (Nat → Int32)) (kf : Int32 → (Nat → Int32) → Option (Int32 × (Nat → Int32))) : Prop := ∀ (l1 : Int32) (v_counts : Nat → Int32), kf l1 v_counts = some res → ∀ (H : Heap) (locs : List Loc) (ls : Array Slot), lv_has ls 2 [(0, .ref a_this), (1, .int l1)] → va_P D classes [(a_this, .inr (1, [.ref a_in, .int i_inLong, .int i_goesOn, .ref o_out, .int i_outLong, .ref a_counts, .int i_greatest, .ref o_length, .ref o_symbolOf, .ref o_draft, .ref o_knot, .ref o_inSum, .int i_knots, .ref o_halved, .ref o_made, .int i_bitsMade, .ref o_weight, .int i_weights, .int i_order, .ref o_points, .ref o_cutOff, .ref o_had, .ref o_placeOf, .int i_bit, .int i_bitEnd])), (a_in, .inl (cI, 6000, .inl v_in)), (a_counts, .inl (cI, 256, .inl v_counts))] H → va_D A [(a_this, .inr (1, [.ref a_in, .int i_inLong, .int i_goesOn, .ref o_out, .int i_outLong, .ref a_counts, .int i_greatest, .ref o_length, .ref o_symbolOf, .ref o_draft, .ref o_knot, .ref o_inSum, .int i_knots, .ref o_halved, .ref o_made, .int i_bitsMade, .ref o_weight, .int i_weights, .int i_order, .ref o_points, .ref o_cutOff, .ref o_had, .ref o_placeOf, .int i_bit, .int i_bitEnd])), (a_in, .inl (cI, 6000, .inl v_in)), (a_counts, .inl (cI, 256, .inl v_counts))] → va_S A s.heap H locs → W p l e R_MM_countAll s m args below meth c H locs 0 0 Q (F0 m 2 ls [])
def I_MM_countAll_b0 (p : Program) (l : Launch) (e : Env) (s : State) (m : MethodId) (args : Array Value) (below : List Frame) (meth : Method) (c : Code) (Q : State → Prop) (A : Nat → Prop) (D : va_G) (cI cL cZ : ClassId) (a_this : Nat) (a_in : Nat) (a_counts : Nat) (o_out : Nat) (o_length : Nat) (o_symbolOf : Nat) (o_draft : Nat) (o_knot : Nat) (o_inSum : Nat) (o_halved : Nat) (o_made : Nat) (o_weight : Nat) (o_points : Nat) (o_cutOff : Nat) (o_had : Nat) (o_placeOf : Nat) (i_inLong : Int32) (i_goesOn : Int32) (i_outLong : Int32) (i_greatest : Int32) (i_knots : Int32) (i_bitsMade : Int32) (i_weights : Int32) (i_order : Int32) (i_bit : Int32) (i_bitEnd : Int32) (v_in : Nat → Int32) (res : Int32 × (Nat → Int32)) (kf : (Nat → Int32) → Option (Int32 × (Nat → Int32))) : Prop := ∀ (v_counts : Nat → Int32), kf v_counts = some res → ∀ (H : Heap) (locs : List Loc) (ls : Array Slot), lv_has ls 2 [(0, .ref a_this)] → va_P D classes [(a_this, .inr (1, [.ref a_in, .int i_inLong, .int i_goesOn, .ref o_out, .int i_outLong, .ref a_counts, .int i_greatest, .ref o_length, .ref o_symbolOf, .ref o_draft, .ref o_knot, .ref o_inSum, .int i_knots, .ref o_halved, .ref o_made, .int i_bitsMade, .ref o_weight, .int i_weights, .int i_order, .ref o_points, .ref o_cutOff, .ref o_had, .ref o_placeOf, .int i_bit, .int i_bitEnd])), (a_in, .inl (cI, 6000, .inl v_in)), (a_counts, .inl (cI, 256, .inl v_counts))] H → va_D A [(a_this, .inr (1, [.ref a_in, .int i_inLong, .int i_goesOn, .ref o_out, .int i_outLong, .ref a_counts, .int i_greatest, .ref o_length, .ref o_symbolOf, .ref o_draft, .ref o_knot, .ref o_inSum, .int i_knots, .ref o_halved, .ref o_made, .int i_bitsMade, .ref o_weight, .int i_weights, .int i_order, .ref o_points, .ref o_cutOff, .ref o_had, .ref o_placeOf, .int i_bit, .int i_bitEnd])), (a_in, .inl (cI, 6000, .inl v_in)), (a_counts, .inl (cI, 256, .inl v_counts))] → va_S A s.heap H locs → W p l e R_MM_countAll s m args below meth c H locs 0 0 Q (F0 m 0 ls [])
set_option maxHeartbeats 4000000 in
set_option maxRecDepth 100000 in
theorem w_MM_countAll_b56 {p : Program} {l : Launch} {e : Env} {s : State} {m : MethodId} {args : Array Value} {below : List Frame} {meth : Method} {c : Code} {Q : State → Prop} {A : Nat → Prop} {D : va_G} {cI cL cZ : ClassId} {a_this : Nat} {a_in : Nat} {a_counts : Nat} {o_out : Nat} {o_length : Nat} {o_symbolOf : Nat} {o_draft : Nat} {o_knot : Nat} {o_inSum : Nat} {o_halved : Nat} {o_made : Nat} {o_weight : Nat} {o_points : Nat} {o_cutOff : Nat} {o_had : Nat} {o_placeOf : Nat} {i_inLong : Int32} {i_goesOn : Int32} {i_outLong : Int32} {i_greatest : Int32} {i_knots : Int32} {i_bitsMade : Int32} {i_weights : Int32} {i_order : Int32} {i_bit : Int32} {i_bitEnd : Int32} {v_in : Nat → Int32} {N : Nat} {res : Int32 × (Nat → Int32)}  (C : Cx p s m args c b_MM_countAll 2 "PrefixMillModel" D [(cI, .int), (cL, .long), (cZ, .boolean)] A) (hret : E_MM_countAll p l e s m args below meth c Q A D cI cL cZ a_this a_in a_counts o_out o_length o_symbolOf o_draft o_knot o_inSum o_halved o_made o_weight o_points o_cutOff o_had o_placeOf i_inLong i_goesOn i_outLong i_greatest i_knots i_bitsMade i_weights i_order i_bit i_bitEnd v_in res)  : I_MM_countAll_b56 p l e s m args below meth c Q A D cI cL cZ a_this a_in a_counts o_out o_length o_symbolOf o_draft o_knot o_inSum o_halved o_made o_weight o_points o_cutOff o_had o_placeOf i_inLong i_goesOn i_outLong i_greatest i_knots i_bitsMade i_weights i_order i_bit i_bitEnd v_in res (f_MM_countAll_b56 N i_inLong i_goesOn v_in ) := by
  obtain ⟨hx, hb, hml, hown, hts, hK, hA⟩ := C
  intro v_counts h H locs ls hl hP hD hS
  unfold f_MM_countAll_b56 at h
  refine lv_aload_n hx hb d_MM_countAll_56 rfl (lv_at hl 0 rfl) ?_
  refine va_get hx hb hts in_MM hown hK hP 0 rfl rfl 1 (by decide) (hts _ m_754) (fun _ h9 => h9) rfl d_MM_countAll_57 ?_
  refine lv_aload_n hx hb d_MM_countAll_60 rfl (lv_at hl 0 rfl) ?_
  refine va_get hx hb hts in_MM hown hK hP 0 rfl rfl 2 (by decide) (hts _ m_755) (fun _ h9 => h9) rfl d_MM_countAll_61 ?_
  refine lv_isub hx hb d_MM_countAll_64 ?_
  exact hret _ _ _ _ (i_inLong - i_goesOn) v_counts h d_MM_countAll_65 hP hD hS
set_option maxHeartbeats 4000000 in
set_option maxRecDepth 100000 in
theorem w_MM_countAll_b27 {p : Program} {l : Launch} {e : Env} {s : State} {m : MethodId} {args : Array Value} {below : List Frame} {meth : Method} {c : Code} {Q : State → Prop} {A : Nat → Prop} {D : va_G} {cI cL cZ : ClassId} {a_this : Nat} {a_in : Nat} {a_counts : Nat} {o_out : Nat} {o_length : Nat} {o_symbolOf : Nat} {o_draft : Nat} {o_knot : Nat} {o_inSum : Nat} {o_halved : Nat} {o_made : Nat} {o_weight : Nat} {o_points : Nat} {o_cutOff : Nat} {o_had : Nat} {o_placeOf : Nat} {i_inLong : Int32} {i_goesOn : Int32} {i_outLong : Int32} {i_greatest : Int32} {i_knots : Int32} {i_bitsMade : Int32} {i_weights : Int32} {i_order : Int32} {i_bit : Int32} {i_bitEnd : Int32} {v_in : Nat → Int32} {N : Nat} {res : Int32 × (Nat → Int32)}  (C : Cx p s m args c b_MM_countAll 2 "PrefixMillModel" D [(cI, .int), (cL, .long), (cZ, .boolean)] A) (hret : E_MM_countAll p l e s m args below meth c Q A D cI cL cZ a_this a_in a_counts o_out o_length o_symbolOf o_draft o_knot o_inSum o_halved o_made o_weight o_points o_cutOff o_had o_placeOf i_inLong i_goesOn i_outLong i_greatest i_knots i_bitsMade i_weights i_order i_bit i_bitEnd v_in res)  : ∀ z : Nat, I_MM_countAll_b27 p l e s m args below meth c Q A D cI cL cZ a_this a_in a_counts o_out o_length o_symbolOf o_draft o_knot o_inSum o_halved o_made o_weight o_points o_cutOff o_had o_placeOf i_inLong i_goesOn i_outLong i_greatest i_knots i_bitsMade i_weights i_order i_bit i_bitEnd v_in res (f_MM_countAll_b27 N i_inLong i_goesOn v_in  z) := by
  obtain ⟨hx, hb, hml, hown, hts, hK, hA⟩ := C
  intro z
  induction z with
  | zero => intro l1 v_counts h; cases h
  | succ z ih =>
    intro l1 v_counts h H locs ls hl hP hD hS
    refine lv_iload_n hx hb d_MM_countAll_27 rfl (lv_at hl 1 rfl) ?_
    refine lv_aload_n hx hb d_MM_countAll_28 rfl (lv_at hl 0 rfl) ?_
    refine va_get hx hb hts in_MM hown hK hP 0 rfl rfl 1 (by decide) (hts _ m_754) (fun _ h9 => h9) rfl d_MM_countAll_29 ?_
    refine lv_icmp_ge (tgt := 56) hx hb d_MM_countAll_32 (by decide) (fun c_1 => ?_) (fun c_1 => ?_)
    · replace h := if_t h c_1
      exact w_MM_countAll_b56 ⟨hx, hb, hml, hown, hts, hK, hA⟩ hret  _ h H locs ls (lv_sub hl [0] rfl) hP hD hS
    · replace h := if_f h c_1
      refine lv_aload_n hx hb d_MM_countAll_35 rfl (lv_at hl 0 rfl) ?_
      refine va_get hx hb hts in_MM hown hK hP 0 rfl rfl 5 (by decide) (hts _ m_758) (fun _ h9 => h9) rfl d_MM_countAll_36 ?_
      refine lv_aload_n hx hb d_MM_countAll_39 rfl (lv_at hl 0 rfl) ?_
      refine va_get hx hb hts in_MM hown hK hP 0 rfl rfl 0 (by decide) (hts _ m_753) (fun _ h9 => h9) rfl d_MM_countAll_40 ?_
      refine lv_iload_n hx hb d_MM_countAll_43 rfl (lv_at hl 1 rfl) ?_
      obtain ⟨g_2, h⟩ := ck_s h
      refine va_iald hx hb hK hP 1 0 rfl rfl (inb_s g_2) d_MM_countAll_44 ?_
      refine lv_dup2_11 hx hb d_MM_countAll_45 rfl rfl ?_
      obtain ⟨g_3, h⟩ := ck_s h
      refine va_iald hx hb hK hP 2 0 rfl rfl (inb_s g_3) d_MM_countAll_46 ?_
      refine lv_iconst (v := 1) hx hb d_MM_countAll_47 (by decide) ?_
      refine lv_iadd hx hb d_MM_countAll_48 ?_
      obtain ⟨g_4, h⟩ := ck_s h
      refine va_iast hx hb hK hP hD hS 2 0 rfl rfl (inb_s g_4) d_MM_countAll_49 (fun H locs hP hD hS => ?_)
      obtain ⟨v_counts_5, ev_counts_5⟩ : ∃ y, y = (upd v_counts (Int32.toNatClampNeg (v_in (Int32.toNatClampNeg l1))) ((v_counts (Int32.toNatClampNeg (v_in (Int32.toNatClampNeg l1)))) + 1)) := ⟨_, rfl⟩
      replace h := nm_s h ev_counts_5
      have hP : va_P D classes [(a_this, .inr (1, [.ref a_in, .int i_inLong, .int i_goesOn, .ref o_out, .int i_outLong, .ref a_counts, .int i_greatest, .ref o_length, .ref o_symbolOf, .ref o_draft, .ref o_knot, .ref o_inSum, .int i_knots, .ref o_halved, .ref o_made, .int i_bitsMade, .ref o_weight, .int i_weights, .int i_order, .ref o_points, .ref o_cutOff, .ref o_had, .ref o_placeOf, .int i_bit, .int i_bitEnd])), (a_in, .inl (cI, 6000, .inl v_in)), (a_counts, .inl (cI, 256, .inl v_counts_5))] H := by rw [ev_counts_5]; exact hP
      have hD : va_D A [(a_this, .inr (1, [.ref a_in, .int i_inLong, .int i_goesOn, .ref o_out, .int i_outLong, .ref a_counts, .int i_greatest, .ref o_length, .ref o_symbolOf, .ref o_draft, .ref o_knot, .ref o_inSum, .int i_knots, .ref o_halved, .ref o_made, .int i_bitsMade, .ref o_weight, .int i_weights, .int i_order, .ref o_points, .ref o_cutOff, .ref o_had, .ref o_placeOf, .int i_bit, .int i_bitEnd])), (a_in, .inl (cI, 6000, .inl v_in)), (a_counts, .inl (cI, 256, .inl v_counts_5))] := by rw [ev_counts_5]; exact hD
      obtain ⟨l1_6, el1_6⟩ : ∃ y : Int32, y = l1 + 1 := ⟨_, rfl⟩
      replace h := nm_s h el1_6
      refine lv_iinc (v := l1_6) (lv' := [(1, .int l1_6), (0, .ref a_this)]) hx hb d_MM_countAll_50 hl (k := 1) rfl (by rw [el1_6]; rfl) (by decide) rfl (fun ls hl => ?_)
      refine lv_goto (tgt := 27) hx hb d_MM_countAll_53 (by decide) ?_
      exact ih _ _ h H locs ls (lv_sub hl [1, 0] rfl) hP hD hS
set_option maxHeartbeats 4000000 in
set_option maxRecDepth 100000 in
theorem w_MM_countAll_b22 {p : Program} {l : Launch} {e : Env} {s : State} {m : MethodId} {args : Array Value} {below : List Frame} {meth : Method} {c : Code} {Q : State → Prop} {A : Nat → Prop} {D : va_G} {cI cL cZ : ClassId} {a_this : Nat} {a_in : Nat} {a_counts : Nat} {o_out : Nat} {o_length : Nat} {o_symbolOf : Nat} {o_draft : Nat} {o_knot : Nat} {o_inSum : Nat} {o_halved : Nat} {o_made : Nat} {o_weight : Nat} {o_points : Nat} {o_cutOff : Nat} {o_had : Nat} {o_placeOf : Nat} {i_inLong : Int32} {i_goesOn : Int32} {i_outLong : Int32} {i_greatest : Int32} {i_knots : Int32} {i_bitsMade : Int32} {i_weights : Int32} {i_order : Int32} {i_bit : Int32} {i_bitEnd : Int32} {v_in : Nat → Int32} {N : Nat} {res : Int32 × (Nat → Int32)}  (C : Cx p s m args c b_MM_countAll 2 "PrefixMillModel" D [(cI, .int), (cL, .long), (cZ, .boolean)] A) (hret : E_MM_countAll p l e s m args below meth c Q A D cI cL cZ a_this a_in a_counts o_out o_length o_symbolOf o_draft o_knot o_inSum o_halved o_made o_weight o_points o_cutOff o_had o_placeOf i_inLong i_goesOn i_outLong i_greatest i_knots i_bitsMade i_weights i_order i_bit i_bitEnd v_in res)  : I_MM_countAll_b22 p l e s m args below meth c Q A D cI cL cZ a_this a_in a_counts o_out o_length o_symbolOf o_draft o_knot o_inSum o_halved o_made o_weight o_points o_cutOff o_had o_placeOf i_inLong i_goesOn i_outLong i_greatest i_knots i_bitsMade i_weights i_order i_bit i_bitEnd v_in res (f_MM_countAll_b22 N i_inLong i_goesOn v_in ) := by
  obtain ⟨hx, hb, hml, hown, hts, hK, hA⟩ := C
  intro v_counts h H locs ls hl hP hD hS
  unfold f_MM_countAll_b22 at h
  refine lv_aload_n hx hb d_MM_countAll_22 rfl (lv_at hl 0 rfl) ?_
  refine va_get hx hb hts in_MM hown hK hP 0 rfl rfl 2 (by decide) (hts _ m_755) (fun _ h9 => h9) rfl d_MM_countAll_23 ?_
  refine lv_istore_n (lv' := [(1, .int i_goesOn), (0, .ref a_this)]) hx hb d_MM_countAll_26 rfl hl (by decide) rfl (fun ls hl => ?_)
  exact w_MM_countAll_b27 ⟨hx, hb, hml, hown, hts, hK, hA⟩ hret  N _ _ h H locs ls (lv_sub hl [1, 0] rfl) hP hD hS
set_option maxHeartbeats 4000000 in
set_option maxRecDepth 100000 in
theorem w_MM_countAll_b2 {p : Program} {l : Launch} {e : Env} {s : State} {m : MethodId} {args : Array Value} {below : List Frame} {meth : Method} {c : Code} {Q : State → Prop} {A : Nat → Prop} {D : va_G} {cI cL cZ : ClassId} {a_this : Nat} {a_in : Nat} {a_counts : Nat} {o_out : Nat} {o_length : Nat} {o_symbolOf : Nat} {o_draft : Nat} {o_knot : Nat} {o_inSum : Nat} {o_halved : Nat} {o_made : Nat} {o_weight : Nat} {o_points : Nat} {o_cutOff : Nat} {o_had : Nat} {o_placeOf : Nat} {i_inLong : Int32} {i_goesOn : Int32} {i_outLong : Int32} {i_greatest : Int32} {i_knots : Int32} {i_bitsMade : Int32} {i_weights : Int32} {i_order : Int32} {i_bit : Int32} {i_bitEnd : Int32} {v_in : Nat → Int32} {N : Nat} {res : Int32 × (Nat → Int32)}  (C : Cx p s m args c b_MM_countAll 2 "PrefixMillModel" D [(cI, .int), (cL, .long), (cZ, .boolean)] A) (hret : E_MM_countAll p l e s m args below meth c Q A D cI cL cZ a_this a_in a_counts o_out o_length o_symbolOf o_draft o_knot o_inSum o_halved o_made o_weight o_points o_cutOff o_had o_placeOf i_inLong i_goesOn i_outLong i_greatest i_knots i_bitsMade i_weights i_order i_bit i_bitEnd v_in res)  : ∀ z : Nat, I_MM_countAll_b2 p l e s m args below meth c Q A D cI cL cZ a_this a_in a_counts o_out o_length o_symbolOf o_draft o_knot o_inSum o_halved o_made o_weight o_points o_cutOff o_had o_placeOf i_inLong i_goesOn i_outLong i_greatest i_knots i_bitsMade i_weights i_order i_bit i_bitEnd v_in res (f_MM_countAll_b2 N i_inLong i_goesOn v_in  z) := by
  obtain ⟨hx, hb, hml, hown, hts, hK, hA⟩ := C
  intro z
  induction z with
  | zero => intro l1 v_counts h; cases h
  | succ z ih =>
    intro l1 v_counts h H locs ls hl hP hD hS
    refine lv_iload_n hx hb d_MM_countAll_2 rfl (lv_at hl 1 rfl) ?_
    refine lv_sipush (v := 256) hx hb d_MM_countAll_3 (by decide) ?_
    refine lv_icmp_ge (tgt := 22) hx hb d_MM_countAll_6 (by decide) (fun c_1 => ?_) (fun c_1 => ?_)
    · replace h := if_t h c_1
      exact w_MM_countAll_b22 ⟨hx, hb, hml, hown, hts, hK, hA⟩ hret  _ h H locs ls (lv_sub hl [0] rfl) hP hD hS
    · replace h := if_f h c_1
      refine lv_aload_n hx hb d_MM_countAll_9 rfl (lv_at hl 0 rfl) ?_
      refine va_get hx hb hts in_MM hown hK hP 0 rfl rfl 5 (by decide) (hts _ m_758) (fun _ h9 => h9) rfl d_MM_countAll_10 ?_
      refine lv_iload_n hx hb d_MM_countAll_13 rfl (lv_at hl 1 rfl) ?_
      refine lv_iconst (v := 0) hx hb d_MM_countAll_14 (by decide) ?_
      obtain ⟨g_2, h⟩ := ck_s h
      refine va_iast hx hb hK hP hD hS 2 0 rfl rfl (inb_s g_2) d_MM_countAll_15 (fun H locs hP hD hS => ?_)
      obtain ⟨v_counts_3, ev_counts_3⟩ : ∃ y, y = (upd v_counts (Int32.toNatClampNeg l1) 0) := ⟨_, rfl⟩
      replace h := nm_s h ev_counts_3
      have hP : va_P D classes [(a_this, .inr (1, [.ref a_in, .int i_inLong, .int i_goesOn, .ref o_out, .int i_outLong, .ref a_counts, .int i_greatest, .ref o_length, .ref o_symbolOf, .ref o_draft, .ref o_knot, .ref o_inSum, .int i_knots, .ref o_halved, .ref o_made, .int i_bitsMade, .ref o_weight, .int i_weights, .int i_order, .ref o_points, .ref o_cutOff, .ref o_had, .ref o_placeOf, .int i_bit, .int i_bitEnd])), (a_in, .inl (cI, 6000, .inl v_in)), (a_counts, .inl (cI, 256, .inl v_counts_3))] H := by rw [ev_counts_3]; exact hP
      have hD : va_D A [(a_this, .inr (1, [.ref a_in, .int i_inLong, .int i_goesOn, .ref o_out, .int i_outLong, .ref a_counts, .int i_greatest, .ref o_length, .ref o_symbolOf, .ref o_draft, .ref o_knot, .ref o_inSum, .int i_knots, .ref o_halved, .ref o_made, .int i_bitsMade, .ref o_weight, .int i_weights, .int i_order, .ref o_points, .ref o_cutOff, .ref o_had, .ref o_placeOf, .int i_bit, .int i_bitEnd])), (a_in, .inl (cI, 6000, .inl v_in)), (a_counts, .inl (cI, 256, .inl v_counts_3))] := by rw [ev_counts_3]; exact hD
      obtain ⟨l1_4, el1_4⟩ : ∃ y : Int32, y = l1 + 1 := ⟨_, rfl⟩
      replace h := nm_s h el1_4
      refine lv_iinc (v := l1_4) (lv' := [(1, .int l1_4), (0, .ref a_this)]) hx hb d_MM_countAll_16 hl (k := 1) rfl (by rw [el1_4]; rfl) (by decide) rfl (fun ls hl => ?_)
      refine lv_goto (tgt := 2) hx hb d_MM_countAll_19 (by decide) ?_
      exact ih _ _ h H locs ls (lv_sub hl [1, 0] rfl) hP hD hS
set_option maxHeartbeats 4000000 in
set_option maxRecDepth 100000 in
theorem w_MM_countAll_b0 {p : Program} {l : Launch} {e : Env} {s : State} {m : MethodId} {args : Array Value} {below : List Frame} {meth : Method} {c : Code} {Q : State → Prop} {A : Nat → Prop} {D : va_G} {cI cL cZ : ClassId} {a_this : Nat} {a_in : Nat} {a_counts : Nat} {o_out : Nat} {o_length : Nat} {o_symbolOf : Nat} {o_draft : Nat} {o_knot : Nat} {o_inSum : Nat} {o_halved : Nat} {o_made : Nat} {o_weight : Nat} {o_points : Nat} {o_cutOff : Nat} {o_had : Nat} {o_placeOf : Nat} {i_inLong : Int32} {i_goesOn : Int32} {i_outLong : Int32} {i_greatest : Int32} {i_knots : Int32} {i_bitsMade : Int32} {i_weights : Int32} {i_order : Int32} {i_bit : Int32} {i_bitEnd : Int32} {v_in : Nat → Int32} {N : Nat} {res : Int32 × (Nat → Int32)}  (C : Cx p s m args c b_MM_countAll 2 "PrefixMillModel" D [(cI, .int), (cL, .long), (cZ, .boolean)] A) (hret : E_MM_countAll p l e s m args below meth c Q A D cI cL cZ a_this a_in a_counts o_out o_length o_symbolOf o_draft o_knot o_inSum o_halved o_made o_weight o_points o_cutOff o_had o_placeOf i_inLong i_goesOn i_outLong i_greatest i_knots i_bitsMade i_weights i_order i_bit i_bitEnd v_in res)  : I_MM_countAll_b0 p l e s m args below meth c Q A D cI cL cZ a_this a_in a_counts o_out o_length o_symbolOf o_draft o_knot o_inSum o_halved o_made o_weight o_points o_cutOff o_had o_placeOf i_inLong i_goesOn i_outLong i_greatest i_knots i_bitsMade i_weights i_order i_bit i_bitEnd v_in res (f_MM_countAll N i_inLong i_goesOn v_in ) := by
  obtain ⟨hx, hb, hml, hown, hts, hK, hA⟩ := C
  intro v_counts h H locs ls hl hP hD hS
  unfold f_MM_countAll at h
  refine lv_iconst (v := 0) hx hb d_MM_countAll_0 (by decide) ?_
  refine lv_istore_n (lv' := [(1, .int 0), (0, .ref a_this)]) hx hb d_MM_countAll_1 rfl hl (by decide) rfl (fun ls hl => ?_)
  exact w_MM_countAll_b2 ⟨hx, hb, hml, hown, hts, hK, hA⟩ hret  N _ _ h H locs ls (lv_sub hl [1, 0] rfl) hP hD hS
set_option maxHeartbeats 4000000 in
set_option maxRecDepth 100000 in
theorem c_MM_countAll (l : Launch) (D : va_G) (cI cL cZ : ClassId) (sz N : Nat) (a_this : Nat) (a_in : Nat) (a_counts : Nat) (o_out : Nat) (o_length : Nat) (o_symbolOf : Nat) (o_draft : Nat) (o_knot : Nat) (o_inSum : Nat) (o_halved : Nat) (o_made : Nat) (o_weight : Nat) (o_points : Nat) (o_cutOff : Nat) (o_had : Nat) (o_placeOf : Nat) (i_inLong : Int32) (i_goesOn : Int32) (i_outLong : Int32) (i_greatest : Int32) (i_knots : Int32) (i_bitsMade : Int32) (i_weights : Int32) (i_order : Int32) (i_bit : Int32) (i_bitEnd : Int32) (v_in : Nat → Int32) (v_counts : Nat → Int32) (rv : Int32) (v_counts' : Nat → Int32) (h : f_MM_countAll N i_inLong i_goesOn v_in v_counts = some (rv, v_counts')) : Met l ({ cls := "PrefixMillModel", name := "countAll", desc := "()I" } : Jvm.MethodName) ws_MM_countAll R_MM_countAll (va_Pc [.ref a_this] (fun U => U.heap.size = sz ∧ va_P D classes [(a_this, .inr (1, [.ref a_in, .int i_inLong, .int i_goesOn, .ref o_out, .int i_outLong, .ref a_counts, .int i_greatest, .ref o_length, .ref o_symbolOf, .ref o_draft, .ref o_knot, .ref o_inSum, .int i_knots, .ref o_halved, .ref o_made, .int i_bitsMade, .ref o_weight, .int i_weights, .int i_order, .ref o_points, .ref o_cutOff, .ref o_had, .ref o_placeOf, .int i_bit, .int i_bitEnd])), (a_in, .inl (cI, 6000, .inl v_in)), (a_counts, .inl (cI, 256, .inl v_counts))] U.heap ∧ va_K D classes [(cI, .int), (cL, .long), (cZ, .boolean)] U ∧ va_D (fun _ => True) [(a_this, .inr (1, [.ref a_in, .int i_inLong, .int i_goesOn, .ref o_out, .int i_outLong, .ref a_counts, .int i_greatest, .ref o_length, .ref o_symbolOf, .ref o_draft, .ref o_knot, .ref o_inSum, .int i_knots, .ref o_halved, .ref o_made, .int i_bitsMade, .ref o_weight, .int i_weights, .int i_order, .ref o_points, .ref o_cutOff, .ref o_had, .ref o_placeOf, .int i_bit, .int i_bitEnd])), (a_in, .inl (cI, 6000, .inl v_in)), (a_counts, .inl (cI, 256, .inl v_counts))])) (va_Qi (fun (r0 : Int32) (_ : Unit) => rv = r0) (fun _ t => va_P D classes [(a_this, .inr (1, [.ref a_in, .int i_inLong, .int i_goesOn, .ref o_out, .int i_outLong, .ref a_counts, .int i_greatest, .ref o_length, .ref o_symbolOf, .ref o_draft, .ref o_knot, .ref o_inSum, .int i_knots, .ref o_halved, .ref o_made, .int i_bitsMade, .ref o_weight, .int i_weights, .int i_order, .ref o_points, .ref o_cutOff, .ref o_had, .ref o_placeOf, .int i_bit, .int i_bitEnd])), (a_in, .inl (cI, 6000, .inl v_in)), (a_counts, .inl (cI, 256, .inl v_counts'))] t.heap ∧ va_K D classes [(cI, .int), (cL, .long), (cZ, .boolean)] t ∧ va_D (va_A [(a_this, .inr (1, [.ref a_in, .int i_inLong, .int i_goesOn, .ref o_out, .int i_outLong, .ref a_counts, .int i_greatest, .ref o_length, .ref o_symbolOf, .ref o_draft, .ref o_knot, .ref o_inSum, .int i_knots, .ref o_halved, .ref o_made, .int i_bitsMade, .ref o_weight, .int i_weights, .int i_order, .ref o_points, .ref o_cutOff, .ref o_had, .ref o_placeOf, .int i_bit, .int i_bitEnd])), (a_in, .inl (cI, 6000, .inl v_in)), (a_counts, .inl (cI, 256, .inl v_counts))] sz) [(a_this, .inr (1, [.ref a_in, .int i_inLong, .int i_goesOn, .ref o_out, .int i_outLong, .ref a_counts, .int i_greatest, .ref o_length, .ref o_symbolOf, .ref o_draft, .ref o_knot, .ref o_inSum, .int i_knots, .ref o_halved, .ref o_made, .int i_bitsMade, .ref o_weight, .int i_weights, .int i_order, .ref o_points, .ref o_cutOff, .ref o_had, .ref o_placeOf, .int i_bit, .int i_bitEnd])), (a_in, .inl (cI, 6000, .inl v_in)), (a_counts, .inl (cI, 256, .inl v_counts'))]) (va_A [(a_this, .inr (1, [.ref a_in, .int i_inLong, .int i_goesOn, .ref o_out, .int i_outLong, .ref a_counts, .int i_greatest, .ref o_length, .ref o_symbolOf, .ref o_draft, .ref o_knot, .ref o_inSum, .int i_knots, .ref o_halved, .ref o_made, .int i_bitsMade, .ref o_weight, .int i_weights, .int i_order, .ref o_points, .ref o_cutOff, .ref o_had, .ref o_placeOf, .int i_bit, .int i_bitEnd])), (a_in, .inl (cI, 6000, .inl v_in)), (a_counts, .inl (cI, 256, .inl v_counts))] sz)) 0 0 (va_A [(a_this, .inr (1, [.ref a_in, .int i_inLong, .int i_goesOn, .ref o_out, .int i_outLong, .ref a_counts, .int i_greatest, .ref o_length, .ref o_symbolOf, .ref o_draft, .ref o_knot, .ref o_inSum, .int i_knots, .ref o_halved, .ref o_made, .int i_bitsMade, .ref o_weight, .int i_weights, .int i_order, .ref o_points, .ref o_cutOff, .ref o_had, .ref o_placeOf, .int i_bit, .int i_bitEnd])), (a_in, .inl (cI, 6000, .inl v_in)), (a_counts, .inl (cI, 256, .inl v_counts))] sz) := by
  refine Met.ofW (cc := b_MM_countAll) (maxL := 2) (ret := (some .int)) (by decide) rfl ?_
  intro p e s m args below meth c s₁ B hml hv
  obtain ⟨rfl, hsz, hP, hK, hD0⟩ := hv
  have hx := B.exec
  have hb := B.bytes
  have hr := B.returns
  have hts0 := atoms_spec (ws := ws_MM_countAll) B.pre
  have hts := gd_tl hts0
  clear hts0
  have hown : s.vm.findClass "PrefixMillModel" = some m.cls := findClass_of_methodNamed B.named
  have hlocks := B.notSynchronized
  subst hsz
  have hD := hD0.self (sz := s.heap.size)
  generalize hAe : va_A [(a_this, .inr (1, [.ref a_in, .int i_inLong, .int i_goesOn, .ref o_out, .int i_outLong, .ref a_counts, .int i_greatest, .ref o_length, .ref o_symbolOf, .ref o_draft, .ref o_knot, .ref o_inSum, .int i_knots, .ref o_halved, .ref o_made, .int i_bitsMade, .ref o_weight, .int i_weights, .int i_order, .ref o_points, .ref o_cutOff, .ref o_had, .ref o_placeOf, .int i_bit, .int i_bitEnd])), (a_in, .inl (cI, 6000, .inl v_in)), (a_counts, .inl (cI, 256, .inl v_counts))] s.heap.size = A at hD ⊢
  have hA : ∀ q : Nat, s.heap.size ≤ q → A q := fun q h => by rw [← hAe]; exact Or.inr h
  have hS : va_S A s.heap s.heap [] := va_S.rf
  have hP : va_P D classes [(a_this, .inr (1, [.ref a_in, .int i_inLong, .int i_goesOn, .ref o_out, .int i_outLong, .ref a_counts, .int i_greatest, .ref o_length, .ref o_symbolOf, .ref o_draft, .ref o_knot, .ref o_inSum, .int i_knots, .ref o_halved, .ref o_made, .int i_bitsMade, .ref o_weight, .int i_weights, .int i_order, .ref o_points, .ref o_cutOff, .ref o_had, .ref o_placeOf, .int i_bit, .int i_bitEnd])), (a_in, .inl (cI, 6000, .inl v_in)), (a_counts, .inl (cI, 256, .inl v_counts))] s.heap := hP
  have hl := lv_entry ([.ref a_this]) (n := 2) (Nat.le_of_ble_eq_true rfl)
  rw [lg_entry_eq]
  generalize (lg_sl ([.ref a_this]) ++ List.replicate (2 - (lg_sl ([.ref a_this])).length) Slot.unset).toArray = ls at hl ⊢
  have hl : lv_has ls 2 [(0, .ref a_this)] := hl
  have C : Cx p s m ([.ref a_this] : List Value).toArray c b_MM_countAll 2 "PrefixMillModel" D [(cI, .int), (cL, .long), (cZ, .boolean)] A := ⟨hx, hb, hml, hown, hts, hK, hA⟩
  refine w_MM_countAll_b0 (res := (rv, v_counts')) C ?_ _ h s.heap [] ls hl hP hD hS
  intro pc9 H9 locs9 ls9 rv9 v_counts9 e9 d9 hP9 hD9 hS9
  cases e9
  exact W.iret (v := rv) hx hb hr (fun t ht hW => ⟨⟨rv, (), rfl, rfl, by rw [ht]; exact hP9, va_K.moved hW.alike hK, hD9⟩, hS9.F ht⟩) hS9.2.2 d9
abbrev b_MM_weightOf : ByteArray := prog_12_method_10_code
def ws_MM_weightOf : List Cond := .code ({ cls := "PrefixMillModel", name := "weightOf", desc := "(I)I" } : Jvm.MethodName) b_MM_weightOf 2 (some .int) :: tt
theorem d_MM_weightOf_0 : decode b_MM_weightOf 0 = .ok (.aload_n 0, 1) := by decide +kernel
theorem d_MM_weightOf_1 : decode b_MM_weightOf 1 = .ok (.getfield 19, 3) := by decide +kernel
theorem d_MM_weightOf_4 : decode b_MM_weightOf 4 = .ok (.iload_n 1, 1) := by decide +kernel
theorem d_MM_weightOf_5 : decode b_MM_weightOf 5 = .ok (.iaload, 1) := by decide +kernel
theorem d_MM_weightOf_6 : decode b_MM_weightOf 6 = .ok (.ifCond .ne 7, 3) := by decide +kernel
theorem d_MM_weightOf_9 : decode b_MM_weightOf 9 = .ok (.iconst 0, 1) := by decide +kernel
theorem d_MM_weightOf_10 : decode b_MM_weightOf 10 = .ok (.goto 16, 3) := by decide +kernel
theorem d_MM_weightOf_13 : decode b_MM_weightOf 13 = .ok (.aload_n 0, 1) := by decide +kernel
theorem d_MM_weightOf_14 : decode b_MM_weightOf 14 = .ok (.getfield 69, 3) := by decide +kernel
theorem d_MM_weightOf_17 : decode b_MM_weightOf 17 = .ok (.iconst 1, 1) := by decide +kernel
theorem d_MM_weightOf_18 : decode b_MM_weightOf 18 = .ok (.iadd, 1) := by decide +kernel
theorem d_MM_weightOf_19 : decode b_MM_weightOf 19 = .ok (.aload_n 0, 1) := by decide +kernel
theorem d_MM_weightOf_20 : decode b_MM_weightOf 20 = .ok (.getfield 19, 3) := by decide +kernel
theorem d_MM_weightOf_23 : decode b_MM_weightOf 23 = .ok (.iload_n 1, 1) := by decide +kernel
theorem d_MM_weightOf_24 : decode b_MM_weightOf 24 = .ok (.iaload, 1) := by decide +kernel
theorem d_MM_weightOf_25 : decode b_MM_weightOf 25 = .ok (.isub, 1) := by decide +kernel
theorem d_MM_weightOf_26 : decode b_MM_weightOf 26 = .ok (.ireturn, 1) := by decide +kernel
def f_MM_weightOf (N : Nat) (i_greatest : Int32) (v_length : Nat → Int32) (l1 : Int32)   : Option (Int32) :=
  ck (inb l1 256) <|
  if (v_length (Int32.toNatClampNeg l1)) = 0 then
  some (0)
  else
  ck (inb l1 256) <|
  some (((i_greatest + 1) - (v_length (Int32.toNatClampNeg l1))))
abbrev R_MM_weightOf : Room := ({ frames := 0, cells := 0, slots := 0, locals := 0 } : Room)
def E_MM_weightOf (p : Program) (l : Launch) (e : Env) (s : State) (m : MethodId) (args : Array Value) (below : List Frame) (meth : Method) (c : Code) (Q : State → Prop) (A : Nat → Prop) (D : va_G) (cI cL cZ : ClassId) (a_this : Nat) (a_length : Nat) (o_in : Nat) (o_out : Nat) (o_counts : Nat) (o_symbolOf : Nat) (o_draft : Nat) (o_knot : Nat) (o_inSum : Nat) (o_halved : Nat) (o_made : Nat) (o_weight : Nat) (o_points : Nat) (o_cutOff : Nat) (o_had : Nat) (o_placeOf : Nat) (i_inLong : Int32) (i_goesOn : Int32) (i_outLong : Int32) (i_greatest : Int32) (i_knots : Int32) (i_bitsMade : Int32) (i_weights : Int32) (i_order : Int32) (i_bit : Int32) (i_bitEnd : Int32) (v_length : Nat → Int32) (l1 : Int32) (res : Int32) : Prop := ∀ (pc : Nat) (H : Heap) (locs : List Loc) (ls : Array Slot) (rv : Int32), some (rv) = some res → decode b_MM_weightOf pc = .ok (.ireturn, 1) → va_P D classes [(a_this, .inr (1, [.ref o_in, .int i_inLong, .int i_goesOn, .ref o_out, .int i_outLong, .ref o_counts, .int i_greatest, .ref a_length, .ref o_symbolOf, .ref o_draft, .ref o_knot, .ref o_inSum, .int i_knots, .ref o_halved, .ref o_made, .int i_bitsMade, .ref o_weight, .int i_weights, .int i_order, .ref o_points, .ref o_cutOff, .ref o_had, .ref o_placeOf, .int i_bit, .int i_bitEnd])), (a_length, .inl (cI, 256, .inl v_length))] H → va_D A [(a_this, .inr (1, [.ref o_in, .int i_inLong, .int i_goesOn, .ref o_out, .int i_outLong, .ref o_counts, .int i_greatest, .ref a_length, .ref o_symbolOf, .ref o_draft, .ref o_knot, .ref o_inSum, .int i_knots, .ref o_halved, .ref o_made, .int i_bitsMade, .ref o_weight, .int i_weights, .int i_order, .ref o_points, .ref o_cutOff, .ref o_had, .ref o_placeOf, .int i_bit, .int i_bitEnd])), (a_length, .inl (cI, 256, .inl v_length))] → va_S A s.heap H locs → W p l e R_MM_weightOf s m args below meth c H locs 0 0 Q (F0 m pc ls [.int rv])
def I_MM_weightOf_b0 (p : Program) (l : Launch) (e : Env) (s : State) (m : MethodId) (args : Array Value) (below : List Frame) (meth : Method) (c : Code) (Q : State → Prop) (A : Nat → Prop) (D : va_G) (cI cL cZ : ClassId) (a_this : Nat) (a_length : Nat) (o_in : Nat) (o_out : Nat) (o_counts : Nat) (o_symbolOf : Nat) (o_draft : Nat) (o_knot : Nat) (o_inSum : Nat) (o_halved : Nat) (o_made : Nat) (o_weight : Nat) (o_points : Nat) (o_cutOff : Nat) (o_had : Nat) (o_placeOf : Nat) (i_inLong : Int32) (i_goesOn : Int32) (i_outLong : Int32) (i_greatest : Int32) (i_knots : Int32) (i_bitsMade : Int32) (i_weights : Int32) (i_order : Int32) (i_bit : Int32) (i_bitEnd : Int32) (v_length : Nat → Int32) (l1 : Int32) (res : Int32) (kf : Option (Int32)) : Prop := ∀ (_ : Unit), kf  = some res → ∀ (H : Heap) (locs : List Loc) (ls : Array Slot), lv_has ls 2 [(0, .ref a_this), (1, .int l1)] → va_P D classes [(a_this, .inr (1, [.ref o_in, .int i_inLong, .int i_goesOn, .ref o_out, .int i_outLong, .ref o_counts, .int i_greatest, .ref a_length, .ref o_symbolOf, .ref o_draft, .ref o_knot, .ref o_inSum, .int i_knots, .ref o_halved, .ref o_made, .int i_bitsMade, .ref o_weight, .int i_weights, .int i_order, .ref o_points, .ref o_cutOff, .ref o_had, .ref o_placeOf, .int i_bit, .int i_bitEnd])), (a_length, .inl (cI, 256, .inl v_length))] H → va_D A [(a_this, .inr (1, [.ref o_in, .int i_inLong, .int i_goesOn, .ref o_out, .int i_outLong, .ref o_counts, .int i_greatest, .ref a_length, .ref o_symbolOf, .ref o_draft, .ref o_knot, .ref o_inSum, .int i_knots, .ref o_halved, .ref o_made, .int i_bitsMade, .ref o_weight, .int i_weights, .int i_order, .ref o_points, .ref o_cutOff, .ref o_had, .ref o_placeOf, .int i_bit, .int i_bitEnd])), (a_length, .inl (cI, 256, .inl v_length))] → va_S A s.heap H locs → W p l e R_MM_weightOf s m args below meth c H locs 0 0 Q (F0 m 0 ls [])
set_option maxHeartbeats 4000000 in
set_option maxRecDepth 100000 in
theorem w_MM_weightOf_b0 {p : Program} {l : Launch} {e : Env} {s : State} {m : MethodId} {args : Array Value} {below : List Frame} {meth : Method} {c : Code} {Q : State → Prop} {A : Nat → Prop} {D : va_G} {cI cL cZ : ClassId} {a_this : Nat} {a_length : Nat} {o_in : Nat} {o_out : Nat} {o_counts : Nat} {o_symbolOf : Nat} {o_draft : Nat} {o_knot : Nat} {o_inSum : Nat} {o_halved : Nat} {o_made : Nat} {o_weight : Nat} {o_points : Nat} {o_cutOff : Nat} {o_had : Nat} {o_placeOf : Nat} {i_inLong : Int32} {i_goesOn : Int32} {i_outLong : Int32} {i_greatest : Int32} {i_knots : Int32} {i_bitsMade : Int32} {i_weights : Int32} {i_order : Int32} {i_bit : Int32} {i_bitEnd : Int32} {v_length : Nat → Int32} {l1 : Int32} {N : Nat} {res : Int32}  (C : Cx p s m args c b_MM_weightOf 2 "PrefixMillModel" D [(cI, .int), (cL, .long), (cZ, .boolean)] A) (hret : E_MM_weightOf p l e s m args below meth c Q A D cI cL cZ a_this a_length o_in o_out o_counts o_symbolOf o_draft o_knot o_inSum o_halved o_made o_weight o_points o_cutOff o_had o_placeOf i_inLong i_goesOn i_outLong i_greatest i_knots i_bitsMade i_weights i_order i_bit i_bitEnd v_length l1 res)  : I_MM_weightOf_b0 p l e s m args below meth c Q A D cI cL cZ a_this a_length o_in o_out o_counts o_symbolOf o_draft o_knot o_inSum o_halved o_made o_weight o_points o_cutOff o_had o_placeOf i_inLong i_goesOn i_outLong i_greatest i_knots i_bitsMade i_weights i_order i_bit i_bitEnd v_length l1 res (f_MM_weightOf N i_greatest v_length l1 ) := by
  obtain ⟨hx, hb, hml, hown, hts, hK, hA⟩ := C
  intro _ h H locs ls hl hP hD hS
  unfold f_MM_weightOf at h
  refine lv_aload_n hx hb d_MM_weightOf_0 rfl (lv_at hl 0 rfl) ?_
  refine va_get hx hb hts in_MM hown hK hP 0 rfl rfl 7 (by decide) (hts _ m_760) (fun _ h9 => h9) rfl d_MM_weightOf_1 ?_
  refine lv_iload_n hx hb d_MM_weightOf_4 rfl (lv_at hl 1 rfl) ?_
  obtain ⟨g_1, h⟩ := ck_s h
  refine va_iald hx hb hK hP 1 0 rfl rfl (inb_s g_1) d_MM_weightOf_5 ?_
  refine lv_if_ne (tgt := 13) hx hb d_MM_weightOf_6 (by decide) (fun c_2 => ?_) (fun c_2 => ?_)
  · replace h := if_f h c_2
    refine lv_aload_n hx hb d_MM_weightOf_13 rfl (lv_at hl 0 rfl) ?_
    refine va_get hx hb hts in_MM hown hK hP 0 rfl rfl 6 (by decide) (hts _ m_759) (fun _ h9 => h9) rfl d_MM_weightOf_14 ?_
    refine lv_iconst (v := 1) hx hb d_MM_weightOf_17 (by decide) ?_
    refine lv_iadd hx hb d_MM_weightOf_18 ?_
    refine lv_aload_n hx hb d_MM_weightOf_19 rfl (lv_at hl 0 rfl) ?_
    refine va_get hx hb hts in_MM hown hK hP 0 rfl rfl 7 (by decide) (hts _ m_760) (fun _ h9 => h9) rfl d_MM_weightOf_20 ?_
    refine lv_iload_n hx hb d_MM_weightOf_23 rfl (lv_at hl 1 rfl) ?_
    obtain ⟨g_3, h⟩ := ck_s h
    refine va_iald hx hb hK hP 1 0 rfl rfl (inb_s g_3) d_MM_weightOf_24 ?_
    refine lv_isub hx hb d_MM_weightOf_25 ?_
    exact hret _ _ _ _ ((i_greatest + 1) - (v_length (Int32.toNatClampNeg l1)))  h d_MM_weightOf_26 hP hD hS
  · replace h := if_t h c_2
    refine lv_iconst (v := 0) hx hb d_MM_weightOf_9 (by decide) ?_
    refine lv_goto (tgt := 26) hx hb d_MM_weightOf_10 (by decide) ?_
    exact hret _ _ _ _ 0  h d_MM_weightOf_26 hP hD hS
set_option maxHeartbeats 4000000 in
set_option maxRecDepth 100000 in
theorem c_MM_weightOf (l : Launch) (D : va_G) (cI cL cZ : ClassId) (sz N : Nat) (a_this : Nat) (a_length : Nat) (o_in : Nat) (o_out : Nat) (o_counts : Nat) (o_symbolOf : Nat) (o_draft : Nat) (o_knot : Nat) (o_inSum : Nat) (o_halved : Nat) (o_made : Nat) (o_weight : Nat) (o_points : Nat) (o_cutOff : Nat) (o_had : Nat) (o_placeOf : Nat) (i_inLong : Int32) (i_goesOn : Int32) (i_outLong : Int32) (i_greatest : Int32) (i_knots : Int32) (i_bitsMade : Int32) (i_weights : Int32) (i_order : Int32) (i_bit : Int32) (i_bitEnd : Int32) (v_length : Nat → Int32) (l1 : Int32) (rv : Int32) (h : f_MM_weightOf N i_greatest v_length l1  = some (rv)) : Met l ({ cls := "PrefixMillModel", name := "weightOf", desc := "(I)I" } : Jvm.MethodName) ws_MM_weightOf R_MM_weightOf (va_Pc [.ref a_this, .int l1] (fun U => U.heap.size = sz ∧ va_P D classes [(a_this, .inr (1, [.ref o_in, .int i_inLong, .int i_goesOn, .ref o_out, .int i_outLong, .ref o_counts, .int i_greatest, .ref a_length, .ref o_symbolOf, .ref o_draft, .ref o_knot, .ref o_inSum, .int i_knots, .ref o_halved, .ref o_made, .int i_bitsMade, .ref o_weight, .int i_weights, .int i_order, .ref o_points, .ref o_cutOff, .ref o_had, .ref o_placeOf, .int i_bit, .int i_bitEnd])), (a_length, .inl (cI, 256, .inl v_length))] U.heap ∧ va_K D classes [(cI, .int), (cL, .long), (cZ, .boolean)] U ∧ va_D (fun _ => True) [(a_this, .inr (1, [.ref o_in, .int i_inLong, .int i_goesOn, .ref o_out, .int i_outLong, .ref o_counts, .int i_greatest, .ref a_length, .ref o_symbolOf, .ref o_draft, .ref o_knot, .ref o_inSum, .int i_knots, .ref o_halved, .ref o_made, .int i_bitsMade, .ref o_weight, .int i_weights, .int i_order, .ref o_points, .ref o_cutOff, .ref o_had, .ref o_placeOf, .int i_bit, .int i_bitEnd])), (a_length, .inl (cI, 256, .inl v_length))])) (va_Qi (fun (r0 : Int32) (_ : Unit) => rv = r0) (fun _ t => va_P D classes [(a_this, .inr (1, [.ref o_in, .int i_inLong, .int i_goesOn, .ref o_out, .int i_outLong, .ref o_counts, .int i_greatest, .ref a_length, .ref o_symbolOf, .ref o_draft, .ref o_knot, .ref o_inSum, .int i_knots, .ref o_halved, .ref o_made, .int i_bitsMade, .ref o_weight, .int i_weights, .int i_order, .ref o_points, .ref o_cutOff, .ref o_had, .ref o_placeOf, .int i_bit, .int i_bitEnd])), (a_length, .inl (cI, 256, .inl v_length))] t.heap ∧ va_K D classes [(cI, .int), (cL, .long), (cZ, .boolean)] t ∧ va_D (va_A [(a_this, .inr (1, [.ref o_in, .int i_inLong, .int i_goesOn, .ref o_out, .int i_outLong, .ref o_counts, .int i_greatest, .ref a_length, .ref o_symbolOf, .ref o_draft, .ref o_knot, .ref o_inSum, .int i_knots, .ref o_halved, .ref o_made, .int i_bitsMade, .ref o_weight, .int i_weights, .int i_order, .ref o_points, .ref o_cutOff, .ref o_had, .ref o_placeOf, .int i_bit, .int i_bitEnd])), (a_length, .inl (cI, 256, .inl v_length))] sz) [(a_this, .inr (1, [.ref o_in, .int i_inLong, .int i_goesOn, .ref o_out, .int i_outLong, .ref o_counts, .int i_greatest, .ref a_length, .ref o_symbolOf, .ref o_draft, .ref o_knot, .ref o_inSum, .int i_knots, .ref o_halved, .ref o_made, .int i_bitsMade, .ref o_weight, .int i_weights, .int i_order, .ref o_points, .ref o_cutOff, .ref o_had, .ref o_placeOf, .int i_bit, .int i_bitEnd])), (a_length, .inl (cI, 256, .inl v_length))]) (va_A [(a_this, .inr (1, [.ref o_in, .int i_inLong, .int i_goesOn, .ref o_out, .int i_outLong, .ref o_counts, .int i_greatest, .ref a_length, .ref o_symbolOf, .ref o_draft, .ref o_knot, .ref o_inSum, .int i_knots, .ref o_halved, .ref o_made, .int i_bitsMade, .ref o_weight, .int i_weights, .int i_order, .ref o_points, .ref o_cutOff, .ref o_had, .ref o_placeOf, .int i_bit, .int i_bitEnd])), (a_length, .inl (cI, 256, .inl v_length))] sz)) 0 0 (va_A [(a_this, .inr (1, [.ref o_in, .int i_inLong, .int i_goesOn, .ref o_out, .int i_outLong, .ref o_counts, .int i_greatest, .ref a_length, .ref o_symbolOf, .ref o_draft, .ref o_knot, .ref o_inSum, .int i_knots, .ref o_halved, .ref o_made, .int i_bitsMade, .ref o_weight, .int i_weights, .int i_order, .ref o_points, .ref o_cutOff, .ref o_had, .ref o_placeOf, .int i_bit, .int i_bitEnd])), (a_length, .inl (cI, 256, .inl v_length))] sz) := by
  refine Met.ofW (cc := b_MM_weightOf) (maxL := 2) (ret := (some .int)) (by decide) rfl ?_
  intro p e s m args below meth c s₁ B hml hv
  obtain ⟨rfl, hsz, hP, hK, hD0⟩ := hv
  have hx := B.exec
  have hb := B.bytes
  have hr := B.returns
  have hts0 := atoms_spec (ws := ws_MM_weightOf) B.pre
  have hts := gd_tl hts0
  clear hts0
  have hown : s.vm.findClass "PrefixMillModel" = some m.cls := findClass_of_methodNamed B.named
  have hlocks := B.notSynchronized
  subst hsz
  have hD := hD0.self (sz := s.heap.size)
  generalize hAe : va_A [(a_this, .inr (1, [.ref o_in, .int i_inLong, .int i_goesOn, .ref o_out, .int i_outLong, .ref o_counts, .int i_greatest, .ref a_length, .ref o_symbolOf, .ref o_draft, .ref o_knot, .ref o_inSum, .int i_knots, .ref o_halved, .ref o_made, .int i_bitsMade, .ref o_weight, .int i_weights, .int i_order, .ref o_points, .ref o_cutOff, .ref o_had, .ref o_placeOf, .int i_bit, .int i_bitEnd])), (a_length, .inl (cI, 256, .inl v_length))] s.heap.size = A at hD ⊢
  have hA : ∀ q : Nat, s.heap.size ≤ q → A q := fun q h => by rw [← hAe]; exact Or.inr h
  have hS : va_S A s.heap s.heap [] := va_S.rf
  have hP : va_P D classes [(a_this, .inr (1, [.ref o_in, .int i_inLong, .int i_goesOn, .ref o_out, .int i_outLong, .ref o_counts, .int i_greatest, .ref a_length, .ref o_symbolOf, .ref o_draft, .ref o_knot, .ref o_inSum, .int i_knots, .ref o_halved, .ref o_made, .int i_bitsMade, .ref o_weight, .int i_weights, .int i_order, .ref o_points, .ref o_cutOff, .ref o_had, .ref o_placeOf, .int i_bit, .int i_bitEnd])), (a_length, .inl (cI, 256, .inl v_length))] s.heap := hP
  have hl := lv_entry ([.ref a_this, .int l1]) (n := 2) (Nat.le_of_ble_eq_true rfl)
  rw [lg_entry_eq]
  generalize (lg_sl ([.ref a_this, .int l1]) ++ List.replicate (2 - (lg_sl ([.ref a_this, .int l1])).length) Slot.unset).toArray = ls at hl ⊢
  have hl : lv_has ls 2 [(0, .ref a_this), (1, .int l1)] := hl
  have C : Cx p s m ([.ref a_this, .int l1] : List Value).toArray c b_MM_weightOf 2 "PrefixMillModel" D [(cI, .int), (cL, .long), (cZ, .boolean)] A := ⟨hx, hb, hml, hown, hts, hK, hA⟩
  refine w_MM_weightOf_b0 (res := (rv)) C ?_ () h s.heap [] ls hl hP hD hS
  intro pc9 H9 locs9 ls9 rv9 e9 d9 hP9 hD9 hS9
  cases e9
  exact W.iret (v := rv) hx hb hr (fun t ht hW => ⟨⟨rv, (), rfl, rfl, by rw [ht]; exact hP9, va_K.moved hW.alike hK, hD9⟩, hS9.F ht⟩) hS9.2.2 d9
