abbrev b_Tree_measure : ByteArray := prog_9_method_9_code
def ws_Tree_measure : List Cond := .code ({ cls := "PrefixMill$Tree", name := "measure", desc := "()I" } : Jvm.MethodName) b_Tree_measure 3 (some .int) :: tt
theorem d_Tree_measure_0 : decode b_Tree_measure 0 = .ok (.iconst 2, 1) := by decide +kernel
theorem d_Tree_measure_1 : decode b_Tree_measure 1 = .ok (.aload_n 0, 1) := by decide +kernel
theorem d_Tree_measure_2 : decode b_Tree_measure 2 = .ok (.getfield 36, 3) := by decide +kernel
theorem d_Tree_measure_5 : decode b_Tree_measure 5 = .ok (.imul, 1) := by decide +kernel
theorem d_Tree_measure_6 : decode b_Tree_measure 6 = .ok (.iconst 2, 1) := by decide +kernel
theorem d_Tree_measure_7 : decode b_Tree_measure 7 = .ok (.isub, 1) := by decide +kernel
theorem d_Tree_measure_8 : decode b_Tree_measure 8 = .ok (.istore_n 1, 1) := by decide +kernel
theorem d_Tree_measure_9 : decode b_Tree_measure 9 = .ok (.aload_n 0, 1) := by decide +kernel
theorem d_Tree_measure_10 : decode b_Tree_measure 10 = .ok (.getfield 33, 3) := by decide +kernel
theorem d_Tree_measure_13 : decode b_Tree_measure 13 = .ok (.iload_n 1, 1) := by decide +kernel
theorem d_Tree_measure_14 : decode b_Tree_measure 14 = .ok (.iconst 0, 1) := by decide +kernel
theorem d_Tree_measure_15 : decode b_Tree_measure 15 = .ok (.iastore, 1) := by decide +kernel
theorem d_Tree_measure_16 : decode b_Tree_measure 16 = .ok (.iload_n 1, 1) := by decide +kernel
theorem d_Tree_measure_17 : decode b_Tree_measure 17 = .ok (.iconst 1, 1) := by decide +kernel
theorem d_Tree_measure_18 : decode b_Tree_measure 18 = .ok (.isub, 1) := by decide +kernel
theorem d_Tree_measure_19 : decode b_Tree_measure 19 = .ok (.istore_n 2, 1) := by decide +kernel
theorem d_Tree_measure_20 : decode b_Tree_measure 20 = .ok (.iload_n 2, 1) := by decide +kernel
theorem d_Tree_measure_21 : decode b_Tree_measure 21 = .ok (.ifCond .lt 28, 3) := by decide +kernel
theorem d_Tree_measure_24 : decode b_Tree_measure 24 = .ok (.aload_n 0, 1) := by decide +kernel
theorem d_Tree_measure_25 : decode b_Tree_measure 25 = .ok (.getfield 33, 3) := by decide +kernel
theorem d_Tree_measure_28 : decode b_Tree_measure 28 = .ok (.iload_n 2, 1) := by decide +kernel
theorem d_Tree_measure_29 : decode b_Tree_measure 29 = .ok (.aload_n 0, 1) := by decide +kernel
theorem d_Tree_measure_30 : decode b_Tree_measure 30 = .ok (.getfield 33, 3) := by decide +kernel
theorem d_Tree_measure_33 : decode b_Tree_measure 33 = .ok (.aload_n 0, 1) := by decide +kernel
theorem d_Tree_measure_34 : decode b_Tree_measure 34 = .ok (.getfield 30, 3) := by decide +kernel
theorem d_Tree_measure_37 : decode b_Tree_measure 37 = .ok (.iload_n 2, 1) := by decide +kernel
theorem d_Tree_measure_38 : decode b_Tree_measure 38 = .ok (.iaload, 1) := by decide +kernel
theorem d_Tree_measure_39 : decode b_Tree_measure 39 = .ok (.iaload, 1) := by decide +kernel
theorem d_Tree_measure_40 : decode b_Tree_measure 40 = .ok (.iconst 1, 1) := by decide +kernel
theorem d_Tree_measure_41 : decode b_Tree_measure 41 = .ok (.iadd, 1) := by decide +kernel
theorem d_Tree_measure_42 : decode b_Tree_measure 42 = .ok (.iastore, 1) := by decide +kernel
theorem d_Tree_measure_43 : decode b_Tree_measure 43 = .ok (.iinc 2 (-1), 3) := by decide +kernel
theorem d_Tree_measure_46 : decode b_Tree_measure 46 = .ok (.goto (-26), 3) := by decide +kernel
theorem d_Tree_measure_49 : decode b_Tree_measure 49 = .ok (.aload_n 0, 1) := by decide +kernel
theorem d_Tree_measure_50 : decode b_Tree_measure 50 = .ok (.getfield 9, 3) := by decide +kernel
theorem d_Tree_measure_53 : decode b_Tree_measure 53 = .ok (.iconst 0, 1) := by decide +kernel
theorem d_Tree_measure_54 : decode b_Tree_measure 54 = .ok (.invokestatic 57, 3) := by decide +kernel
theorem d_Tree_measure_57 : decode b_Tree_measure 57 = .ok (.iconst 0, 1) := by decide +kernel
theorem d_Tree_measure_58 : decode b_Tree_measure 58 = .ok (.istore_n 2, 1) := by decide +kernel
theorem d_Tree_measure_59 : decode b_Tree_measure 59 = .ok (.iload_n 2, 1) := by decide +kernel
theorem d_Tree_measure_60 : decode b_Tree_measure 60 = .ok (.aload_n 0, 1) := by decide +kernel
theorem d_Tree_measure_61 : decode b_Tree_measure 61 = .ok (.getfield 36, 3) := by decide +kernel
theorem d_Tree_measure_64 : decode b_Tree_measure 64 = .ok (.if_icmp .ge 26, 3) := by decide +kernel
theorem d_Tree_measure_67 : decode b_Tree_measure 67 = .ok (.aload_n 0, 1) := by decide +kernel
theorem d_Tree_measure_68 : decode b_Tree_measure 68 = .ok (.getfield 9, 3) := by decide +kernel
theorem d_Tree_measure_71 : decode b_Tree_measure 71 = .ok (.aload_n 0, 1) := by decide +kernel
theorem d_Tree_measure_72 : decode b_Tree_measure 72 = .ok (.getfield 18, 3) := by decide +kernel
theorem d_Tree_measure_75 : decode b_Tree_measure 75 = .ok (.iload_n 2, 1) := by decide +kernel
theorem d_Tree_measure_76 : decode b_Tree_measure 76 = .ok (.iaload, 1) := by decide +kernel
theorem d_Tree_measure_77 : decode b_Tree_measure 77 = .ok (.aload_n 0, 1) := by decide +kernel
theorem d_Tree_measure_78 : decode b_Tree_measure 78 = .ok (.getfield 33, 3) := by decide +kernel
theorem d_Tree_measure_81 : decode b_Tree_measure 81 = .ok (.iload_n 2, 1) := by decide +kernel
theorem d_Tree_measure_82 : decode b_Tree_measure 82 = .ok (.iaload, 1) := by decide +kernel
theorem d_Tree_measure_83 : decode b_Tree_measure 83 = .ok (.iastore, 1) := by decide +kernel
theorem d_Tree_measure_84 : decode b_Tree_measure 84 = .ok (.iinc 2 1, 3) := by decide +kernel
theorem d_Tree_measure_87 : decode b_Tree_measure 87 = .ok (.goto (-28), 3) := by decide +kernel
theorem d_Tree_measure_90 : decode b_Tree_measure 90 = .ok (.aload_n 0, 1) := by decide +kernel
theorem d_Tree_measure_91 : decode b_Tree_measure 91 = .ok (.getfield 9, 3) := by decide +kernel
theorem d_Tree_measure_94 : decode b_Tree_measure 94 = .ok (.invokestatic 73, 3) := by decide +kernel
theorem d_Tree_measure_97 : decode b_Tree_measure 97 = .ok (.ireturn, 1) := by decide +kernel
def f_Tree_measure_b90 (N : Nat) (i_known : Int32) (v_leaves : Nat → Int32) (v_above : Nat → Int32)  (v_lengths : Nat → Int32) (v_depths : Nat → Int32) : Option (Int32 × (Nat → Int32) × (Nat → Int32)) :=
  bd1 (f_PM_greatestOf N 256 v_lengths) fun r_1 =>
  some (r_1, v_lengths, v_depths)
def f_Tree_measure_b59 (N : Nat) (i_known : Int32) (v_leaves : Nat → Int32) (v_above : Nat → Int32)  : Nat → Int32 → (Nat → Int32) → (Nat → Int32) → Option (Int32 × (Nat → Int32) × (Nat → Int32))
  | 0, _, _, _ => none
  | z + 1, l2, v_lengths, v_depths =>
  if i_known ≤ l2 then
  f_Tree_measure_b90 N i_known v_leaves v_above  v_lengths v_depths
  else
  ck (inb l2 256) <|
  ck (inb l2 512) <|
  ck (inb (v_leaves (Int32.toNatClampNeg l2)) 256) <|
  nm (upd v_lengths (Int32.toNatClampNeg (v_leaves (Int32.toNatClampNeg l2))) (v_depths (Int32.toNatClampNeg l2))) fun v_lengths_5 =>
  nm (l2 + 1) fun l2_6 =>
  f_Tree_measure_b59 N i_known v_leaves v_above  z l2_6 v_lengths_5 v_depths
def f_Tree_measure_b49 (N : Nat) (i_known : Int32) (v_leaves : Nat → Int32) (v_above : Nat → Int32)  (v_lengths : Nat → Int32) (v_depths : Nat → Int32) : Option (Int32 × (Nat → Int32) × (Nat → Int32)) :=
  bd1 (f_JArr_fill N 256 0 v_lengths) fun v_lengths_1 =>
  f_Tree_measure_b59 N i_known v_leaves v_above  N 0 v_lengths_1 v_depths
def f_Tree_measure_b20 (N : Nat) (i_known : Int32) (v_leaves : Nat → Int32) (v_above : Nat → Int32)  : Nat → Int32 → (Nat → Int32) → (Nat → Int32) → Option (Int32 × (Nat → Int32) × (Nat → Int32))
  | 0, _, _, _ => none
  | z + 1, l2, v_lengths, v_depths =>
  if l2 < 0 then
  f_Tree_measure_b49 N i_known v_leaves v_above  v_lengths v_depths
  else
  ck (inb l2 512) <|
  ck (inb (v_above (Int32.toNatClampNeg l2)) 512) <|
  ck (inb l2 512) <|
  nm (upd v_depths (Int32.toNatClampNeg l2) ((v_depths (Int32.toNatClampNeg (v_above (Int32.toNatClampNeg l2)))) + 1)) fun v_depths_5 =>
  nm (l2 + (-1)) fun l2_6 =>
  f_Tree_measure_b20 N i_known v_leaves v_above  z l2_6 v_lengths v_depths_5
def f_Tree_measure (N : Nat) (i_known : Int32) (v_leaves : Nat → Int32) (v_above : Nat → Int32)  (v_lengths : Nat → Int32) (v_depths : Nat → Int32) : Option (Int32 × (Nat → Int32) × (Nat → Int32)) :=
  nm ((2 * i_known) - 2) fun l1_1 =>
  ck (inb l1_1 512) <|
  nm (upd v_depths (Int32.toNatClampNeg l1_1) 0) fun v_depths_3 =>
  nm (l1_1 - 1) fun l2_4 =>
  f_Tree_measure_b20 N i_known v_leaves v_above  N l2_4 v_lengths v_depths_3
abbrev R_Tree_measure : Room := ({ frames := 2, cells := 0, slots := 0, locals := 43 } : Room)
def E_Tree_measure (p : Program) (l : Launch) (e : Env) (s : State) (m : MethodId) (args : Array Value) (below : List Frame) (meth : Method) (c : Code) (Q : State → Prop) (A : Nat → Prop) (D : va_G) (cI cL cZ : ClassId) (a_this : Nat) (a_lengths : Nat) (a_leaves : Nat) (a_above : Nat) (a_depths : Nat) (o_halves : Nat) (o_sorted : Nat) (o_starts : Nat) (o_sums : Nat) (i_known : Int32) (i_nextLeaf : Int32) (i_nextSum : Int32) (v_leaves : Nat → Int32) (v_above : Nat → Int32) (res : Int32 × (Nat → Int32) × (Nat → Int32)) : Prop := ∀ (pc : Nat) (H : Heap) (locs : List Loc) (ls : Array Slot) (rv : Int32) (v_lengths : Nat → Int32) (v_depths : Nat → Int32), some (rv, v_lengths, v_depths) = some res → decode b_Tree_measure pc = .ok (.ireturn, 1) → va_P D classes [(a_this, .inr (9, [.ref a_lengths, .ref o_halves, .ref a_leaves, .ref o_sorted, .ref o_starts, .ref o_sums, .ref a_above, .ref a_depths, .int i_known, .int i_nextLeaf, .int i_nextSum])), (a_lengths, .inl (cI, 256, .inl v_lengths)), (a_leaves, .inl (cI, 256, .inl v_leaves)), (a_above, .inl (cI, 512, .inl v_above)), (a_depths, .inl (cI, 512, .inl v_depths))] H → va_D A [(a_this, .inr (9, [.ref a_lengths, .ref o_halves, .ref a_leaves, .ref o_sorted, .ref o_starts, .ref o_sums, .ref a_above, .ref a_depths, .int i_known, .int i_nextLeaf, .int i_nextSum])), (a_lengths, .inl (cI, 256, .inl v_lengths)), (a_leaves, .inl (cI, 256, .inl v_leaves)), (a_above, .inl (cI, 512, .inl v_above)), (a_depths, .inl (cI, 512, .inl v_depths))] → va_S A s.heap H locs → W p l e R_Tree_measure s m args below meth c H locs 0 0 Q (F0 m pc ls [.int rv])
def I_Tree_measure_b90 (p : Program) (l : Launch) (e : Env) (s : State) (m : MethodId) (args : Array Value) (below : List Frame) (meth : Method) (c : Code) (Q : State → Prop) (A : Nat → Prop) (D : va_G) (cI cL cZ : ClassId) (a_this : Nat) (a_lengths : Nat) (a_leaves : Nat) (a_above : Nat) (a_depths : Nat) (o_halves : Nat) (o_sorted : Nat) (o_starts : Nat) (o_sums : Nat) (i_known : Int32) (i_nextLeaf : Int32) (i_nextSum : Int32) (v_leaves : Nat → Int32) (v_above : Nat → Int32) (res : Int32 × (Nat → Int32) × (Nat → Int32)) (kf : (Nat → Int32) → (Nat → Int32) → Option (Int32 × (Nat → Int32) × (Nat → Int32))) : Prop := ∀ (v_lengths : Nat → Int32) (v_depths : Nat → Int32), kf v_lengths v_depths = some res → ∀ (H : Heap) (locs : List Loc) (ls : Array Slot), lv_has ls 3 [(0, .ref a_this)] → va_P D classes [(a_this, .inr (9, [.ref a_lengths, .ref o_halves, .ref a_leaves, .ref o_sorted, .ref o_starts, .ref o_sums, .ref a_above, .ref a_depths, .int i_known, .int i_nextLeaf, .int i_nextSum])), (a_lengths, .inl (cI, 256, .inl v_lengths)), (a_leaves, .inl (cI, 256, .inl v_leaves)), (a_above, .inl (cI, 512, .inl v_above)), (a_depths, .inl (cI, 512, .inl v_depths))] H → va_D A [(a_this, .inr (9, [.ref a_lengths, .ref o_halves, .ref a_leaves, .ref o_sorted, .ref o_starts, .ref o_sums, .ref a_above, .ref a_depths, .int i_known, .int i_nextLeaf, .int i_nextSum])), (a_lengths, .inl (cI, 256, .inl v_lengths)), (a_leaves, .inl (cI, 256, .inl v_leaves)), (a_above, .inl (cI, 512, .inl v_above)), (a_depths, .inl (cI, 512, .inl v_depths))] → va_S A s.heap H locs → W p l e R_Tree_measure s m args below meth c H locs 0 0 Q (F0 m 90 ls [])
def I_Tree_measure_b59 (p : Program) (l : Launch) (e : Env) (s : State) (m : MethodId) (args : Array Value) (below : List Frame) (meth : Method) (c : Code) (Q : State → Prop) (A : Nat → Prop) (D : va_G) (cI cL cZ : ClassId) (a_this : Nat) (a_lengths : Nat) (a_leaves : Nat) (a_above : Nat) (a_depths : Nat) (o_halves : Nat) (o_sorted : Nat) (o_starts : Nat) (o_sums : Nat) (i_known : Int32) (i_nextLeaf : Int32) (i_nextSum : Int32) (v_leaves : Nat → Int32) (v_above : Nat → Int32) (res : Int32 × (Nat → Int32) × (Nat → Int32)) (kf : Int32 → (Nat → Int32) → (Nat → Int32) → Option (Int32 × (Nat → Int32) × (Nat → Int32))) : Prop := ∀ (l2 : Int32) (v_lengths : Nat → Int32) (v_depths : Nat → Int32), kf l2 v_lengths v_depths = some res → ∀ (H : Heap) (locs : List Loc) (ls : Array Slot), lv_has ls 3 [(0, .ref a_this), (2, .int l2)] → va_P D classes [(a_this, .inr (9, [.ref a_lengths, .ref o_halves, .ref a_leaves, .ref o_sorted, .ref o_starts, .ref o_sums, .ref a_above, .ref a_depths, .int i_known, .int i_nextLeaf, .int i_nextSum])), (a_lengths, .inl (cI, 256, .inl v_lengths)), (a_leaves, .inl (cI, 256, .inl v_leaves)), (a_above, .inl (cI, 512, .inl v_above)), (a_depths, .inl (cI, 512, .inl v_depths))] H → va_D A [(a_this, .inr (9, [.ref a_lengths, .ref o_halves, .ref a_leaves, .ref o_sorted, .ref o_starts, .ref o_sums, .ref a_above, .ref a_depths, .int i_known, .int i_nextLeaf, .int i_nextSum])), (a_lengths, .inl (cI, 256, .inl v_lengths)), (a_leaves, .inl (cI, 256, .inl v_leaves)), (a_above, .inl (cI, 512, .inl v_above)), (a_depths, .inl (cI, 512, .inl v_depths))] → va_S A s.heap H locs → W p l e R_Tree_measure s m args below meth c H locs 0 0 Q (F0 m 59 ls [])
def I_Tree_measure_b49 (p : Program) (l : Launch) (e : Env) (s : State) (m : MethodId) (args : Array Value) (below : List Frame) (meth : Method) (c : Code) (Q : State → Prop) (A : Nat → Prop) (D : va_G) (cI cL cZ : ClassId) (a_this : Nat) (a_lengths : Nat) (a_leaves : Nat) (a_above : Nat) (a_depths : Nat) (o_halves : Nat) (o_sorted : Nat) (o_starts : Nat) (o_sums : Nat) (i_known : Int32) (i_nextLeaf : Int32) (i_nextSum : Int32) (v_leaves : Nat → Int32) (v_above : Nat → Int32) (res : Int32 × (Nat → Int32) × (Nat → Int32)) (kf : (Nat → Int32) → (Nat → Int32) → Option (Int32 × (Nat → Int32) × (Nat → Int32))) : Prop := ∀ (v_lengths : Nat → Int32) (v_depths : Nat → Int32), kf v_lengths v_depths = some res → ∀ (H : Heap) (locs : List Loc) (ls : Array Slot), lv_has ls 3 [(0, .ref a_this)] → va_P D classes [(a_this, .inr (9, [.ref a_lengths, .ref o_halves, .ref a_leaves, .ref o_sorted, .ref o_starts, .ref o_sums, .ref a_above, .ref a_depths, .int i_known, .int i_nextLeaf, .int i_nextSum])), (a_lengths, .inl (cI, 256, .inl v_lengths)), (a_leaves, .inl (cI, 256, .inl v_leaves)), (a_above, .inl (cI, 512, .inl v_above)), (a_depths, .inl (cI, 512, .inl v_depths))] H → va_D A [(a_this, .inr (9, [.ref a_lengths, .ref o_halves, .ref a_leaves, .ref o_sorted, .ref o_starts, .ref o_sums, .ref a_above, .ref a_depths, .int i_known, .int i_nextLeaf, .int i_nextSum])), (a_lengths, .inl (cI, 256, .inl v_lengths)), (a_leaves, .inl (cI, 256, .inl v_leaves)), (a_above, .inl (cI, 512, .inl v_above)), (a_depths, .inl (cI, 512, .inl v_depths))] → va_S A s.heap H locs → W p l e R_Tree_measure s m args below meth c H locs 0 0 Q (F0 m 49 ls [])
def I_Tree_measure_b20 (p : Program) (l : Launch) (e : Env) (s : State) (m : MethodId) (args : Array Value) (below : List Frame) (meth : Method) (c : Code) (Q : State → Prop) (A : Nat → Prop) (D : va_G) (cI cL cZ : ClassId) (a_this : Nat) (a_lengths : Nat) (a_leaves : Nat) (a_above : Nat) (a_depths : Nat) (o_halves : Nat) (o_sorted : Nat) (o_starts : Nat) (o_sums : Nat) (i_known : Int32) (i_nextLeaf : Int32) (i_nextSum : Int32) (v_leaves : Nat → Int32) (v_above : Nat → Int32) (res : Int32 × (Nat → Int32) × (Nat → Int32)) (kf : Int32 → (Nat → Int32) → (Nat → Int32) → Option (Int32 × (Nat → Int32) × (Nat → Int32))) : Prop := ∀ (l2 : Int32) (v_lengths : Nat → Int32) (v_depths : Nat → Int32), kf l2 v_lengths v_depths = some res → ∀ (H : Heap) (locs : List Loc) (ls : Array Slot), lv_has ls 3 [(0, .ref a_this), (2, .int l2)] → va_P D classes [(a_this, .inr (9, [.ref a_lengths, .ref o_halves, .ref a_leaves, .ref o_sorted, .ref o_starts, .ref o_sums, .ref a_above, .ref a_depths, .int i_known, .int i_nextLeaf, .int i_nextSum])), (a_lengths, .inl (cI, 256, .inl v_lengths)), (a_leaves, .inl (cI, 256, .inl v_leaves)), (a_above, .inl (cI, 512, .inl v_above)), (a_depths, .inl (cI, 512, .inl v_depths))] H → va_D A [(a_this, .inr (9, [.ref a_lengths, .ref o_halves, .ref a_leaves, .ref o_sorted, .ref o_starts, .ref o_sums, .ref a_above, .ref a_depths, .int i_known, .int i_nextLeaf, .int i_nextSum])), (a_lengths, .inl (cI, 256, .inl v_lengths)), (a_leaves, .inl (cI, 256, .inl v_leaves)), (a_above, .inl (cI, 512, .inl v_above)), (a_depths, .inl (cI, 512, .inl v_depths))] → va_S A s.heap H locs → W p l e R_Tree_measure s m args below meth c H locs 0 0 Q (F0 m 20 ls [])
def I_Tree_measure_b0 (p : Program) (l : Launch) (e : Env) (s : State) (m : MethodId) (args : Array Value) (below : List Frame) (meth : Method) (c : Code) (Q : State → Prop) (A : Nat → Prop) (D : va_G) (cI cL cZ : ClassId) (a_this : Nat) (a_lengths : Nat) (a_leaves : Nat) (a_above : Nat) (a_depths : Nat) (o_halves : Nat) (o_sorted : Nat) (o_starts : Nat) (o_sums : Nat) (i_known : Int32) (i_nextLeaf : Int32) (i_nextSum : Int32) (v_leaves : Nat → Int32) (v_above : Nat → Int32) (res : Int32 × (Nat → Int32) × (Nat → Int32)) (kf : (Nat → Int32) → (Nat → Int32) → Option (Int32 × (Nat → Int32) × (Nat → Int32))) : Prop := ∀ (v_lengths : Nat → Int32) (v_depths : Nat → Int32), kf v_lengths v_depths = some res → ∀ (H : Heap) (locs : List Loc) (ls : Array Slot), lv_has ls 3 [(0, .ref a_this)] → va_P D classes [(a_this, .inr (9, [.ref a_lengths, .ref o_halves, .ref a_leaves, .ref o_sorted, .ref o_starts, .ref o_sums, .ref a_above, .ref a_depths, .int i_known, .int i_nextLeaf, .int i_nextSum])), (a_lengths, .inl (cI, 256, .inl v_lengths)), (a_leaves, .inl (cI, 256, .inl v_leaves)), (a_above, .inl (cI, 512, .inl v_above)), (a_depths, .inl (cI, 512, .inl v_depths))] H → va_D A [(a_this, .inr (9, [.ref a_lengths, .ref o_halves, .ref a_leaves, .ref o_sorted, .ref o_starts, .ref o_sums, .ref a_above, .ref a_depths, .int i_known, .int i_nextLeaf, .int i_nextSum])), (a_lengths, .inl (cI, 256, .inl v_lengths)), (a_leaves, .inl (cI, 256, .inl v_leaves)), (a_above, .inl (cI, 512, .inl v_above)), (a_depths, .inl (cI, 512, .inl v_depths))] → va_S A s.heap H locs → W p l e R_Tree_measure s m args below meth c H locs 0 0 Q (F0 m 0 ls [])
set_option maxHeartbeats 4000000 in
set_option maxRecDepth 100000 in
theorem w_Tree_measure_b90 {p : Program} {l : Launch} {e : Env} {s : State} {m : MethodId} {args : Array Value} {below : List Frame} {meth : Method} {c : Code} {Q : State → Prop} {A : Nat → Prop} {D : va_G} {cI cL cZ : ClassId} {a_this : Nat} {a_lengths : Nat} {a_leaves : Nat} {a_above : Nat} {a_depths : Nat} {o_halves : Nat} {o_sorted : Nat} {o_starts : Nat} {o_sums : Nat} {i_known : Int32} {i_nextLeaf : Int32} {i_nextSum : Int32} {v_leaves : Nat → Int32} {v_above : Nat → Int32} {N : Nat} {res : Int32 × (Nat → Int32) × (Nat → Int32)}  (C : Cx p s m args c b_Tree_measure 3 "PrefixMill$Tree" D [(cI, .int), (cL, .long), (cZ, .boolean)] A) (hret : E_Tree_measure p l e s m args below meth c Q A D cI cL cZ a_this a_lengths a_leaves a_above a_depths o_halves o_sorted o_starts o_sums i_known i_nextLeaf i_nextSum v_leaves v_above res)  : I_Tree_measure_b90 p l e s m args below meth c Q A D cI cL cZ a_this a_lengths a_leaves a_above a_depths o_halves o_sorted o_starts o_sums i_known i_nextLeaf i_nextSum v_leaves v_above res (f_Tree_measure_b90 N i_known v_leaves v_above ) := by
  obtain ⟨hx, hb, hml, hown, hts, hK, hA⟩ := C
  intro v_lengths v_depths h H locs ls hl hP hD hS
  unfold f_Tree_measure_b90 at h
  refine lv_aload_n hx hb d_Tree_measure_90 rfl (lv_at hl 0 rfl) ?_
  refine va_get hx hb hts in_Tree hown hK hP 0 rfl rfl 0 (by decide) (hts _ m_156) (fun _ h9 => h9) rfl d_Tree_measure_91 ?_
  obtain ⟨r_1, hc_2, h⟩ := bd1_s h
  have hPc := hP.sub (ws' := [(a_lengths, .inl (cI, 256, .inl v_lengths))]) [1] rfl
  have hDc := hD.sub (ws' := [(a_lengths, .inl (cI, 256, .inl v_lengths))]) [1] (by decide) rfl
  have hFc := va_free (wc := [(a_lengths, .inl (cI, 256, .inl v_lengths))]) hD hS hA [1] rfl
  refine va_calli (va_runSN (As := [.ref a_lengths]) (rest := []) ⟨hx, hb, hml, hown, hts⟩ (c_PM_greatestOf l D cI cL cZ H.size N a_lengths 256 v_lengths r_1 hc_2) ⟨(my_cn 1 hts m_466 rfl rfl (hts _ m_66) (hts _ m_464) (by decide +kernel) ⟨Nat.le_of_ble_eq_true rfl, Nat.le_of_ble_eq_true rfl⟩), hts _ m_465, trivial⟩ ⟨fun a U g mk q => by obtain ⟨q0, q1, qP, qK, qD⟩ := q; exact ⟨q0, q1, qP, va_K.moved (u := U) (U := U.calling g mk a) (Vm.Alike.refl U.vm) qK, qD⟩, fun U hU hW => ⟨rfl, by rw [hU], by rw [hU]; exact hPc, va_K.moved hW.alike hK, hDc.weaken (fun _ _ _ _ => trivial)⟩⟩ rfl rfl hl.1 rfl (lv_room (Nat.le_of_ble_eq_true rfl)) d_Tree_measure_94 ⟨Nat.zero_le _, Nat.zero_le _⟩) hS (fun q _ h => hFc q h) hFc (fun rr u t H1 locs ht hvm hw hB hz1 hk1 hS => ?_)
  obtain ⟨hP1, hK1, hD1⟩ := hB
  rw [ht] at hP1
  subst hw
  obtain ⟨hP, hD⟩ := va_join (wr := [(a_this, .inr (9, [.ref a_lengths, .ref o_halves, .ref a_leaves, .ref o_sorted, .ref o_starts, .ref o_sums, .ref a_above, .ref a_depths, .int i_known, .int i_nextLeaf, .int i_nextSum])), (a_leaves, .inl (cI, 256, .inl v_leaves)), (a_above, .inl (cI, 512, .inl v_above)), (a_depths, .inl (cI, 512, .inl v_depths))]) (w1 := [(a_lengths, .inl (cI, 256, .inl v_lengths))]) hP hD [1] [0, 2, 3, 4] rfl rfl (by decide) (by decide) hk1 hFc hP1 hD1
  clear hPc hDc hFc hk1 hP1 hD1 hK1
  generalize H1 = H at hP hS ⊢
  have hP : va_P D classes [(a_this, .inr (9, [.ref a_lengths, .ref o_halves, .ref a_leaves, .ref o_sorted, .ref o_starts, .ref o_sums, .ref a_above, .ref a_depths, .int i_known, .int i_nextLeaf, .int i_nextSum])), (a_lengths, .inl (cI, 256, .inl v_lengths)), (a_leaves, .inl (cI, 256, .inl v_leaves)), (a_above, .inl (cI, 512, .inl v_above)), (a_depths, .inl (cI, 512, .inl v_depths))] H := hP.sub [0, 4, 1, 2, 3] rfl
  have hD : va_D A [(a_this, .inr (9, [.ref a_lengths, .ref o_halves, .ref a_leaves, .ref o_sorted, .ref o_starts, .ref o_sums, .ref a_above, .ref a_depths, .int i_known, .int i_nextLeaf, .int i_nextSum])), (a_lengths, .inl (cI, 256, .inl v_lengths)), (a_leaves, .inl (cI, 256, .inl v_leaves)), (a_above, .inl (cI, 512, .inl v_above)), (a_depths, .inl (cI, 512, .inl v_depths))] := hD.sub [0, 4, 1, 2, 3] (by decide) rfl
  exact hret _ _ _ _ r_1 v_lengths v_depths h d_Tree_measure_97 hP hD hS
set_option maxHeartbeats 4000000 in
set_option maxRecDepth 100000 in
theorem w_Tree_measure_b59 {p : Program} {l : Launch} {e : Env} {s : State} {m : MethodId} {args : Array Value} {below : List Frame} {meth : Method} {c : Code} {Q : State → Prop} {A : Nat → Prop} {D : va_G} {cI cL cZ : ClassId} {a_this : Nat} {a_lengths : Nat} {a_leaves : Nat} {a_above : Nat} {a_depths : Nat} {o_halves : Nat} {o_sorted : Nat} {o_starts : Nat} {o_sums : Nat} {i_known : Int32} {i_nextLeaf : Int32} {i_nextSum : Int32} {v_leaves : Nat → Int32} {v_above : Nat → Int32} {N : Nat} {res : Int32 × (Nat → Int32) × (Nat → Int32)}  (C : Cx p s m args c b_Tree_measure 3 "PrefixMill$Tree" D [(cI, .int), (cL, .long), (cZ, .boolean)] A) (hret : E_Tree_measure p l e s m args below meth c Q A D cI cL cZ a_this a_lengths a_leaves a_above a_depths o_halves o_sorted o_starts o_sums i_known i_nextLeaf i_nextSum v_leaves v_above res)  : ∀ z : Nat, I_Tree_measure_b59 p l e s m args below meth c Q A D cI cL cZ a_this a_lengths a_leaves a_above a_depths o_halves o_sorted o_starts o_sums i_known i_nextLeaf i_nextSum v_leaves v_above res (f_Tree_measure_b59 N i_known v_leaves v_above  z) := by
  obtain ⟨hx, hb, hml, hown, hts, hK, hA⟩ := C
  intro z
  induction z with
  | zero => intro l2 v_lengths v_depths h; cases h
  | succ z ih =>
    intro l2 v_lengths v_depths h H locs ls hl hP hD hS
    refine lv_iload_n hx hb d_Tree_measure_59 rfl (lv_at hl 1 rfl) ?_
    refine lv_aload_n hx hb d_Tree_measure_60 rfl (lv_at hl 0 rfl) ?_
    refine va_get hx hb hts in_Tree hown hK hP 0 rfl rfl 8 (by decide) (hts _ m_165) (fun _ h9 => h9) rfl d_Tree_measure_61 ?_
    refine lv_icmp_ge (tgt := 90) hx hb d_Tree_measure_64 (by decide) (fun c_1 => ?_) (fun c_1 => ?_)
    · replace h := if_t h c_1
      exact w_Tree_measure_b90 ⟨hx, hb, hml, hown, hts, hK, hA⟩ hret  _ _ h H locs ls (lv_sub hl [0] rfl) hP hD hS
    · replace h := if_f h c_1
      refine lv_aload_n hx hb d_Tree_measure_67 rfl (lv_at hl 0 rfl) ?_
      refine va_get hx hb hts in_Tree hown hK hP 0 rfl rfl 0 (by decide) (hts _ m_156) (fun _ h9 => h9) rfl d_Tree_measure_68 ?_
      refine lv_aload_n hx hb d_Tree_measure_71 rfl (lv_at hl 0 rfl) ?_
      refine va_get hx hb hts in_Tree hown hK hP 0 rfl rfl 2 (by decide) (hts _ m_159) (fun _ h9 => h9) rfl d_Tree_measure_72 ?_
      refine lv_iload_n hx hb d_Tree_measure_75 rfl (lv_at hl 1 rfl) ?_
      obtain ⟨g_2, h⟩ := ck_s h
      refine va_iald hx hb hK hP 2 0 rfl rfl (inb_s g_2) d_Tree_measure_76 ?_
      refine lv_aload_n hx hb d_Tree_measure_77 rfl (lv_at hl 0 rfl) ?_
      refine va_get hx hb hts in_Tree hown hK hP 0 rfl rfl 7 (by decide) (hts _ m_164) (fun _ h9 => h9) rfl d_Tree_measure_78 ?_
      refine lv_iload_n hx hb d_Tree_measure_81 rfl (lv_at hl 1 rfl) ?_
      obtain ⟨g_3, h⟩ := ck_s h
      refine va_iald hx hb hK hP 4 0 rfl rfl (inb_s g_3) d_Tree_measure_82 ?_
      obtain ⟨g_4, h⟩ := ck_s h
      refine va_iast hx hb hK hP hD hS 1 0 rfl rfl (inb_s g_4) d_Tree_measure_83 (fun H locs hP hD hS => ?_)
      obtain ⟨v_lengths_5, ev_lengths_5⟩ : ∃ y, y = (upd v_lengths (Int32.toNatClampNeg (v_leaves (Int32.toNatClampNeg l2))) (v_depths (Int32.toNatClampNeg l2))) := ⟨_, rfl⟩
      replace h := nm_s h ev_lengths_5
      have hP : va_P D classes [(a_this, .inr (9, [.ref a_lengths, .ref o_halves, .ref a_leaves, .ref o_sorted, .ref o_starts, .ref o_sums, .ref a_above, .ref a_depths, .int i_known, .int i_nextLeaf, .int i_nextSum])), (a_lengths, .inl (cI, 256, .inl v_lengths_5)), (a_leaves, .inl (cI, 256, .inl v_leaves)), (a_above, .inl (cI, 512, .inl v_above)), (a_depths, .inl (cI, 512, .inl v_depths))] H := by rw [ev_lengths_5]; exact hP
      have hD : va_D A [(a_this, .inr (9, [.ref a_lengths, .ref o_halves, .ref a_leaves, .ref o_sorted, .ref o_starts, .ref o_sums, .ref a_above, .ref a_depths, .int i_known, .int i_nextLeaf, .int i_nextSum])), (a_lengths, .inl (cI, 256, .inl v_lengths_5)), (a_leaves, .inl (cI, 256, .inl v_leaves)), (a_above, .inl (cI, 512, .inl v_above)), (a_depths, .inl (cI, 512, .inl v_depths))] := by rw [ev_lengths_5]; exact hD
      obtain ⟨l2_6, el2_6⟩ : ∃ y : Int32, y = l2 + 1 := ⟨_, rfl⟩
      replace h := nm_s h el2_6
      refine lv_iinc (v := l2_6) (lv' := [(2, .int l2_6), (0, .ref a_this)]) hx hb d_Tree_measure_84 hl (k := 1) rfl (by rw [el2_6]; rfl) (by decide) rfl (fun ls hl => ?_)
      refine lv_goto (tgt := 59) hx hb d_Tree_measure_87 (by decide) ?_
      exact ih _ _ _ h H locs ls (lv_sub hl [1, 0] rfl) hP hD hS
set_option maxHeartbeats 4000000 in
set_option maxRecDepth 100000 in
theorem w_Tree_measure_b49 {p : Program} {l : Launch} {e : Env} {s : State} {m : MethodId} {args : Array Value} {below : List Frame} {meth : Method} {c : Code} {Q : State → Prop} {A : Nat → Prop} {D : va_G} {cI cL cZ : ClassId} {a_this : Nat} {a_lengths : Nat} {a_leaves : Nat} {a_above : Nat} {a_depths : Nat} {o_halves : Nat} {o_sorted : Nat} {o_starts : Nat} {o_sums : Nat} {i_known : Int32} {i_nextLeaf : Int32} {i_nextSum : Int32} {v_leaves : Nat → Int32} {v_above : Nat → Int32} {N : Nat} {res : Int32 × (Nat → Int32) × (Nat → Int32)}  (C : Cx p s m args c b_Tree_measure 3 "PrefixMill$Tree" D [(cI, .int), (cL, .long), (cZ, .boolean)] A) (hret : E_Tree_measure p l e s m args below meth c Q A D cI cL cZ a_this a_lengths a_leaves a_above a_depths o_halves o_sorted o_starts o_sums i_known i_nextLeaf i_nextSum v_leaves v_above res)  : I_Tree_measure_b49 p l e s m args below meth c Q A D cI cL cZ a_this a_lengths a_leaves a_above a_depths o_halves o_sorted o_starts o_sums i_known i_nextLeaf i_nextSum v_leaves v_above res (f_Tree_measure_b49 N i_known v_leaves v_above ) := by
  obtain ⟨hx, hb, hml, hown, hts, hK, hA⟩ := C
  intro v_lengths v_depths h H locs ls hl hP hD hS
  unfold f_Tree_measure_b49 at h
  refine lv_aload_n hx hb d_Tree_measure_49 rfl (lv_at hl 0 rfl) ?_
  refine va_get hx hb hts in_Tree hown hK hP 0 rfl rfl 0 (by decide) (hts _ m_156) (fun _ h9 => h9) rfl d_Tree_measure_50 ?_
  refine lv_iconst (v := 0) hx hb d_Tree_measure_53 (by decide) ?_
  obtain ⟨v_lengths_1, hc_2, h⟩ := bd1_s h
  have hPc := hP.sub (ws' := [(a_lengths, .inl (cI, 256, .inl v_lengths))]) [1] rfl
  have hDc := hD.sub (ws' := [(a_lengths, .inl (cI, 256, .inl v_lengths))]) [1] (by decide) rfl
  have hFc := va_free (wc := [(a_lengths, .inl (cI, 256, .inl v_lengths))]) hD hS hA [1] rfl
  refine va_callv (va_runS (As := [.ref a_lengths, .int 0]) (rest := []) ⟨hx, hb, hml, hown, hts⟩ (c_JArr_fill l D cI cL cZ H.size N a_lengths 256 v_lengths 0 v_lengths_1 hc_2) ⟨(my_cb 2 hts m_410 rfl rfl (hts _ m_79) (hts _ m_451) (by decide +kernel) ⟨Nat.le_of_ble_eq_true rfl, Nat.le_of_ble_eq_true rfl⟩), hts _ m_409⟩ ⟨fun a U g mk q => by obtain ⟨q0, q1, qP, qK, qD⟩ := q; exact ⟨q0, q1, qP, va_K.moved (u := U) (U := U.calling g mk a) (Vm.Alike.refl U.vm) qK, qD⟩, fun U hU hW => ⟨rfl, by rw [hU], by rw [hU]; exact hPc, va_K.moved hW.alike hK, hDc.weaken (fun _ _ _ _ => trivial)⟩⟩ rfl rfl hl.1 rfl (lv_room (Nat.le_of_ble_eq_true rfl)) d_Tree_measure_54 ⟨Nat.zero_le _, Nat.zero_le _⟩) hS (fun q _ h => hFc q h) hFc (fun u t H1 locs ht hvm hw hB hz1 hk1 hS => ?_)
  obtain ⟨hP1, hK1, hD1⟩ := hB
  rw [ht] at hP1
  obtain ⟨hP, hD⟩ := va_join (wr := [(a_this, .inr (9, [.ref a_lengths, .ref o_halves, .ref a_leaves, .ref o_sorted, .ref o_starts, .ref o_sums, .ref a_above, .ref a_depths, .int i_known, .int i_nextLeaf, .int i_nextSum])), (a_leaves, .inl (cI, 256, .inl v_leaves)), (a_above, .inl (cI, 512, .inl v_above)), (a_depths, .inl (cI, 512, .inl v_depths))]) (w1 := [(a_lengths, .inl (cI, 256, .inl v_lengths_1))]) hP hD [1] [0, 2, 3, 4] rfl rfl (by decide) (by decide) hk1 hFc hP1 hD1
  clear hPc hDc hFc hk1 hP1 hD1 hK1
  generalize H1 = H at hP hS ⊢
  have hP : va_P D classes [(a_this, .inr (9, [.ref a_lengths, .ref o_halves, .ref a_leaves, .ref o_sorted, .ref o_starts, .ref o_sums, .ref a_above, .ref a_depths, .int i_known, .int i_nextLeaf, .int i_nextSum])), (a_lengths, .inl (cI, 256, .inl v_lengths_1)), (a_leaves, .inl (cI, 256, .inl v_leaves)), (a_above, .inl (cI, 512, .inl v_above)), (a_depths, .inl (cI, 512, .inl v_depths))] H := hP.sub [0, 4, 1, 2, 3] rfl
  have hD : va_D A [(a_this, .inr (9, [.ref a_lengths, .ref o_halves, .ref a_leaves, .ref o_sorted, .ref o_starts, .ref o_sums, .ref a_above, .ref a_depths, .int i_known, .int i_nextLeaf, .int i_nextSum])), (a_lengths, .inl (cI, 256, .inl v_lengths_1)), (a_leaves, .inl (cI, 256, .inl v_leaves)), (a_above, .inl (cI, 512, .inl v_above)), (a_depths, .inl (cI, 512, .inl v_depths))] := hD.sub [0, 4, 1, 2, 3] (by decide) rfl
  refine lv_iconst (v := 0) hx hb d_Tree_measure_57 (by decide) ?_
  refine lv_istore_n (lv' := [(2, .int 0), (0, .ref a_this)]) hx hb d_Tree_measure_58 rfl hl (by decide) rfl (fun ls hl => ?_)
  exact w_Tree_measure_b59 ⟨hx, hb, hml, hown, hts, hK, hA⟩ hret  N _ _ _ h H locs ls (lv_sub hl [1, 0] rfl) hP hD hS
set_option maxHeartbeats 4000000 in
set_option maxRecDepth 100000 in
theorem w_Tree_measure_b20 {p : Program} {l : Launch} {e : Env} {s : State} {m : MethodId} {args : Array Value} {below : List Frame} {meth : Method} {c : Code} {Q : State → Prop} {A : Nat → Prop} {D : va_G} {cI cL cZ : ClassId} {a_this : Nat} {a_lengths : Nat} {a_leaves : Nat} {a_above : Nat} {a_depths : Nat} {o_halves : Nat} {o_sorted : Nat} {o_starts : Nat} {o_sums : Nat} {i_known : Int32} {i_nextLeaf : Int32} {i_nextSum : Int32} {v_leaves : Nat → Int32} {v_above : Nat → Int32} {N : Nat} {res : Int32 × (Nat → Int32) × (Nat → Int32)}  (C : Cx p s m args c b_Tree_measure 3 "PrefixMill$Tree" D [(cI, .int), (cL, .long), (cZ, .boolean)] A) (hret : E_Tree_measure p l e s m args below meth c Q A D cI cL cZ a_this a_lengths a_leaves a_above a_depths o_halves o_sorted o_starts o_sums i_known i_nextLeaf i_nextSum v_leaves v_above res)  : ∀ z : Nat, I_Tree_measure_b20 p l e s m args below meth c Q A D cI cL cZ a_this a_lengths a_leaves a_above a_depths o_halves o_sorted o_starts o_sums i_known i_nextLeaf i_nextSum v_leaves v_above res (f_Tree_measure_b20 N i_known v_leaves v_above  z) := by
  obtain ⟨hx, hb, hml, hown, hts, hK, hA⟩ := C
  intro z
  induction z with
  | zero => intro l2 v_lengths v_depths h; cases h
  | succ z ih =>
    intro l2 v_lengths v_depths h H locs ls hl hP hD hS
    refine lv_iload_n hx hb d_Tree_measure_20 rfl (lv_at hl 1 rfl) ?_
    refine lv_if_lt (tgt := 49) hx hb d_Tree_measure_21 (by decide) (fun c_1 => ?_) (fun c_1 => ?_)
    · replace h := if_t h c_1
      exact w_Tree_measure_b49 ⟨hx, hb, hml, hown, hts, hK, hA⟩ hret  _ _ h H locs ls (lv_sub hl [0] rfl) hP hD hS
    · replace h := if_f h c_1
      refine lv_aload_n hx hb d_Tree_measure_24 rfl (lv_at hl 0 rfl) ?_
      refine va_get hx hb hts in_Tree hown hK hP 0 rfl rfl 7 (by decide) (hts _ m_164) (fun _ h9 => h9) rfl d_Tree_measure_25 ?_
      refine lv_iload_n hx hb d_Tree_measure_28 rfl (lv_at hl 1 rfl) ?_
      refine lv_aload_n hx hb d_Tree_measure_29 rfl (lv_at hl 0 rfl) ?_
      refine va_get hx hb hts in_Tree hown hK hP 0 rfl rfl 7 (by decide) (hts _ m_164) (fun _ h9 => h9) rfl d_Tree_measure_30 ?_
      refine lv_aload_n hx hb d_Tree_measure_33 rfl (lv_at hl 0 rfl) ?_
      refine va_get hx hb hts in_Tree hown hK hP 0 rfl rfl 6 (by decide) (hts _ m_163) (fun _ h9 => h9) rfl d_Tree_measure_34 ?_
      refine lv_iload_n hx hb d_Tree_measure_37 rfl (lv_at hl 1 rfl) ?_
      obtain ⟨g_2, h⟩ := ck_s h
      refine va_iald hx hb hK hP 3 0 rfl rfl (inb_s g_2) d_Tree_measure_38 ?_
      obtain ⟨g_3, h⟩ := ck_s h
      refine va_iald hx hb hK hP 4 0 rfl rfl (inb_s g_3) d_Tree_measure_39 ?_
      refine lv_iconst (v := 1) hx hb d_Tree_measure_40 (by decide) ?_
      refine lv_iadd hx hb d_Tree_measure_41 ?_
      obtain ⟨g_4, h⟩ := ck_s h
      refine va_iast hx hb hK hP hD hS 4 0 rfl rfl (inb_s g_4) d_Tree_measure_42 (fun H locs hP hD hS => ?_)
      obtain ⟨v_depths_5, ev_depths_5⟩ : ∃ y, y = (upd v_depths (Int32.toNatClampNeg l2) ((v_depths (Int32.toNatClampNeg (v_above (Int32.toNatClampNeg l2)))) + 1)) := ⟨_, rfl⟩
      replace h := nm_s h ev_depths_5
      have hP : va_P D classes [(a_this, .inr (9, [.ref a_lengths, .ref o_halves, .ref a_leaves, .ref o_sorted, .ref o_starts, .ref o_sums, .ref a_above, .ref a_depths, .int i_known, .int i_nextLeaf, .int i_nextSum])), (a_lengths, .inl (cI, 256, .inl v_lengths)), (a_leaves, .inl (cI, 256, .inl v_leaves)), (a_above, .inl (cI, 512, .inl v_above)), (a_depths, .inl (cI, 512, .inl v_depths_5))] H := by rw [ev_depths_5]; exact hP
      have hD : va_D A [(a_this, .inr (9, [.ref a_lengths, .ref o_halves, .ref a_leaves, .ref o_sorted, .ref o_starts, .ref o_sums, .ref a_above, .ref a_depths, .int i_known, .int i_nextLeaf, .int i_nextSum])), (a_lengths, .inl (cI, 256, .inl v_lengths)), (a_leaves, .inl (cI, 256, .inl v_leaves)), (a_above, .inl (cI, 512, .inl v_above)), (a_depths, .inl (cI, 512, .inl v_depths_5))] := by rw [ev_depths_5]; exact hD
      obtain ⟨l2_6, el2_6⟩ : ∃ y : Int32, y = l2 + (-1) := ⟨_, rfl⟩
      replace h := nm_s h el2_6
      refine lv_iinc (v := l2_6) (lv' := [(2, .int l2_6), (0, .ref a_this)]) hx hb d_Tree_measure_43 hl (k := 1) rfl (by rw [el2_6]; rfl) (by decide) rfl (fun ls hl => ?_)
      refine lv_goto (tgt := 20) hx hb d_Tree_measure_46 (by decide) ?_
      exact ih _ _ _ h H locs ls (lv_sub hl [1, 0] rfl) hP hD hS
set_option maxHeartbeats 4000000 in
set_option maxRecDepth 100000 in
theorem w_Tree_measure_b0 {p : Program} {l : Launch} {e : Env} {s : State} {m : MethodId} {args : Array Value} {below : List Frame} {meth : Method} {c : Code} {Q : State → Prop} {A : Nat → Prop} {D : va_G} {cI cL cZ : ClassId} {a_this : Nat} {a_lengths : Nat} {a_leaves : Nat} {a_above : Nat} {a_depths : Nat} {o_halves : Nat} {o_sorted : Nat} {o_starts : Nat} {o_sums : Nat} {i_known : Int32} {i_nextLeaf : Int32} {i_nextSum : Int32} {v_leaves : Nat → Int32} {v_above : Nat → Int32} {N : Nat} {res : Int32 × (Nat → Int32) × (Nat → Int32)}  (C : Cx p s m args c b_Tree_measure 3 "PrefixMill$Tree" D [(cI, .int), (cL, .long), (cZ, .boolean)] A) (hret : E_Tree_measure p l e s m args below meth c Q A D cI cL cZ a_this a_lengths a_leaves a_above a_depths o_halves o_sorted o_starts o_sums i_known i_nextLeaf i_nextSum v_leaves v_above res)  : I_Tree_measure_b0 p l e s m args below meth c Q A D cI cL cZ a_this a_lengths a_leaves a_above a_depths o_halves o_sorted o_starts o_sums i_known i_nextLeaf i_nextSum v_leaves v_above res (f_Tree_measure N i_known v_leaves v_above ) := by
  obtain ⟨hx, hb, hml, hown, hts, hK, hA⟩ := C
  intro v_lengths v_depths h H locs ls hl hP hD hS
  unfold f_Tree_measure at h
  refine lv_iconst (v := 2) hx hb d_Tree_measure_0 (by decide) ?_
  refine lv_aload_n hx hb d_Tree_measure_1 rfl (lv_at hl 0 rfl) ?_
  refine va_get hx hb hts in_Tree hown hK hP 0 rfl rfl 8 (by decide) (hts _ m_165) (fun _ h9 => h9) rfl d_Tree_measure_2 ?_
  refine lv_imul hx hb d_Tree_measure_5 ?_
  refine lv_iconst (v := 2) hx hb d_Tree_measure_6 (by decide) ?_
  refine lv_isub hx hb d_Tree_measure_7 ?_
  refine lv_topi (fun l1_1 el1_1 => ?_)
  replace h := nm_s h el1_1
  refine lv_istore_n (lv' := [(1, .int l1_1), (0, .ref a_this)]) hx hb d_Tree_measure_8 rfl hl (by decide) rfl (fun ls hl => ?_)
  refine lv_aload_n hx hb d_Tree_measure_9 rfl (lv_at hl 1 rfl) ?_
  refine va_get hx hb hts in_Tree hown hK hP 0 rfl rfl 7 (by decide) (hts _ m_164) (fun _ h9 => h9) rfl d_Tree_measure_10 ?_
  refine lv_iload_n hx hb d_Tree_measure_13 rfl (lv_at hl 0 rfl) ?_
  refine lv_iconst (v := 0) hx hb d_Tree_measure_14 (by decide) ?_
  obtain ⟨g_2, h⟩ := ck_s h
  refine va_iast hx hb hK hP hD hS 4 0 rfl rfl (inb_s g_2) d_Tree_measure_15 (fun H locs hP hD hS => ?_)
  obtain ⟨v_depths_3, ev_depths_3⟩ : ∃ y, y = (upd v_depths (Int32.toNatClampNeg l1_1) 0) := ⟨_, rfl⟩
  replace h := nm_s h ev_depths_3
  have hP : va_P D classes [(a_this, .inr (9, [.ref a_lengths, .ref o_halves, .ref a_leaves, .ref o_sorted, .ref o_starts, .ref o_sums, .ref a_above, .ref a_depths, .int i_known, .int i_nextLeaf, .int i_nextSum])), (a_lengths, .inl (cI, 256, .inl v_lengths)), (a_leaves, .inl (cI, 256, .inl v_leaves)), (a_above, .inl (cI, 512, .inl v_above)), (a_depths, .inl (cI, 512, .inl v_depths_3))] H := by rw [ev_depths_3]; exact hP
  have hD : va_D A [(a_this, .inr (9, [.ref a_lengths, .ref o_halves, .ref a_leaves, .ref o_sorted, .ref o_starts, .ref o_sums, .ref a_above, .ref a_depths, .int i_known, .int i_nextLeaf, .int i_nextSum])), (a_lengths, .inl (cI, 256, .inl v_lengths)), (a_leaves, .inl (cI, 256, .inl v_leaves)), (a_above, .inl (cI, 512, .inl v_above)), (a_depths, .inl (cI, 512, .inl v_depths_3))] := by rw [ev_depths_3]; exact hD
  refine lv_iload_n hx hb d_Tree_measure_16 rfl (lv_at hl 0 rfl) ?_
  refine lv_iconst (v := 1) hx hb d_Tree_measure_17 (by decide) ?_
  refine lv_isub hx hb d_Tree_measure_18 ?_
  refine lv_topi (fun l2_4 el2_4 => ?_)
  replace h := nm_s h el2_4
  refine lv_istore_n (lv' := [(2, .int l2_4), (1, .int l1_1), (0, .ref a_this)]) hx hb d_Tree_measure_19 rfl hl (by decide) rfl (fun ls hl => ?_)
  exact w_Tree_measure_b20 ⟨hx, hb, hml, hown, hts, hK, hA⟩ hret  N _ _ _ h H locs ls (lv_sub hl [2, 0] rfl) hP hD hS
set_option maxHeartbeats 4000000 in
set_option maxRecDepth 100000 in
theorem c_Tree_measure (l : Launch) (D : va_G) (cI cL cZ : ClassId) (sz N : Nat) (a_this : Nat) (a_lengths : Nat) (a_leaves : Nat) (a_above : Nat) (a_depths : Nat) (o_halves : Nat) (o_sorted : Nat) (o_starts : Nat) (o_sums : Nat) (i_known : Int32) (i_nextLeaf : Int32) (i_nextSum : Int32) (v_lengths : Nat → Int32) (v_leaves : Nat → Int32) (v_above : Nat → Int32) (v_depths : Nat → Int32) (rv : Int32) (v_lengths' : Nat → Int32) (v_depths' : Nat → Int32) (h : f_Tree_measure N i_known v_leaves v_above v_lengths v_depths = some (rv, v_lengths', v_depths')) : Met l ({ cls := "PrefixMill$Tree", name := "measure", desc := "()I" } : Jvm.MethodName) ws_Tree_measure R_Tree_measure (va_Pc [.ref a_this] (fun U => U.heap.size = sz ∧ va_P D classes [(a_this, .inr (9, [.ref a_lengths, .ref o_halves, .ref a_leaves, .ref o_sorted, .ref o_starts, .ref o_sums, .ref a_above, .ref a_depths, .int i_known, .int i_nextLeaf, .int i_nextSum])), (a_lengths, .inl (cI, 256, .inl v_lengths)), (a_leaves, .inl (cI, 256, .inl v_leaves)), (a_above, .inl (cI, 512, .inl v_above)), (a_depths, .inl (cI, 512, .inl v_depths))] U.heap ∧ va_K D classes [(cI, .int), (cL, .long), (cZ, .boolean)] U ∧ va_D (fun _ => True) [(a_this, .inr (9, [.ref a_lengths, .ref o_halves, .ref a_leaves, .ref o_sorted, .ref o_starts, .ref o_sums, .ref a_above, .ref a_depths, .int i_known, .int i_nextLeaf, .int i_nextSum])), (a_lengths, .inl (cI, 256, .inl v_lengths)), (a_leaves, .inl (cI, 256, .inl v_leaves)), (a_above, .inl (cI, 512, .inl v_above)), (a_depths, .inl (cI, 512, .inl v_depths))])) (va_Qi (fun (r0 : Int32) (_ : Unit) => rv = r0) (fun _ t => va_P D classes [(a_this, .inr (9, [.ref a_lengths, .ref o_halves, .ref a_leaves, .ref o_sorted, .ref o_starts, .ref o_sums, .ref a_above, .ref a_depths, .int i_known, .int i_nextLeaf, .int i_nextSum])), (a_lengths, .inl (cI, 256, .inl v_lengths')), (a_leaves, .inl (cI, 256, .inl v_leaves)), (a_above, .inl (cI, 512, .inl v_above)), (a_depths, .inl (cI, 512, .inl v_depths'))] t.heap ∧ va_K D classes [(cI, .int), (cL, .long), (cZ, .boolean)] t ∧ va_D (va_A [(a_this, .inr (9, [.ref a_lengths, .ref o_halves, .ref a_leaves, .ref o_sorted, .ref o_starts, .ref o_sums, .ref a_above, .ref a_depths, .int i_known, .int i_nextLeaf, .int i_nextSum])), (a_lengths, .inl (cI, 256, .inl v_lengths)), (a_leaves, .inl (cI, 256, .inl v_leaves)), (a_above, .inl (cI, 512, .inl v_above)), (a_depths, .inl (cI, 512, .inl v_depths))] sz) [(a_this, .inr (9, [.ref a_lengths, .ref o_halves, .ref a_leaves, .ref o_sorted, .ref o_starts, .ref o_sums, .ref a_above, .ref a_depths, .int i_known, .int i_nextLeaf, .int i_nextSum])), (a_lengths, .inl (cI, 256, .inl v_lengths')), (a_leaves, .inl (cI, 256, .inl v_leaves)), (a_above, .inl (cI, 512, .inl v_above)), (a_depths, .inl (cI, 512, .inl v_depths'))]) (va_A [(a_this, .inr (9, [.ref a_lengths, .ref o_halves, .ref a_leaves, .ref o_sorted, .ref o_starts, .ref o_sums, .ref a_above, .ref a_depths, .int i_known, .int i_nextLeaf, .int i_nextSum])), (a_lengths, .inl (cI, 256, .inl v_lengths)), (a_leaves, .inl (cI, 256, .inl v_leaves)), (a_above, .inl (cI, 512, .inl v_above)), (a_depths, .inl (cI, 512, .inl v_depths))] sz)) 0 0 (va_A [(a_this, .inr (9, [.ref a_lengths, .ref o_halves, .ref a_leaves, .ref o_sorted, .ref o_starts, .ref o_sums, .ref a_above, .ref a_depths, .int i_known, .int i_nextLeaf, .int i_nextSum])), (a_lengths, .inl (cI, 256, .inl v_lengths)), (a_leaves, .inl (cI, 256, .inl v_leaves)), (a_above, .inl (cI, 512, .inl v_above)), (a_depths, .inl (cI, 512, .inl v_depths))] sz) := by
  refine Met.ofW (cc := b_Tree_measure) (maxL := 3) (ret := (some .int)) (by decide) rfl ?_
  intro p e s m args below meth c s₁ B hml hv
  obtain ⟨rfl, hsz, hP, hK, hD0⟩ := hv
  have hx := B.exec
  have hb := B.bytes
  have hr := B.returns
  have hts0 := atoms_spec (ws := ws_Tree_measure) B.pre
  have hts := gd_tl hts0
  clear hts0
  have hown : s.vm.findClass "PrefixMill$Tree" = some m.cls := findClass_of_methodNamed B.named
  have hlocks := B.notSynchronized
  subst hsz
  have hD := hD0.self (sz := s.heap.size)
  generalize hAe : va_A [(a_this, .inr (9, [.ref a_lengths, .ref o_halves, .ref a_leaves, .ref o_sorted, .ref o_starts, .ref o_sums, .ref a_above, .ref a_depths, .int i_known, .int i_nextLeaf, .int i_nextSum])), (a_lengths, .inl (cI, 256, .inl v_lengths)), (a_leaves, .inl (cI, 256, .inl v_leaves)), (a_above, .inl (cI, 512, .inl v_above)), (a_depths, .inl (cI, 512, .inl v_depths))] s.heap.size = A at hD ⊢
  have hA : ∀ q : Nat, s.heap.size ≤ q → A q := fun q h => by rw [← hAe]; exact Or.inr h
  have hS : va_S A s.heap s.heap [] := va_S.rf
  have hP : va_P D classes [(a_this, .inr (9, [.ref a_lengths, .ref o_halves, .ref a_leaves, .ref o_sorted, .ref o_starts, .ref o_sums, .ref a_above, .ref a_depths, .int i_known, .int i_nextLeaf, .int i_nextSum])), (a_lengths, .inl (cI, 256, .inl v_lengths)), (a_leaves, .inl (cI, 256, .inl v_leaves)), (a_above, .inl (cI, 512, .inl v_above)), (a_depths, .inl (cI, 512, .inl v_depths))] s.heap := hP
  have hl := lv_entry ([.ref a_this]) (n := 3) (Nat.le_of_ble_eq_true rfl)
  rw [lg_entry_eq]
  generalize (lg_sl ([.ref a_this]) ++ List.replicate (3 - (lg_sl ([.ref a_this])).length) Slot.unset).toArray = ls at hl ⊢
  have hl : lv_has ls 3 [(0, .ref a_this)] := hl
  have C : Cx p s m ([.ref a_this] : List Value).toArray c b_Tree_measure 3 "PrefixMill$Tree" D [(cI, .int), (cL, .long), (cZ, .boolean)] A := ⟨hx, hb, hml, hown, hts, hK, hA⟩
  refine w_Tree_measure_b0 (res := (rv, v_lengths', v_depths')) C ?_ _ _ h s.heap [] ls hl hP hD hS
  intro pc9 H9 locs9 ls9 rv9 v_lengths9 v_depths9 e9 d9 hP9 hD9 hS9
  cases e9
  exact W.iret (v := rv) hx hb hr (fun t ht hW => ⟨⟨rv, (), rfl, rfl, by rw [ht]; exact hP9, va_K.moved hW.alike hK, hD9⟩, hS9.F ht⟩) hS9.2.2 d9
abbrev b_Tree_halve : ByteArray := prog_9_method_4_code
def ws_Tree_halve : List Cond := .code ({ cls := "PrefixMill$Tree", name := "halve", desc := "()V" } : Jvm.MethodName) b_Tree_halve 2 none :: tt
theorem d_Tree_halve_0 : decode b_Tree_halve 0 = .ok (.iconst 0, 1) := by decide +kernel
theorem d_Tree_halve_1 : decode b_Tree_halve 1 = .ok (.istore_n 1, 1) := by decide +kernel
theorem d_Tree_halve_2 : decode b_Tree_halve 2 = .ok (.iload_n 1, 1) := by decide +kernel
theorem d_Tree_halve_3 : decode b_Tree_halve 3 = .ok (.sipush 256, 3) := by decide +kernel
theorem d_Tree_halve_6 : decode b_Tree_halve 6 = .ok (.if_icmp .ge 25, 3) := by decide +kernel
theorem d_Tree_halve_9 : decode b_Tree_halve 9 = .ok (.aload_n 0, 1) := by decide +kernel
theorem d_Tree_halve_10 : decode b_Tree_halve 10 = .ok (.getfield 15, 3) := by decide +kernel
theorem d_Tree_halve_13 : decode b_Tree_halve 13 = .ok (.iload_n 1, 1) := by decide +kernel
theorem d_Tree_halve_14 : decode b_Tree_halve 14 = .ok (.aload_n 0, 1) := by decide +kernel
theorem d_Tree_halve_15 : decode b_Tree_halve 15 = .ok (.getfield 15, 3) := by decide +kernel
theorem d_Tree_halve_18 : decode b_Tree_halve 18 = .ok (.iload_n 1, 1) := by decide +kernel
theorem d_Tree_halve_19 : decode b_Tree_halve 19 = .ok (.iaload, 1) := by decide +kernel
theorem d_Tree_halve_20 : decode b_Tree_halve 20 = .ok (.iconst 1, 1) := by decide +kernel
theorem d_Tree_halve_21 : decode b_Tree_halve 21 = .ok (.iadd, 1) := by decide +kernel
theorem d_Tree_halve_22 : decode b_Tree_halve 22 = .ok (.iconst 2, 1) := by decide +kernel
theorem d_Tree_halve_23 : decode b_Tree_halve 23 = .ok (.idiv, 1) := by decide +kernel
theorem d_Tree_halve_24 : decode b_Tree_halve 24 = .ok (.iastore, 1) := by decide +kernel
theorem d_Tree_halve_25 : decode b_Tree_halve 25 = .ok (.iinc 1 1, 3) := by decide +kernel
theorem d_Tree_halve_28 : decode b_Tree_halve 28 = .ok (.goto (-26), 3) := by decide +kernel
theorem d_Tree_halve_31 : decode b_Tree_halve 31 = .ok (.return_, 1) := by decide +kernel
def f_Tree_halve_b2 (N : Nat)   : Nat → Int32 → (Nat → Int32) → Option ((Nat → Int32))
  | 0, _, _ => none
  | z + 1, l1, v_halves =>
  if 256 ≤ l1 then
  some (v_halves)
  else
  ck (inb l1 256) <|
  ck (inb l1 256) <|
  nm (upd v_halves (Int32.toNatClampNeg l1) (((v_halves (Int32.toNatClampNeg l1)) + 1) / 2)) fun v_halves_4 =>
  nm (l1 + 1) fun l1_5 =>
  f_Tree_halve_b2 N   z l1_5 v_halves_4
def f_Tree_halve (N : Nat)   (v_halves : Nat → Int32) : Option ((Nat → Int32)) :=
  f_Tree_halve_b2 N   N 0 v_halves
abbrev R_Tree_halve : Room := ({ frames := 0, cells := 0, slots := 0, locals := 0 } : Room)
def E_Tree_halve (p : Program) (l : Launch) (e : Env) (s : State) (m : MethodId) (args : Array Value) (below : List Frame) (meth : Method) (c : Code) (Q : State → Prop) (A : Nat → Prop) (D : va_G) (cI cL cZ : ClassId) (a_this : Nat) (a_halves : Nat) (o_lengths : Nat) (o_leaves : Nat) (o_sorted : Nat) (o_starts : Nat) (o_sums : Nat) (o_above : Nat) (o_depths : Nat) (i_known : Int32) (i_nextLeaf : Int32) (i_nextSum : Int32) (res : (Nat → Int32)) : Prop := ∀ (pc : Nat) (H : Heap) (locs : List Loc) (ls : Array Slot) (v_halves : Nat → Int32), some (v_halves) = some res → decode b_Tree_halve pc = .ok (.return_, 1) → va_P D classes [(a_this, .inr (9, [.ref o_lengths, .ref a_halves, .ref o_leaves, .ref o_sorted, .ref o_starts, .ref o_sums, .ref o_above, .ref o_depths, .int i_known, .int i_nextLeaf, .int i_nextSum])), (a_halves, .inl (cI, 256, .inl v_halves))] H → va_D A [(a_this, .inr (9, [.ref o_lengths, .ref a_halves, .ref o_leaves, .ref o_sorted, .ref o_starts, .ref o_sums, .ref o_above, .ref o_depths, .int i_known, .int i_nextLeaf, .int i_nextSum])), (a_halves, .inl (cI, 256, .inl v_halves))] → va_S A s.heap H locs → W p l e R_Tree_halve s m args below meth c H locs 0 0 Q (F0 m pc ls [])
def I_Tree_halve_b2 (p : Program) (l : Launch) (e : Env) (s : State) (m : MethodId) (args : Array Value) (below : List Frame) (meth : Method) (c : Code) (Q : State → Prop) (A : Nat → Prop) (D : va_G) (cI cL cZ : ClassId) (a_this : Nat) (a_halves : Nat) (o_lengths : Nat) (o_leaves : Nat) (o_sorted : Nat) (o_starts : Nat) (o_sums : Nat) (o_above : Nat) (o_depths : Nat) (i_known : Int32) (i_nextLeaf : Int32) (i_nextSum : Int32) (res : (Nat → Int32)) (kf : Int32 → (Nat → Int32) → Option ((Nat → Int32))) : Prop := ∀ (l1 : Int32) (v_halves : Nat → Int32), kf l1 v_halves = some res → ∀ (H : Heap) (locs : List Loc) (ls : Array Slot), lv_has ls 2 [(0, .ref a_this), (1, .int l1)] → va_P D classes [(a_this, .inr (9, [.ref o_lengths, .ref a_halves, .ref o_leaves, .ref o_sorted, .ref o_starts, .ref o_sums, .ref o_above, .ref o_depths, .int i_known, .int i_nextLeaf, .int i_nextSum])), (a_halves, .inl (cI, 256, .inl v_halves))] H → va_D A [(a_this, .inr (9, [.ref o_lengths, .ref a_halves, .ref o_leaves, .ref o_sorted, .ref o_starts, .ref o_sums, .ref o_above, .ref o_depths, .int i_known, .int i_nextLeaf, .int i_nextSum])), (a_halves, .inl (cI, 256, .inl v_halves))] → va_S A s.heap H locs → W p l e R_Tree_halve s m args below meth c H locs 0 0 Q (F0 m 2 ls [])
def I_Tree_halve_b0 (p : Program) (l : Launch) (e : Env) (s : State) (m : MethodId) (args : Array Value) (below : List Frame) (meth : Method) (c : Code) (Q : State → Prop) (A : Nat → Prop) (D : va_G) (cI cL cZ : ClassId) (a_this : Nat) (a_halves : Nat) (o_lengths : Nat) (o_leaves : Nat) (o_sorted : Nat) (o_starts : Nat) (o_sums : Nat) (o_above : Nat) (o_depths : Nat) (i_known : Int32) (i_nextLeaf : Int32) (i_nextSum : Int32) (res : (Nat → Int32)) (kf : (Nat → Int32) → Option ((Nat → Int32))) : Prop := ∀ (v_halves : Nat → Int32), kf v_halves = some res → ∀ (H : Heap) (locs : List Loc) (ls : Array Slot), lv_has ls 2 [(0, .ref a_this)] → va_P D classes [(a_this, .inr (9, [.ref o_lengths, .ref a_halves, .ref o_leaves, .ref o_sorted, .ref o_starts, .ref o_sums, .ref o_above, .ref o_depths, .int i_known, .int i_nextLeaf, .int i_nextSum])), (a_halves, .inl (cI, 256, .inl v_halves))] H → va_D A [(a_this, .inr (9, [.ref o_lengths, .ref a_halves, .ref o_leaves, .ref o_sorted, .ref o_starts, .ref o_sums, .ref o_above, .ref o_depths, .int i_known, .int i_nextLeaf, .int i_nextSum])), (a_halves, .inl (cI, 256, .inl v_halves))] → va_S A s.heap H locs → W p l e R_Tree_halve s m args below meth c H locs 0 0 Q (F0 m 0 ls [])
set_option maxHeartbeats 4000000 in
set_option maxRecDepth 100000 in
theorem w_Tree_halve_b2 {p : Program} {l : Launch} {e : Env} {s : State} {m : MethodId} {args : Array Value} {below : List Frame} {meth : Method} {c : Code} {Q : State → Prop} {A : Nat → Prop} {D : va_G} {cI cL cZ : ClassId} {a_this : Nat} {a_halves : Nat} {o_lengths : Nat} {o_leaves : Nat} {o_sorted : Nat} {o_starts : Nat} {o_sums : Nat} {o_above : Nat} {o_depths : Nat} {i_known : Int32} {i_nextLeaf : Int32} {i_nextSum : Int32} {N : Nat} {res : (Nat → Int32)}  (C : Cx p s m args c b_Tree_halve 2 "PrefixMill$Tree" D [(cI, .int), (cL, .long), (cZ, .boolean)] A) (hret : E_Tree_halve p l e s m args below meth c Q A D cI cL cZ a_this a_halves o_lengths o_leaves o_sorted o_starts o_sums o_above o_depths i_known i_nextLeaf i_nextSum res)  : ∀ z : Nat, I_Tree_halve_b2 p l e s m args below meth c Q A D cI cL cZ a_this a_halves o_lengths o_leaves o_sorted o_starts o_sums o_above o_depths i_known i_nextLeaf i_nextSum res (f_Tree_halve_b2 N   z) := by
  obtain ⟨hx, hb, hml, hown, hts, hK, hA⟩ := C
  intro z
  induction z with
  | zero => intro l1 v_halves h; cases h
  | succ z ih =>
    intro l1 v_halves h H locs ls hl hP hD hS
    refine lv_iload_n hx hb d_Tree_halve_2 rfl (lv_at hl 1 rfl) ?_
    refine lv_sipush (v := 256) hx hb d_Tree_halve_3 (by decide) ?_
    refine lv_icmp_ge (tgt := 31) hx hb d_Tree_halve_6 (by decide) (fun c_1 => ?_) (fun c_1 => ?_)
    · replace h := if_t h c_1
      exact hret _ _ _ _ v_halves h d_Tree_halve_31 hP hD hS
    · replace h := if_f h c_1
      refine lv_aload_n hx hb d_Tree_halve_9 rfl (lv_at hl 0 rfl) ?_
      refine va_get hx hb hts in_Tree hown hK hP 0 rfl rfl 1 (by decide) (hts _ m_158) (fun _ h9 => h9) rfl d_Tree_halve_10 ?_
      refine lv_iload_n hx hb d_Tree_halve_13 rfl (lv_at hl 1 rfl) ?_
      refine lv_aload_n hx hb d_Tree_halve_14 rfl (lv_at hl 0 rfl) ?_
      refine va_get hx hb hts in_Tree hown hK hP 0 rfl rfl 1 (by decide) (hts _ m_158) (fun _ h9 => h9) rfl d_Tree_halve_15 ?_
      refine lv_iload_n hx hb d_Tree_halve_18 rfl (lv_at hl 1 rfl) ?_
      obtain ⟨g_2, h⟩ := ck_s h
      refine va_iald hx hb hK hP 1 0 rfl rfl (inb_s g_2) d_Tree_halve_19 ?_
      refine lv_iconst (v := 1) hx hb d_Tree_halve_20 (by decide) ?_
      refine lv_iadd hx hb d_Tree_halve_21 ?_
      refine lv_iconst (v := 2) hx hb d_Tree_halve_22 (by decide) ?_
      refine lv_idiv hx hb d_Tree_halve_23 (by decide) ?_
      obtain ⟨g_3, h⟩ := ck_s h
      refine va_iast hx hb hK hP hD hS 1 0 rfl rfl (inb_s g_3) d_Tree_halve_24 (fun H locs hP hD hS => ?_)
      obtain ⟨v_halves_4, ev_halves_4⟩ : ∃ y, y = (upd v_halves (Int32.toNatClampNeg l1) (((v_halves (Int32.toNatClampNeg l1)) + 1) / 2)) := ⟨_, rfl⟩
      replace h := nm_s h ev_halves_4
      have hP : va_P D classes [(a_this, .inr (9, [.ref o_lengths, .ref a_halves, .ref o_leaves, .ref o_sorted, .ref o_starts, .ref o_sums, .ref o_above, .ref o_depths, .int i_known, .int i_nextLeaf, .int i_nextSum])), (a_halves, .inl (cI, 256, .inl v_halves_4))] H := by rw [ev_halves_4]; exact hP
      have hD : va_D A [(a_this, .inr (9, [.ref o_lengths, .ref a_halves, .ref o_leaves, .ref o_sorted, .ref o_starts, .ref o_sums, .ref o_above, .ref o_depths, .int i_known, .int i_nextLeaf, .int i_nextSum])), (a_halves, .inl (cI, 256, .inl v_halves_4))] := by rw [ev_halves_4]; exact hD
      obtain ⟨l1_5, el1_5⟩ : ∃ y : Int32, y = l1 + 1 := ⟨_, rfl⟩
      replace h := nm_s h el1_5
      refine lv_iinc (v := l1_5) (lv' := [(1, .int l1_5), (0, .ref a_this)]) hx hb d_Tree_halve_25 hl (k := 1) rfl (by rw [el1_5]; rfl) (by decide) rfl (fun ls hl => ?_)
      refine lv_goto (tgt := 2) hx hb d_Tree_halve_28 (by decide) ?_
      exact ih _ _ h H locs ls (lv_sub hl [1, 0] rfl) hP hD hS
set_option maxHeartbeats 4000000 in
set_option maxRecDepth 100000 in
theorem w_Tree_halve_b0 {p : Program} {l : Launch} {e : Env} {s : State} {m : MethodId} {args : Array Value} {below : List Frame} {meth : Method} {c : Code} {Q : State → Prop} {A : Nat → Prop} {D : va_G} {cI cL cZ : ClassId} {a_this : Nat} {a_halves : Nat} {o_lengths : Nat} {o_leaves : Nat} {o_sorted : Nat} {o_starts : Nat} {o_sums : Nat} {o_above : Nat} {o_depths : Nat} {i_known : Int32} {i_nextLeaf : Int32} {i_nextSum : Int32} {N : Nat} {res : (Nat → Int32)}  (C : Cx p s m args c b_Tree_halve 2 "PrefixMill$Tree" D [(cI, .int), (cL, .long), (cZ, .boolean)] A) (hret : E_Tree_halve p l e s m args below meth c Q A D cI cL cZ a_this a_halves o_lengths o_leaves o_sorted o_starts o_sums o_above o_depths i_known i_nextLeaf i_nextSum res)  : I_Tree_halve_b0 p l e s m args below meth c Q A D cI cL cZ a_this a_halves o_lengths o_leaves o_sorted o_starts o_sums o_above o_depths i_known i_nextLeaf i_nextSum res (f_Tree_halve N  ) := by
  obtain ⟨hx, hb, hml, hown, hts, hK, hA⟩ := C
  intro v_halves h H locs ls hl hP hD hS
  unfold f_Tree_halve at h
  refine lv_iconst (v := 0) hx hb d_Tree_halve_0 (by decide) ?_
  refine lv_istore_n (lv' := [(1, .int 0), (0, .ref a_this)]) hx hb d_Tree_halve_1 rfl hl (by decide) rfl (fun ls hl => ?_)
  exact w_Tree_halve_b2 ⟨hx, hb, hml, hown, hts, hK, hA⟩ hret  N _ _ h H locs ls (lv_sub hl [1, 0] rfl) hP hD hS
set_option maxHeartbeats 4000000 in
set_option maxRecDepth 100000 in
theorem c_Tree_halve (l : Launch) (D : va_G) (cI cL cZ : ClassId) (sz N : Nat) (a_this : Nat) (a_halves : Nat) (o_lengths : Nat) (o_leaves : Nat) (o_sorted : Nat) (o_starts : Nat) (o_sums : Nat) (o_above : Nat) (o_depths : Nat) (i_known : Int32) (i_nextLeaf : Int32) (i_nextSum : Int32) (v_halves : Nat → Int32) (v_halves' : Nat → Int32) (h : f_Tree_halve N  v_halves = some (v_halves')) : Met l ({ cls := "PrefixMill$Tree", name := "halve", desc := "()V" } : Jvm.MethodName) ws_Tree_halve R_Tree_halve (va_Pc [.ref a_this] (fun U => U.heap.size = sz ∧ va_P D classes [(a_this, .inr (9, [.ref o_lengths, .ref a_halves, .ref o_leaves, .ref o_sorted, .ref o_starts, .ref o_sums, .ref o_above, .ref o_depths, .int i_known, .int i_nextLeaf, .int i_nextSum])), (a_halves, .inl (cI, 256, .inl v_halves))] U.heap ∧ va_K D classes [(cI, .int), (cL, .long), (cZ, .boolean)] U ∧ va_D (fun _ => True) [(a_this, .inr (9, [.ref o_lengths, .ref a_halves, .ref o_leaves, .ref o_sorted, .ref o_starts, .ref o_sums, .ref o_above, .ref o_depths, .int i_known, .int i_nextLeaf, .int i_nextSum])), (a_halves, .inl (cI, 256, .inl v_halves))])) (va_Qv (fun _ : Unit => True) (fun _ t => va_P D classes [(a_this, .inr (9, [.ref o_lengths, .ref a_halves, .ref o_leaves, .ref o_sorted, .ref o_starts, .ref o_sums, .ref o_above, .ref o_depths, .int i_known, .int i_nextLeaf, .int i_nextSum])), (a_halves, .inl (cI, 256, .inl v_halves'))] t.heap ∧ va_K D classes [(cI, .int), (cL, .long), (cZ, .boolean)] t ∧ va_D (va_A [(a_this, .inr (9, [.ref o_lengths, .ref a_halves, .ref o_leaves, .ref o_sorted, .ref o_starts, .ref o_sums, .ref o_above, .ref o_depths, .int i_known, .int i_nextLeaf, .int i_nextSum])), (a_halves, .inl (cI, 256, .inl v_halves))] sz) [(a_this, .inr (9, [.ref o_lengths, .ref a_halves, .ref o_leaves, .ref o_sorted, .ref o_starts, .ref o_sums, .ref o_above, .ref o_depths, .int i_known, .int i_nextLeaf, .int i_nextSum])), (a_halves, .inl (cI, 256, .inl v_halves'))]) (va_A [(a_this, .inr (9, [.ref o_lengths, .ref a_halves, .ref o_leaves, .ref o_sorted, .ref o_starts, .ref o_sums, .ref o_above, .ref o_depths, .int i_known, .int i_nextLeaf, .int i_nextSum])), (a_halves, .inl (cI, 256, .inl v_halves))] sz)) 0 0 (va_A [(a_this, .inr (9, [.ref o_lengths, .ref a_halves, .ref o_leaves, .ref o_sorted, .ref o_starts, .ref o_sums, .ref o_above, .ref o_depths, .int i_known, .int i_nextLeaf, .int i_nextSum])), (a_halves, .inl (cI, 256, .inl v_halves))] sz) := by
  refine Met.ofW (cc := b_Tree_halve) (maxL := 2) (ret := none) (by decide) rfl ?_
  intro p e s m args below meth c s₁ B hml hv
  obtain ⟨rfl, hsz, hP, hK, hD0⟩ := hv
  have hx := B.exec
  have hb := B.bytes
  have hr := B.returns
  have hts0 := atoms_spec (ws := ws_Tree_halve) B.pre
  have hts := gd_tl hts0
  clear hts0
  have hown : s.vm.findClass "PrefixMill$Tree" = some m.cls := findClass_of_methodNamed B.named
  have hlocks := B.notSynchronized
  subst hsz
  have hD := hD0.self (sz := s.heap.size)
  generalize hAe : va_A [(a_this, .inr (9, [.ref o_lengths, .ref a_halves, .ref o_leaves, .ref o_sorted, .ref o_starts, .ref o_sums, .ref o_above, .ref o_depths, .int i_known, .int i_nextLeaf, .int i_nextSum])), (a_halves, .inl (cI, 256, .inl v_halves))] s.heap.size = A at hD ⊢
  have hA : ∀ q : Nat, s.heap.size ≤ q → A q := fun q h => by rw [← hAe]; exact Or.inr h
  have hS : va_S A s.heap s.heap [] := va_S.rf
  have hP : va_P D classes [(a_this, .inr (9, [.ref o_lengths, .ref a_halves, .ref o_leaves, .ref o_sorted, .ref o_starts, .ref o_sums, .ref o_above, .ref o_depths, .int i_known, .int i_nextLeaf, .int i_nextSum])), (a_halves, .inl (cI, 256, .inl v_halves))] s.heap := hP
  have hl := lv_entry ([.ref a_this]) (n := 2) (Nat.le_of_ble_eq_true rfl)
  rw [lg_entry_eq]
  generalize (lg_sl ([.ref a_this]) ++ List.replicate (2 - (lg_sl ([.ref a_this])).length) Slot.unset).toArray = ls at hl ⊢
  have hl : lv_has ls 2 [(0, .ref a_this)] := hl
  have C : Cx p s m ([.ref a_this] : List Value).toArray c b_Tree_halve 2 "PrefixMill$Tree" D [(cI, .int), (cL, .long), (cZ, .boolean)] A := ⟨hx, hb, hml, hown, hts, hK, hA⟩
  refine w_Tree_halve_b0 (res := (v_halves')) C ?_ _ h s.heap [] ls hl hP hD hS
  intro pc9 H9 locs9 ls9 v_halves9 e9 d9 hP9 hD9 hS9
  cases e9
  exact W.vret hx hb hr (fun t ht hW => ⟨⟨(), rfl, trivial, by rw [ht]; exact hP9, va_K.moved hW.alike hK, hD9⟩, hS9.F ht⟩) hS9.2.2 d9
abbrev b_Tree_grow : ByteArray := prog_9_method_3_code
def ws_Tree_grow : List Cond := .code ({ cls := "PrefixMill$Tree", name := "grow", desc := "(I)V" } : Jvm.MethodName) b_Tree_grow 3 none :: tt
theorem d_Tree_grow_0 : decode b_Tree_grow 0 = .ok (.iconst 0, 1) := by decide +kernel
theorem d_Tree_grow_1 : decode b_Tree_grow 1 = .ok (.istore_n 2, 1) := by decide +kernel
theorem d_Tree_grow_2 : decode b_Tree_grow 2 = .ok (.iload_n 2, 1) := by decide +kernel
theorem d_Tree_grow_3 : decode b_Tree_grow 3 = .ok (.bipush 16, 2) := by decide +kernel
theorem d_Tree_grow_5 : decode b_Tree_grow 5 = .ok (.if_icmp .gt 30, 3) := by decide +kernel
theorem d_Tree_grow_8 : decode b_Tree_grow 8 = .ok (.aload_n 0, 1) := by decide +kernel
theorem d_Tree_grow_9 : decode b_Tree_grow 9 = .ok (.invokevirtual 40, 3) := by decide +kernel
theorem d_Tree_grow_12 : decode b_Tree_grow 12 = .ok (.aload_n 0, 1) := by decide +kernel
theorem d_Tree_grow_13 : decode b_Tree_grow 13 = .ok (.invokevirtual 43, 3) := by decide +kernel
theorem d_Tree_grow_16 : decode b_Tree_grow 16 = .ok (.aload_n 0, 1) := by decide +kernel
theorem d_Tree_grow_17 : decode b_Tree_grow 17 = .ok (.invokevirtual 46, 3) := by decide +kernel
theorem d_Tree_grow_20 : decode b_Tree_grow 20 = .ok (.iload_n 1, 1) := by decide +kernel
theorem d_Tree_grow_21 : decode b_Tree_grow 21 = .ok (.if_icmp .gt 4, 3) := by decide +kernel
theorem d_Tree_grow_24 : decode b_Tree_grow 24 = .ok (.return_, 1) := by decide +kernel
theorem d_Tree_grow_25 : decode b_Tree_grow 25 = .ok (.aload_n 0, 1) := by decide +kernel
theorem d_Tree_grow_26 : decode b_Tree_grow 26 = .ok (.invokevirtual 50, 3) := by decide +kernel
theorem d_Tree_grow_29 : decode b_Tree_grow 29 = .ok (.iinc 2 1, 3) := by decide +kernel
theorem d_Tree_grow_32 : decode b_Tree_grow 32 = .ok (.goto (-30), 3) := by decide +kernel
theorem d_Tree_grow_35 : decode b_Tree_grow 35 = .ok (.return_, 1) := by decide +kernel
def f_Tree_grow_b2 (N : Nat) (i_known : Int32) (l1 : Int32)  : Nat → Int32 → Int32 → Int32 → (Nat → Int32) → (Nat → Int32) → (Nat → Int32) → (Nat → Int32) → (Nat → Int32) → (Nat → Int32) → (Nat → Int32) → (Nat → Int32) → Option (Int32 × Int32 × (Nat → Int32) × (Nat → Int32) × (Nat → Int32) × (Nat → Int32) × (Nat → Int32) × (Nat → Int32) × (Nat → Int32) × (Nat → Int32))
  | 0, _, _, _, _, _, _, _, _, _, _, _ => none
  | z + 1, l2, i_nextLeaf, i_nextSum, v_lengths, v_halves, v_leaves, v_sorted, v_starts, v_sums, v_above, v_depths =>
  if 16 < l2 then
  some (i_nextLeaf, i_nextSum, v_lengths, v_halves, v_leaves, v_sorted, v_starts, v_sums, v_above, v_depths)
  else
  bd3 (f_Tree_sortLeaves N i_known v_halves v_leaves v_sorted v_starts) fun v_leaves_2 v_sorted_3 v_starts_4 =>
  bd4 (f_Tree_join N i_known v_halves v_leaves_2 i_nextLeaf i_nextSum v_sums v_above) fun i_nextLeaf_6 i_nextSum_7 v_sums_8 v_above_9 =>
  bd3 (f_Tree_measure N i_known v_leaves_2 v_above_9 v_lengths v_depths) fun r_11 v_lengths_12 v_depths_13 =>
  if l1 < r_11 then
  bd1 (f_Tree_halve N v_halves) fun v_halves_16 =>
  nm (l2 + 1) fun l2_18 =>
  f_Tree_grow_b2 N i_known l1  z l2_18 i_nextLeaf_6 i_nextSum_7 v_lengths_12 v_halves_16 v_leaves_2 v_sorted_3 v_starts_4 v_sums_8 v_above_9 v_depths_13
  else
  some (i_nextLeaf_6, i_nextSum_7, v_lengths_12, v_halves, v_leaves_2, v_sorted_3, v_starts_4, v_sums_8, v_above_9, v_depths_13)
def f_Tree_grow (N : Nat) (i_known : Int32) (l1 : Int32)  (i_nextLeaf : Int32) (i_nextSum : Int32) (v_lengths : Nat → Int32) (v_halves : Nat → Int32) (v_leaves : Nat → Int32) (v_sorted : Nat → Int32) (v_starts : Nat → Int32) (v_sums : Nat → Int32) (v_above : Nat → Int32) (v_depths : Nat → Int32) : Option (Int32 × Int32 × (Nat → Int32) × (Nat → Int32) × (Nat → Int32) × (Nat → Int32) × (Nat → Int32) × (Nat → Int32) × (Nat → Int32) × (Nat → Int32)) :=
  f_Tree_grow_b2 N i_known l1  N 0 i_nextLeaf i_nextSum v_lengths v_halves v_leaves v_sorted v_starts v_sums v_above v_depths
abbrev R_Tree_grow : Room := ({ frames := 3, cells := 0, slots := 0, locals := 70 } : Room)
def E_Tree_grow (p : Program) (l : Launch) (e : Env) (s : State) (m : MethodId) (args : Array Value) (below : List Frame) (meth : Method) (c : Code) (Q : State → Prop) (A : Nat → Prop) (D : va_G) (cI cL cZ : ClassId) (a_this : Nat) (a_lengths : Nat) (a_halves : Nat) (a_leaves : Nat) (a_sorted : Nat) (a_starts : Nat) (a_sums : Nat) (a_above : Nat) (a_depths : Nat) (i_known : Int32) (l1 : Int32) (res : Int32 × Int32 × (Nat → Int32) × (Nat → Int32) × (Nat → Int32) × (Nat → Int32) × (Nat → Int32) × (Nat → Int32) × (Nat → Int32) × (Nat → Int32)) : Prop := ∀ (pc : Nat) (H : Heap) (locs : List Loc) (ls : Array Slot) (i_nextLeaf : Int32) (i_nextSum : Int32) (v_lengths : Nat → Int32) (v_halves : Nat → Int32) (v_leaves : Nat → Int32) (v_sorted : Nat → Int32) (v_starts : Nat → Int32) (v_sums : Nat → Int32) (v_above : Nat → Int32) (v_depths : Nat → Int32), some (i_nextLeaf, i_nextSum, v_lengths, v_halves, v_leaves, v_sorted, v_starts, v_sums, v_above, v_depths) = some res → decode b_Tree_grow pc = .ok (.return_, 1) → va_P D classes [(a_this, .inr (9, [.ref a_lengths, .ref a_halves, .ref a_leaves, .ref a_sorted, .ref a_starts, .ref a_sums, .ref a_above, .ref a_depths, .int i_known, .int i_nextLeaf, .int i_nextSum])), (a_lengths, .inl (cI, 256, .inl v_lengths)), (a_halves, .inl (cI, 256, .inl v_halves)), (a_leaves, .inl (cI, 256, .inl v_leaves)), (a_sorted, .inl (cI, 256, .inl v_sorted)), (a_starts, .inl (cI, 257, .inl v_starts)), (a_sums, .inl (cI, 512, .inl v_sums)), (a_above, .inl (cI, 512, .inl v_above)), (a_depths, .inl (cI, 512, .inl v_depths))] H → va_D A [(a_this, .inr (9, [.ref a_lengths, .ref a_halves, .ref a_leaves, .ref a_sorted, .ref a_starts, .ref a_sums, .ref a_above, .ref a_depths, .int i_known, .int i_nextLeaf, .int i_nextSum])), (a_lengths, .inl (cI, 256, .inl v_lengths)), (a_halves, .inl (cI, 256, .inl v_halves)), (a_leaves, .inl (cI, 256, .inl v_leaves)), (a_sorted, .inl (cI, 256, .inl v_sorted)), (a_starts, .inl (cI, 257, .inl v_starts)), (a_sums, .inl (cI, 512, .inl v_sums)), (a_above, .inl (cI, 512, .inl v_above)), (a_depths, .inl (cI, 512, .inl v_depths))] → va_S A s.heap H locs → W p l e R_Tree_grow s m args below meth c H locs 0 0 Q (F0 m pc ls [])
def I_Tree_grow_b2 (p : Program) (l : Launch) (e : Env) (s : State) (m : MethodId) (args : Array Value) (below : List Frame) (meth : Method) (c : Code) (Q : State → Prop) (A : Nat → Prop) (D : va_G) (cI cL cZ : ClassId) (a_this : Nat) (a_lengths : Nat) (a_halves : Nat) (a_leaves : Nat) (a_sorted : Nat) (a_starts : Nat) (a_sums : Nat) (a_above : Nat) (a_depths : Nat) (i_known : Int32) (l1 : Int32) (res : Int32 × Int32 × (Nat → Int32) × (Nat → Int32) × (Nat → Int32) × (Nat → Int32) × (Nat → Int32) × (Nat → Int32) × (Nat → Int32) × (Nat → Int32)) (kf : Int32 → Int32 → Int32 → (Nat → Int32) → (Nat → Int32) → (Nat → Int32) → (Nat → Int32) → (Nat → Int32) → (Nat → Int32) → (Nat → Int32) → (Nat → Int32) → Option (Int32 × Int32 × (Nat → Int32) × (Nat → Int32) × (Nat → Int32) × (Nat → Int32) × (Nat → Int32) × (Nat → Int32) × (Nat → Int32) × (Nat → Int32))) : Prop := ∀ (l2 : Int32) (i_nextLeaf : Int32) (i_nextSum : Int32) (v_lengths : Nat → Int32) (v_halves : Nat → Int32) (v_leaves : Nat → Int32) (v_sorted : Nat → Int32) (v_starts : Nat → Int32) (v_sums : Nat → Int32) (v_above : Nat → Int32) (v_depths : Nat → Int32), kf l2 i_nextLeaf i_nextSum v_lengths v_halves v_leaves v_sorted v_starts v_sums v_above v_depths = some res → ∀ (H : Heap) (locs : List Loc) (ls : Array Slot), lv_has ls 3 [(0, .ref a_this), (1, .int l1), (2, .int l2)] → va_P D classes [(a_this, .inr (9, [.ref a_lengths, .ref a_halves, .ref a_leaves, .ref a_sorted, .ref a_starts, .ref a_sums, .ref a_above, .ref a_depths, .int i_known, .int i_nextLeaf, .int i_nextSum])), (a_lengths, .inl (cI, 256, .inl v_lengths)), (a_halves, .inl (cI, 256, .inl v_halves)), (a_leaves, .inl (cI, 256, .inl v_leaves)), (a_sorted, .inl (cI, 256, .inl v_sorted)), (a_starts, .inl (cI, 257, .inl v_starts)), (a_sums, .inl (cI, 512, .inl v_sums)), (a_above, .inl (cI, 512, .inl v_above)), (a_depths, .inl (cI, 512, .inl v_depths))] H → va_D A [(a_this, .inr (9, [.ref a_lengths, .ref a_halves, .ref a_leaves, .ref a_sorted, .ref a_starts, .ref a_sums, .ref a_above, .ref a_depths, .int i_known, .int i_nextLeaf, .int i_nextSum])), (a_lengths, .inl (cI, 256, .inl v_lengths)), (a_halves, .inl (cI, 256, .inl v_halves)), (a_leaves, .inl (cI, 256, .inl v_leaves)), (a_sorted, .inl (cI, 256, .inl v_sorted)), (a_starts, .inl (cI, 257, .inl v_starts)), (a_sums, .inl (cI, 512, .inl v_sums)), (a_above, .inl (cI, 512, .inl v_above)), (a_depths, .inl (cI, 512, .inl v_depths))] → va_S A s.heap H locs → W p l e R_Tree_grow s m args below meth c H locs 0 0 Q (F0 m 2 ls [])
def I_Tree_grow_b0 (p : Program) (l : Launch) (e : Env) (s : State) (m : MethodId) (args : Array Value) (below : List Frame) (meth : Method) (c : Code) (Q : State → Prop) (A : Nat → Prop) (D : va_G) (cI cL cZ : ClassId) (a_this : Nat) (a_lengths : Nat) (a_halves : Nat) (a_leaves : Nat) (a_sorted : Nat) (a_starts : Nat) (a_sums : Nat) (a_above : Nat) (a_depths : Nat) (i_known : Int32) (l1 : Int32) (res : Int32 × Int32 × (Nat → Int32) × (Nat → Int32) × (Nat → Int32) × (Nat → Int32) × (Nat → Int32) × (Nat → Int32) × (Nat → Int32) × (Nat → Int32)) (kf : Int32 → Int32 → (Nat → Int32) → (Nat → Int32) → (Nat → Int32) → (Nat → Int32) → (Nat → Int32) → (Nat → Int32) → (Nat → Int32) → (Nat → Int32) → Option (Int32 × Int32 × (Nat → Int32) × (Nat → Int32) × (Nat → Int32) × (Nat → Int32) × (Nat → Int32) × (Nat → Int32) × (Nat → Int32) × (Nat → Int32))) : Prop := ∀ (i_nextLeaf : Int32) (i_nextSum : Int32) (v_lengths : Nat → Int32) (v_halves : Nat → Int32) (v_leaves : Nat → Int32) (v_sorted : Nat → Int32) (v_starts : Nat → Int32) (v_sums : Nat → Int32) (v_above : Nat → Int32) (v_depths : Nat → Int32), kf i_nextLeaf i_nextSum v_lengths v_halves v_leaves v_sorted v_starts v_sums v_above v_depths = some res → ∀ (H : Heap) (locs : List Loc) (ls : Array Slot), lv_has ls 3 [(0, .ref a_this), (1, .int l1)] → va_P D classes [(a_this, .inr (9, [.ref a_lengths, .ref a_halves, .ref a_leaves, .ref a_sorted, .ref a_starts, .ref a_sums, .ref a_above, .ref a_depths, .int i_known, .int i_nextLeaf, .int i_nextSum])), (a_lengths, .inl (cI, 256, .inl v_lengths)), (a_halves, .inl (cI, 256, .inl v_halves)), (a_leaves, .inl (cI, 256, .inl v_leaves)), (a_sorted, .inl (cI, 256, .inl v_sorted)), (a_starts, .inl (cI, 257, .inl v_starts)), (a_sums, .inl (cI, 512, .inl v_sums)), (a_above, .inl (cI, 512, .inl v_above)), (a_depths, .inl (cI, 512, .inl v_depths))] H → va_D A [(a_this, .inr (9, [.ref a_lengths, .ref a_halves, .ref a_leaves, .ref a_sorted, .ref a_starts, .ref a_sums, .ref a_above, .ref a_depths, .int i_known, .int i_nextLeaf, .int i_nextSum])), (a_lengths, .inl (cI, 256, .inl v_lengths)), (a_halves, .inl (cI, 256, .inl v_halves)), (a_leaves, .inl (cI, 256, .inl v_leaves)), (a_sorted, .inl (cI, 256, .inl v_sorted)), (a_starts, .inl (cI, 257, .inl v_starts)), (a_sums, .inl (cI, 512, .inl v_sums)), (a_above, .inl (cI, 512, .inl v_above)), (a_depths, .inl (cI, 512, .inl v_depths))] → va_S A s.heap H locs → W p l e R_Tree_grow s m args below meth c H locs 0 0 Q (F0 m 0 ls [])
set_option maxHeartbeats 4000000 in
set_option maxRecDepth 100000 in
theorem w_Tree_grow_b2 {p : Program} {l : Launch} {e : Env} {s : State} {m : MethodId} {args : Array Value} {below : List Frame} {meth : Method} {c : Code} {Q : State → Prop} {A : Nat → Prop} {D : va_G} {cI cL cZ : ClassId} {a_this : Nat} {a_lengths : Nat} {a_halves : Nat} {a_leaves : Nat} {a_sorted : Nat} {a_starts : Nat} {a_sums : Nat} {a_above : Nat} {a_depths : Nat} {i_known : Int32} {l1 : Int32} {N : Nat} {res : Int32 × Int32 × (Nat → Int32) × (Nat → Int32) × (Nat → Int32) × (Nat → Int32) × (Nat → Int32) × (Nat → Int32) × (Nat → Int32) × (Nat → Int32)}  (C : Cx p s m args c b_Tree_grow 3 "PrefixMill$Tree" D [(cI, .int), (cL, .long), (cZ, .boolean)] A) (hret : E_Tree_grow p l e s m args below meth c Q A D cI cL cZ a_this a_lengths a_halves a_leaves a_sorted a_starts a_sums a_above a_depths i_known l1 res)  : ∀ z : Nat, I_Tree_grow_b2 p l e s m args below meth c Q A D cI cL cZ a_this a_lengths a_halves a_leaves a_sorted a_starts a_sums a_above a_depths i_known l1 res (f_Tree_grow_b2 N i_known l1  z) := by
  obtain ⟨hx, hb, hml, hown, hts, hK, hA⟩ := C
  intro z
  induction z with
  | zero => intro l2 i_nextLeaf i_nextSum v_lengths v_halves v_leaves v_sorted v_starts v_sums v_above v_depths h; cases h
  | succ z ih =>
    intro l2 i_nextLeaf i_nextSum v_lengths v_halves v_leaves v_sorted v_starts v_sums v_above v_depths h H locs ls hl hP hD hS
    refine lv_iload_n hx hb d_Tree_grow_2 rfl (lv_at hl 2 rfl) ?_
    refine lv_bipush (v := 16) hx hb d_Tree_grow_3 (by decide) ?_
    refine lv_icmp_gt (tgt := 35) hx hb d_Tree_grow_5 (by decide) (fun c_1 => ?_) (fun c_1 => ?_)
    · replace h := if_t h c_1
      exact hret _ _ _ _ i_nextLeaf i_nextSum v_lengths v_halves v_leaves v_sorted v_starts v_sums v_above v_depths h d_Tree_grow_35 hP hD hS
    · replace h := if_f h c_1
      refine lv_aload_n hx hb d_Tree_grow_8 rfl (lv_at hl 0 rfl) ?_
      obtain ⟨v_leaves_2, v_sorted_3, v_starts_4, hc_5, h⟩ := bd3_s h
      have hPc := hP.sub (ws' := [(a_this, .inr (9, [.ref a_lengths, .ref a_halves, .ref a_leaves, .ref a_sorted, .ref a_starts, .ref a_sums, .ref a_above, .ref a_depths, .int i_known, .int i_nextLeaf, .int i_nextSum])), (a_halves, .inl (cI, 256, .inl v_halves)), (a_leaves, .inl (cI, 256, .inl v_leaves)), (a_sorted, .inl (cI, 256, .inl v_sorted)), (a_starts, .inl (cI, 257, .inl v_starts))]) [0, 2, 3, 4, 5] rfl
      have hDc := hD.sub (ws' := [(a_this, .inr (9, [.ref a_lengths, .ref a_halves, .ref a_leaves, .ref a_sorted, .ref a_starts, .ref a_sums, .ref a_above, .ref a_depths, .int i_known, .int i_nextLeaf, .int i_nextSum])), (a_halves, .inl (cI, 256, .inl v_halves)), (a_leaves, .inl (cI, 256, .inl v_leaves)), (a_sorted, .inl (cI, 256, .inl v_sorted)), (a_starts, .inl (cI, 257, .inl v_starts))]) [0, 2, 3, 4, 5] (by decide) rfl
      have hFc := va_free (wc := [(a_this, .inr (9, [.ref a_lengths, .ref a_halves, .ref a_leaves, .ref a_sorted, .ref a_starts, .ref a_sums, .ref a_above, .ref a_depths, .int i_known, .int i_nextLeaf, .int i_nextSum])), (a_halves, .inl (cI, 256, .inl v_halves)), (a_leaves, .inl (cI, 256, .inl v_leaves)), (a_sorted, .inl (cI, 256, .inl v_sorted)), (a_starts, .inl (cI, 257, .inl v_starts))]) hD hS hA [0, 2, 3, 4, 5] rfl
      refine va_callv (va_runV (As := []) (rest := []) ⟨hx, hb, hml, hown, hts⟩ (c_Tree_sortLeaves l D cI cL cZ H.size N a_this a_halves a_leaves a_sorted a_starts a_lengths a_sums a_above a_depths i_known i_nextLeaf i_nextSum v_halves v_leaves v_sorted v_starts v_leaves_2 v_sorted_3 v_starts_4 hc_5) ⟨(my_cb 0 hts m_446 rfl rfl (hts _ m_69) (hts _ m_443) (by decide +kernel) ⟨Nat.le_of_ble_eq_true rfl, Nat.le_of_ble_eq_true rfl⟩), hts _ m_445, hts _ m_0⟩ ⟨fun a U g mk q => by obtain ⟨q0, q1, qP, qK, qD⟩ := q; exact ⟨q0, q1, qP, va_K.moved (u := U) (U := U.calling g mk a) (Vm.Alike.refl U.vm) qK, qD⟩, va_recv hK hPc (ci := 9) (q0 := 0) rfl rfl, fun U hU hW => ⟨rfl, by rw [hU], by rw [hU]; exact hPc, va_K.moved hW.alike hK, hDc.weaken (fun _ _ _ _ => trivial)⟩⟩ rfl rfl hl.1 rfl (lv_room (Nat.le_of_ble_eq_true rfl)) d_Tree_grow_9 ⟨Nat.zero_le _, Nat.zero_le _⟩) hS (fun q _ h => hFc q h) hFc (fun u t H1 locs ht hvm hw hB hz1 hk1 hS => ?_)
      obtain ⟨hP1, hK1, hD1⟩ := hB
      rw [ht] at hP1
      obtain ⟨hP, hD⟩ := va_join (wr := [(a_lengths, .inl (cI, 256, .inl v_lengths)), (a_sums, .inl (cI, 512, .inl v_sums)), (a_above, .inl (cI, 512, .inl v_above)), (a_depths, .inl (cI, 512, .inl v_depths))]) (w1 := [(a_this, .inr (9, [.ref a_lengths, .ref a_halves, .ref a_leaves, .ref a_sorted, .ref a_starts, .ref a_sums, .ref a_above, .ref a_depths, .int i_known, .int i_nextLeaf, .int i_nextSum])), (a_halves, .inl (cI, 256, .inl v_halves)), (a_leaves, .inl (cI, 256, .inl v_leaves_2)), (a_sorted, .inl (cI, 256, .inl v_sorted_3)), (a_starts, .inl (cI, 257, .inl v_starts_4))]) hP hD [0, 2, 3, 4, 5] [1, 6, 7, 8] rfl rfl (by decide) (by decide) hk1 hFc hP1 hD1
      clear hPc hDc hFc hk1 hP1 hD1 hK1
      generalize H1 = H at hP hS ⊢
      have hP : va_P D classes [(a_this, .inr (9, [.ref a_lengths, .ref a_halves, .ref a_leaves, .ref a_sorted, .ref a_starts, .ref a_sums, .ref a_above, .ref a_depths, .int i_known, .int i_nextLeaf, .int i_nextSum])), (a_lengths, .inl (cI, 256, .inl v_lengths)), (a_halves, .inl (cI, 256, .inl v_halves)), (a_leaves, .inl (cI, 256, .inl v_leaves_2)), (a_sorted, .inl (cI, 256, .inl v_sorted_3)), (a_starts, .inl (cI, 257, .inl v_starts_4)), (a_sums, .inl (cI, 512, .inl v_sums)), (a_above, .inl (cI, 512, .inl v_above)), (a_depths, .inl (cI, 512, .inl v_depths))] H := hP.sub [4, 0, 5, 6, 7, 8, 1, 2, 3] rfl
      have hD : va_D A [(a_this, .inr (9, [.ref a_lengths, .ref a_halves, .ref a_leaves, .ref a_sorted, .ref a_starts, .ref a_sums, .ref a_above, .ref a_depths, .int i_known, .int i_nextLeaf, .int i_nextSum])), (a_lengths, .inl (cI, 256, .inl v_lengths)), (a_halves, .inl (cI, 256, .inl v_halves)), (a_leaves, .inl (cI, 256, .inl v_leaves_2)), (a_sorted, .inl (cI, 256, .inl v_sorted_3)), (a_starts, .inl (cI, 257, .inl v_starts_4)), (a_sums, .inl (cI, 512, .inl v_sums)), (a_above, .inl (cI, 512, .inl v_above)), (a_depths, .inl (cI, 512, .inl v_depths))] := hD.sub [4, 0, 5, 6, 7, 8, 1, 2, 3] (by decide) rfl
      refine lv_aload_n hx hb d_Tree_grow_12 rfl (lv_at hl 0 rfl) ?_
      obtain ⟨i_nextLeaf_6, i_nextSum_7, v_sums_8, v_above_9, hc_10, h⟩ := bd4_s h
      have hPc := hP.sub (ws' := [(a_this, .inr (9, [.ref a_lengths, .ref a_halves, .ref a_leaves, .ref a_sorted, .ref a_starts, .ref a_sums, .ref a_above, .ref a_depths, .int i_known, .int i_nextLeaf, .int i_nextSum])), (a_halves, .inl (cI, 256, .inl v_halves)), (a_leaves, .inl (cI, 256, .inl v_leaves_2)), (a_sums, .inl (cI, 512, .inl v_sums)), (a_above, .inl (cI, 512, .inl v_above))]) [0, 2, 3, 6, 7] rfl
      have hDc := hD.sub (ws' := [(a_this, .inr (9, [.ref a_lengths, .ref a_halves, .ref a_leaves, .ref a_sorted, .ref a_starts, .ref a_sums, .ref a_above, .ref a_depths, .int i_known, .int i_nextLeaf, .int i_nextSum])), (a_halves, .inl (cI, 256, .inl v_halves)), (a_leaves, .inl (cI, 256, .inl v_leaves_2)), (a_sums, .inl (cI, 512, .inl v_sums)), (a_above, .inl (cI, 512, .inl v_above))]) [0, 2, 3, 6, 7] (by decide) rfl
      have hFc := va_free (wc := [(a_this, .inr (9, [.ref a_lengths, .ref a_halves, .ref a_leaves, .ref a_sorted, .ref a_starts, .ref a_sums, .ref a_above, .ref a_depths, .int i_known, .int i_nextLeaf, .int i_nextSum])), (a_halves, .inl (cI, 256, .inl v_halves)), (a_leaves, .inl (cI, 256, .inl v_leaves_2)), (a_sums, .inl (cI, 512, .inl v_sums)), (a_above, .inl (cI, 512, .inl v_above))]) hD hS hA [0, 2, 3, 6, 7] rfl
      refine va_callv (va_runV (As := []) (rest := []) ⟨hx, hb, hml, hown, hts⟩ (c_Tree_join l D cI cL cZ H.size N a_this a_halves a_leaves a_sums a_above a_lengths a_sorted a_starts a_depths i_known i_nextLeaf i_nextSum v_halves v_leaves_2 v_sums v_above i_nextLeaf_6 i_nextSum_7 v_sums_8 v_above_9 hc_10) ⟨(my_cb 0 hts m_455 rfl rfl (hts _ m_69) (hts _ m_452) (by decide +kernel) ⟨Nat.le_of_ble_eq_true rfl, Nat.le_of_ble_eq_true rfl⟩), hts _ m_454, hts _ m_2⟩ ⟨fun a U g mk q => by obtain ⟨q0, q1, qP, qK, qD⟩ := q; exact ⟨q0, q1, qP, va_K.moved (u := U) (U := U.calling g mk a) (Vm.Alike.refl U.vm) qK, qD⟩, va_recv hK hPc (ci := 9) (q0 := 0) rfl rfl, fun U hU hW => ⟨rfl, by rw [hU], by rw [hU]; exact hPc, va_K.moved hW.alike hK, hDc.weaken (fun _ _ _ _ => trivial)⟩⟩ rfl rfl hl.1 rfl (lv_room (Nat.le_of_ble_eq_true rfl)) d_Tree_grow_13 ⟨Nat.zero_le _, Nat.zero_le _⟩) hS (fun q _ h => hFc q h) hFc (fun u t H1 locs ht hvm hw hB hz1 hk1 hS => ?_)
      obtain ⟨hP1, hK1, hD1⟩ := hB
      rw [ht] at hP1
      obtain ⟨hP, hD⟩ := va_join (wr := [(a_lengths, .inl (cI, 256, .inl v_lengths)), (a_sorted, .inl (cI, 256, .inl v_sorted_3)), (a_starts, .inl (cI, 257, .inl v_starts_4)), (a_depths, .inl (cI, 512, .inl v_depths))]) (w1 := [(a_this, .inr (9, [.ref a_lengths, .ref a_halves, .ref a_leaves, .ref a_sorted, .ref a_starts, .ref a_sums, .ref a_above, .ref a_depths, .int i_known, .int i_nextLeaf_6, .int i_nextSum_7])), (a_halves, .inl (cI, 256, .inl v_halves)), (a_leaves, .inl (cI, 256, .inl v_leaves_2)), (a_sums, .inl (cI, 512, .inl v_sums_8)), (a_above, .inl (cI, 512, .inl v_above_9))]) hP hD [0, 2, 3, 6, 7] [1, 4, 5, 8] rfl rfl (by decide) (by decide) hk1 hFc hP1 hD1
      clear hPc hDc hFc hk1 hP1 hD1 hK1
      generalize H1 = H at hP hS ⊢
      have hP : va_P D classes [(a_this, .inr (9, [.ref a_lengths, .ref a_halves, .ref a_leaves, .ref a_sorted, .ref a_starts, .ref a_sums, .ref a_above, .ref a_depths, .int i_known, .int i_nextLeaf_6, .int i_nextSum_7])), (a_lengths, .inl (cI, 256, .inl v_lengths)), (a_halves, .inl (cI, 256, .inl v_halves)), (a_leaves, .inl (cI, 256, .inl v_leaves_2)), (a_sorted, .inl (cI, 256, .inl v_sorted_3)), (a_starts, .inl (cI, 257, .inl v_starts_4)), (a_sums, .inl (cI, 512, .inl v_sums_8)), (a_above, .inl (cI, 512, .inl v_above_9)), (a_depths, .inl (cI, 512, .inl v_depths))] H := hP.sub [4, 0, 5, 6, 1, 2, 7, 8, 3] rfl
      have hD : va_D A [(a_this, .inr (9, [.ref a_lengths, .ref a_halves, .ref a_leaves, .ref a_sorted, .ref a_starts, .ref a_sums, .ref a_above, .ref a_depths, .int i_known, .int i_nextLeaf_6, .int i_nextSum_7])), (a_lengths, .inl (cI, 256, .inl v_lengths)), (a_halves, .inl (cI, 256, .inl v_halves)), (a_leaves, .inl (cI, 256, .inl v_leaves_2)), (a_sorted, .inl (cI, 256, .inl v_sorted_3)), (a_starts, .inl (cI, 257, .inl v_starts_4)), (a_sums, .inl (cI, 512, .inl v_sums_8)), (a_above, .inl (cI, 512, .inl v_above_9)), (a_depths, .inl (cI, 512, .inl v_depths))] := hD.sub [4, 0, 5, 6, 1, 2, 7, 8, 3] (by decide) rfl
      refine lv_aload_n hx hb d_Tree_grow_16 rfl (lv_at hl 0 rfl) ?_
      obtain ⟨r_11, v_lengths_12, v_depths_13, hc_14, h⟩ := bd3_s h
      have hPc := hP.sub (ws' := [(a_this, .inr (9, [.ref a_lengths, .ref a_halves, .ref a_leaves, .ref a_sorted, .ref a_starts, .ref a_sums, .ref a_above, .ref a_depths, .int i_known, .int i_nextLeaf_6, .int i_nextSum_7])), (a_lengths, .inl (cI, 256, .inl v_lengths)), (a_leaves, .inl (cI, 256, .inl v_leaves_2)), (a_above, .inl (cI, 512, .inl v_above_9)), (a_depths, .inl (cI, 512, .inl v_depths))]) [0, 1, 3, 7, 8] rfl
      have hDc := hD.sub (ws' := [(a_this, .inr (9, [.ref a_lengths, .ref a_halves, .ref a_leaves, .ref a_sorted, .ref a_starts, .ref a_sums, .ref a_above, .ref a_depths, .int i_known, .int i_nextLeaf_6, .int i_nextSum_7])), (a_lengths, .inl (cI, 256, .inl v_lengths)), (a_leaves, .inl (cI, 256, .inl v_leaves_2)), (a_above, .inl (cI, 512, .inl v_above_9)), (a_depths, .inl (cI, 512, .inl v_depths))]) [0, 1, 3, 7, 8] (by decide) rfl
      have hFc := va_free (wc := [(a_this, .inr (9, [.ref a_lengths, .ref a_halves, .ref a_leaves, .ref a_sorted, .ref a_starts, .ref a_sums, .ref a_above, .ref a_depths, .int i_known, .int i_nextLeaf_6, .int i_nextSum_7])), (a_lengths, .inl (cI, 256, .inl v_lengths)), (a_leaves, .inl (cI, 256, .inl v_leaves_2)), (a_above, .inl (cI, 512, .inl v_above_9)), (a_depths, .inl (cI, 512, .inl v_depths))]) hD hS hA [0, 1, 3, 7, 8] rfl
      refine va_calli (va_runV (As := []) (rest := []) ⟨hx, hb, hml, hown, hts⟩ (c_Tree_measure l D cI cL cZ H.size N a_this a_lengths a_leaves a_above a_depths a_halves a_sorted a_starts a_sums i_known i_nextLeaf_6 i_nextSum_7 v_lengths v_leaves_2 v_above_9 v_depths r_11 v_lengths_12 v_depths_13 hc_14) ⟨(my_cb 0 hts m_463 rfl rfl (hts _ m_69) (hts _ m_460) (by decide +kernel) ⟨Nat.le_of_ble_eq_true rfl, Nat.le_of_ble_eq_true rfl⟩), hts _ m_462, hts _ m_4⟩ ⟨fun a U g mk q => by obtain ⟨q0, q1, qP, qK, qD⟩ := q; exact ⟨q0, q1, qP, va_K.moved (u := U) (U := U.calling g mk a) (Vm.Alike.refl U.vm) qK, qD⟩, va_recv hK hPc (ci := 9) (q0 := 0) rfl rfl, fun U hU hW => ⟨rfl, by rw [hU], by rw [hU]; exact hPc, va_K.moved hW.alike hK, hDc.weaken (fun _ _ _ _ => trivial)⟩⟩ rfl rfl hl.1 rfl (lv_room (Nat.le_of_ble_eq_true rfl)) d_Tree_grow_17 ⟨Nat.zero_le _, Nat.zero_le _⟩) hS (fun q _ h => hFc q h) hFc (fun rr u t H1 locs ht hvm hw hB hz1 hk1 hS => ?_)
      obtain ⟨hP1, hK1, hD1⟩ := hB
      rw [ht] at hP1
      subst hw
      obtain ⟨hP, hD⟩ := va_join (wr := [(a_halves, .inl (cI, 256, .inl v_halves)), (a_sorted, .inl (cI, 256, .inl v_sorted_3)), (a_starts, .inl (cI, 257, .inl v_starts_4)), (a_sums, .inl (cI, 512, .inl v_sums_8))]) (w1 := [(a_this, .inr (9, [.ref a_lengths, .ref a_halves, .ref a_leaves, .ref a_sorted, .ref a_starts, .ref a_sums, .ref a_above, .ref a_depths, .int i_known, .int i_nextLeaf_6, .int i_nextSum_7])), (a_lengths, .inl (cI, 256, .inl v_lengths_12)), (a_leaves, .inl (cI, 256, .inl v_leaves_2)), (a_above, .inl (cI, 512, .inl v_above_9)), (a_depths, .inl (cI, 512, .inl v_depths_13))]) hP hD [0, 1, 3, 7, 8] [2, 4, 5, 6] rfl rfl (by decide) (by decide) hk1 hFc hP1 hD1
      clear hPc hDc hFc hk1 hP1 hD1 hK1
      generalize H1 = H at hP hS ⊢
      have hP : va_P D classes [(a_this, .inr (9, [.ref a_lengths, .ref a_halves, .ref a_leaves, .ref a_sorted, .ref a_starts, .ref a_sums, .ref a_above, .ref a_depths, .int i_known, .int i_nextLeaf_6, .int i_nextSum_7])), (a_lengths, .inl (cI, 256, .inl v_lengths_12)), (a_halves, .inl (cI, 256, .inl v_halves)), (a_leaves, .inl (cI, 256, .inl v_leaves_2)), (a_sorted, .inl (cI, 256, .inl v_sorted_3)), (a_starts, .inl (cI, 257, .inl v_starts_4)), (a_sums, .inl (cI, 512, .inl v_sums_8)), (a_above, .inl (cI, 512, .inl v_above_9)), (a_depths, .inl (cI, 512, .inl v_depths_13))] H := hP.sub [4, 5, 0, 6, 1, 2, 3, 7, 8] rfl
      have hD : va_D A [(a_this, .inr (9, [.ref a_lengths, .ref a_halves, .ref a_leaves, .ref a_sorted, .ref a_starts, .ref a_sums, .ref a_above, .ref a_depths, .int i_known, .int i_nextLeaf_6, .int i_nextSum_7])), (a_lengths, .inl (cI, 256, .inl v_lengths_12)), (a_halves, .inl (cI, 256, .inl v_halves)), (a_leaves, .inl (cI, 256, .inl v_leaves_2)), (a_sorted, .inl (cI, 256, .inl v_sorted_3)), (a_starts, .inl (cI, 257, .inl v_starts_4)), (a_sums, .inl (cI, 512, .inl v_sums_8)), (a_above, .inl (cI, 512, .inl v_above_9)), (a_depths, .inl (cI, 512, .inl v_depths_13))] := hD.sub [4, 5, 0, 6, 1, 2, 3, 7, 8] (by decide) rfl
      refine lv_iload_n hx hb d_Tree_grow_20 rfl (lv_at hl 1 rfl) ?_
      refine lv_icmp_gt (tgt := 25) hx hb d_Tree_grow_21 (by decide) (fun c_15 => ?_) (fun c_15 => ?_)
      · replace h := if_t h c_15
        refine lv_aload_n hx hb d_Tree_grow_25 rfl (lv_at hl 0 rfl) ?_
        obtain ⟨v_halves_16, hc_17, h⟩ := bd1_s h
        have hPc := hP.sub (ws' := [(a_this, .inr (9, [.ref a_lengths, .ref a_halves, .ref a_leaves, .ref a_sorted, .ref a_starts, .ref a_sums, .ref a_above, .ref a_depths, .int i_known, .int i_nextLeaf_6, .int i_nextSum_7])), (a_halves, .inl (cI, 256, .inl v_halves))]) [0, 2] rfl
        have hDc := hD.sub (ws' := [(a_this, .inr (9, [.ref a_lengths, .ref a_halves, .ref a_leaves, .ref a_sorted, .ref a_starts, .ref a_sums, .ref a_above, .ref a_depths, .int i_known, .int i_nextLeaf_6, .int i_nextSum_7])), (a_halves, .inl (cI, 256, .inl v_halves))]) [0, 2] (by decide) rfl
        have hFc := va_free (wc := [(a_this, .inr (9, [.ref a_lengths, .ref a_halves, .ref a_leaves, .ref a_sorted, .ref a_starts, .ref a_sums, .ref a_above, .ref a_depths, .int i_known, .int i_nextLeaf_6, .int i_nextSum_7])), (a_halves, .inl (cI, 256, .inl v_halves))]) hD hS hA [0, 2] rfl
        refine va_callv (va_runV (As := []) (rest := []) ⟨hx, hb, hml, hown, hts⟩ (c_Tree_halve l D cI cL cZ H.size N a_this a_halves a_lengths a_leaves a_sorted a_starts a_sums a_above a_depths i_known i_nextLeaf_6 i_nextSum_7 v_halves v_halves_16 hc_17) ⟨(my_cb 0 hts m_473 rfl rfl (hts _ m_69) (hts _ m_470) (by decide +kernel) ⟨Nat.le_of_ble_eq_true rfl, Nat.le_of_ble_eq_true rfl⟩), hts _ m_472, hts _ m_5⟩ ⟨fun a U g mk q => by obtain ⟨q0, q1, qP, qK, qD⟩ := q; exact ⟨q0, q1, qP, va_K.moved (u := U) (U := U.calling g mk a) (Vm.Alike.refl U.vm) qK, qD⟩, va_recv hK hPc (ci := 9) (q0 := 0) rfl rfl, fun U hU hW => ⟨rfl, by rw [hU], by rw [hU]; exact hPc, va_K.moved hW.alike hK, hDc.weaken (fun _ _ _ _ => trivial)⟩⟩ rfl rfl hl.1 rfl (lv_room (Nat.le_of_ble_eq_true rfl)) d_Tree_grow_26 ⟨Nat.zero_le _, Nat.zero_le _⟩) hS (fun q _ h => hFc q h) hFc (fun u t H1 locs ht hvm hw hB hz1 hk1 hS => ?_)
        obtain ⟨hP1, hK1, hD1⟩ := hB
        rw [ht] at hP1
        obtain ⟨hP, hD⟩ := va_join (wr := [(a_lengths, .inl (cI, 256, .inl v_lengths_12)), (a_leaves, .inl (cI, 256, .inl v_leaves_2)), (a_sorted, .inl (cI, 256, .inl v_sorted_3)), (a_starts, .inl (cI, 257, .inl v_starts_4)), (a_sums, .inl (cI, 512, .inl v_sums_8)), (a_above, .inl (cI, 512, .inl v_above_9)), (a_depths, .inl (cI, 512, .inl v_depths_13))]) (w1 := [(a_this, .inr (9, [.ref a_lengths, .ref a_halves, .ref a_leaves, .ref a_sorted, .ref a_starts, .ref a_sums, .ref a_above, .ref a_depths, .int i_known, .int i_nextLeaf_6, .int i_nextSum_7])), (a_halves, .inl (cI, 256, .inl v_halves_16))]) hP hD [0, 2] [1, 3, 4, 5, 6, 7, 8] rfl rfl (by decide) (by decide) hk1 hFc hP1 hD1
        clear hPc hDc hFc hk1 hP1 hD1 hK1
        generalize H1 = H at hP hS ⊢
        have hP : va_P D classes [(a_this, .inr (9, [.ref a_lengths, .ref a_halves, .ref a_leaves, .ref a_sorted, .ref a_starts, .ref a_sums, .ref a_above, .ref a_depths, .int i_known, .int i_nextLeaf_6, .int i_nextSum_7])), (a_lengths, .inl (cI, 256, .inl v_lengths_12)), (a_halves, .inl (cI, 256, .inl v_halves_16)), (a_leaves, .inl (cI, 256, .inl v_leaves_2)), (a_sorted, .inl (cI, 256, .inl v_sorted_3)), (a_starts, .inl (cI, 257, .inl v_starts_4)), (a_sums, .inl (cI, 512, .inl v_sums_8)), (a_above, .inl (cI, 512, .inl v_above_9)), (a_depths, .inl (cI, 512, .inl v_depths_13))] H := hP.sub [7, 0, 8, 1, 2, 3, 4, 5, 6] rfl
        have hD : va_D A [(a_this, .inr (9, [.ref a_lengths, .ref a_halves, .ref a_leaves, .ref a_sorted, .ref a_starts, .ref a_sums, .ref a_above, .ref a_depths, .int i_known, .int i_nextLeaf_6, .int i_nextSum_7])), (a_lengths, .inl (cI, 256, .inl v_lengths_12)), (a_halves, .inl (cI, 256, .inl v_halves_16)), (a_leaves, .inl (cI, 256, .inl v_leaves_2)), (a_sorted, .inl (cI, 256, .inl v_sorted_3)), (a_starts, .inl (cI, 257, .inl v_starts_4)), (a_sums, .inl (cI, 512, .inl v_sums_8)), (a_above, .inl (cI, 512, .inl v_above_9)), (a_depths, .inl (cI, 512, .inl v_depths_13))] := hD.sub [7, 0, 8, 1, 2, 3, 4, 5, 6] (by decide) rfl
        obtain ⟨l2_18, el2_18⟩ : ∃ y : Int32, y = l2 + 1 := ⟨_, rfl⟩
        replace h := nm_s h el2_18
        refine lv_iinc (v := l2_18) (lv' := [(2, .int l2_18), (0, .ref a_this), (1, .int l1)]) hx hb d_Tree_grow_29 hl (k := 2) rfl (by rw [el2_18]; rfl) (by decide) rfl (fun ls hl => ?_)
        refine lv_goto (tgt := 2) hx hb d_Tree_grow_32 (by decide) ?_
        exact ih _ _ _ _ _ _ _ _ _ _ _ h H locs ls (lv_sub hl [1, 2, 0] rfl) hP hD hS
      · replace h := if_f h c_15
        exact hret _ _ _ _ i_nextLeaf_6 i_nextSum_7 v_lengths_12 v_halves v_leaves_2 v_sorted_3 v_starts_4 v_sums_8 v_above_9 v_depths_13 h d_Tree_grow_24 hP hD hS
set_option maxHeartbeats 4000000 in
set_option maxRecDepth 100000 in
theorem w_Tree_grow_b0 {p : Program} {l : Launch} {e : Env} {s : State} {m : MethodId} {args : Array Value} {below : List Frame} {meth : Method} {c : Code} {Q : State → Prop} {A : Nat → Prop} {D : va_G} {cI cL cZ : ClassId} {a_this : Nat} {a_lengths : Nat} {a_halves : Nat} {a_leaves : Nat} {a_sorted : Nat} {a_starts : Nat} {a_sums : Nat} {a_above : Nat} {a_depths : Nat} {i_known : Int32} {l1 : Int32} {N : Nat} {res : Int32 × Int32 × (Nat → Int32) × (Nat → Int32) × (Nat → Int32) × (Nat → Int32) × (Nat → Int32) × (Nat → Int32) × (Nat → Int32) × (Nat → Int32)}  (C : Cx p s m args c b_Tree_grow 3 "PrefixMill$Tree" D [(cI, .int), (cL, .long), (cZ, .boolean)] A) (hret : E_Tree_grow p l e s m args below meth c Q A D cI cL cZ a_this a_lengths a_halves a_leaves a_sorted a_starts a_sums a_above a_depths i_known l1 res)  : I_Tree_grow_b0 p l e s m args below meth c Q A D cI cL cZ a_this a_lengths a_halves a_leaves a_sorted a_starts a_sums a_above a_depths i_known l1 res (f_Tree_grow N i_known l1 ) := by
  obtain ⟨hx, hb, hml, hown, hts, hK, hA⟩ := C
  intro i_nextLeaf i_nextSum v_lengths v_halves v_leaves v_sorted v_starts v_sums v_above v_depths h H locs ls hl hP hD hS
  unfold f_Tree_grow at h
  refine lv_iconst (v := 0) hx hb d_Tree_grow_0 (by decide) ?_
  refine lv_istore_n (lv' := [(2, .int 0), (0, .ref a_this), (1, .int l1)]) hx hb d_Tree_grow_1 rfl hl (by decide) rfl (fun ls hl => ?_)
  exact w_Tree_grow_b2 ⟨hx, hb, hml, hown, hts, hK, hA⟩ hret  N _ _ _ _ _ _ _ _ _ _ _ h H locs ls (lv_sub hl [1, 2, 0] rfl) hP hD hS
set_option maxHeartbeats 4000000 in
set_option maxRecDepth 100000 in
theorem c_Tree_grow (l : Launch) (D : va_G) (cI cL cZ : ClassId) (sz N : Nat) (a_this : Nat) (a_lengths : Nat) (a_halves : Nat) (a_leaves : Nat) (a_sorted : Nat) (a_starts : Nat) (a_sums : Nat) (a_above : Nat) (a_depths : Nat) (i_known : Int32) (i_nextLeaf : Int32) (i_nextSum : Int32) (v_lengths : Nat → Int32) (v_halves : Nat → Int32) (v_leaves : Nat → Int32) (v_sorted : Nat → Int32) (v_starts : Nat → Int32) (v_sums : Nat → Int32) (v_above : Nat → Int32) (v_depths : Nat → Int32) (l1 : Int32) (i_nextLeaf' : Int32) (i_nextSum' : Int32) (v_lengths' : Nat → Int32) (v_halves' : Nat → Int32) (v_leaves' : Nat → Int32) (v_sorted' : Nat → Int32) (v_starts' : Nat → Int32) (v_sums' : Nat → Int32) (v_above' : Nat → Int32) (v_depths' : Nat → Int32) (h : f_Tree_grow N i_known l1 i_nextLeaf i_nextSum v_lengths v_halves v_leaves v_sorted v_starts v_sums v_above v_depths = some (i_nextLeaf', i_nextSum', v_lengths', v_halves', v_leaves', v_sorted', v_starts', v_sums', v_above', v_depths')) : Met l ({ cls := "PrefixMill$Tree", name := "grow", desc := "(I)V" } : Jvm.MethodName) ws_Tree_grow R_Tree_grow (va_Pc [.ref a_this, .int l1] (fun U => U.heap.size = sz ∧ va_P D classes [(a_this, .inr (9, [.ref a_lengths, .ref a_halves, .ref a_leaves, .ref a_sorted, .ref a_starts, .ref a_sums, .ref a_above, .ref a_depths, .int i_known, .int i_nextLeaf, .int i_nextSum])), (a_lengths, .inl (cI, 256, .inl v_lengths)), (a_halves, .inl (cI, 256, .inl v_halves)), (a_leaves, .inl (cI, 256, .inl v_leaves)), (a_sorted, .inl (cI, 256, .inl v_sorted)), (a_starts, .inl (cI, 257, .inl v_starts)), (a_sums, .inl (cI, 512, .inl v_sums)), (a_above, .inl (cI, 512, .inl v_above)), (a_depths, .inl (cI, 512, .inl v_depths))] U.heap ∧ va_K D classes [(cI, .int), (cL, .long), (cZ, .boolean)] U ∧ va_D (fun _ => True) [(a_this, .inr (9, [.ref a_lengths, .ref a_halves, .ref a_leaves, .ref a_sorted, .ref a_starts, .ref a_sums, .ref a_above, .ref a_depths, .int i_known, .int i_nextLeaf, .int i_nextSum])), (a_lengths, .inl (cI, 256, .inl v_lengths)), (a_halves, .inl (cI, 256, .inl v_halves)), (a_leaves, .inl (cI, 256, .inl v_leaves)), (a_sorted, .inl (cI, 256, .inl v_sorted)), (a_starts, .inl (cI, 257, .inl v_starts)), (a_sums, .inl (cI, 512, .inl v_sums)), (a_above, .inl (cI, 512, .inl v_above)), (a_depths, .inl (cI, 512, .inl v_depths))])) (va_Qv (fun _ : Unit => True) (fun _ t => va_P D classes [(a_this, .inr (9, [.ref a_lengths, .ref a_halves, .ref a_leaves, .ref a_sorted, .ref a_starts, .ref a_sums, .ref a_above, .ref a_depths, .int i_known, .int i_nextLeaf', .int i_nextSum'])), (a_lengths, .inl (cI, 256, .inl v_lengths')), (a_halves, .inl (cI, 256, .inl v_halves')), (a_leaves, .inl (cI, 256, .inl v_leaves')), (a_sorted, .inl (cI, 256, .inl v_sorted')), (a_starts, .inl (cI, 257, .inl v_starts')), (a_sums, .inl (cI, 512, .inl v_sums')), (a_above, .inl (cI, 512, .inl v_above')), (a_depths, .inl (cI, 512, .inl v_depths'))] t.heap ∧ va_K D classes [(cI, .int), (cL, .long), (cZ, .boolean)] t ∧ va_D (va_A [(a_this, .inr (9, [.ref a_lengths, .ref a_halves, .ref a_leaves, .ref a_sorted, .ref a_starts, .ref a_sums, .ref a_above, .ref a_depths, .int i_known, .int i_nextLeaf, .int i_nextSum])), (a_lengths, .inl (cI, 256, .inl v_lengths)), (a_halves, .inl (cI, 256, .inl v_halves)), (a_leaves, .inl (cI, 256, .inl v_leaves)), (a_sorted, .inl (cI, 256, .inl v_sorted)), (a_starts, .inl (cI, 257, .inl v_starts)), (a_sums, .inl (cI, 512, .inl v_sums)), (a_above, .inl (cI, 512, .inl v_above)), (a_depths, .inl (cI, 512, .inl v_depths))] sz) [(a_this, .inr (9, [.ref a_lengths, .ref a_halves, .ref a_leaves, .ref a_sorted, .ref a_starts, .ref a_sums, .ref a_above, .ref a_depths, .int i_known, .int i_nextLeaf', .int i_nextSum'])), (a_lengths, .inl (cI, 256, .inl v_lengths')), (a_halves, .inl (cI, 256, .inl v_halves')), (a_leaves, .inl (cI, 256, .inl v_leaves')), (a_sorted, .inl (cI, 256, .inl v_sorted')), (a_starts, .inl (cI, 257, .inl v_starts')), (a_sums, .inl (cI, 512, .inl v_sums')), (a_above, .inl (cI, 512, .inl v_above')), (a_depths, .inl (cI, 512, .inl v_depths'))]) (va_A [(a_this, .inr (9, [.ref a_lengths, .ref a_halves, .ref a_leaves, .ref a_sorted, .ref a_starts, .ref a_sums, .ref a_above, .ref a_depths, .int i_known, .int i_nextLeaf, .int i_nextSum])), (a_lengths, .inl (cI, 256, .inl v_lengths)), (a_halves, .inl (cI, 256, .inl v_halves)), (a_leaves, .inl (cI, 256, .inl v_leaves)), (a_sorted, .inl (cI, 256, .inl v_sorted)), (a_starts, .inl (cI, 257, .inl v_starts)), (a_sums, .inl (cI, 512, .inl v_sums)), (a_above, .inl (cI, 512, .inl v_above)), (a_depths, .inl (cI, 512, .inl v_depths))] sz)) 0 0 (va_A [(a_this, .inr (9, [.ref a_lengths, .ref a_halves, .ref a_leaves, .ref a_sorted, .ref a_starts, .ref a_sums, .ref a_above, .ref a_depths, .int i_known, .int i_nextLeaf, .int i_nextSum])), (a_lengths, .inl (cI, 256, .inl v_lengths)), (a_halves, .inl (cI, 256, .inl v_halves)), (a_leaves, .inl (cI, 256, .inl v_leaves)), (a_sorted, .inl (cI, 256, .inl v_sorted)), (a_starts, .inl (cI, 257, .inl v_starts)), (a_sums, .inl (cI, 512, .inl v_sums)), (a_above, .inl (cI, 512, .inl v_above)), (a_depths, .inl (cI, 512, .inl v_depths))] sz) := by
  refine Met.ofW (cc := b_Tree_grow) (maxL := 3) (ret := none) (by decide) rfl ?_
  intro p e s m args below meth c s₁ B hml hv
  obtain ⟨rfl, hsz, hP, hK, hD0⟩ := hv
  have hx := B.exec
  have hb := B.bytes
  have hr := B.returns
  have hts0 := atoms_spec (ws := ws_Tree_grow) B.pre
  have hts := gd_tl hts0
  clear hts0
  have hown : s.vm.findClass "PrefixMill$Tree" = some m.cls := findClass_of_methodNamed B.named
  have hlocks := B.notSynchronized
  subst hsz
  have hD := hD0.self (sz := s.heap.size)
  generalize hAe : va_A [(a_this, .inr (9, [.ref a_lengths, .ref a_halves, .ref a_leaves, .ref a_sorted, .ref a_starts, .ref a_sums, .ref a_above, .ref a_depths, .int i_known, .int i_nextLeaf, .int i_nextSum])), (a_lengths, .inl (cI, 256, .inl v_lengths)), (a_halves, .inl (cI, 256, .inl v_halves)), (a_leaves, .inl (cI, 256, .inl v_leaves)), (a_sorted, .inl (cI, 256, .inl v_sorted)), (a_starts, .inl (cI, 257, .inl v_starts)), (a_sums, .inl (cI, 512, .inl v_sums)), (a_above, .inl (cI, 512, .inl v_above)), (a_depths, .inl (cI, 512, .inl v_depths))] s.heap.size = A at hD ⊢
  have hA : ∀ q : Nat, s.heap.size ≤ q → A q := fun q h => by rw [← hAe]; exact Or.inr h
  have hS : va_S A s.heap s.heap [] := va_S.rf
  have hP : va_P D classes [(a_this, .inr (9, [.ref a_lengths, .ref a_halves, .ref a_leaves, .ref a_sorted, .ref a_starts, .ref a_sums, .ref a_above, .ref a_depths, .int i_known, .int i_nextLeaf, .int i_nextSum])), (a_lengths, .inl (cI, 256, .inl v_lengths)), (a_halves, .inl (cI, 256, .inl v_halves)), (a_leaves, .inl (cI, 256, .inl v_leaves)), (a_sorted, .inl (cI, 256, .inl v_sorted)), (a_starts, .inl (cI, 257, .inl v_starts)), (a_sums, .inl (cI, 512, .inl v_sums)), (a_above, .inl (cI, 512, .inl v_above)), (a_depths, .inl (cI, 512, .inl v_depths))] s.heap := hP
  have hl := lv_entry ([.ref a_this, .int l1]) (n := 3) (Nat.le_of_ble_eq_true rfl)
  rw [lg_entry_eq]
  generalize (lg_sl ([.ref a_this, .int l1]) ++ List.replicate (3 - (lg_sl ([.ref a_this, .int l1])).length) Slot.unset).toArray = ls at hl ⊢
  have hl : lv_has ls 3 [(0, .ref a_this), (1, .int l1)] := hl
  have C : Cx p s m ([.ref a_this, .int l1] : List Value).toArray c b_Tree_grow 3 "PrefixMill$Tree" D [(cI, .int), (cL, .long), (cZ, .boolean)] A := ⟨hx, hb, hml, hown, hts, hK, hA⟩
  refine w_Tree_grow_b0 (res := (i_nextLeaf', i_nextSum', v_lengths', v_halves', v_leaves', v_sorted', v_starts', v_sums', v_above', v_depths')) C ?_ _ _ _ _ _ _ _ _ _ _ h s.heap [] ls hl hP hD hS
  intro pc9 H9 locs9 ls9 i_nextLeaf9 i_nextSum9 v_lengths9 v_halves9 v_leaves9 v_sorted9 v_starts9 v_sums9 v_above9 v_depths9 e9 d9 hP9 hD9 hS9
  cases e9
  exact W.vret hx hb hr (fun t ht hW => ⟨⟨(), rfl, trivial, by rw [ht]; exact hP9, va_K.moved hW.alike hK, hD9⟩, hS9.F ht⟩) hS9.2.2 d9
abbrev b_Codes_giveCells : ByteArray := prog_2_method_5_code
def ws_Codes_giveCells : List Cond := .code ({ cls := "PrefixMill$Codes", name := "giveCells", desc := "(III)I" } : Jvm.MethodName) b_Codes_giveCells 6 (some .int) :: tt
theorem d_Codes_giveCells_0 : decode b_Codes_giveCells 0 = .ok (.iload_n 2, 1) := by decide +kernel
theorem d_Codes_giveCells_1 : decode b_Codes_giveCells 1 = .ok (.iload_n 3, 1) := by decide +kernel
theorem d_Codes_giveCells_2 : decode b_Codes_giveCells 2 = .ok (.iadd, 1) := by decide +kernel
theorem d_Codes_giveCells_3 : decode b_Codes_giveCells 3 = .ok (.aload_n 0, 1) := by decide +kernel
theorem d_Codes_giveCells_4 : decode b_Codes_giveCells 4 = .ok (.getfield 18, 3) := by decide +kernel
theorem d_Codes_giveCells_7 : decode b_Codes_giveCells 7 = .ok (.arraylength, 1) := by decide +kernel
theorem d_Codes_giveCells_8 : decode b_Codes_giveCells 8 = .ok (.invokestatic 42, 3) := by decide +kernel
theorem d_Codes_giveCells_11 : decode b_Codes_giveCells 11 = .ok (.istore 4, 2) := by decide +kernel
theorem d_Codes_giveCells_13 : decode b_Codes_giveCells 13 = .ok (.iload_n 2, 1) := by decide +kernel
theorem d_Codes_giveCells_14 : decode b_Codes_giveCells 14 = .ok (.istore 5, 2) := by decide +kernel
theorem d_Codes_giveCells_16 : decode b_Codes_giveCells 16 = .ok (.iload 5, 2) := by decide +kernel
theorem d_Codes_giveCells_18 : decode b_Codes_giveCells 18 = .ok (.iload 4, 2) := by decide +kernel
theorem d_Codes_giveCells_20 : decode b_Codes_giveCells 20 = .ok (.if_icmp .ge 17, 3) := by decide +kernel
theorem d_Codes_giveCells_23 : decode b_Codes_giveCells 23 = .ok (.aload_n 0, 1) := by decide +kernel
theorem d_Codes_giveCells_24 : decode b_Codes_giveCells 24 = .ok (.getfield 18, 3) := by decide +kernel
theorem d_Codes_giveCells_27 : decode b_Codes_giveCells 27 = .ok (.iload 5, 2) := by decide +kernel
theorem d_Codes_giveCells_29 : decode b_Codes_giveCells 29 = .ok (.iload_n 1, 1) := by decide +kernel
theorem d_Codes_giveCells_30 : decode b_Codes_giveCells 30 = .ok (.iastore, 1) := by decide +kernel
theorem d_Codes_giveCells_31 : decode b_Codes_giveCells 31 = .ok (.iinc 5 1, 3) := by decide +kernel
theorem d_Codes_giveCells_34 : decode b_Codes_giveCells 34 = .ok (.goto (-18), 3) := by decide +kernel
theorem d_Codes_giveCells_37 : decode b_Codes_giveCells 37 = .ok (.iload 4, 2) := by decide +kernel
theorem d_Codes_giveCells_39 : decode b_Codes_giveCells 39 = .ok (.ireturn, 1) := by decide +kernel
def f_Codes_giveCells_b37 (N : Nat) (l1 : Int32) (l2 : Int32) (l3 : Int32)  (l4 : Int32) (v_cells : Nat → Int32) : Option (Int32 × (Nat → Int32)) :=
  some (l4, v_cells)
def f_Codes_giveCells_b16 (N : Nat) (l1 : Int32) (l2 : Int32) (l3 : Int32)  : Nat → Int32 → Int32 → (Nat → Int32) → Option (Int32 × (Nat → Int32))
  | 0, _, _, _ => none
  | z + 1, l4, l5, v_cells =>
  if l4 ≤ l5 then
  f_Codes_giveCells_b37 N l1 l2 l3  l4 v_cells
  else
  ck (inb l5 2048) <|
  nm (upd v_cells (Int32.toNatClampNeg l5) l1) fun v_cells_3 =>
  nm (l5 + 1) fun l5_4 =>
  f_Codes_giveCells_b16 N l1 l2 l3  z l4 l5_4 v_cells_3
def f_Codes_giveCells (N : Nat) (l1 : Int32) (l2 : Int32) (l3 : Int32)  (v_cells : Nat → Int32) : Option (Int32 × (Nat → Int32)) :=
  bd1 (f_JMath_min N (l2 + l3) (Int32.ofNat 2048)) fun r_1 =>
  f_Codes_giveCells_b16 N l1 l2 l3  N r_1 l2 v_cells
abbrev R_Codes_giveCells : Room := ({ frames := 1, cells := 0, slots := 0, locals := 21 } : Room)
def E_Codes_giveCells (p : Program) (l : Launch) (e : Env) (s : State) (m : MethodId) (args : Array Value) (below : List Frame) (meth : Method) (c : Code) (Q : State → Prop) (A : Nat → Prop) (D : va_G) (cI cL cZ : ClassId) (a_this : Nat) (a_cells : Nat) (o_lengths : Nat) (o_values : Nat) (i_greatest : Int32) (i_known : Int32) (i_highest : Int32) (l1 : Int32) (l2 : Int32) (l3 : Int32) (res : Int32 × (Nat → Int32)) : Prop := ∀ (pc : Nat) (H : Heap) (locs : List Loc) (ls : Array Slot) (rv : Int32) (v_cells : Nat → Int32), some (rv, v_cells) = some res → decode b_Codes_giveCells pc = .ok (.ireturn, 1) → va_P D classes [(a_this, .inr (2, [.ref o_lengths, .ref o_values, .ref a_cells, .int i_greatest, .int i_known, .int i_highest])), (a_cells, .inl (cI, 2048, .inl v_cells))] H → va_D A [(a_this, .inr (2, [.ref o_lengths, .ref o_values, .ref a_cells, .int i_greatest, .int i_known, .int i_highest])), (a_cells, .inl (cI, 2048, .inl v_cells))] → va_S A s.heap H locs → W p l e R_Codes_giveCells s m args below meth c H locs 0 0 Q (F0 m pc ls [.int rv])
def I_Codes_giveCells_b37 (p : Program) (l : Launch) (e : Env) (s : State) (m : MethodId) (args : Array Value) (below : List Frame) (meth : Method) (c : Code) (Q : State → Prop) (A : Nat → Prop) (D : va_G) (cI cL cZ : ClassId) (a_this : Nat) (a_cells : Nat) (o_lengths : Nat) (o_values : Nat) (i_greatest : Int32) (i_known : Int32) (i_highest : Int32) (l1 : Int32) (l2 : Int32) (l3 : Int32) (res : Int32 × (Nat → Int32)) (kf : Int32 → (Nat → Int32) → Option (Int32 × (Nat → Int32))) : Prop := ∀ (l4 : Int32) (v_cells : Nat → Int32), kf l4 v_cells = some res → ∀ (H : Heap) (locs : List Loc) (ls : Array Slot), lv_has ls 6 [(4, .int l4)] → va_P D classes [(a_this, .inr (2, [.ref o_lengths, .ref o_values, .ref a_cells, .int i_greatest, .int i_known, .int i_highest])), (a_cells, .inl (cI, 2048, .inl v_cells))] H → va_D A [(a_this, .inr (2, [.ref o_lengths, .ref o_values, .ref a_cells, .int i_greatest, .int i_known, .int i_highest])), (a_cells, .inl (cI, 2048, .inl v_cells))] → va_S A s.heap H locs → W p l e R_Codes_giveCells s m args below meth c H locs 0 0 Q (F0 m 37 ls [])
def I_Codes_giveCells_b16 (p : Program) (l : Launch) (e : Env) (s : State) (m : MethodId) (args : Array Value) (below : List Frame) (meth : Method) (c : Code) (Q : State → Prop) (A : Nat → Prop) (D : va_G) (cI cL cZ : ClassId) (a_this : Nat) (a_cells : Nat) (o_lengths : Nat) (o_values : Nat) (i_greatest : Int32) (i_known : Int32) (i_highest : Int32) (l1 : Int32) (l2 : Int32) (l3 : Int32) (res : Int32 × (Nat → Int32)) (kf : Int32 → Int32 → (Nat → Int32) → Option (Int32 × (Nat → Int32))) : Prop := ∀ (l4 : Int32) (l5 : Int32) (v_cells : Nat → Int32), kf l4 l5 v_cells = some res → ∀ (H : Heap) (locs : List Loc) (ls : Array Slot), lv_has ls 6 [(0, .ref a_this), (1, .int l1), (4, .int l4), (5, .int l5)] → va_P D classes [(a_this, .inr (2, [.ref o_lengths, .ref o_values, .ref a_cells, .int i_greatest, .int i_known, .int i_highest])), (a_cells, .inl (cI, 2048, .inl v_cells))] H → va_D A [(a_this, .inr (2, [.ref o_lengths, .ref o_values, .ref a_cells, .int i_greatest, .int i_known, .int i_highest])), (a_cells, .inl (cI, 2048, .inl v_cells))] → va_S A s.heap H locs → W p l e R_Codes_giveCells s m args below meth c H locs 0 0 Q (F0 m 16 ls [])
def I_Codes_giveCells_b0 (p : Program) (l : Launch) (e : Env) (s : State) (m : MethodId) (args : Array Value) (below : List Frame) (meth : Method) (c : Code) (Q : State → Prop) (A : Nat → Prop) (D : va_G) (cI cL cZ : ClassId) (a_this : Nat) (a_cells : Nat) (o_lengths : Nat) (o_values : Nat) (i_greatest : Int32) (i_known : Int32) (i_highest : Int32) (l1 : Int32) (l2 : Int32) (l3 : Int32) (res : Int32 × (Nat → Int32)) (kf : (Nat → Int32) → Option (Int32 × (Nat → Int32))) : Prop := ∀ (v_cells : Nat → Int32), kf v_cells = some res → ∀ (H : Heap) (locs : List Loc) (ls : Array Slot), lv_has ls 6 [(0, .ref a_this), (1, .int l1), (2, .int l2), (3, .int l3)] → va_P D classes [(a_this, .inr (2, [.ref o_lengths, .ref o_values, .ref a_cells, .int i_greatest, .int i_known, .int i_highest])), (a_cells, .inl (cI, 2048, .inl v_cells))] H → va_D A [(a_this, .inr (2, [.ref o_lengths, .ref o_values, .ref a_cells, .int i_greatest, .int i_known, .int i_highest])), (a_cells, .inl (cI, 2048, .inl v_cells))] → va_S A s.heap H locs → W p l e R_Codes_giveCells s m args below meth c H locs 0 0 Q (F0 m 0 ls [])
set_option maxHeartbeats 4000000 in
set_option maxRecDepth 100000 in
theorem w_Codes_giveCells_b37 {p : Program} {l : Launch} {e : Env} {s : State} {m : MethodId} {args : Array Value} {below : List Frame} {meth : Method} {c : Code} {Q : State → Prop} {A : Nat → Prop} {D : va_G} {cI cL cZ : ClassId} {a_this : Nat} {a_cells : Nat} {o_lengths : Nat} {o_values : Nat} {i_greatest : Int32} {i_known : Int32} {i_highest : Int32} {l1 : Int32} {l2 : Int32} {l3 : Int32} {N : Nat} {res : Int32 × (Nat → Int32)}  (C : Cx p s m args c b_Codes_giveCells 6 "PrefixMill$Codes" D [(cI, .int), (cL, .long), (cZ, .boolean)] A) (hret : E_Codes_giveCells p l e s m args below meth c Q A D cI cL cZ a_this a_cells o_lengths o_values i_greatest i_known i_highest l1 l2 l3 res)  : I_Codes_giveCells_b37 p l e s m args below meth c Q A D cI cL cZ a_this a_cells o_lengths o_values i_greatest i_known i_highest l1 l2 l3 res (f_Codes_giveCells_b37 N l1 l2 l3 ) := by
  obtain ⟨hx, hb, hml, hown, hts, hK, hA⟩ := C
  intro l4 v_cells h H locs ls hl hP hD hS
  unfold f_Codes_giveCells_b37 at h
  refine lv_iload hx hb d_Codes_giveCells_37 (lv_at hl 0 rfl) ?_
  exact hret _ _ _ _ l4 v_cells h d_Codes_giveCells_39 hP hD hS
set_option maxHeartbeats 4000000 in
set_option maxRecDepth 100000 in
theorem w_Codes_giveCells_b16 {p : Program} {l : Launch} {e : Env} {s : State} {m : MethodId} {args : Array Value} {below : List Frame} {meth : Method} {c : Code} {Q : State → Prop} {A : Nat → Prop} {D : va_G} {cI cL cZ : ClassId} {a_this : Nat} {a_cells : Nat} {o_lengths : Nat} {o_values : Nat} {i_greatest : Int32} {i_known : Int32} {i_highest : Int32} {l1 : Int32} {l2 : Int32} {l3 : Int32} {N : Nat} {res : Int32 × (Nat → Int32)}  (C : Cx p s m args c b_Codes_giveCells 6 "PrefixMill$Codes" D [(cI, .int), (cL, .long), (cZ, .boolean)] A) (hret : E_Codes_giveCells p l e s m args below meth c Q A D cI cL cZ a_this a_cells o_lengths o_values i_greatest i_known i_highest l1 l2 l3 res)  : ∀ z : Nat, I_Codes_giveCells_b16 p l e s m args below meth c Q A D cI cL cZ a_this a_cells o_lengths o_values i_greatest i_known i_highest l1 l2 l3 res (f_Codes_giveCells_b16 N l1 l2 l3  z) := by
  obtain ⟨hx, hb, hml, hown, hts, hK, hA⟩ := C
  intro z
  induction z with
  | zero => intro l4 l5 v_cells h; cases h
  | succ z ih =>
    intro l4 l5 v_cells h H locs ls hl hP hD hS
    refine lv_iload hx hb d_Codes_giveCells_16 (lv_at hl 3 rfl) ?_
    refine lv_iload hx hb d_Codes_giveCells_18 (lv_at hl 2 rfl) ?_
    refine lv_icmp_ge (tgt := 37) hx hb d_Codes_giveCells_20 (by decide) (fun c_1 => ?_) (fun c_1 => ?_)
    · replace h := if_t h c_1
      exact w_Codes_giveCells_b37 ⟨hx, hb, hml, hown, hts, hK, hA⟩ hret  _ _ h H locs ls (lv_sub hl [2] rfl) hP hD hS
    · replace h := if_f h c_1
      refine lv_aload_n hx hb d_Codes_giveCells_23 rfl (lv_at hl 0 rfl) ?_
      refine va_get hx hb hts in_Codes hown hK hP 0 rfl rfl 2 (by decide) (hts _ m_127) (fun _ h9 => h9) rfl d_Codes_giveCells_24 ?_
      refine lv_iload hx hb d_Codes_giveCells_27 (lv_at hl 3 rfl) ?_
      refine lv_iload_n hx hb d_Codes_giveCells_29 rfl (lv_at hl 1 rfl) ?_
      obtain ⟨g_2, h⟩ := ck_s h
      refine va_iast hx hb hK hP hD hS 1 0 rfl rfl (inb_s g_2) d_Codes_giveCells_30 (fun H locs hP hD hS => ?_)
      obtain ⟨v_cells_3, ev_cells_3⟩ : ∃ y, y = (upd v_cells (Int32.toNatClampNeg l5) l1) := ⟨_, rfl⟩
      replace h := nm_s h ev_cells_3
      have hP : va_P D classes [(a_this, .inr (2, [.ref o_lengths, .ref o_values, .ref a_cells, .int i_greatest, .int i_known, .int i_highest])), (a_cells, .inl (cI, 2048, .inl v_cells_3))] H := by rw [ev_cells_3]; exact hP
      have hD : va_D A [(a_this, .inr (2, [.ref o_lengths, .ref o_values, .ref a_cells, .int i_greatest, .int i_known, .int i_highest])), (a_cells, .inl (cI, 2048, .inl v_cells_3))] := by rw [ev_cells_3]; exact hD
      obtain ⟨l5_4, el5_4⟩ : ∃ y : Int32, y = l5 + 1 := ⟨_, rfl⟩
      replace h := nm_s h el5_4
      refine lv_iinc (v := l5_4) (lv' := [(5, .int l5_4), (0, .ref a_this), (1, .int l1), (4, .int l4)]) hx hb d_Codes_giveCells_31 hl (k := 3) rfl (by rw [el5_4]; rfl) (by decide) rfl (fun ls hl => ?_)
      refine lv_goto (tgt := 16) hx hb d_Codes_giveCells_34 (by decide) ?_
      exact ih _ _ _ h H locs ls (lv_sub hl [1, 2, 3, 0] rfl) hP hD hS
set_option maxHeartbeats 4000000 in
set_option maxRecDepth 100000 in
theorem w_Codes_giveCells_b0 {p : Program} {l : Launch} {e : Env} {s : State} {m : MethodId} {args : Array Value} {below : List Frame} {meth : Method} {c : Code} {Q : State → Prop} {A : Nat → Prop} {D : va_G} {cI cL cZ : ClassId} {a_this : Nat} {a_cells : Nat} {o_lengths : Nat} {o_values : Nat} {i_greatest : Int32} {i_known : Int32} {i_highest : Int32} {l1 : Int32} {l2 : Int32} {l3 : Int32} {N : Nat} {res : Int32 × (Nat → Int32)}  (C : Cx p s m args c b_Codes_giveCells 6 "PrefixMill$Codes" D [(cI, .int), (cL, .long), (cZ, .boolean)] A) (hret : E_Codes_giveCells p l e s m args below meth c Q A D cI cL cZ a_this a_cells o_lengths o_values i_greatest i_known i_highest l1 l2 l3 res)  : I_Codes_giveCells_b0 p l e s m args below meth c Q A D cI cL cZ a_this a_cells o_lengths o_values i_greatest i_known i_highest l1 l2 l3 res (f_Codes_giveCells N l1 l2 l3 ) := by
  obtain ⟨hx, hb, hml, hown, hts, hK, hA⟩ := C
  intro v_cells h H locs ls hl hP hD hS
  unfold f_Codes_giveCells at h
  refine lv_iload_n hx hb d_Codes_giveCells_0 rfl (lv_at hl 2 rfl) ?_
  refine lv_iload_n hx hb d_Codes_giveCells_1 rfl (lv_at hl 3 rfl) ?_
  refine lv_iadd hx hb d_Codes_giveCells_2 ?_
  refine lv_aload_n hx hb d_Codes_giveCells_3 rfl (lv_at hl 0 rfl) ?_
  refine va_get hx hb hts in_Codes hown hK hP 0 rfl rfl 2 (by decide) (hts _ m_127) (fun _ h9 => h9) rfl d_Codes_giveCells_4 ?_
  refine va_alen hx hb hK hP 1 0 rfl rfl rfl d_Codes_giveCells_7 ?_
  obtain ⟨r_1, hc_2, h⟩ := bd1_s h
  have hPc := hP.sub (ws' := []) [] rfl
  have hDc := hD.sub (ws' := []) [] (by decide) rfl
  have hFc := va_free (wc := []) hD hS hA [] rfl
  refine va_calli (va_runS (As := [.int (l2 + l3), .int (Int32.ofNat 2048)]) (rest := []) ⟨hx, hb, hml, hown, hts⟩ (c_JMath_min l D cI cL cZ H.size N (l2 + l3) (Int32.ofNat 2048) r_1 hc_2) ⟨(my_cb 2 hts m_396 rfl rfl (hts _ m_77) (hts _ m_487) (by decide +kernel) ⟨Nat.le_of_ble_eq_true rfl, Nat.le_of_ble_eq_true rfl⟩), hts _ m_395⟩ ⟨fun a U g mk q => by obtain ⟨q0, q1, qP, qK, qD⟩ := q; exact ⟨q0, q1, qP, va_K.moved (u := U) (U := U.calling g mk a) (Vm.Alike.refl U.vm) qK, qD⟩, fun U hU hW => ⟨rfl, by rw [hU], by rw [hU]; exact hPc, va_K.moved hW.alike hK, hDc.weaken (fun _ _ _ _ => trivial)⟩⟩ rfl rfl hl.1 rfl (lv_room (Nat.le_of_ble_eq_true rfl)) d_Codes_giveCells_8 ⟨Nat.zero_le _, Nat.zero_le _⟩) hS (fun q _ h => hFc q h) hFc (fun rr u t H1 locs ht hvm hw hB hz1 hk1 hS => ?_)
  obtain ⟨hP1, hK1, hD1⟩ := hB
  rw [ht] at hP1
  subst hw
  obtain ⟨hP, hD⟩ := va_join (wr := [(a_this, .inr (2, [.ref o_lengths, .ref o_values, .ref a_cells, .int i_greatest, .int i_known, .int i_highest])), (a_cells, .inl (cI, 2048, .inl v_cells))]) (w1 := []) hP hD [] [0, 1] rfl rfl (by decide) (by decide) hk1 hFc hP1 hD1
  clear hPc hDc hFc hk1 hP1 hD1 hK1
  generalize H1 = H at hP hS ⊢
  have hP : va_P D classes [(a_this, .inr (2, [.ref o_lengths, .ref o_values, .ref a_cells, .int i_greatest, .int i_known, .int i_highest])), (a_cells, .inl (cI, 2048, .inl v_cells))] H := hP.sub [0, 1] rfl
  have hD : va_D A [(a_this, .inr (2, [.ref o_lengths, .ref o_values, .ref a_cells, .int i_greatest, .int i_known, .int i_highest])), (a_cells, .inl (cI, 2048, .inl v_cells))] := hD.sub [0, 1] (by decide) rfl
  refine lv_istore (lv' := [(4, .int r_1), (0, .ref a_this), (1, .int l1), (2, .int l2), (3, .int l3)]) hx hb d_Codes_giveCells_11 hl (by decide) rfl (fun ls hl => ?_)
  refine lv_iload_n hx hb d_Codes_giveCells_13 rfl (lv_at hl 3 rfl) ?_
  refine lv_istore (lv' := [(5, .int l2), (4, .int r_1), (0, .ref a_this), (1, .int l1), (2, .int l2), (3, .int l3)]) hx hb d_Codes_giveCells_14 hl (by decide) rfl (fun ls hl => ?_)
  exact w_Codes_giveCells_b16 ⟨hx, hb, hml, hown, hts, hK, hA⟩ hret  N _ _ _ h H locs ls (lv_sub hl [2, 3, 1, 0] rfl) hP hD hS
set_option maxHeartbeats 4000000 in
set_option maxRecDepth 100000 in
theorem c_Codes_giveCells (l : Launch) (D : va_G) (cI cL cZ : ClassId) (sz N : Nat) (a_this : Nat) (a_cells : Nat) (o_lengths : Nat) (o_values : Nat) (i_greatest : Int32) (i_known : Int32) (i_highest : Int32) (v_cells : Nat → Int32) (l1 : Int32) (l2 : Int32) (l3 : Int32) (rv : Int32) (v_cells' : Nat → Int32) (h : f_Codes_giveCells N l1 l2 l3 v_cells = some (rv, v_cells')) : Met l ({ cls := "PrefixMill$Codes", name := "giveCells", desc := "(III)I" } : Jvm.MethodName) ws_Codes_giveCells R_Codes_giveCells (va_Pc [.ref a_this, .int l1, .int l2, .int l3] (fun U => U.heap.size = sz ∧ va_P D classes [(a_this, .inr (2, [.ref o_lengths, .ref o_values, .ref a_cells, .int i_greatest, .int i_known, .int i_highest])), (a_cells, .inl (cI, 2048, .inl v_cells))] U.heap ∧ va_K D classes [(cI, .int), (cL, .long), (cZ, .boolean)] U ∧ va_D (fun _ => True) [(a_this, .inr (2, [.ref o_lengths, .ref o_values, .ref a_cells, .int i_greatest, .int i_known, .int i_highest])), (a_cells, .inl (cI, 2048, .inl v_cells))])) (va_Qi (fun (r0 : Int32) (_ : Unit) => rv = r0) (fun _ t => va_P D classes [(a_this, .inr (2, [.ref o_lengths, .ref o_values, .ref a_cells, .int i_greatest, .int i_known, .int i_highest])), (a_cells, .inl (cI, 2048, .inl v_cells'))] t.heap ∧ va_K D classes [(cI, .int), (cL, .long), (cZ, .boolean)] t ∧ va_D (va_A [(a_this, .inr (2, [.ref o_lengths, .ref o_values, .ref a_cells, .int i_greatest, .int i_known, .int i_highest])), (a_cells, .inl (cI, 2048, .inl v_cells))] sz) [(a_this, .inr (2, [.ref o_lengths, .ref o_values, .ref a_cells, .int i_greatest, .int i_known, .int i_highest])), (a_cells, .inl (cI, 2048, .inl v_cells'))]) (va_A [(a_this, .inr (2, [.ref o_lengths, .ref o_values, .ref a_cells, .int i_greatest, .int i_known, .int i_highest])), (a_cells, .inl (cI, 2048, .inl v_cells))] sz)) 0 0 (va_A [(a_this, .inr (2, [.ref o_lengths, .ref o_values, .ref a_cells, .int i_greatest, .int i_known, .int i_highest])), (a_cells, .inl (cI, 2048, .inl v_cells))] sz) := by
  refine Met.ofW (cc := b_Codes_giveCells) (maxL := 6) (ret := (some .int)) (by decide) rfl ?_
  intro p e s m args below meth c s₁ B hml hv
  obtain ⟨rfl, hsz, hP, hK, hD0⟩ := hv
  have hx := B.exec
  have hb := B.bytes
  have hr := B.returns
  have hts0 := atoms_spec (ws := ws_Codes_giveCells) B.pre
  have hts := gd_tl hts0
  clear hts0
  have hown : s.vm.findClass "PrefixMill$Codes" = some m.cls := findClass_of_methodNamed B.named
  have hlocks := B.notSynchronized
  subst hsz
  have hD := hD0.self (sz := s.heap.size)
  generalize hAe : va_A [(a_this, .inr (2, [.ref o_lengths, .ref o_values, .ref a_cells, .int i_greatest, .int i_known, .int i_highest])), (a_cells, .inl (cI, 2048, .inl v_cells))] s.heap.size = A at hD ⊢
  have hA : ∀ q : Nat, s.heap.size ≤ q → A q := fun q h => by rw [← hAe]; exact Or.inr h
  have hS : va_S A s.heap s.heap [] := va_S.rf
  have hP : va_P D classes [(a_this, .inr (2, [.ref o_lengths, .ref o_values, .ref a_cells, .int i_greatest, .int i_known, .int i_highest])), (a_cells, .inl (cI, 2048, .inl v_cells))] s.heap := hP
  have hl := lv_entry ([.ref a_this, .int l1, .int l2, .int l3]) (n := 6) (Nat.le_of_ble_eq_true rfl)
  rw [lg_entry_eq]
  generalize (lg_sl ([.ref a_this, .int l1, .int l2, .int l3]) ++ List.replicate (6 - (lg_sl ([.ref a_this, .int l1, .int l2, .int l3])).length) Slot.unset).toArray = ls at hl ⊢
  have hl : lv_has ls 6 [(0, .ref a_this), (1, .int l1), (2, .int l2), (3, .int l3)] := hl
  have C : Cx p s m ([.ref a_this, .int l1, .int l2, .int l3] : List Value).toArray c b_Codes_giveCells 6 "PrefixMill$Codes" D [(cI, .int), (cL, .long), (cZ, .boolean)] A := ⟨hx, hb, hml, hown, hts, hK, hA⟩
  refine w_Codes_giveCells_b0 (res := (rv, v_cells')) C ?_ _ h s.heap [] ls hl hP hD hS
  intro pc9 H9 locs9 ls9 rv9 v_cells9 e9 d9 hP9 hD9 hS9
  cases e9
  exact W.iret (v := rv) hx hb hr (fun t ht hW => ⟨⟨rv, (), rfl, rfl, by rw [ht]; exact hP9, va_K.moved hW.alike hK, hD9⟩, hS9.F ht⟩) hS9.2.2 d9
abbrev b_Codes_fillCells : ByteArray := prog_2_method_4_code
def ws_Codes_fillCells : List Cond := .code ({ cls := "PrefixMill$Codes", name := "fillCells", desc := "()V" } : Jvm.MethodName) b_Codes_fillCells 4 none :: tt
theorem d_Codes_fillCells_0 : decode b_Codes_fillCells 0 = .ok (.iconst 0, 1) := by decide +kernel
theorem d_Codes_fillCells_1 : decode b_Codes_fillCells 1 = .ok (.istore_n 1, 1) := by decide +kernel
theorem d_Codes_fillCells_2 : decode b_Codes_fillCells 2 = .ok (.aload_n 0, 1) := by decide +kernel
theorem d_Codes_fillCells_3 : decode b_Codes_fillCells 3 = .ok (.getfield 21, 3) := by decide +kernel
theorem d_Codes_fillCells_6 : decode b_Codes_fillCells 6 = .ok (.istore_n 2, 1) := by decide +kernel
theorem d_Codes_fillCells_7 : decode b_Codes_fillCells 7 = .ok (.iload_n 2, 1) := by decide +kernel
theorem d_Codes_fillCells_8 : decode b_Codes_fillCells 8 = .ok (.ifCond .le 63, 3) := by decide +kernel
theorem d_Codes_fillCells_11 : decode b_Codes_fillCells 11 = .ok (.iconst 0, 1) := by decide +kernel
theorem d_Codes_fillCells_12 : decode b_Codes_fillCells 12 = .ok (.istore_n 3, 1) := by decide +kernel
theorem d_Codes_fillCells_13 : decode b_Codes_fillCells 13 = .ok (.iload_n 3, 1) := by decide +kernel
theorem d_Codes_fillCells_14 : decode b_Codes_fillCells 14 = .ok (.sipush 256, 3) := by decide +kernel
theorem d_Codes_fillCells_17 : decode b_Codes_fillCells 17 = .ok (.if_icmp .ge 48, 3) := by decide +kernel
theorem d_Codes_fillCells_20 : decode b_Codes_fillCells 20 = .ok (.aload_n 0, 1) := by decide +kernel
theorem d_Codes_fillCells_21 : decode b_Codes_fillCells 21 = .ok (.getfield 9, 3) := by decide +kernel
theorem d_Codes_fillCells_24 : decode b_Codes_fillCells 24 = .ok (.iload_n 3, 1) := by decide +kernel
theorem d_Codes_fillCells_25 : decode b_Codes_fillCells 25 = .ok (.iaload, 1) := by decide +kernel
theorem d_Codes_fillCells_26 : decode b_Codes_fillCells 26 = .ok (.iload_n 2, 1) := by decide +kernel
theorem d_Codes_fillCells_27 : decode b_Codes_fillCells 27 = .ok (.if_icmp .ne 32, 3) := by decide +kernel
theorem d_Codes_fillCells_30 : decode b_Codes_fillCells 30 = .ok (.aload_n 0, 1) := by decide +kernel
theorem d_Codes_fillCells_31 : decode b_Codes_fillCells 31 = .ok (.getfield 15, 3) := by decide +kernel
theorem d_Codes_fillCells_34 : decode b_Codes_fillCells 34 = .ok (.iload_n 3, 1) := by decide +kernel
theorem d_Codes_fillCells_35 : decode b_Codes_fillCells 35 = .ok (.iload_n 1, 1) := by decide +kernel
theorem d_Codes_fillCells_36 : decode b_Codes_fillCells 36 = .ok (.aload_n 0, 1) := by decide +kernel
theorem d_Codes_fillCells_37 : decode b_Codes_fillCells 37 = .ok (.getfield 21, 3) := by decide +kernel
theorem d_Codes_fillCells_40 : decode b_Codes_fillCells 40 = .ok (.iload_n 2, 1) := by decide +kernel
theorem d_Codes_fillCells_41 : decode b_Codes_fillCells 41 = .ok (.isub, 1) := by decide +kernel
theorem d_Codes_fillCells_42 : decode b_Codes_fillCells 42 = .ok (.ishr, 1) := by decide +kernel
theorem d_Codes_fillCells_43 : decode b_Codes_fillCells 43 = .ok (.iastore, 1) := by decide +kernel
theorem d_Codes_fillCells_44 : decode b_Codes_fillCells 44 = .ok (.aload_n 0, 1) := by decide +kernel
theorem d_Codes_fillCells_45 : decode b_Codes_fillCells 45 = .ok (.iload_n 3, 1) := by decide +kernel
theorem d_Codes_fillCells_46 : decode b_Codes_fillCells 46 = .ok (.iload_n 1, 1) := by decide +kernel
theorem d_Codes_fillCells_47 : decode b_Codes_fillCells 47 = .ok (.iconst 1, 1) := by decide +kernel
theorem d_Codes_fillCells_48 : decode b_Codes_fillCells 48 = .ok (.aload_n 0, 1) := by decide +kernel
theorem d_Codes_fillCells_49 : decode b_Codes_fillCells 49 = .ok (.getfield 21, 3) := by decide +kernel
theorem d_Codes_fillCells_52 : decode b_Codes_fillCells 52 = .ok (.iload_n 2, 1) := by decide +kernel
theorem d_Codes_fillCells_53 : decode b_Codes_fillCells 53 = .ok (.isub, 1) := by decide +kernel
theorem d_Codes_fillCells_54 : decode b_Codes_fillCells 54 = .ok (.ishl, 1) := by decide +kernel
theorem d_Codes_fillCells_55 : decode b_Codes_fillCells 55 = .ok (.invokevirtual 38, 3) := by decide +kernel
theorem d_Codes_fillCells_58 : decode b_Codes_fillCells 58 = .ok (.istore_n 1, 1) := by decide +kernel
theorem d_Codes_fillCells_59 : decode b_Codes_fillCells 59 = .ok (.iinc 3 1, 3) := by decide +kernel
theorem d_Codes_fillCells_62 : decode b_Codes_fillCells 62 = .ok (.goto (-49), 3) := by decide +kernel
theorem d_Codes_fillCells_65 : decode b_Codes_fillCells 65 = .ok (.iinc 2 (-1), 3) := by decide +kernel
theorem d_Codes_fillCells_68 : decode b_Codes_fillCells 68 = .ok (.goto (-61), 3) := by decide +kernel
theorem d_Codes_fillCells_71 : decode b_Codes_fillCells 71 = .ok (.return_, 1) := by decide +kernel
def f_Codes_fillCells_b59 (N : Nat) (i_greatest : Int32) (v_lengths : Nat → Int32) (k7 : Int32 → Int32 → (Nat → Int32) → (Nat → Int32) → Option ((Nat → Int32) × (Nat → Int32))) (k13 : Int32 → Int32 → Int32 → (Nat → Int32) → (Nat → Int32) → Option ((Nat → Int32) × (Nat → Int32))) (l1 : Int32) (l2 : Int32) (l3 : Int32) (v_values : Nat → Int32) (v_cells : Nat → Int32) : Option ((Nat → Int32) × (Nat → Int32)) :=
  nm (l3 + 1) fun l3_1 =>
  k13 l1 l2 l3_1 v_values v_cells
def f_Codes_fillCells_b65 (N : Nat) (i_greatest : Int32) (v_lengths : Nat → Int32) (k7 : Int32 → Int32 → (Nat → Int32) → (Nat → Int32) → Option ((Nat → Int32) × (Nat → Int32))) (l1 : Int32) (l2 : Int32) (v_values : Nat → Int32) (v_cells : Nat → Int32) : Option ((Nat → Int32) × (Nat → Int32)) :=
  nm (l2 + (-1)) fun l2_1 =>
  k7 l1 l2_1 v_values v_cells
def f_Codes_fillCells_b13 (N : Nat) (i_greatest : Int32) (v_lengths : Nat → Int32) (k7 : Int32 → Int32 → (Nat → Int32) → (Nat → Int32) → Option ((Nat → Int32) × (Nat → Int32))) : Nat → Int32 → Int32 → Int32 → (Nat → Int32) → (Nat → Int32) → Option ((Nat → Int32) × (Nat → Int32))
  | 0, _, _, _, _, _ => none
  | z + 1, l1, l2, l3, v_values, v_cells =>
  if 256 ≤ l3 then
  f_Codes_fillCells_b65 N i_greatest v_lengths k7 l1 l2 v_values v_cells
  else
  ck (inb l3 256) <|
  if (v_lengths (Int32.toNatClampNeg l3)) = l2 then
  ck (inb l3 256) <|
  nm (upd v_values (Int32.toNatClampNeg l3) (l1 >>> ((i_greatest - l2) &&& 31))) fun v_values_5 =>
  bd2 (f_Codes_giveCells N l3 l1 (1 <<< ((i_greatest - l2) &&& 31)) v_cells) fun r_6 v_cells_7 =>
  f_Codes_fillCells_b59 N i_greatest v_lengths k7 (f_Codes_fillCells_b13 N i_greatest v_lengths k7 z) r_6 l2 l3 v_values_5 v_cells_7
  else
  f_Codes_fillCells_b59 N i_greatest v_lengths k7 (f_Codes_fillCells_b13 N i_greatest v_lengths k7 z) l1 l2 l3 v_values v_cells
def f_Codes_fillCells_b7 (N : Nat) (i_greatest : Int32) (v_lengths : Nat → Int32)  : Nat → Int32 → Int32 → (Nat → Int32) → (Nat → Int32) → Option ((Nat → Int32) × (Nat → Int32))
  | 0, _, _, _, _ => none
  | z + 1, l1, l2, v_values, v_cells =>
  if l2 ≤ 0 then
  some (v_values, v_cells)
  else
  f_Codes_fillCells_b13 N i_greatest v_lengths (f_Codes_fillCells_b7 N i_greatest v_lengths  z) N l1 l2 0 v_values v_cells
def f_Codes_fillCells (N : Nat) (i_greatest : Int32) (v_lengths : Nat → Int32)  (v_values : Nat → Int32) (v_cells : Nat → Int32) : Option ((Nat → Int32) × (Nat → Int32)) :=
  f_Codes_fillCells_b7 N i_greatest v_lengths  N 0 i_greatest v_values v_cells
abbrev R_Codes_fillCells : Room := ({ frames := 2, cells := 0, slots := 0, locals := 46 } : Room)
def E_Codes_fillCells (p : Program) (l : Launch) (e : Env) (s : State) (m : MethodId) (args : Array Value) (below : List Frame) (meth : Method) (c : Code) (Q : State → Prop) (A : Nat → Prop) (D : va_G) (cI cL cZ : ClassId) (a_this : Nat) (a_lengths : Nat) (a_values : Nat) (a_cells : Nat) (i_greatest : Int32) (i_known : Int32) (i_highest : Int32) (v_lengths : Nat → Int32) (res : (Nat → Int32) × (Nat → Int32)) : Prop := ∀ (pc : Nat) (H : Heap) (locs : List Loc) (ls : Array Slot) (v_values : Nat → Int32) (v_cells : Nat → Int32), some (v_values, v_cells) = some res → decode b_Codes_fillCells pc = .ok (.return_, 1) → va_P D classes [(a_this, .inr (2, [.ref a_lengths, .ref a_values, .ref a_cells, .int i_greatest, .int i_known, .int i_highest])), (a_lengths, .inl (cI, 256, .inl v_lengths)), (a_values, .inl (cI, 256, .inl v_values)), (a_cells, .inl (cI, 2048, .inl v_cells))] H → va_D A [(a_this, .inr (2, [.ref a_lengths, .ref a_values, .ref a_cells, .int i_greatest, .int i_known, .int i_highest])), (a_lengths, .inl (cI, 256, .inl v_lengths)), (a_values, .inl (cI, 256, .inl v_values)), (a_cells, .inl (cI, 2048, .inl v_cells))] → va_S A s.heap H locs → W p l e R_Codes_fillCells s m args below meth c H locs 0 0 Q (F0 m pc ls [])
def I_Codes_fillCells_b59 (p : Program) (l : Launch) (e : Env) (s : State) (m : MethodId) (args : Array Value) (below : List Frame) (meth : Method) (c : Code) (Q : State → Prop) (A : Nat → Prop) (D : va_G) (cI cL cZ : ClassId) (a_this : Nat) (a_lengths : Nat) (a_values : Nat) (a_cells : Nat) (i_greatest : Int32) (i_known : Int32) (i_highest : Int32) (v_lengths : Nat → Int32) (res : (Nat → Int32) × (Nat → Int32)) (kf : Int32 → Int32 → Int32 → (Nat → Int32) → (Nat → Int32) → Option ((Nat → Int32) × (Nat → Int32))) : Prop := ∀ (l1 : Int32) (l2 : Int32) (l3 : Int32) (v_values : Nat → Int32) (v_cells : Nat → Int32), kf l1 l2 l3 v_values v_cells = some res → ∀ (H : Heap) (locs : List Loc) (ls : Array Slot), lv_has ls 4 [(0, .ref a_this), (1, .int l1), (2, .int l2), (3, .int l3)] → va_P D classes [(a_this, .inr (2, [.ref a_lengths, .ref a_values, .ref a_cells, .int i_greatest, .int i_known, .int i_highest])), (a_lengths, .inl (cI, 256, .inl v_lengths)), (a_values, .inl (cI, 256, .inl v_values)), (a_cells, .inl (cI, 2048, .inl v_cells))] H → va_D A [(a_this, .inr (2, [.ref a_lengths, .ref a_values, .ref a_cells, .int i_greatest, .int i_known, .int i_highest])), (a_lengths, .inl (cI, 256, .inl v_lengths)), (a_values, .inl (cI, 256, .inl v_values)), (a_cells, .inl (cI, 2048, .inl v_cells))] → va_S A s.heap H locs → W p l e R_Codes_fillCells s m args below meth c H locs 0 0 Q (F0 m 59 ls [])
def I_Codes_fillCells_b65 (p : Program) (l : Launch) (e : Env) (s : State) (m : MethodId) (args : Array Value) (below : List Frame) (meth : Method) (c : Code) (Q : State → Prop) (A : Nat → Prop) (D : va_G) (cI cL cZ : ClassId) (a_this : Nat) (a_lengths : Nat) (a_values : Nat) (a_cells : Nat) (i_greatest : Int32) (i_known : Int32) (i_highest : Int32) (v_lengths : Nat → Int32) (res : (Nat → Int32) × (Nat → Int32)) (kf : Int32 → Int32 → (Nat → Int32) → (Nat → Int32) → Option ((Nat → Int32) × (Nat → Int32))) : Prop := ∀ (l1 : Int32) (l2 : Int32) (v_values : Nat → Int32) (v_cells : Nat → Int32), kf l1 l2 v_values v_cells = some res → ∀ (H : Heap) (locs : List Loc) (ls : Array Slot), lv_has ls 4 [(0, .ref a_this), (1, .int l1), (2, .int l2)] → va_P D classes [(a_this, .inr (2, [.ref a_lengths, .ref a_values, .ref a_cells, .int i_greatest, .int i_known, .int i_highest])), (a_lengths, .inl (cI, 256, .inl v_lengths)), (a_values, .inl (cI, 256, .inl v_values)), (a_cells, .inl (cI, 2048, .inl v_cells))] H → va_D A [(a_this, .inr (2, [.ref a_lengths, .ref a_values, .ref a_cells, .int i_greatest, .int i_known, .int i_highest])), (a_lengths, .inl (cI, 256, .inl v_lengths)), (a_values, .inl (cI, 256, .inl v_values)), (a_cells, .inl (cI, 2048, .inl v_cells))] → va_S A s.heap H locs → W p l e R_Codes_fillCells s m args below meth c H locs 0 0 Q (F0 m 65 ls [])
def I_Codes_fillCells_b13 (p : Program) (l : Launch) (e : Env) (s : State) (m : MethodId) (args : Array Value) (below : List Frame) (meth : Method) (c : Code) (Q : State → Prop) (A : Nat → Prop) (D : va_G) (cI cL cZ : ClassId) (a_this : Nat) (a_lengths : Nat) (a_values : Nat) (a_cells : Nat) (i_greatest : Int32) (i_known : Int32) (i_highest : Int32) (v_lengths : Nat → Int32) (res : (Nat → Int32) × (Nat → Int32)) (kf : Int32 → Int32 → Int32 → (Nat → Int32) → (Nat → Int32) → Option ((Nat → Int32) × (Nat → Int32))) : Prop := ∀ (l1 : Int32) (l2 : Int32) (l3 : Int32) (v_values : Nat → Int32) (v_cells : Nat → Int32), kf l1 l2 l3 v_values v_cells = some res → ∀ (H : Heap) (locs : List Loc) (ls : Array Slot), lv_has ls 4 [(0, .ref a_this), (1, .int l1), (2, .int l2), (3, .int l3)] → va_P D classes [(a_this, .inr (2, [.ref a_lengths, .ref a_values, .ref a_cells, .int i_greatest, .int i_known, .int i_highest])), (a_lengths, .inl (cI, 256, .inl v_lengths)), (a_values, .inl (cI, 256, .inl v_values)), (a_cells, .inl (cI, 2048, .inl v_cells))] H → va_D A [(a_this, .inr (2, [.ref a_lengths, .ref a_values, .ref a_cells, .int i_greatest, .int i_known, .int i_highest])), (a_lengths, .inl (cI, 256, .inl v_lengths)), (a_values, .inl (cI, 256, .inl v_values)), (a_cells, .inl (cI, 2048, .inl v_cells))] → va_S A s.heap H locs → W p l e R_Codes_fillCells s m args below meth c H locs 0 0 Q (F0 m 13 ls [])
def I_Codes_fillCells_b7 (p : Program) (l : Launch) (e : Env) (s : State) (m : MethodId) (args : Array Value) (below : List Frame) (meth : Method) (c : Code) (Q : State → Prop) (A : Nat → Prop) (D : va_G) (cI cL cZ : ClassId) (a_this : Nat) (a_lengths : Nat) (a_values : Nat) (a_cells : Nat) (i_greatest : Int32) (i_known : Int32) (i_highest : Int32) (v_lengths : Nat → Int32) (res : (Nat → Int32) × (Nat → Int32)) (kf : Int32 → Int32 → (Nat → Int32) → (Nat → Int32) → Option ((Nat → Int32) × (Nat → Int32))) : Prop := ∀ (l1 : Int32) (l2 : Int32) (v_values : Nat → Int32) (v_cells : Nat → Int32), kf l1 l2 v_values v_cells = some res → ∀ (H : Heap) (locs : List Loc) (ls : Array Slot), lv_has ls 4 [(0, .ref a_this), (1, .int l1), (2, .int l2)] → va_P D classes [(a_this, .inr (2, [.ref a_lengths, .ref a_values, .ref a_cells, .int i_greatest, .int i_known, .int i_highest])), (a_lengths, .inl (cI, 256, .inl v_lengths)), (a_values, .inl (cI, 256, .inl v_values)), (a_cells, .inl (cI, 2048, .inl v_cells))] H → va_D A [(a_this, .inr (2, [.ref a_lengths, .ref a_values, .ref a_cells, .int i_greatest, .int i_known, .int i_highest])), (a_lengths, .inl (cI, 256, .inl v_lengths)), (a_values, .inl (cI, 256, .inl v_values)), (a_cells, .inl (cI, 2048, .inl v_cells))] → va_S A s.heap H locs → W p l e R_Codes_fillCells s m args below meth c H locs 0 0 Q (F0 m 7 ls [])
def I_Codes_fillCells_b0 (p : Program) (l : Launch) (e : Env) (s : State) (m : MethodId) (args : Array Value) (below : List Frame) (meth : Method) (c : Code) (Q : State → Prop) (A : Nat → Prop) (D : va_G) (cI cL cZ : ClassId) (a_this : Nat) (a_lengths : Nat) (a_values : Nat) (a_cells : Nat) (i_greatest : Int32) (i_known : Int32) (i_highest : Int32) (v_lengths : Nat → Int32) (res : (Nat → Int32) × (Nat → Int32)) (kf : (Nat → Int32) → (Nat → Int32) → Option ((Nat → Int32) × (Nat → Int32))) : Prop := ∀ (v_values : Nat → Int32) (v_cells : Nat → Int32), kf v_values v_cells = some res → ∀ (H : Heap) (locs : List Loc) (ls : Array Slot), lv_has ls 4 [(0, .ref a_this)] → va_P D classes [(a_this, .inr (2, [.ref a_lengths, .ref a_values, .ref a_cells, .int i_greatest, .int i_known, .int i_highest])), (a_lengths, .inl (cI, 256, .inl v_lengths)), (a_values, .inl (cI, 256, .inl v_values)), (a_cells, .inl (cI, 2048, .inl v_cells))] H → va_D A [(a_this, .inr (2, [.ref a_lengths, .ref a_values, .ref a_cells, .int i_greatest, .int i_known, .int i_highest])), (a_lengths, .inl (cI, 256, .inl v_lengths)), (a_values, .inl (cI, 256, .inl v_values)), (a_cells, .inl (cI, 2048, .inl v_cells))] → va_S A s.heap H locs → W p l e R_Codes_fillCells s m args below meth c H locs 0 0 Q (F0 m 0 ls [])
set_option maxHeartbeats 4000000 in
set_option maxRecDepth 100000 in
theorem w_Codes_fillCells_b59 {p : Program} {l : Launch} {e : Env} {s : State} {m : MethodId} {args : Array Value} {below : List Frame} {meth : Method} {c : Code} {Q : State → Prop} {A : Nat → Prop} {D : va_G} {cI cL cZ : ClassId} {a_this : Nat} {a_lengths : Nat} {a_values : Nat} {a_cells : Nat} {i_greatest : Int32} {i_known : Int32} {i_highest : Int32} {v_lengths : Nat → Int32} {N : Nat} {res : (Nat → Int32) × (Nat → Int32)} {k7 : Int32 → Int32 → (Nat → Int32) → (Nat → Int32) → Option ((Nat → Int32) × (Nat → Int32))} {k13 : Int32 → Int32 → Int32 → (Nat → Int32) → (Nat → Int32) → Option ((Nat → Int32) × (Nat → Int32))} (C : Cx p s m args c b_Codes_fillCells 4 "PrefixMill$Codes" D [(cI, .int), (cL, .long), (cZ, .boolean)] A) (hret : E_Codes_fillCells p l e s m args below meth c Q A D cI cL cZ a_this a_lengths a_values a_cells i_greatest i_known i_highest v_lengths res) (hk7 : I_Codes_fillCells_b7 p l e s m args below meth c Q A D cI cL cZ a_this a_lengths a_values a_cells i_greatest i_known i_highest v_lengths res k7) (hk13 : I_Codes_fillCells_b13 p l e s m args below meth c Q A D cI cL cZ a_this a_lengths a_values a_cells i_greatest i_known i_highest v_lengths res k13) : I_Codes_fillCells_b59 p l e s m args below meth c Q A D cI cL cZ a_this a_lengths a_values a_cells i_greatest i_known i_highest v_lengths res (f_Codes_fillCells_b59 N i_greatest v_lengths k7 k13) := by
  obtain ⟨hx, hb, hml, hown, hts, hK, hA⟩ := C
  intro l1 l2 l3 v_values v_cells h H locs ls hl hP hD hS
  unfold f_Codes_fillCells_b59 at h
  obtain ⟨l3_1, el3_1⟩ : ∃ y : Int32, y = l3 + 1 := ⟨_, rfl⟩
  replace h := nm_s h el3_1
  refine lv_iinc (v := l3_1) (lv' := [(3, .int l3_1), (0, .ref a_this), (1, .int l1), (2, .int l2)]) hx hb d_Codes_fillCells_59 hl (k := 3) rfl (by rw [el3_1]; rfl) (by decide) rfl (fun ls hl => ?_)
  refine lv_goto (tgt := 13) hx hb d_Codes_fillCells_62 (by decide) ?_
  exact hk13 _ _ _ _ _ h H locs ls (lv_sub hl [1, 2, 3, 0] rfl) hP hD hS
set_option maxHeartbeats 4000000 in
set_option maxRecDepth 100000 in
theorem w_Codes_fillCells_b65 {p : Program} {l : Launch} {e : Env} {s : State} {m : MethodId} {args : Array Value} {below : List Frame} {meth : Method} {c : Code} {Q : State → Prop} {A : Nat → Prop} {D : va_G} {cI cL cZ : ClassId} {a_this : Nat} {a_lengths : Nat} {a_values : Nat} {a_cells : Nat} {i_greatest : Int32} {i_known : Int32} {i_highest : Int32} {v_lengths : Nat → Int32} {N : Nat} {res : (Nat → Int32) × (Nat → Int32)} {k7 : Int32 → Int32 → (Nat → Int32) → (Nat → Int32) → Option ((Nat → Int32) × (Nat → Int32))} (C : Cx p s m args c b_Codes_fillCells 4 "PrefixMill$Codes" D [(cI, .int), (cL, .long), (cZ, .boolean)] A) (hret : E_Codes_fillCells p l e s m args below meth c Q A D cI cL cZ a_this a_lengths a_values a_cells i_greatest i_known i_highest v_lengths res) (hk7 : I_Codes_fillCells_b7 p l e s m args below meth c Q A D cI cL cZ a_this a_lengths a_values a_cells i_greatest i_known i_highest v_lengths res k7) : I_Codes_fillCells_b65 p l e s m args below meth c Q A D cI cL cZ a_this a_lengths a_values a_cells i_greatest i_known i_highest v_lengths res (f_Codes_fillCells_b65 N i_greatest v_lengths k7) := by
  obtain ⟨hx, hb, hml, hown, hts, hK, hA⟩ := C
  intro l1 l2 v_values v_cells h H locs ls hl hP hD hS
  unfold f_Codes_fillCells_b65 at h
  obtain ⟨l2_1, el2_1⟩ : ∃ y : Int32, y = l2 + (-1) := ⟨_, rfl⟩
  replace h := nm_s h el2_1
  refine lv_iinc (v := l2_1) (lv' := [(2, .int l2_1), (0, .ref a_this), (1, .int l1)]) hx hb d_Codes_fillCells_65 hl (k := 2) rfl (by rw [el2_1]; rfl) (by decide) rfl (fun ls hl => ?_)
  refine lv_goto (tgt := 7) hx hb d_Codes_fillCells_68 (by decide) ?_
  exact hk7 _ _ _ _ h H locs ls (lv_sub hl [1, 2, 0] rfl) hP hD hS
set_option maxHeartbeats 4000000 in
set_option maxRecDepth 100000 in
theorem w_Codes_fillCells_b13 {p : Program} {l : Launch} {e : Env} {s : State} {m : MethodId} {args : Array Value} {below : List Frame} {meth : Method} {c : Code} {Q : State → Prop} {A : Nat → Prop} {D : va_G} {cI cL cZ : ClassId} {a_this : Nat} {a_lengths : Nat} {a_values : Nat} {a_cells : Nat} {i_greatest : Int32} {i_known : Int32} {i_highest : Int32} {v_lengths : Nat → Int32} {N : Nat} {res : (Nat → Int32) × (Nat → Int32)} {k7 : Int32 → Int32 → (Nat → Int32) → (Nat → Int32) → Option ((Nat → Int32) × (Nat → Int32))} (C : Cx p s m args c b_Codes_fillCells 4 "PrefixMill$Codes" D [(cI, .int), (cL, .long), (cZ, .boolean)] A) (hret : E_Codes_fillCells p l e s m args below meth c Q A D cI cL cZ a_this a_lengths a_values a_cells i_greatest i_known i_highest v_lengths res) (hk7 : I_Codes_fillCells_b7 p l e s m args below meth c Q A D cI cL cZ a_this a_lengths a_values a_cells i_greatest i_known i_highest v_lengths res k7) : ∀ z : Nat, I_Codes_fillCells_b13 p l e s m args below meth c Q A D cI cL cZ a_this a_lengths a_values a_cells i_greatest i_known i_highest v_lengths res (f_Codes_fillCells_b13 N i_greatest v_lengths k7 z) := by
  obtain ⟨hx, hb, hml, hown, hts, hK, hA⟩ := C
  intro z
  induction z with
  | zero => intro l1 l2 l3 v_values v_cells h; cases h
  | succ z ih =>
    intro l1 l2 l3 v_values v_cells h H locs ls hl hP hD hS
    refine lv_iload_n hx hb d_Codes_fillCells_13 rfl (lv_at hl 3 rfl) ?_
    refine lv_sipush (v := 256) hx hb d_Codes_fillCells_14 (by decide) ?_
    refine lv_icmp_ge (tgt := 65) hx hb d_Codes_fillCells_17 (by decide) (fun c_1 => ?_) (fun c_1 => ?_)
    · replace h := if_t h c_1
      exact w_Codes_fillCells_b65 ⟨hx, hb, hml, hown, hts, hK, hA⟩ hret hk7 _ _ _ _ h H locs ls (lv_sub hl [0, 1, 2] rfl) hP hD hS
    · replace h := if_f h c_1
      refine lv_aload_n hx hb d_Codes_fillCells_20 rfl (lv_at hl 0 rfl) ?_
      refine va_get hx hb hts in_Codes hown hK hP 0 rfl rfl 0 (by decide) (hts _ m_121) (fun _ h9 => h9) rfl d_Codes_fillCells_21 ?_
      refine lv_iload_n hx hb d_Codes_fillCells_24 rfl (lv_at hl 3 rfl) ?_
      obtain ⟨g_2, h⟩ := ck_s h
      refine va_iald hx hb hK hP 1 0 rfl rfl (inb_s g_2) d_Codes_fillCells_25 ?_
      refine lv_iload_n hx hb d_Codes_fillCells_26 rfl (lv_at hl 2 rfl) ?_
      refine lv_icmp_ne (tgt := 59) hx hb d_Codes_fillCells_27 (by decide) (fun c_3 => ?_) (fun c_3 => ?_)
      · replace h := if_f h c_3
        exact w_Codes_fillCells_b59 ⟨hx, hb, hml, hown, hts, hK, hA⟩ hret hk7 ih _ _ _ _ _ h H locs ls (lv_sub hl [0, 1, 2, 3] rfl) hP hD hS
      · replace h := if_t h c_3
        refine lv_aload_n hx hb d_Codes_fillCells_30 rfl (lv_at hl 0 rfl) ?_
        refine va_get hx hb hts in_Codes hown hK hP 0 rfl rfl 1 (by decide) (hts _ m_124) (fun _ h9 => h9) rfl d_Codes_fillCells_31 ?_
        refine lv_iload_n hx hb d_Codes_fillCells_34 rfl (lv_at hl 3 rfl) ?_
        refine lv_iload_n hx hb d_Codes_fillCells_35 rfl (lv_at hl 1 rfl) ?_
        refine lv_aload_n hx hb d_Codes_fillCells_36 rfl (lv_at hl 0 rfl) ?_
        refine va_get hx hb hts in_Codes hown hK hP 0 rfl rfl 3 (by decide) (hts _ m_129) (fun _ h9 => h9) rfl d_Codes_fillCells_37 ?_
        refine lv_iload_n hx hb d_Codes_fillCells_40 rfl (lv_at hl 2 rfl) ?_
        refine lv_isub hx hb d_Codes_fillCells_41 ?_
        refine lv_ishr hx hb d_Codes_fillCells_42 ?_
        obtain ⟨g_4, h⟩ := ck_s h
        refine va_iast hx hb hK hP hD hS 2 0 rfl rfl (inb_s g_4) d_Codes_fillCells_43 (fun H locs hP hD hS => ?_)
        obtain ⟨v_values_5, ev_values_5⟩ : ∃ y, y = (upd v_values (Int32.toNatClampNeg l3) (l1 >>> ((i_greatest - l2) &&& 31))) := ⟨_, rfl⟩
        replace h := nm_s h ev_values_5
        have hP : va_P D classes [(a_this, .inr (2, [.ref a_lengths, .ref a_values, .ref a_cells, .int i_greatest, .int i_known, .int i_highest])), (a_lengths, .inl (cI, 256, .inl v_lengths)), (a_values, .inl (cI, 256, .inl v_values_5)), (a_cells, .inl (cI, 2048, .inl v_cells))] H := by rw [ev_values_5]; exact hP
        have hD : va_D A [(a_this, .inr (2, [.ref a_lengths, .ref a_values, .ref a_cells, .int i_greatest, .int i_known, .int i_highest])), (a_lengths, .inl (cI, 256, .inl v_lengths)), (a_values, .inl (cI, 256, .inl v_values_5)), (a_cells, .inl (cI, 2048, .inl v_cells))] := by rw [ev_values_5]; exact hD
        refine lv_aload_n hx hb d_Codes_fillCells_44 rfl (lv_at hl 0 rfl) ?_
        refine lv_iload_n hx hb d_Codes_fillCells_45 rfl (lv_at hl 3 rfl) ?_
        refine lv_iload_n hx hb d_Codes_fillCells_46 rfl (lv_at hl 1 rfl) ?_
        refine lv_iconst (v := 1) hx hb d_Codes_fillCells_47 (by decide) ?_
        refine lv_aload_n hx hb d_Codes_fillCells_48 rfl (lv_at hl 0 rfl) ?_
        refine va_get hx hb hts in_Codes hown hK hP 0 rfl rfl 3 (by decide) (hts _ m_129) (fun _ h9 => h9) rfl d_Codes_fillCells_49 ?_
        refine lv_iload_n hx hb d_Codes_fillCells_52 rfl (lv_at hl 2 rfl) ?_
        refine lv_isub hx hb d_Codes_fillCells_53 ?_
        refine lv_ishl hx hb d_Codes_fillCells_54 ?_
        obtain ⟨r_6, v_cells_7, hc_8, h⟩ := bd2_s h
        have hPc := hP.sub (ws' := [(a_this, .inr (2, [.ref a_lengths, .ref a_values, .ref a_cells, .int i_greatest, .int i_known, .int i_highest])), (a_cells, .inl (cI, 2048, .inl v_cells))]) [0, 3] rfl
        have hDc := hD.sub (ws' := [(a_this, .inr (2, [.ref a_lengths, .ref a_values, .ref a_cells, .int i_greatest, .int i_known, .int i_highest])), (a_cells, .inl (cI, 2048, .inl v_cells))]) [0, 3] (by decide) rfl
        have hFc := va_free (wc := [(a_this, .inr (2, [.ref a_lengths, .ref a_values, .ref a_cells, .int i_greatest, .int i_known, .int i_highest])), (a_cells, .inl (cI, 2048, .inl v_cells))]) hD hS hA [0, 3] rfl
        refine va_calli (va_runV (As := [.int l3, .int l1, .int (1 <<< ((i_greatest - l2) &&& 31))]) (rest := []) ⟨hx, hb, hml, hown, hts⟩ (c_Codes_giveCells l D cI cL cZ H.size N a_this a_cells a_lengths a_values i_greatest i_known i_highest v_cells l3 l1 (1 <<< ((i_greatest - l2) &&& 31)) r_6 v_cells_7 hc_8) ⟨(my_cb 3 hts m_486 rfl rfl (hts _ m_68) (hts _ m_483) (by decide +kernel) ⟨Nat.le_of_ble_eq_true rfl, Nat.le_of_ble_eq_true rfl⟩), hts _ m_485, hts _ m_7⟩ ⟨fun a U g mk q => by obtain ⟨q0, q1, qP, qK, qD⟩ := q; exact ⟨q0, q1, qP, va_K.moved (u := U) (U := U.calling g mk a) (Vm.Alike.refl U.vm) qK, qD⟩, va_recv hK hPc (ci := 2) (q0 := 0) rfl rfl, fun U hU hW => ⟨rfl, by rw [hU], by rw [hU]; exact hPc, va_K.moved hW.alike hK, hDc.weaken (fun _ _ _ _ => trivial)⟩⟩ rfl rfl hl.1 rfl (lv_room (Nat.le_of_ble_eq_true rfl)) d_Codes_fillCells_55 ⟨Nat.zero_le _, Nat.zero_le _⟩) hS (fun q _ h => hFc q h) hFc (fun rr u t H1 locs ht hvm hw hB hz1 hk1 hS => ?_)
        obtain ⟨hP1, hK1, hD1⟩ := hB
        rw [ht] at hP1
        subst hw
        obtain ⟨hP, hD⟩ := va_join (wr := [(a_lengths, .inl (cI, 256, .inl v_lengths)), (a_values, .inl (cI, 256, .inl v_values_5))]) (w1 := [(a_this, .inr (2, [.ref a_lengths, .ref a_values, .ref a_cells, .int i_greatest, .int i_known, .int i_highest])), (a_cells, .inl (cI, 2048, .inl v_cells_7))]) hP hD [0, 3] [1, 2] rfl rfl (by decide) (by decide) hk1 hFc hP1 hD1
        clear hPc hDc hFc hk1 hP1 hD1 hK1
        generalize H1 = H at hP hS ⊢
        have hP : va_P D classes [(a_this, .inr (2, [.ref a_lengths, .ref a_values, .ref a_cells, .int i_greatest, .int i_known, .int i_highest])), (a_lengths, .inl (cI, 256, .inl v_lengths)), (a_values, .inl (cI, 256, .inl v_values_5)), (a_cells, .inl (cI, 2048, .inl v_cells_7))] H := hP.sub [2, 0, 1, 3] rfl
        have hD : va_D A [(a_this, .inr (2, [.ref a_lengths, .ref a_values, .ref a_cells, .int i_greatest, .int i_known, .int i_highest])), (a_lengths, .inl (cI, 256, .inl v_lengths)), (a_values, .inl (cI, 256, .inl v_values_5)), (a_cells, .inl (cI, 2048, .inl v_cells_7))] := hD.sub [2, 0, 1, 3] (by decide) rfl
        refine lv_istore_n (lv' := [(1, .int r_6), (0, .ref a_this), (2, .int l2), (3, .int l3)]) hx hb d_Codes_fillCells_58 rfl hl (by decide) rfl (fun ls hl => ?_)
        exact w_Codes_fillCells_b59 ⟨hx, hb, hml, hown, hts, hK, hA⟩ hret hk7 ih _ _ _ _ _ h H locs ls (lv_sub hl [1, 0, 2, 3] rfl) hP hD hS
set_option maxHeartbeats 4000000 in
set_option maxRecDepth 100000 in
theorem w_Codes_fillCells_b7 {p : Program} {l : Launch} {e : Env} {s : State} {m : MethodId} {args : Array Value} {below : List Frame} {meth : Method} {c : Code} {Q : State → Prop} {A : Nat → Prop} {D : va_G} {cI cL cZ : ClassId} {a_this : Nat} {a_lengths : Nat} {a_values : Nat} {a_cells : Nat} {i_greatest : Int32} {i_known : Int32} {i_highest : Int32} {v_lengths : Nat → Int32} {N : Nat} {res : (Nat → Int32) × (Nat → Int32)}  (C : Cx p s m args c b_Codes_fillCells 4 "PrefixMill$Codes" D [(cI, .int), (cL, .long), (cZ, .boolean)] A) (hret : E_Codes_fillCells p l e s m args below meth c Q A D cI cL cZ a_this a_lengths a_values a_cells i_greatest i_known i_highest v_lengths res)  : ∀ z : Nat, I_Codes_fillCells_b7 p l e s m args below meth c Q A D cI cL cZ a_this a_lengths a_values a_cells i_greatest i_known i_highest v_lengths res (f_Codes_fillCells_b7 N i_greatest v_lengths  z) := by
  obtain ⟨hx, hb, hml, hown, hts, hK, hA⟩ := C
  intro z
  induction z with
  | zero => intro l1 l2 v_values v_cells h; cases h
  | succ z ih =>
    intro l1 l2 v_values v_cells h H locs ls hl hP hD hS
    refine lv_iload_n hx hb d_Codes_fillCells_7 rfl (lv_at hl 2 rfl) ?_
    refine lv_if_le (tgt := 71) hx hb d_Codes_fillCells_8 (by decide) (fun c_1 => ?_) (fun c_1 => ?_)
    · replace h := if_t h c_1
      exact hret _ _ _ _ v_values v_cells h d_Codes_fillCells_71 hP hD hS
    · replace h := if_f h c_1
      refine lv_iconst (v := 0) hx hb d_Codes_fillCells_11 (by decide) ?_
      refine lv_istore_n (lv' := [(3, .int 0), (0, .ref a_this), (1, .int l1), (2, .int l2)]) hx hb d_Codes_fillCells_12 rfl hl (by decide) rfl (fun ls hl => ?_)
      exact w_Codes_fillCells_b13 ⟨hx, hb, hml, hown, hts, hK, hA⟩ hret ih N _ _ _ _ _ h H locs ls (lv_sub hl [1, 2, 3, 0] rfl) hP hD hS
set_option maxHeartbeats 4000000 in
set_option maxRecDepth 100000 in
theorem w_Codes_fillCells_b0 {p : Program} {l : Launch} {e : Env} {s : State} {m : MethodId} {args : Array Value} {below : List Frame} {meth : Method} {c : Code} {Q : State → Prop} {A : Nat → Prop} {D : va_G} {cI cL cZ : ClassId} {a_this : Nat} {a_lengths : Nat} {a_values : Nat} {a_cells : Nat} {i_greatest : Int32} {i_known : Int32} {i_highest : Int32} {v_lengths : Nat → Int32} {N : Nat} {res : (Nat → Int32) × (Nat → Int32)}  (C : Cx p s m args c b_Codes_fillCells 4 "PrefixMill$Codes" D [(cI, .int), (cL, .long), (cZ, .boolean)] A) (hret : E_Codes_fillCells p l e s m args below meth c Q A D cI cL cZ a_this a_lengths a_values a_cells i_greatest i_known i_highest v_lengths res)  : I_Codes_fillCells_b0 p l e s m args below meth c Q A D cI cL cZ a_this a_lengths a_values a_cells i_greatest i_known i_highest v_lengths res (f_Codes_fillCells N i_greatest v_lengths ) := by
  obtain ⟨hx, hb, hml, hown, hts, hK, hA⟩ := C
  intro v_values v_cells h H locs ls hl hP hD hS
  unfold f_Codes_fillCells at h
  refine lv_iconst (v := 0) hx hb d_Codes_fillCells_0 (by decide) ?_
  refine lv_istore_n (lv' := [(1, .int 0), (0, .ref a_this)]) hx hb d_Codes_fillCells_1 rfl hl (by decide) rfl (fun ls hl => ?_)
  refine lv_aload_n hx hb d_Codes_fillCells_2 rfl (lv_at hl 1 rfl) ?_
  refine va_get hx hb hts in_Codes hown hK hP 0 rfl rfl 3 (by decide) (hts _ m_129) (fun _ h9 => h9) rfl d_Codes_fillCells_3 ?_
  refine lv_istore_n (lv' := [(2, .int i_greatest), (1, .int 0), (0, .ref a_this)]) hx hb d_Codes_fillCells_6 rfl hl (by decide) rfl (fun ls hl => ?_)
  exact w_Codes_fillCells_b7 ⟨hx, hb, hml, hown, hts, hK, hA⟩ hret  N _ _ _ _ h H locs ls (lv_sub hl [2, 1, 0] rfl) hP hD hS
set_option maxHeartbeats 4000000 in
set_option maxRecDepth 100000 in
theorem c_Codes_fillCells (l : Launch) (D : va_G) (cI cL cZ : ClassId) (sz N : Nat) (a_this : Nat) (a_lengths : Nat) (a_values : Nat) (a_cells : Nat) (i_greatest : Int32) (i_known : Int32) (i_highest : Int32) (v_lengths : Nat → Int32) (v_values : Nat → Int32) (v_cells : Nat → Int32) (v_values' : Nat → Int32) (v_cells' : Nat → Int32) (h : f_Codes_fillCells N i_greatest v_lengths v_values v_cells = some (v_values', v_cells')) : Met l ({ cls := "PrefixMill$Codes", name := "fillCells", desc := "()V" } : Jvm.MethodName) ws_Codes_fillCells R_Codes_fillCells (va_Pc [.ref a_this] (fun U => U.heap.size = sz ∧ va_P D classes [(a_this, .inr (2, [.ref a_lengths, .ref a_values, .ref a_cells, .int i_greatest, .int i_known, .int i_highest])), (a_lengths, .inl (cI, 256, .inl v_lengths)), (a_values, .inl (cI, 256, .inl v_values)), (a_cells, .inl (cI, 2048, .inl v_cells))] U.heap ∧ va_K D classes [(cI, .int), (cL, .long), (cZ, .boolean)] U ∧ va_D (fun _ => True) [(a_this, .inr (2, [.ref a_lengths, .ref a_values, .ref a_cells, .int i_greatest, .int i_known, .int i_highest])), (a_lengths, .inl (cI, 256, .inl v_lengths)), (a_values, .inl (cI, 256, .inl v_values)), (a_cells, .inl (cI, 2048, .inl v_cells))])) (va_Qv (fun _ : Unit => True) (fun _ t => va_P D classes [(a_this, .inr (2, [.ref a_lengths, .ref a_values, .ref a_cells, .int i_greatest, .int i_known, .int i_highest])), (a_lengths, .inl (cI, 256, .inl v_lengths)), (a_values, .inl (cI, 256, .inl v_values')), (a_cells, .inl (cI, 2048, .inl v_cells'))] t.heap ∧ va_K D classes [(cI, .int), (cL, .long), (cZ, .boolean)] t ∧ va_D (va_A [(a_this, .inr (2, [.ref a_lengths, .ref a_values, .ref a_cells, .int i_greatest, .int i_known, .int i_highest])), (a_lengths, .inl (cI, 256, .inl v_lengths)), (a_values, .inl (cI, 256, .inl v_values)), (a_cells, .inl (cI, 2048, .inl v_cells))] sz) [(a_this, .inr (2, [.ref a_lengths, .ref a_values, .ref a_cells, .int i_greatest, .int i_known, .int i_highest])), (a_lengths, .inl (cI, 256, .inl v_lengths)), (a_values, .inl (cI, 256, .inl v_values')), (a_cells, .inl (cI, 2048, .inl v_cells'))]) (va_A [(a_this, .inr (2, [.ref a_lengths, .ref a_values, .ref a_cells, .int i_greatest, .int i_known, .int i_highest])), (a_lengths, .inl (cI, 256, .inl v_lengths)), (a_values, .inl (cI, 256, .inl v_values)), (a_cells, .inl (cI, 2048, .inl v_cells))] sz)) 0 0 (va_A [(a_this, .inr (2, [.ref a_lengths, .ref a_values, .ref a_cells, .int i_greatest, .int i_known, .int i_highest])), (a_lengths, .inl (cI, 256, .inl v_lengths)), (a_values, .inl (cI, 256, .inl v_values)), (a_cells, .inl (cI, 2048, .inl v_cells))] sz) := by
  refine Met.ofW (cc := b_Codes_fillCells) (maxL := 4) (ret := none) (by decide) rfl ?_
  intro p e s m args below meth c s₁ B hml hv
  obtain ⟨rfl, hsz, hP, hK, hD0⟩ := hv
  have hx := B.exec
  have hb := B.bytes
  have hr := B.returns
  have hts0 := atoms_spec (ws := ws_Codes_fillCells) B.pre
  have hts := gd_tl hts0
  clear hts0
  have hown : s.vm.findClass "PrefixMill$Codes" = some m.cls := findClass_of_methodNamed B.named
  have hlocks := B.notSynchronized
  subst hsz
  have hD := hD0.self (sz := s.heap.size)
  generalize hAe : va_A [(a_this, .inr (2, [.ref a_lengths, .ref a_values, .ref a_cells, .int i_greatest, .int i_known, .int i_highest])), (a_lengths, .inl (cI, 256, .inl v_lengths)), (a_values, .inl (cI, 256, .inl v_values)), (a_cells, .inl (cI, 2048, .inl v_cells))] s.heap.size = A at hD ⊢
  have hA : ∀ q : Nat, s.heap.size ≤ q → A q := fun q h => by rw [← hAe]; exact Or.inr h
  have hS : va_S A s.heap s.heap [] := va_S.rf
  have hP : va_P D classes [(a_this, .inr (2, [.ref a_lengths, .ref a_values, .ref a_cells, .int i_greatest, .int i_known, .int i_highest])), (a_lengths, .inl (cI, 256, .inl v_lengths)), (a_values, .inl (cI, 256, .inl v_values)), (a_cells, .inl (cI, 2048, .inl v_cells))] s.heap := hP
  have hl := lv_entry ([.ref a_this]) (n := 4) (Nat.le_of_ble_eq_true rfl)
  rw [lg_entry_eq]
  generalize (lg_sl ([.ref a_this]) ++ List.replicate (4 - (lg_sl ([.ref a_this])).length) Slot.unset).toArray = ls at hl ⊢
  have hl : lv_has ls 4 [(0, .ref a_this)] := hl
  have C : Cx p s m ([.ref a_this] : List Value).toArray c b_Codes_fillCells 4 "PrefixMill$Codes" D [(cI, .int), (cL, .long), (cZ, .boolean)] A := ⟨hx, hb, hml, hown, hts, hK, hA⟩
  refine w_Codes_fillCells_b0 (res := (v_values', v_cells')) C ?_ _ _ h s.heap [] ls hl hP hD hS
  intro pc9 H9 locs9 ls9 v_values9 v_cells9 e9 d9 hP9 hD9 hS9
  cases e9
  exact W.vret hx hb hr (fun t ht hW => ⟨⟨(), rfl, trivial, by rw [ht]; exact hP9, va_K.moved hW.alike hK, hD9⟩, hS9.F ht⟩) hS9.2.2 d9
abbrev b_Codes_become : ByteArray := prog_2_method_3_code
def ws_Codes_become : List Cond := .code ({ cls := "PrefixMill$Codes", name := "become", desc := "([I)I" } : Jvm.MethodName) b_Codes_become 3 (some .int) :: tt
theorem d_Codes_become_0 : decode b_Codes_become 0 = .ok (.aload_n 0, 1) := by decide +kernel
theorem d_Codes_become_1 : decode b_Codes_become 1 = .ok (.aload_n 1, 1) := by decide +kernel
theorem d_Codes_become_2 : decode b_Codes_become 2 = .ok (.invokestatic 25, 3) := by decide +kernel
theorem d_Codes_become_5 : decode b_Codes_become 5 = .ok (.putfield 21, 3) := by decide +kernel
theorem d_Codes_become_8 : decode b_Codes_become 8 = .ok (.aload_n 0, 1) := by decide +kernel
theorem d_Codes_become_9 : decode b_Codes_become 9 = .ok (.iconst 0, 1) := by decide +kernel
theorem d_Codes_become_10 : decode b_Codes_become 10 = .ok (.putfield 29, 3) := by decide +kernel
theorem d_Codes_become_13 : decode b_Codes_become 13 = .ok (.iconst 0, 1) := by decide +kernel
theorem d_Codes_become_14 : decode b_Codes_become 14 = .ok (.istore_n 2, 1) := by decide +kernel
theorem d_Codes_become_15 : decode b_Codes_become 15 = .ok (.iload_n 2, 1) := by decide +kernel
theorem d_Codes_become_16 : decode b_Codes_become 16 = .ok (.sipush 256, 3) := by decide +kernel
theorem d_Codes_become_19 : decode b_Codes_become 19 = .ok (.if_icmp .ge 42, 3) := by decide +kernel
theorem d_Codes_become_22 : decode b_Codes_become 22 = .ok (.aload_n 0, 1) := by decide +kernel
theorem d_Codes_become_23 : decode b_Codes_become 23 = .ok (.getfield 9, 3) := by decide +kernel
theorem d_Codes_become_26 : decode b_Codes_become 26 = .ok (.iload_n 2, 1) := by decide +kernel
theorem d_Codes_become_27 : decode b_Codes_become 27 = .ok (.aload_n 1, 1) := by decide +kernel
theorem d_Codes_become_28 : decode b_Codes_become 28 = .ok (.iload_n 2, 1) := by decide +kernel
theorem d_Codes_become_29 : decode b_Codes_become 29 = .ok (.iaload, 1) := by decide +kernel
theorem d_Codes_become_30 : decode b_Codes_become 30 = .ok (.iastore, 1) := by decide +kernel
theorem d_Codes_become_31 : decode b_Codes_become 31 = .ok (.aload_n 0, 1) := by decide +kernel
theorem d_Codes_become_32 : decode b_Codes_become 32 = .ok (.getfield 9, 3) := by decide +kernel
theorem d_Codes_become_35 : decode b_Codes_become 35 = .ok (.iload_n 2, 1) := by decide +kernel
theorem d_Codes_become_36 : decode b_Codes_become 36 = .ok (.iaload, 1) := by decide +kernel
theorem d_Codes_become_37 : decode b_Codes_become 37 = .ok (.ifCond .le 18, 3) := by decide +kernel
theorem d_Codes_become_40 : decode b_Codes_become 40 = .ok (.aload_n 0, 1) := by decide +kernel
theorem d_Codes_become_41 : decode b_Codes_become 41 = .ok (.dup, 1) := by decide +kernel
theorem d_Codes_become_42 : decode b_Codes_become 42 = .ok (.getfield 29, 3) := by decide +kernel
theorem d_Codes_become_45 : decode b_Codes_become 45 = .ok (.iconst 1, 1) := by decide +kernel
theorem d_Codes_become_46 : decode b_Codes_become 46 = .ok (.iadd, 1) := by decide +kernel
theorem d_Codes_become_47 : decode b_Codes_become 47 = .ok (.putfield 29, 3) := by decide +kernel
theorem d_Codes_become_50 : decode b_Codes_become 50 = .ok (.aload_n 0, 1) := by decide +kernel
theorem d_Codes_become_51 : decode b_Codes_become 51 = .ok (.iload_n 2, 1) := by decide +kernel
theorem d_Codes_become_52 : decode b_Codes_become 52 = .ok (.putfield 32, 3) := by decide +kernel
theorem d_Codes_become_55 : decode b_Codes_become 55 = .ok (.iinc 2 1, 3) := by decide +kernel
theorem d_Codes_become_58 : decode b_Codes_become 58 = .ok (.goto (-43), 3) := by decide +kernel
theorem d_Codes_become_61 : decode b_Codes_become 61 = .ok (.aload_n 0, 1) := by decide +kernel
theorem d_Codes_become_62 : decode b_Codes_become 62 = .ok (.invokevirtual 35, 3) := by decide +kernel
theorem d_Codes_become_65 : decode b_Codes_become 65 = .ok (.aload_n 0, 1) := by decide +kernel
theorem d_Codes_become_66 : decode b_Codes_become 66 = .ok (.getfield 21, 3) := by decide +kernel
theorem d_Codes_become_69 : decode b_Codes_become 69 = .ok (.ireturn, 1) := by decide +kernel
def f_Codes_become_b55 (N : Nat) (n_p1 : Nat) (v_p1 : Nat → Int32) (k15 : Int32 → Int32 → Int32 → Int32 → (Nat → Int32) → (Nat → Int32) → (Nat → Int32) → Option (Int32 × Int32 × Int32 × Int32 × (Nat → Int32) × (Nat → Int32) × (Nat → Int32))) (l2 : Int32) (i_greatest : Int32) (i_known : Int32) (i_highest : Int32) (v_lengths : Nat → Int32) (v_values : Nat → Int32) (v_cells : Nat → Int32) : Option (Int32 × Int32 × Int32 × Int32 × (Nat → Int32) × (Nat → Int32) × (Nat → Int32)) :=
  nm (l2 + 1) fun l2_1 =>
  k15 l2_1 i_greatest i_known i_highest v_lengths v_values v_cells
def f_Codes_become_b61 (N : Nat) (n_p1 : Nat) (v_p1 : Nat → Int32)  (i_greatest : Int32) (i_known : Int32) (i_highest : Int32) (v_lengths : Nat → Int32) (v_values : Nat → Int32) (v_cells : Nat → Int32) : Option (Int32 × Int32 × Int32 × Int32 × (Nat → Int32) × (Nat → Int32) × (Nat → Int32)) :=
  bd2 (f_Codes_fillCells N i_greatest v_lengths v_values v_cells) fun v_values_1 v_cells_2 =>
  some (i_greatest, i_greatest, i_known, i_highest, v_lengths, v_values_1, v_cells_2)
def f_Codes_become_b15 (N : Nat) (n_p1 : Nat) (v_p1 : Nat → Int32)  : Nat → Int32 → Int32 → Int32 → Int32 → (Nat → Int32) → (Nat → Int32) → (Nat → Int32) → Option (Int32 × Int32 × Int32 × Int32 × (Nat → Int32) × (Nat → Int32) × (Nat → Int32))
  | 0, _, _, _, _, _, _, _ => none
  | z + 1, l2, i_greatest, i_known, i_highest, v_lengths, v_values, v_cells =>
  if 256 ≤ l2 then
  f_Codes_become_b61 N n_p1 v_p1  i_greatest i_known i_highest v_lengths v_values v_cells
  else
  ck (inb l2 n_p1) <|
  ck (inb l2 256) <|
  nm (upd v_lengths (Int32.toNatClampNeg l2) (v_p1 (Int32.toNatClampNeg l2))) fun v_lengths_4 =>
  ck (inb l2 256) <|
  if (v_lengths_4 (Int32.toNatClampNeg l2)) ≤ 0 then
  f_Codes_become_b55 N n_p1 v_p1 (f_Codes_become_b15 N n_p1 v_p1  z) l2 i_greatest i_known i_highest v_lengths_4 v_values v_cells
  else
  nm (i_known + 1) fun i_known_7 =>
  f_Codes_become_b55 N n_p1 v_p1 (f_Codes_become_b15 N n_p1 v_p1  z) l2 i_greatest i_known_7 l2 v_lengths_4 v_values v_cells
def f_Codes_become (N : Nat) (n_p1 : Nat) (v_p1 : Nat → Int32)  (i_greatest : Int32) (i_known : Int32) (i_highest : Int32) (v_lengths : Nat → Int32) (v_values : Nat → Int32) (v_cells : Nat → Int32) : Option (Int32 × Int32 × Int32 × Int32 × (Nat → Int32) × (Nat → Int32) × (Nat → Int32)) :=
  bd1 (f_PM_greatestOf N n_p1 v_p1) fun r_1 =>
  f_Codes_become_b15 N n_p1 v_p1  N 0 r_1 0 i_highest v_lengths v_values v_cells
abbrev R_Codes_become : Room := ({ frames := 3, cells := 0, slots := 0, locals := 69 } : Room)
def E_Codes_become (p : Program) (l : Launch) (e : Env) (s : State) (m : MethodId) (args : Array Value) (below : List Frame) (meth : Method) (c : Code) (Q : State → Prop) (A : Nat → Prop) (D : va_G) (cI cL cZ : ClassId) (a_this : Nat) (a_lengths : Nat) (a_values : Nat) (a_cells : Nat) (a_p1 : Nat) (n_p1 : Nat) (v_p1 : Nat → Int32) (res : Int32 × Int32 × Int32 × Int32 × (Nat → Int32) × (Nat → Int32) × (Nat → Int32)) : Prop := ∀ (pc : Nat) (H : Heap) (locs : List Loc) (ls : Array Slot) (rv : Int32) (i_greatest : Int32) (i_known : Int32) (i_highest : Int32) (v_lengths : Nat → Int32) (v_values : Nat → Int32) (v_cells : Nat → Int32), some (rv, i_greatest, i_known, i_highest, v_lengths, v_values, v_cells) = some res → decode b_Codes_become pc = .ok (.ireturn, 1) → va_P D classes [(a_this, .inr (2, [.ref a_lengths, .ref a_values, .ref a_cells, .int i_greatest, .int i_known, .int i_highest])), (a_lengths, .inl (cI, 256, .inl v_lengths)), (a_values, .inl (cI, 256, .inl v_values)), (a_cells, .inl (cI, 2048, .inl v_cells)), (a_p1, .inl (cI, n_p1, .inl v_p1))] H → va_D A [(a_this, .inr (2, [.ref a_lengths, .ref a_values, .ref a_cells, .int i_greatest, .int i_known, .int i_highest])), (a_lengths, .inl (cI, 256, .inl v_lengths)), (a_values, .inl (cI, 256, .inl v_values)), (a_cells, .inl (cI, 2048, .inl v_cells)), (a_p1, .inl (cI, n_p1, .inl v_p1))] → va_S A s.heap H locs → W p l e R_Codes_become s m args below meth c H locs 0 0 Q (F0 m pc ls [.int rv])
def I_Codes_become_b55 (p : Program) (l : Launch) (e : Env) (s : State) (m : MethodId) (args : Array Value) (below : List Frame) (meth : Method) (c : Code) (Q : State → Prop) (A : Nat → Prop) (D : va_G) (cI cL cZ : ClassId) (a_this : Nat) (a_lengths : Nat) (a_values : Nat) (a_cells : Nat) (a_p1 : Nat) (n_p1 : Nat) (v_p1 : Nat → Int32) (res : Int32 × Int32 × Int32 × Int32 × (Nat → Int32) × (Nat → Int32) × (Nat → Int32)) (kf : Int32 → Int32 → Int32 → Int32 → (Nat → Int32) → (Nat → Int32) → (Nat → Int32) → Option (Int32 × Int32 × Int32 × Int32 × (Nat → Int32) × (Nat → Int32) × (Nat → Int32))) : Prop := ∀ (l2 : Int32) (i_greatest : Int32) (i_known : Int32) (i_highest : Int32) (v_lengths : Nat → Int32) (v_values : Nat → Int32) (v_cells : Nat → Int32), kf l2 i_greatest i_known i_highest v_lengths v_values v_cells = some res → ∀ (H : Heap) (locs : List Loc) (ls : Array Slot), lv_has ls 3 [(0, .ref a_this), (1, .ref a_p1), (2, .int l2)] → va_P D classes [(a_this, .inr (2, [.ref a_lengths, .ref a_values, .ref a_cells, .int i_greatest, .int i_known, .int i_highest])), (a_lengths, .inl (cI, 256, .inl v_lengths)), (a_values, .inl (cI, 256, .inl v_values)), (a_cells, .inl (cI, 2048, .inl v_cells)), (a_p1, .inl (cI, n_p1, .inl v_p1))] H → va_D A [(a_this, .inr (2, [.ref a_lengths, .ref a_values, .ref a_cells, .int i_greatest, .int i_known, .int i_highest])), (a_lengths, .inl (cI, 256, .inl v_lengths)), (a_values, .inl (cI, 256, .inl v_values)), (a_cells, .inl (cI, 2048, .inl v_cells)), (a_p1, .inl (cI, n_p1, .inl v_p1))] → va_S A s.heap H locs → W p l e R_Codes_become s m args below meth c H locs 0 0 Q (F0 m 55 ls [])
def I_Codes_become_b61 (p : Program) (l : Launch) (e : Env) (s : State) (m : MethodId) (args : Array Value) (below : List Frame) (meth : Method) (c : Code) (Q : State → Prop) (A : Nat → Prop) (D : va_G) (cI cL cZ : ClassId) (a_this : Nat) (a_lengths : Nat) (a_values : Nat) (a_cells : Nat) (a_p1 : Nat) (n_p1 : Nat) (v_p1 : Nat → Int32) (res : Int32 × Int32 × Int32 × Int32 × (Nat → Int32) × (Nat → Int32) × (Nat → Int32)) (kf : Int32 → Int32 → Int32 → (Nat → Int32) → (Nat → Int32) → (Nat → Int32) → Option (Int32 × Int32 × Int32 × Int32 × (Nat → Int32) × (Nat → Int32) × (Nat → Int32))) : Prop := ∀ (i_greatest : Int32) (i_known : Int32) (i_highest : Int32) (v_lengths : Nat → Int32) (v_values : Nat → Int32) (v_cells : Nat → Int32), kf i_greatest i_known i_highest v_lengths v_values v_cells = some res → ∀ (H : Heap) (locs : List Loc) (ls : Array Slot), lv_has ls 3 [(0, .ref a_this)] → va_P D classes [(a_this, .inr (2, [.ref a_lengths, .ref a_values, .ref a_cells, .int i_greatest, .int i_known, .int i_highest])), (a_lengths, .inl (cI, 256, .inl v_lengths)), (a_values, .inl (cI, 256, .inl v_values)), (a_cells, .inl (cI, 2048, .inl v_cells)), (a_p1, .inl (cI, n_p1, .inl v_p1))] H → va_D A [(a_this, .inr (2, [.ref a_lengths, .ref a_values, .ref a_cells, .int i_greatest, .int i_known, .int i_highest])), (a_lengths, .inl (cI, 256, .inl v_lengths)), (a_values, .inl (cI, 256, .inl v_values)), (a_cells, .inl (cI, 2048, .inl v_cells)), (a_p1, .inl (cI, n_p1, .inl v_p1))] → va_S A s.heap H locs → W p l e R_Codes_become s m args below meth c H locs 0 0 Q (F0 m 61 ls [])
def I_Codes_become_b15 (p : Program) (l : Launch) (e : Env) (s : State) (m : MethodId) (args : Array Value) (below : List Frame) (meth : Method) (c : Code) (Q : State → Prop) (A : Nat → Prop) (D : va_G) (cI cL cZ : ClassId) (a_this : Nat) (a_lengths : Nat) (a_values : Nat) (a_cells : Nat) (a_p1 : Nat) (n_p1 : Nat) (v_p1 : Nat → Int32) (res : Int32 × Int32 × Int32 × Int32 × (Nat → Int32) × (Nat → Int32) × (Nat → Int32)) (kf : Int32 → Int32 → Int32 → Int32 → (Nat → Int32) → (Nat → Int32) → (Nat → Int32) → Option (Int32 × Int32 × Int32 × Int32 × (Nat → Int32) × (Nat → Int32) × (Nat → Int32))) : Prop := ∀ (l2 : Int32) (i_greatest : Int32) (i_known : Int32) (i_highest : Int32) (v_lengths : Nat → Int32) (v_values : Nat → Int32) (v_cells : Nat → Int32), kf l2 i_greatest i_known i_highest v_lengths v_values v_cells = some res → ∀ (H : Heap) (locs : List Loc) (ls : Array Slot), lv_has ls 3 [(0, .ref a_this), (1, .ref a_p1), (2, .int l2)] → va_P D classes [(a_this, .inr (2, [.ref a_lengths, .ref a_values, .ref a_cells, .int i_greatest, .int i_known, .int i_highest])), (a_lengths, .inl (cI, 256, .inl v_lengths)), (a_values, .inl (cI, 256, .inl v_values)), (a_cells, .inl (cI, 2048, .inl v_cells)), (a_p1, .inl (cI, n_p1, .inl v_p1))] H → va_D A [(a_this, .inr (2, [.ref a_lengths, .ref a_values, .ref a_cells, .int i_greatest, .int i_known, .int i_highest])), (a_lengths, .inl (cI, 256, .inl v_lengths)), (a_values, .inl (cI, 256, .inl v_values)), (a_cells, .inl (cI, 2048, .inl v_cells)), (a_p1, .inl (cI, n_p1, .inl v_p1))] → va_S A s.heap H locs → W p l e R_Codes_become s m args below meth c H locs 0 0 Q (F0 m 15 ls [])
def I_Codes_become_b0 (p : Program) (l : Launch) (e : Env) (s : State) (m : MethodId) (args : Array Value) (below : List Frame) (meth : Method) (c : Code) (Q : State → Prop) (A : Nat → Prop) (D : va_G) (cI cL cZ : ClassId) (a_this : Nat) (a_lengths : Nat) (a_values : Nat) (a_cells : Nat) (a_p1 : Nat) (n_p1 : Nat) (v_p1 : Nat → Int32) (res : Int32 × Int32 × Int32 × Int32 × (Nat → Int32) × (Nat → Int32) × (Nat → Int32)) (kf : Int32 → Int32 → Int32 → (Nat → Int32) → (Nat → Int32) → (Nat → Int32) → Option (Int32 × Int32 × Int32 × Int32 × (Nat → Int32) × (Nat → Int32) × (Nat → Int32))) : Prop := ∀ (i_greatest : Int32) (i_known : Int32) (i_highest : Int32) (v_lengths : Nat → Int32) (v_values : Nat → Int32) (v_cells : Nat → Int32), kf i_greatest i_known i_highest v_lengths v_values v_cells = some res → ∀ (H : Heap) (locs : List Loc) (ls : Array Slot), lv_has ls 3 [(0, .ref a_this), (1, .ref a_p1)] → va_P D classes [(a_this, .inr (2, [.ref a_lengths, .ref a_values, .ref a_cells, .int i_greatest, .int i_known, .int i_highest])), (a_lengths, .inl (cI, 256, .inl v_lengths)), (a_values, .inl (cI, 256, .inl v_values)), (a_cells, .inl (cI, 2048, .inl v_cells)), (a_p1, .inl (cI, n_p1, .inl v_p1))] H → va_D A [(a_this, .inr (2, [.ref a_lengths, .ref a_values, .ref a_cells, .int i_greatest, .int i_known, .int i_highest])), (a_lengths, .inl (cI, 256, .inl v_lengths)), (a_values, .inl (cI, 256, .inl v_values)), (a_cells, .inl (cI, 2048, .inl v_cells)), (a_p1, .inl (cI, n_p1, .inl v_p1))] → va_S A s.heap H locs → W p l e R_Codes_become s m args below meth c H locs 0 0 Q (F0 m 0 ls [])
set_option maxHeartbeats 4000000 in
set_option maxRecDepth 100000 in
theorem w_Codes_become_b55 {p : Program} {l : Launch} {e : Env} {s : State} {m : MethodId} {args : Array Value} {below : List Frame} {meth : Method} {c : Code} {Q : State → Prop} {A : Nat → Prop} {D : va_G} {cI cL cZ : ClassId} {a_this : Nat} {a_lengths : Nat} {a_values : Nat} {a_cells : Nat} {a_p1 : Nat} {n_p1 : Nat} {v_p1 : Nat → Int32} {N : Nat} {res : Int32 × Int32 × Int32 × Int32 × (Nat → Int32) × (Nat → Int32) × (Nat → Int32)} {k15 : Int32 → Int32 → Int32 → Int32 → (Nat → Int32) → (Nat → Int32) → (Nat → Int32) → Option (Int32 × Int32 × Int32 × Int32 × (Nat → Int32) × (Nat → Int32) × (Nat → Int32))} (C : Cx p s m args c b_Codes_become 3 "PrefixMill$Codes" D [(cI, .int), (cL, .long), (cZ, .boolean)] A) (hret : E_Codes_become p l e s m args below meth c Q A D cI cL cZ a_this a_lengths a_values a_cells a_p1 n_p1 v_p1 res) (hk15 : I_Codes_become_b15 p l e s m args below meth c Q A D cI cL cZ a_this a_lengths a_values a_cells a_p1 n_p1 v_p1 res k15) : I_Codes_become_b55 p l e s m args below meth c Q A D cI cL cZ a_this a_lengths a_values a_cells a_p1 n_p1 v_p1 res (f_Codes_become_b55 N n_p1 v_p1 k15) := by
  obtain ⟨hx, hb, hml, hown, hts, hK, hA⟩ := C
  intro l2 i_greatest i_known i_highest v_lengths v_values v_cells h H locs ls hl hP hD hS
  unfold f_Codes_become_b55 at h
  obtain ⟨l2_1, el2_1⟩ : ∃ y : Int32, y = l2 + 1 := ⟨_, rfl⟩
  replace h := nm_s h el2_1
  refine lv_iinc (v := l2_1) (lv' := [(2, .int l2_1), (0, .ref a_this), (1, .ref a_p1)]) hx hb d_Codes_become_55 hl (k := 2) rfl (by rw [el2_1]; rfl) (by decide) rfl (fun ls hl => ?_)
  refine lv_goto (tgt := 15) hx hb d_Codes_become_58 (by decide) ?_
  exact hk15 _ _ _ _ _ _ _ h H locs ls (lv_sub hl [1, 2, 0] rfl) hP hD hS
set_option maxHeartbeats 4000000 in
set_option maxRecDepth 100000 in
theorem w_Codes_become_b61 {p : Program} {l : Launch} {e : Env} {s : State} {m : MethodId} {args : Array Value} {below : List Frame} {meth : Method} {c : Code} {Q : State → Prop} {A : Nat → Prop} {D : va_G} {cI cL cZ : ClassId} {a_this : Nat} {a_lengths : Nat} {a_values : Nat} {a_cells : Nat} {a_p1 : Nat} {n_p1 : Nat} {v_p1 : Nat → Int32} {N : Nat} {res : Int32 × Int32 × Int32 × Int32 × (Nat → Int32) × (Nat → Int32) × (Nat → Int32)}  (C : Cx p s m args c b_Codes_become 3 "PrefixMill$Codes" D [(cI, .int), (cL, .long), (cZ, .boolean)] A) (hret : E_Codes_become p l e s m args below meth c Q A D cI cL cZ a_this a_lengths a_values a_cells a_p1 n_p1 v_p1 res)  : I_Codes_become_b61 p l e s m args below meth c Q A D cI cL cZ a_this a_lengths a_values a_cells a_p1 n_p1 v_p1 res (f_Codes_become_b61 N n_p1 v_p1 ) := by
  obtain ⟨hx, hb, hml, hown, hts, hK, hA⟩ := C
  intro i_greatest i_known i_highest v_lengths v_values v_cells h H locs ls hl hP hD hS
  unfold f_Codes_become_b61 at h
  refine lv_aload_n hx hb d_Codes_become_61 rfl (lv_at hl 0 rfl) ?_
  obtain ⟨v_values_1, v_cells_2, hc_3, h⟩ := bd2_s h
  have hPc := hP.sub (ws' := [(a_this, .inr (2, [.ref a_lengths, .ref a_values, .ref a_cells, .int i_greatest, .int i_known, .int i_highest])), (a_lengths, .inl (cI, 256, .inl v_lengths)), (a_values, .inl (cI, 256, .inl v_values)), (a_cells, .inl (cI, 2048, .inl v_cells))]) [0, 1, 2, 3] rfl
  have hDc := hD.sub (ws' := [(a_this, .inr (2, [.ref a_lengths, .ref a_values, .ref a_cells, .int i_greatest, .int i_known, .int i_highest])), (a_lengths, .inl (cI, 256, .inl v_lengths)), (a_values, .inl (cI, 256, .inl v_values)), (a_cells, .inl (cI, 2048, .inl v_cells))]) [0, 1, 2, 3] (by decide) rfl
  have hFc := va_free (wc := [(a_this, .inr (2, [.ref a_lengths, .ref a_values, .ref a_cells, .int i_greatest, .int i_known, .int i_highest])), (a_lengths, .inl (cI, 256, .inl v_lengths)), (a_values, .inl (cI, 256, .inl v_values)), (a_cells, .inl (cI, 2048, .inl v_cells))]) hD hS hA [0, 1, 2, 3] rfl
  refine va_callv (va_runV (As := []) (rest := []) ⟨hx, hb, hml, hown, hts⟩ (c_Codes_fillCells l D cI cL cZ H.size N a_this a_lengths a_values a_cells i_greatest i_known i_highest v_lengths v_values v_cells v_values_1 v_cells_2 hc_3) ⟨(my_cb 0 hts m_482 rfl rfl (hts _ m_68) (hts _ m_479) (by decide +kernel) ⟨Nat.le_of_ble_eq_true rfl, Nat.le_of_ble_eq_true rfl⟩), hts _ m_481, hts _ m_6⟩ ⟨fun a U g mk q => by obtain ⟨q0, q1, qP, qK, qD⟩ := q; exact ⟨q0, q1, qP, va_K.moved (u := U) (U := U.calling g mk a) (Vm.Alike.refl U.vm) qK, qD⟩, va_recv hK hPc (ci := 2) (q0 := 0) rfl rfl, fun U hU hW => ⟨rfl, by rw [hU], by rw [hU]; exact hPc, va_K.moved hW.alike hK, hDc.weaken (fun _ _ _ _ => trivial)⟩⟩ rfl rfl hl.1 rfl (lv_room (Nat.le_of_ble_eq_true rfl)) d_Codes_become_62 ⟨Nat.zero_le _, Nat.zero_le _⟩) hS (fun q _ h => hFc q h) hFc (fun u t H1 locs ht hvm hw hB hz1 hk1 hS => ?_)
  obtain ⟨hP1, hK1, hD1⟩ := hB
  rw [ht] at hP1
  obtain ⟨hP, hD⟩ := va_join (wr := [(a_p1, .inl (cI, n_p1, .inl v_p1))]) (w1 := [(a_this, .inr (2, [.ref a_lengths, .ref a_values, .ref a_cells, .int i_greatest, .int i_known, .int i_highest])), (a_lengths, .inl (cI, 256, .inl v_lengths)), (a_values, .inl (cI, 256, .inl v_values_1)), (a_cells, .inl (cI, 2048, .inl v_cells_2))]) hP hD [0, 1, 2, 3] [4] rfl rfl (by decide) (by decide) hk1 hFc hP1 hD1
  clear hPc hDc hFc hk1 hP1 hD1 hK1
  generalize H1 = H at hP hS ⊢
  have hP : va_P D classes [(a_this, .inr (2, [.ref a_lengths, .ref a_values, .ref a_cells, .int i_greatest, .int i_known, .int i_highest])), (a_lengths, .inl (cI, 256, .inl v_lengths)), (a_values, .inl (cI, 256, .inl v_values_1)), (a_cells, .inl (cI, 2048, .inl v_cells_2)), (a_p1, .inl (cI, n_p1, .inl v_p1))] H := hP.sub [1, 2, 3, 4, 0] rfl
  have hD : va_D A [(a_this, .inr (2, [.ref a_lengths, .ref a_values, .ref a_cells, .int i_greatest, .int i_known, .int i_highest])), (a_lengths, .inl (cI, 256, .inl v_lengths)), (a_values, .inl (cI, 256, .inl v_values_1)), (a_cells, .inl (cI, 2048, .inl v_cells_2)), (a_p1, .inl (cI, n_p1, .inl v_p1))] := hD.sub [1, 2, 3, 4, 0] (by decide) rfl
  refine lv_aload_n hx hb d_Codes_become_65 rfl (lv_at hl 0 rfl) ?_
  refine va_get hx hb hts in_Codes hown hK hP 0 rfl rfl 3 (by decide) (hts _ m_129) (fun _ h9 => h9) rfl d_Codes_become_66 ?_
  exact hret _ _ _ _ i_greatest i_greatest i_known i_highest v_lengths v_values_1 v_cells_2 h d_Codes_become_69 hP hD hS
set_option maxHeartbeats 4000000 in
set_option maxRecDepth 100000 in
theorem w_Codes_become_b15 {p : Program} {l : Launch} {e : Env} {s : State} {m : MethodId} {args : Array Value} {below : List Frame} {meth : Method} {c : Code} {Q : State → Prop} {A : Nat → Prop} {D : va_G} {cI cL cZ : ClassId} {a_this : Nat} {a_lengths : Nat} {a_values : Nat} {a_cells : Nat} {a_p1 : Nat} {n_p1 : Nat} {v_p1 : Nat → Int32} {N : Nat} {res : Int32 × Int32 × Int32 × Int32 × (Nat → Int32) × (Nat → Int32) × (Nat → Int32)}  (C : Cx p s m args c b_Codes_become 3 "PrefixMill$Codes" D [(cI, .int), (cL, .long), (cZ, .boolean)] A) (hret : E_Codes_become p l e s m args below meth c Q A D cI cL cZ a_this a_lengths a_values a_cells a_p1 n_p1 v_p1 res)  : ∀ z : Nat, I_Codes_become_b15 p l e s m args below meth c Q A D cI cL cZ a_this a_lengths a_values a_cells a_p1 n_p1 v_p1 res (f_Codes_become_b15 N n_p1 v_p1  z) := by
  obtain ⟨hx, hb, hml, hown, hts, hK, hA⟩ := C
  intro z
  induction z with
  | zero => intro l2 i_greatest i_known i_highest v_lengths v_values v_cells h; cases h
  | succ z ih =>
    intro l2 i_greatest i_known i_highest v_lengths v_values v_cells h H locs ls hl hP hD hS
    refine lv_iload_n hx hb d_Codes_become_15 rfl (lv_at hl 2 rfl) ?_
    refine lv_sipush (v := 256) hx hb d_Codes_become_16 (by decide) ?_
    refine lv_icmp_ge (tgt := 61) hx hb d_Codes_become_19 (by decide) (fun c_1 => ?_) (fun c_1 => ?_)
    · replace h := if_t h c_1
      exact w_Codes_become_b61 ⟨hx, hb, hml, hown, hts, hK, hA⟩ hret  _ _ _ _ _ _ h H locs ls (lv_sub hl [0] rfl) hP hD hS
    · replace h := if_f h c_1
      refine lv_aload_n hx hb d_Codes_become_22 rfl (lv_at hl 0 rfl) ?_
      refine va_get hx hb hts in_Codes hown hK hP 0 rfl rfl 0 (by decide) (hts _ m_121) (fun _ h9 => h9) rfl d_Codes_become_23 ?_
      refine lv_iload_n hx hb d_Codes_become_26 rfl (lv_at hl 2 rfl) ?_
      refine lv_aload_n hx hb d_Codes_become_27 rfl (lv_at hl 1 rfl) ?_
      refine lv_iload_n hx hb d_Codes_become_28 rfl (lv_at hl 2 rfl) ?_
      obtain ⟨g_2, h⟩ := ck_s h
      refine va_iald hx hb hK hP 4 0 rfl rfl (inb_s g_2) d_Codes_become_29 ?_
      obtain ⟨g_3, h⟩ := ck_s h
      refine va_iast hx hb hK hP hD hS 1 0 rfl rfl (inb_s g_3) d_Codes_become_30 (fun H locs hP hD hS => ?_)
      obtain ⟨v_lengths_4, ev_lengths_4⟩ : ∃ y, y = (upd v_lengths (Int32.toNatClampNeg l2) (v_p1 (Int32.toNatClampNeg l2))) := ⟨_, rfl⟩
      replace h := nm_s h ev_lengths_4
      have hP : va_P D classes [(a_this, .inr (2, [.ref a_lengths, .ref a_values, .ref a_cells, .int i_greatest, .int i_known, .int i_highest])), (a_lengths, .inl (cI, 256, .inl v_lengths_4)), (a_values, .inl (cI, 256, .inl v_values)), (a_cells, .inl (cI, 2048, .inl v_cells)), (a_p1, .inl (cI, n_p1, .inl v_p1))] H := by rw [ev_lengths_4]; exact hP
      have hD : va_D A [(a_this, .inr (2, [.ref a_lengths, .ref a_values, .ref a_cells, .int i_greatest, .int i_known, .int i_highest])), (a_lengths, .inl (cI, 256, .inl v_lengths_4)), (a_values, .inl (cI, 256, .inl v_values)), (a_cells, .inl (cI, 2048, .inl v_cells)), (a_p1, .inl (cI, n_p1, .inl v_p1))] := by rw [ev_lengths_4]; exact hD
      refine lv_aload_n hx hb d_Codes_become_31 rfl (lv_at hl 0 rfl) ?_
      refine va_get hx hb hts in_Codes hown hK hP 0 rfl rfl 0 (by decide) (hts _ m_121) (fun _ h9 => h9) rfl d_Codes_become_32 ?_
      refine lv_iload_n hx hb d_Codes_become_35 rfl (lv_at hl 2 rfl) ?_
      obtain ⟨g_5, h⟩ := ck_s h
      refine va_iald hx hb hK hP 1 0 rfl rfl (inb_s g_5) d_Codes_become_36 ?_
      refine lv_if_le (tgt := 55) hx hb d_Codes_become_37 (by decide) (fun c_6 => ?_) (fun c_6 => ?_)
      · replace h := if_t h c_6
        exact w_Codes_become_b55 ⟨hx, hb, hml, hown, hts, hK, hA⟩ hret ih _ _ _ _ _ _ _ h H locs ls (lv_sub hl [0, 1, 2] rfl) hP hD hS
      · replace h := if_f h c_6
        refine lv_aload_n hx hb d_Codes_become_40 rfl (lv_at hl 0 rfl) ?_
        refine lv_dup hx hb d_Codes_become_41 rfl ?_
        refine va_get hx hb hts in_Codes hown hK hP 0 rfl rfl 4 (by decide) (hts _ m_132) (fun _ h9 => h9) rfl d_Codes_become_42 ?_
        refine lv_iconst (v := 1) hx hb d_Codes_become_45 (by decide) ?_
        refine lv_iadd hx hb d_Codes_become_46 ?_
        refine lv_topi (fun i_known_7 ei_known_7 => ?_)
        replace h := nm_s h ei_known_7
        refine va_put (v := .int i_known_7) (ty := .int) hx hb hts in_Codes t_Codes t_Codes_ok n_Codes hown hK hP hD hS 0 rfl rfl 4 (by decide) (hts _ m_132) (fun _ h9 => h9) rfl (by decide +kernel) rfl rfl (Nat.le_of_ble_eq_true rfl) d_Codes_become_47 (fun H locs hP hD hS => ?_)
        have hP : va_P D classes [(a_this, .inr (2, [.ref a_lengths, .ref a_values, .ref a_cells, .int i_greatest, .int i_known_7, .int i_highest])), (a_lengths, .inl (cI, 256, .inl v_lengths_4)), (a_values, .inl (cI, 256, .inl v_values)), (a_cells, .inl (cI, 2048, .inl v_cells)), (a_p1, .inl (cI, n_p1, .inl v_p1))] H := by exact hP
        have hD : va_D A [(a_this, .inr (2, [.ref a_lengths, .ref a_values, .ref a_cells, .int i_greatest, .int i_known_7, .int i_highest])), (a_lengths, .inl (cI, 256, .inl v_lengths_4)), (a_values, .inl (cI, 256, .inl v_values)), (a_cells, .inl (cI, 2048, .inl v_cells)), (a_p1, .inl (cI, n_p1, .inl v_p1))] := by exact hD
        refine lv_aload_n hx hb d_Codes_become_50 rfl (lv_at hl 0 rfl) ?_
        refine lv_iload_n hx hb d_Codes_become_51 rfl (lv_at hl 2 rfl) ?_
        refine va_put (v := .int l2) (ty := .int) hx hb hts in_Codes t_Codes t_Codes_ok n_Codes hown hK hP hD hS 0 rfl rfl 5 (by decide) (hts _ m_135) (fun _ h9 => h9) rfl (by decide +kernel) rfl rfl (Nat.le_of_ble_eq_true rfl) d_Codes_become_52 (fun H locs hP hD hS => ?_)
        have hP : va_P D classes [(a_this, .inr (2, [.ref a_lengths, .ref a_values, .ref a_cells, .int i_greatest, .int i_known_7, .int l2])), (a_lengths, .inl (cI, 256, .inl v_lengths_4)), (a_values, .inl (cI, 256, .inl v_values)), (a_cells, .inl (cI, 2048, .inl v_cells)), (a_p1, .inl (cI, n_p1, .inl v_p1))] H := by exact hP
        have hD : va_D A [(a_this, .inr (2, [.ref a_lengths, .ref a_values, .ref a_cells, .int i_greatest, .int i_known_7, .int l2])), (a_lengths, .inl (cI, 256, .inl v_lengths_4)), (a_values, .inl (cI, 256, .inl v_values)), (a_cells, .inl (cI, 2048, .inl v_cells)), (a_p1, .inl (cI, n_p1, .inl v_p1))] := by exact hD
        exact w_Codes_become_b55 ⟨hx, hb, hml, hown, hts, hK, hA⟩ hret ih _ _ _ _ _ _ _ h H locs ls (lv_sub hl [0, 1, 2] rfl) hP hD hS
set_option maxHeartbeats 4000000 in
set_option maxRecDepth 100000 in
theorem w_Codes_become_b0 {p : Program} {l : Launch} {e : Env} {s : State} {m : MethodId} {args : Array Value} {below : List Frame} {meth : Method} {c : Code} {Q : State → Prop} {A : Nat → Prop} {D : va_G} {cI cL cZ : ClassId} {a_this : Nat} {a_lengths : Nat} {a_values : Nat} {a_cells : Nat} {a_p1 : Nat} {n_p1 : Nat} {v_p1 : Nat → Int32} {N : Nat} {res : Int32 × Int32 × Int32 × Int32 × (Nat → Int32) × (Nat → Int32) × (Nat → Int32)}  (C : Cx p s m args c b_Codes_become 3 "PrefixMill$Codes" D [(cI, .int), (cL, .long), (cZ, .boolean)] A) (hret : E_Codes_become p l e s m args below meth c Q A D cI cL cZ a_this a_lengths a_values a_cells a_p1 n_p1 v_p1 res)  : I_Codes_become_b0 p l e s m args below meth c Q A D cI cL cZ a_this a_lengths a_values a_cells a_p1 n_p1 v_p1 res (f_Codes_become N n_p1 v_p1 ) := by
  obtain ⟨hx, hb, hml, hown, hts, hK, hA⟩ := C
  intro i_greatest i_known i_highest v_lengths v_values v_cells h H locs ls hl hP hD hS
  unfold f_Codes_become at h
  refine lv_aload_n hx hb d_Codes_become_0 rfl (lv_at hl 0 rfl) ?_
  refine lv_aload_n hx hb d_Codes_become_1 rfl (lv_at hl 1 rfl) ?_
  obtain ⟨r_1, hc_2, h⟩ := bd1_s h
  have hPc := hP.sub (ws' := [(a_p1, .inl (cI, n_p1, .inl v_p1))]) [4] rfl
  have hDc := hD.sub (ws' := [(a_p1, .inl (cI, n_p1, .inl v_p1))]) [4] (by decide) rfl
  have hFc := va_free (wc := [(a_p1, .inl (cI, n_p1, .inl v_p1))]) hD hS hA [4] rfl
  refine va_calli (va_runSN (As := [.ref a_p1]) (rest := [.ref a_this]) ⟨hx, hb, hml, hown, hts⟩ (c_PM_greatestOf l D cI cL cZ H.size N a_p1 n_p1 v_p1 r_1 hc_2) ⟨(my_cn 1 hts m_466 rfl rfl (hts _ m_66) (hts _ m_478) (by decide +kernel) ⟨Nat.le_of_ble_eq_true rfl, Nat.le_of_ble_eq_true rfl⟩), hts _ m_465, trivial⟩ ⟨fun a U g mk q => by obtain ⟨q0, q1, qP, qK, qD⟩ := q; exact ⟨q0, q1, qP, va_K.moved (u := U) (U := U.calling g mk a) (Vm.Alike.refl U.vm) qK, qD⟩, fun U hU hW => ⟨rfl, by rw [hU], by rw [hU]; exact hPc, va_K.moved hW.alike hK, hDc.weaken (fun _ _ _ _ => trivial)⟩⟩ rfl rfl hl.1 rfl (lv_room (Nat.le_of_ble_eq_true rfl)) d_Codes_become_2 ⟨Nat.zero_le _, Nat.zero_le _⟩) hS (fun q _ h => hFc q h) hFc (fun rr u t H1 locs ht hvm hw hB hz1 hk1 hS => ?_)
  obtain ⟨hP1, hK1, hD1⟩ := hB
  rw [ht] at hP1
  subst hw
  obtain ⟨hP, hD⟩ := va_join (wr := [(a_this, .inr (2, [.ref a_lengths, .ref a_values, .ref a_cells, .int i_greatest, .int i_known, .int i_highest])), (a_lengths, .inl (cI, 256, .inl v_lengths)), (a_values, .inl (cI, 256, .inl v_values)), (a_cells, .inl (cI, 2048, .inl v_cells))]) (w1 := [(a_p1, .inl (cI, n_p1, .inl v_p1))]) hP hD [4] [0, 1, 2, 3] rfl rfl (by decide) (by decide) hk1 hFc hP1 hD1
  clear hPc hDc hFc hk1 hP1 hD1 hK1
  generalize H1 = H at hP hS ⊢
  have hP : va_P D classes [(a_this, .inr (2, [.ref a_lengths, .ref a_values, .ref a_cells, .int i_greatest, .int i_known, .int i_highest])), (a_lengths, .inl (cI, 256, .inl v_lengths)), (a_values, .inl (cI, 256, .inl v_values)), (a_cells, .inl (cI, 2048, .inl v_cells)), (a_p1, .inl (cI, n_p1, .inl v_p1))] H := hP.sub [0, 1, 2, 3, 4] rfl
  have hD : va_D A [(a_this, .inr (2, [.ref a_lengths, .ref a_values, .ref a_cells, .int i_greatest, .int i_known, .int i_highest])), (a_lengths, .inl (cI, 256, .inl v_lengths)), (a_values, .inl (cI, 256, .inl v_values)), (a_cells, .inl (cI, 2048, .inl v_cells)), (a_p1, .inl (cI, n_p1, .inl v_p1))] := hD.sub [0, 1, 2, 3, 4] (by decide) rfl
  refine va_put (v := .int r_1) (ty := .int) hx hb hts in_Codes t_Codes t_Codes_ok n_Codes hown hK hP hD hS 0 rfl rfl 3 (by decide) (hts _ m_129) (fun _ h9 => h9) rfl (by decide +kernel) rfl rfl (Nat.le_of_ble_eq_true rfl) d_Codes_become_5 (fun H locs hP hD hS => ?_)
  have hP : va_P D classes [(a_this, .inr (2, [.ref a_lengths, .ref a_values, .ref a_cells, .int r_1, .int i_known, .int i_highest])), (a_lengths, .inl (cI, 256, .inl v_lengths)), (a_values, .inl (cI, 256, .inl v_values)), (a_cells, .inl (cI, 2048, .inl v_cells)), (a_p1, .inl (cI, n_p1, .inl v_p1))] H := by exact hP
  have hD : va_D A [(a_this, .inr (2, [.ref a_lengths, .ref a_values, .ref a_cells, .int r_1, .int i_known, .int i_highest])), (a_lengths, .inl (cI, 256, .inl v_lengths)), (a_values, .inl (cI, 256, .inl v_values)), (a_cells, .inl (cI, 2048, .inl v_cells)), (a_p1, .inl (cI, n_p1, .inl v_p1))] := by exact hD
  refine lv_aload_n hx hb d_Codes_become_8 rfl (lv_at hl 0 rfl) ?_
  refine lv_iconst (v := 0) hx hb d_Codes_become_9 (by decide) ?_
  refine va_put (v := .int 0) (ty := .int) hx hb hts in_Codes t_Codes t_Codes_ok n_Codes hown hK hP hD hS 0 rfl rfl 4 (by decide) (hts _ m_132) (fun _ h9 => h9) rfl (by decide +kernel) rfl rfl (Nat.le_of_ble_eq_true rfl) d_Codes_become_10 (fun H locs hP hD hS => ?_)
  have hP : va_P D classes [(a_this, .inr (2, [.ref a_lengths, .ref a_values, .ref a_cells, .int r_1, .int 0, .int i_highest])), (a_lengths, .inl (cI, 256, .inl v_lengths)), (a_values, .inl (cI, 256, .inl v_values)), (a_cells, .inl (cI, 2048, .inl v_cells)), (a_p1, .inl (cI, n_p1, .inl v_p1))] H := by exact hP
  have hD : va_D A [(a_this, .inr (2, [.ref a_lengths, .ref a_values, .ref a_cells, .int r_1, .int 0, .int i_highest])), (a_lengths, .inl (cI, 256, .inl v_lengths)), (a_values, .inl (cI, 256, .inl v_values)), (a_cells, .inl (cI, 2048, .inl v_cells)), (a_p1, .inl (cI, n_p1, .inl v_p1))] := by exact hD
  refine lv_iconst (v := 0) hx hb d_Codes_become_13 (by decide) ?_
  refine lv_istore_n (lv' := [(2, .int 0), (0, .ref a_this), (1, .ref a_p1)]) hx hb d_Codes_become_14 rfl hl (by decide) rfl (fun ls hl => ?_)
  exact w_Codes_become_b15 ⟨hx, hb, hml, hown, hts, hK, hA⟩ hret  N _ _ _ _ _ _ _ h H locs ls (lv_sub hl [1, 2, 0] rfl) hP hD hS
set_option maxHeartbeats 4000000 in
set_option maxRecDepth 100000 in
theorem c_Codes_become (l : Launch) (D : va_G) (cI cL cZ : ClassId) (sz N : Nat) (a_this : Nat) (a_lengths : Nat) (a_values : Nat) (a_cells : Nat) (a_p1 : Nat) (i_greatest : Int32) (i_known : Int32) (i_highest : Int32) (v_lengths : Nat → Int32) (v_values : Nat → Int32) (v_cells : Nat → Int32) (n_p1 : Nat) (v_p1 : Nat → Int32) (rv : Int32) (i_greatest' : Int32) (i_known' : Int32) (i_highest' : Int32) (v_lengths' : Nat → Int32) (v_values' : Nat → Int32) (v_cells' : Nat → Int32) (h : f_Codes_become N n_p1 v_p1 i_greatest i_known i_highest v_lengths v_values v_cells = some (rv, i_greatest', i_known', i_highest', v_lengths', v_values', v_cells')) : Met l ({ cls := "PrefixMill$Codes", name := "become", desc := "([I)I" } : Jvm.MethodName) ws_Codes_become R_Codes_become (va_Pc [.ref a_this, .ref a_p1] (fun U => U.heap.size = sz ∧ va_P D classes [(a_this, .inr (2, [.ref a_lengths, .ref a_values, .ref a_cells, .int i_greatest, .int i_known, .int i_highest])), (a_lengths, .inl (cI, 256, .inl v_lengths)), (a_values, .inl (cI, 256, .inl v_values)), (a_cells, .inl (cI, 2048, .inl v_cells)), (a_p1, .inl (cI, n_p1, .inl v_p1))] U.heap ∧ va_K D classes [(cI, .int), (cL, .long), (cZ, .boolean)] U ∧ va_D (fun _ => True) [(a_this, .inr (2, [.ref a_lengths, .ref a_values, .ref a_cells, .int i_greatest, .int i_known, .int i_highest])), (a_lengths, .inl (cI, 256, .inl v_lengths)), (a_values, .inl (cI, 256, .inl v_values)), (a_cells, .inl (cI, 2048, .inl v_cells)), (a_p1, .inl (cI, n_p1, .inl v_p1))])) (va_Qi (fun (r0 : Int32) (_ : Unit) => rv = r0) (fun _ t => va_P D classes [(a_this, .inr (2, [.ref a_lengths, .ref a_values, .ref a_cells, .int i_greatest', .int i_known', .int i_highest'])), (a_lengths, .inl (cI, 256, .inl v_lengths')), (a_values, .inl (cI, 256, .inl v_values')), (a_cells, .inl (cI, 2048, .inl v_cells')), (a_p1, .inl (cI, n_p1, .inl v_p1))] t.heap ∧ va_K D classes [(cI, .int), (cL, .long), (cZ, .boolean)] t ∧ va_D (va_A [(a_this, .inr (2, [.ref a_lengths, .ref a_values, .ref a_cells, .int i_greatest, .int i_known, .int i_highest])), (a_lengths, .inl (cI, 256, .inl v_lengths)), (a_values, .inl (cI, 256, .inl v_values)), (a_cells, .inl (cI, 2048, .inl v_cells)), (a_p1, .inl (cI, n_p1, .inl v_p1))] sz) [(a_this, .inr (2, [.ref a_lengths, .ref a_values, .ref a_cells, .int i_greatest', .int i_known', .int i_highest'])), (a_lengths, .inl (cI, 256, .inl v_lengths')), (a_values, .inl (cI, 256, .inl v_values')), (a_cells, .inl (cI, 2048, .inl v_cells')), (a_p1, .inl (cI, n_p1, .inl v_p1))]) (va_A [(a_this, .inr (2, [.ref a_lengths, .ref a_values, .ref a_cells, .int i_greatest, .int i_known, .int i_highest])), (a_lengths, .inl (cI, 256, .inl v_lengths)), (a_values, .inl (cI, 256, .inl v_values)), (a_cells, .inl (cI, 2048, .inl v_cells)), (a_p1, .inl (cI, n_p1, .inl v_p1))] sz)) 0 0 (va_A [(a_this, .inr (2, [.ref a_lengths, .ref a_values, .ref a_cells, .int i_greatest, .int i_known, .int i_highest])), (a_lengths, .inl (cI, 256, .inl v_lengths)), (a_values, .inl (cI, 256, .inl v_values)), (a_cells, .inl (cI, 2048, .inl v_cells)), (a_p1, .inl (cI, n_p1, .inl v_p1))] sz) := by
  refine Met.ofW (cc := b_Codes_become) (maxL := 3) (ret := (some .int)) (by decide) rfl ?_
  intro p e s m args below meth c s₁ B hml hv
  obtain ⟨rfl, hsz, hP, hK, hD0⟩ := hv
  have hx := B.exec
  have hb := B.bytes
  have hr := B.returns
  have hts0 := atoms_spec (ws := ws_Codes_become) B.pre
  have hts := gd_tl hts0
  clear hts0
  have hown : s.vm.findClass "PrefixMill$Codes" = some m.cls := findClass_of_methodNamed B.named
  have hlocks := B.notSynchronized
  subst hsz
  have hD := hD0.self (sz := s.heap.size)
  generalize hAe : va_A [(a_this, .inr (2, [.ref a_lengths, .ref a_values, .ref a_cells, .int i_greatest, .int i_known, .int i_highest])), (a_lengths, .inl (cI, 256, .inl v_lengths)), (a_values, .inl (cI, 256, .inl v_values)), (a_cells, .inl (cI, 2048, .inl v_cells)), (a_p1, .inl (cI, n_p1, .inl v_p1))] s.heap.size = A at hD ⊢
  have hA : ∀ q : Nat, s.heap.size ≤ q → A q := fun q h => by rw [← hAe]; exact Or.inr h
  have hS : va_S A s.heap s.heap [] := va_S.rf
  have hP : va_P D classes [(a_this, .inr (2, [.ref a_lengths, .ref a_values, .ref a_cells, .int i_greatest, .int i_known, .int i_highest])), (a_lengths, .inl (cI, 256, .inl v_lengths)), (a_values, .inl (cI, 256, .inl v_values)), (a_cells, .inl (cI, 2048, .inl v_cells)), (a_p1, .inl (cI, n_p1, .inl v_p1))] s.heap := hP
  have hl := lv_entry ([.ref a_this, .ref a_p1]) (n := 3) (Nat.le_of_ble_eq_true rfl)
  rw [lg_entry_eq]
  generalize (lg_sl ([.ref a_this, .ref a_p1]) ++ List.replicate (3 - (lg_sl ([.ref a_this, .ref a_p1])).length) Slot.unset).toArray = ls at hl ⊢
  have hl : lv_has ls 3 [(0, .ref a_this), (1, .ref a_p1)] := hl
  have C : Cx p s m ([.ref a_this, .ref a_p1] : List Value).toArray c b_Codes_become 3 "PrefixMill$Codes" D [(cI, .int), (cL, .long), (cZ, .boolean)] A := ⟨hx, hb, hml, hown, hts, hK, hA⟩
  refine w_Codes_become_b0 (res := (rv, i_greatest', i_known', i_highest', v_lengths', v_values', v_cells')) C ?_ _ _ _ _ _ _ h s.heap [] ls hl hP hD hS
  intro pc9 H9 locs9 ls9 rv9 i_greatest9 i_known9 i_highest9 v_lengths9 v_values9 v_cells9 e9 d9 hP9 hD9 hS9
  cases e9
  exact W.iret (v := rv) hx hb hr (fun t ht hW => ⟨⟨rv, (), rfl, rfl, by rw [ht]; exact hP9, va_K.moved hW.alike hK, hD9⟩, hS9.F ht⟩) hS9.2.2 d9
