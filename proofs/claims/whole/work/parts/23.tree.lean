abbrev b_Tree_measure : ByteArray := prog_9_method_9_code
def ws_Tree_measure : List Cond := .code ({ cls := "PrefixMill$Tree", name := "measure", desc := "()I" } : Jvm.MethodName) b_Tree_measure 3 (some .int) :: tt
theorem d_Tree_measure_0 : decode b_Tree_measure 0 = .ok (.iconst 2, 1) := by decide +kernel
theorem d_Tree_measure_1 : decode b_Tree_measure 1 = .ok (.aload_n 0, 1) := by decide +kernel
theorem d_Tree_measure_2 : decode b_Tree_measure 2 = .ok (.getfield 36, 3) := by decide +kernel
theorem d_Tree_measure_5 : decode b_Tree_measure 5 = .ok (.imul, 1) := by decide +kernel
theorem d_Tree_measure_6 : decode b_Tree_measure 6 = .ok (.iconst 2, 1) := by decide +kernel
theorem d_Tree_measure_7 : decode b_Tree_measure 7 = .ok (.isub, 1) := by decide +kernel
theorem d_Tree_measure_8 : decode b_Tree_measure 8 = .ok (.istore_n 1, 1) := by decide +kernel
theorem d_Tree_measure_9 : decode b_Tree_measure 9 = .ok (.aload_n 0, 1) := by decide +kernel
theorem d_Tree_measure_10 : decode b_Tree_measure 10 = .ok (.getfield 33, 3) := by decide +kernel
theorem d_Tree_measure_13 : decode b_Tree_measure 13 = .ok (.iload_n 1, 1) := by decide +kernel
theorem d_Tree_measure_14 : decode b_Tree_measure 14 = .ok (.iconst 0, 1) := by decide +kernel
theorem d_Tree_measure_15 : decode b_Tree_measure 15 = .ok (.iastore, 1) := by decide +kernel
theorem d_Tree_measure_16 : decode b_Tree_measure 16 = .ok (.iload_n 1, 1) := by decide +kernel
theorem d_Tree_measure_17 : decode b_Tree_measure 17 = .ok (.iconst 1, 1) := by decide +kernel
theorem d_Tree_measure_18 : decode b_Tree_measure 18 = .ok (.isub, 1) := by decide +kernel
theorem d_Tree_measure_19 : decode b_Tree_measure 19 = .ok (.istore_n 2, 1) := by decide +kernel
theorem d_Tree_measure_20 : decode b_Tree_measure 20 = .ok (.iload_n 2, 1) := by decide +kernel
theorem d_Tree_measure_21 : decode b_Tree_measure 21 = .ok (.ifCond .lt 28, 3) := by decide +kernel
theorem d_Tree_measure_24 : decode b_Tree_measure 24 = .ok (.aload_n 0, 1) := by decide +kernel
theorem d_Tree_measure_25 : decode b_Tree_measure 25 = .ok (.getfield 33, 3) := by decide +kernel
theorem d_Tree_measure_28 : decode b_Tree_measure 28 = .ok (.iload_n 2, 1) := by decide +kernel
theorem d_Tree_measure_29 : decode b_Tree_measure 29 = .ok (.aload_n 0, 1) := by decide +kernel
theorem d_Tree_measure_30 : decode b_Tree_measure 30 = .ok (.getfield 33, 3) := by decide +kernel
theorem d_Tree_measure_33 : decode b_Tree_measure 33 = .ok (.aload_n 0, 1) := by decide +kernel
theorem d_Tree_measure_34 : decode b_Tree_measure 34 = .ok (.getfield 30, 3) := by decide +kernel
theorem d_Tree_measure_37 : decode b_Tree_measure 37 = .ok (.iload_n 2, 1) := by decide +kernel
theorem d_Tree_measure_38 : decode b_Tree_measure 38 = .ok (.iaload, 1) := by decide +kernel
theorem d_Tree_measure_39 : decode b_Tree_measure 39 = .ok (.iaload, 1) := by decide +kernel
theorem d_Tree_measure_40 : decode b_Tree_measure 40 = .ok (.iconst 1, 1) := by decide +kernel
theorem d_Tree_measure_41 : decode b_Tree_measure 41 = .ok (.iadd, 1) := by decide +kernel
theorem d_Tree_measure_42 : decode b_Tree_measure 42 = .ok (.iastore, 1) := by decide +kernel
theorem d_Tree_measure_43 : decode b_Tree_measure 43 = .ok (.iinc 2 (-1), 3) := by decide +kernel
theorem d_Tree_measure_46 : decode b_Tree_measure 46 = .ok (.goto (-26), 3) := by decide +kernel
theorem d_Tree_measure_49 : decode b_Tree_measure 49 = .ok (.aload_n 0, 1) := by decide +kernel
theorem d_Tree_measure_50 : decode b_Tree_measure 50 = .ok (.getfield 9, 3) := by decide +kernel
theorem d_Tree_measure_53 : decode b_Tree_measure 53 = .ok (.iconst 0, 1) := by decide +kernel
theorem d_Tree_measure_54 : decode b_Tree_measure 54 = .ok (.invokestatic 57, 3) := by decide +kernel
theorem d_Tree_measure_57 : decode b_Tree_measure 57 = .ok (.iconst 0, 1) := by decide +kernel
theorem d_Tree_measure_58 : decode b_Tree_measure 58 = .ok (.istore_n 2, 1) := by decide +kernel
theorem d_Tree_measure_59 : decode b_Tree_measure 59 = .ok (.iload_n 2, 1) := by decide +kernel
theorem d_Tree_measure_60 : decode b_Tree_measure 60 = .ok (.aload_n 0, 1) := by decide +kernel
theorem d_Tree_measure_61 : decode b_Tree_measure 61 = .ok (.getfield 36, 3) := by decide +kernel
theorem d_Tree_measure_64 : decode b_Tree_measure 64 = .ok (.if_icmp .ge 26, 3) := by decide +kernel
theorem d_Tree_measure_67 : decode b_Tree_measure 67 = .ok (.aload_n 0, 1) := by decide +kernel
theorem d_Tree_measure_68 : decode b_Tree_measure 68 = .ok (.getfield 9, 3) := by decide +kernel
theorem d_Tree_measure_71 : decode b_Tree_measure 71 = .ok (.aload_n 0, 1) := by decide +kernel
theorem d_Tree_measure_72 : decode b_Tree_measure 72 = .ok (.getfield 18, 3) := by decide +kernel
theorem d_Tree_measure_75 : decode b_Tree_measure 75 = .ok (.iload_n 2, 1) := by decide +kernel
theorem d_Tree_measure_76 : decode b_Tree_measure 76 = .ok (.iaload, 1) := by decide +kernel
theorem d_Tree_measure_77 : decode b_Tree_measure 77 = .ok (.aload_n 0, 1) := by decide +kernel
theorem d_Tree_measure_78 : decode b_Tree_measure 78 = .ok (.getfield 33, 3) := by decide +kernel
theorem d_Tree_measure_81 : decode b_Tree_measure 81 = .ok (.iload_n 2, 1) := by decide +kernel
theorem d_Tree_measure_82 : decode b_Tree_measure 82 = .ok (.iaload, 1) := by decide +kernel
theorem d_Tree_measure_83 : decode b_Tree_measure 83 = .ok (.iastore, 1) := by decide +kernel
theorem d_Tree_measure_84 : decode b_Tree_measure 84 = .ok (.iinc 2 1, 3) := by decide +kernel
theorem d_Tree_measure_87 : decode b_Tree_measure 87 = .ok (.goto (-28), 3) := by decide +kernel
theorem d_Tree_measure_90 : decode b_Tree_measure 90 = .ok (.aload_n 0, 1) := by decide +kernel
theorem d_Tree_measure_91 : decode b_Tree_measure 91 = .ok (.getfield 9, 3) := by decide +kernel
theorem d_Tree_measure_94 : decode b_Tree_measure 94 = .ok (.invokestatic 73, 3) := by decide +kernel
theorem d_Tree_measure_97 : decode b_Tree_measure 97 = .ok (.ireturn, 1) := by decide +kernel
def f_Tree_measure_b90 (N : Nat) (i_known : Int32) (v_leaves : Nat → Int32) (v_above : Nat → Int32)  (v_lengths : Nat → Int32) (v_depths : Nat → Int32) : Option (Int32 × (Nat → Int32) × (Nat → Int32)) :=
  bd1 (f_PM_greatestOf N 256 v_lengths) fun r_1 =>
  some (r_1, v_lengths, v_depths)
def f_Tree_measure_b59 (N : Nat) (i_known : Int32) (v_leaves : Nat → Int32) (v_above : Nat → Int32)  : Nat → Int32 → (Nat → Int32) → (Nat → Int32) → Option (Int32 × (Nat → Int32) × (Nat → Int32))
  | 0, _, _, _ => none
  | z + 1, l2, v_lengths, v_depths =>
  if i_known ≤ l2 then
  f_Tree_measure_b90 N i_known v_leaves v_above  v_lengths v_depths
  else
  ck (inb l2 256) <|
  ck (inb l2 512) <|
  ck (inb (v_leaves (Int32.toNatClampNeg l2)) 256) <|
  nm (upd v_lengths (Int32.toNatClampNeg (v_leaves (Int32.toNatClampNeg l2))) (v_depths (Int32.toNatClampNeg l2))) fun v_lengths_5 =>
  nm (l2 + 1) fun l2_6 =>
  f_Tree_measure_b59 N i_known v_leaves v_above  z l2_6 v_lengths_5 v_depths
def f_Tree_measure_b49 (N : Nat) (i_known : Int32) (v_leaves : Nat → Int32) (v_above : Nat → Int32)  (v_lengths : Nat → Int32) (v_depths : Nat → Int32) : Option (Int32 × (Nat → Int32) × (Nat → Int32)) :=
  bd1 (f_JArr_fill N 256 0 v_lengths) fun v_lengths_1 =>
  f_Tree_measure_b59 N i_known v_leaves v_above  N 0 v_lengths_1 v_depths
def f_Tree_measure_b20 (N : Nat) (i_known : Int32) (v_leaves : Nat → Int32) (v_above : Nat → Int32)  : Nat → Int32 → (Nat → Int32) → (Nat → Int32) → Option (Int32 × (Nat → Int32) × (Nat → Int32))
  | 0, _, _, _ => none
  | z + 1, l2, v_lengths, v_depths =>
  if l2 < 0 then
  f_Tree_measure_b49 N i_known v_leaves v_above  v_lengths v_depths
  else
  ck (inb l2 512) <|
  ck (inb (v_above (Int32.toNatClampNeg l2)) 512) <|
  ck (inb l2 512) <|
  nm (upd v_depths (Int32.toNatClampNeg l2) ((v_depths (Int32.toNatClampNeg (v_above (Int32.toNatClampNeg l2)))) + 1)) fun v_depths_5 =>
  nm (l2 + (-1)) fun l2_6 =>
  f_Tree_measure_b20 N i_known v_leaves v_above  z l2_6 v_lengths v_depths_5
def f_Tree_measure (N : Nat) (i_known : Int32) (v_leaves : Nat → Int32) (v_above : Nat → Int32)  (v_lengths : Nat → Int32) (v_depths : Nat → Int32) : Option (Int32 × (Nat → Int32) × (Nat → Int32)) :=
  nm ((2 * i_known) - 2) fun l1_1 =>
  ck (inb l1_1 512) <|
  nm (upd v_depths (Int32.toNatClampNeg l1_1) 0) fun v_depths_3 =>
  nm (l1_1 - 1) fun l2_4 =>
  f_Tree_measure_b20 N i_known v_leaves v_above  N l2_4 v_lengths v_depths_3
abbrev R_Tree_measure : Room := ({ frames := 2, cells := 0, slots := 0, locals := 43 } : Room)
def E_Tree_measure (p : Program) (l : Launch) (e : Env) (s : State) (m : MethodId) (args : Array Value) (below : List Frame) (meth : Method) (c : Code) (Q : State → Prop) (A : Nat → Prop) (D : va_G) (cI cL cZ : ClassId) (a_this : Nat) (a_lengths : Nat) (a_leaves : Nat) (a_above : Nat) (a_depths : Nat) (o_halves : Nat) (o_sorted : Nat) (o_starts : Nat) (o_sums : Nat) (i_known : Int32) (i_nextLeaf : Int32) (i_nextSum : Int32) (v_leaves : Nat → Int32) (v_above : Nat → Int32) (res : Int32 × (Nat → Int32) × (Nat → Int32)) : Prop := ∀ (pc : Nat) (H : Heap) (locs : List Loc) (ls : Array Slot) (rv : Int32) (v_lengths : Nat → Int32) (v_depths : Nat → Int32), some (rv, v_lengths, v_depths) = some res → decode b_Tree_measure pc = .ok (.ireturn, 1) → va_P D classes [(a_this, .inr (9, [.ref a_lengths, .ref o_halves, .ref a_leaves, .ref o_sorted, .ref o_starts, .ref o_sums, .ref a_above, .ref a_depths, .int i_known, .int i_nextLeaf, .int i_nextSum])), (a_lengths, .inl (cI, 256, .inl v_lengths)), (a_leaves, .inl (cI, 256, .inl v_leaves)), (a_above, .inl (cI, 512, .inl v_above)), (a_depths, .inl (cI, 512, .inl v_depths))] H → va_D A [(a_this, .inr (9, [.ref a_lengths, .ref o_halves, .ref a_leaves, .ref o_sorted, .ref o_starts, .ref o_sums, .ref a_above, .ref a_depths, .int i_known, .int i_nextLeaf, .int i_nextSum])), (a_lengths, .inl (cI, 256, .inl v_lengths)), (a_leaves, .inl (cI, 256, .inl v_leaves)), (a_above, .inl (cI, 512, .inl v_above)), (a_depths, .inl (cI, 512, .inl v_depths))] → va_S A s.heap H locs → W p l e R_Tree_measure s m args below meth c H locs 0 0 Q (F0 m pc ls [.int rv])
def I_Tree_measure_b90 (p : Program) (l : Launch) (e : Env) (s : State) (m : MethodId) (args : Array Value) (below : List Frame) (meth : Method) (c : Code) (Q : State → Prop) (A : Nat → Prop) (D : va_G) (cI cL cZ : ClassId) (a_this : Nat) (a_lengths : Nat) (a_leaves : Nat) (a_above : Nat) (a_depths : Nat) (o_halves : Nat) (o_sorted : Nat) (o_starts : Nat) (o_sums : Nat) (i_known : Int32) (i_nextLeaf : Int32) (i_nextSum : Int32) (v_leaves : Nat → Int32) (v_above : Nat → Int32) (res : Int32 × (Nat → Int32) × (Nat → Int32)) (kf : (Nat → Int32) → (Nat → Int32) → Option (Int32 × (Nat → Int32) × (Nat → Int32))) : Prop := ∀ (v_lengths : Nat → Int32) (v_depths : Nat → Int32), kf v_lengths v_depths = some res → ∀ (H : Heap) (locs : List Loc) (ls : Array Slot), lv_has ls 3 [(0, .ref a_this)] → va_P D classes [(a_this, .inr (9, [.ref a_lengths, .ref o_halves, .ref a_leaves, .ref o_sorted, .ref o_starts, .ref o_sums, .ref a_above, .ref a_depths, .int i_known, .int i_nextLeaf, .int i_nextSum])), (a_lengths, .inl (cI, 256, .inl v_lengths)), (a_leaves, .inl (cI, 256, .inl v_leaves)), (a_above, .inl (cI, 512, .inl v_above)), (a_depths, .inl (cI, 512, .inl v_depths))] H → va_D A [(a_this, .inr (9, [.ref a_lengths, .ref o_halves, .ref a_leaves, .ref o_sorted, .ref o_starts, .ref o_sums, .ref a_above, .ref a_depths, .int i_known, .int i_nextLeaf, .int i_nextSum])), (a_lengths, .inl (cI, 256, .inl v_lengths)), (a_leaves, .inl (cI, 256, .inl v_leaves)), (a_above, .inl (cI, 512, .inl v_above)), (a_depths, .inl (cI, 512, .inl v_depths))] → va_S A s.heap H locs → W p l e R_Tree_measure s m args below meth c H locs 0 0 Q (F0 m 90 ls [])
def I_Tree_measure_b59 (p : Program) (l : Launch) (e : Env) (s : State) (m : MethodId) (args : Array Value) (below : List Frame) (meth : Method) (c : Code) (Q : State → Prop) (A : Nat → Prop) (D : va_G) (cI cL cZ : ClassId) (a_this : Nat) (a_lengths : Nat) (a_leaves : Nat) (a_above : Nat) (a_depths : Nat) (o_halves : Nat) (o_sorted : Nat) (o_starts : Nat) (o_sums : Nat) (i_known : Int32) (i_nextLeaf : Int32) (i_nextSum : Int32) (v_leaves : Nat → Int32) (v_above : Nat → Int32) (res : Int32 × (Nat → Int32) × (Nat → Int32)) (kf : Int32 → (Nat → Int32) → (Nat → Int32) → Option (Int32 × (Nat → Int32) × (Nat → Int32))) : Prop := ∀ (l2 : Int32) (v_lengths : Nat → Int32) (v_depths : Nat → Int32), kf l2 v_lengths v_depths = some res → ∀ (H : Heap) (locs : List Loc) (ls : Array Slot), lv_has ls 3 [(0, .ref a_this), (2, .int l2)] → va_P D classes [(a_this, .inr (9, [.ref a_lengths, .ref o_halves, .ref a_leaves, .ref o_sorted, .ref o_starts, .ref o_sums, .ref a_above, .ref a_depths, .int i_known, .int i_nextLeaf, .int i_nextSum])), (a_lengths, .inl (cI, 256, .inl v_lengths)), (a_leaves, .inl (cI, 256, .inl v_leaves)), (a_above, .inl (cI, 512, .inl v_above)), (a_depths, .inl (cI, 512, .inl v_depths))] H → va_D A [(a_this, .inr (9, [.ref a_lengths, .ref o_halves, .ref a_leaves, .ref o_sorted, .ref o_starts, .ref o_sums, .ref a_above, .ref a_depths, .int i_known, .int i_nextLeaf, .int i_nextSum])), (a_lengths, .inl (cI, 256, .inl v_lengths)), (a_leaves, .inl (cI, 256, .inl v_leaves)), (a_above, .inl (cI, 512, .inl v_above)), (a_depths, .inl (cI, 512, .inl v_depths))] → va_S A s.heap H locs → W p l e R_Tree_measure s m args below meth c H locs 0 0 Q (F0 m 59 ls [])
def I_Tree_measure_b49 (p : Program) (l : Launch) (e : Env) (s : State) (m : MethodId) (args : Array Value) (below : List Frame) (meth : Method) (c : Code) (Q : State → Prop) (A : Nat → Prop) (D : va_G) (cI cL cZ : ClassId) (a_this : Nat) (a_lengths : Nat) (a_leaves : Nat) (a_above : Nat) (a_depths : Nat) (o_halves : Nat) (o_sorted : Nat) (o_starts : Nat) (o_sums : Nat) (i_known : Int32) (i_nextLeaf : Int32) (i_nextSum : Int32) (v_leaves : Nat → Int32) (v_above : Nat → Int32) (res : Int32 × (Nat → Int32) × (Nat → Int32)) (kf : (Nat → Int32) → (Nat → Int32) → Option (Int32 × (Nat → Int32) × (Nat → Int32))) : Prop := ∀ (v_lengths : Nat → Int32) (v_depths : Nat → Int32), kf v_lengths v_depths = some res → ∀ (H : Heap) (locs : List Loc) (ls : Array Slot), lv_has ls 3 [(0, .ref a_this)] → va_P D classes [(a_this, .inr (9, [.ref a_lengths, .ref o_halves, .ref a_leaves, .ref o_sorted, .ref o_starts, .ref o_sums, .ref a_above, .ref a_depths, .int i_known, .int i_nextLeaf, .int i_nextSum])), (a_lengths, .inl (cI, 256, .inl v_lengths)), (a_leaves, .inl (cI, 256, .inl v_leaves)), (a_above, .inl (cI, 512, .inl v_above)), (a_depths, .inl (cI, 512, .inl v_depths))] H → va_D A [(a_this, .inr (9, [.ref a_lengths, .ref o_halves, .ref a_leaves, .ref o_sorted, .ref o_starts, .ref o_sums, .ref a_above, .ref a_depths, .int i_known, .int i_nextLeaf, .int i_nextSum])), (a_lengths, .inl (cI, 256, .inl v_lengths)), (a_leaves, .inl (cI, 256, .inl v_leaves)), (a_above, .inl (cI, 512, .inl v_above)), (a_depths, .inl (cI, 512, .inl v_depths))] → va_S A s.heap H locs → W p l e R_Tree_measure s m args below meth c H locs 0 0 Q (F0 m 49 ls [])
def I_Tree_measure_b20 (p : Program) (l : Launch) (e : Env) (s : State) (m : MethodId) (args : Array Value) (below : List Frame) (meth : Method) (c : Code) (Q : State → Prop) (A : Nat → Prop) (D : va_G) (cI cL cZ : ClassId) (a_this : Nat) (a_lengths : Nat) (a_leaves : Nat) (a_above : Nat) (a_depths : Nat) (o_halves : Nat) (o_sorted : Nat) (o_starts : Nat) (o_sums : Nat) (i_known : Int32) (i_nextLeaf : Int32) (i_nextSum : Int32) (v_leaves : Nat → Int32) (v_above : Nat → Int32) (res : Int32 × (Nat → Int32) × (Nat → Int32)) (kf : Int32 → (Nat → Int32) → (Nat → Int32) → Option (Int32 × (Nat → Int32) × (Nat → Int32))) : Prop := ∀ (l2 : Int32) (v_lengths : Nat → Int32) (v_depths : Nat → Int32), kf l2 v_lengths v_depths = some res → ∀ (H : Heap) (locs : List Loc) (ls : Array Slot), lv_has ls 3 [(0, .ref a_this), (2, .int l2)] → va_P D classes [(a_this, .inr (9, [.ref a_lengths, .ref o_halves, .ref a_leaves, .ref o_sorted, .ref o_starts, .ref o_sums, .ref a_above, .ref a_depths, .int i_known, .int i_nextLeaf, .int i_nextSum])), (a_lengths, .inl (cI, 256, .inl v_lengths)), (a_leaves, .inl (cI, 256, .inl v_leaves)), (a_above, .inl (cI, 512, .inl v_above)), (a_depths, .inl (cI, 512, .inl v_depths))] H → va_D A [(a_this, .inr (9, [.ref a_lengths, .ref o_halves, .ref a_leaves, .ref o_sorted, .ref o_starts, .ref o_sums, .ref a_above, .ref a_depths, .int i_known, .int i_nextLeaf, .int i_nextSum])), (a_lengths, .inl (cI, 256, .inl v_lengths)), (a_leaves, .inl (cI, 256, .inl v_leaves)), (a_above, .inl (cI, 512, .inl v_above)), (a_depths, .inl (cI, 512, .inl v_depths))] → va_S A s.heap H locs → W p l e R_Tree_measure s m args below meth c H locs 0 0 Q (F0 m 20 ls [])
def I_Tree_measure_b0 (p : Program) (l : Launch) (e : Env) (s : State) (m : MethodId) (args : Array Value) (below : List Frame) (meth : Method) (c : Code) (Q : State → Prop) (A : Nat → Prop) (D : va_G) (cI cL cZ : ClassId) (a_this : Nat) (a_lengths : Nat) (a_leaves : Nat) (a_above : Nat) (a_depths : Nat) (o_halves : Nat) (o_sorted : Nat) (o_starts : Nat) (o_sums : Nat) (i_known : Int32) (i_nextLeaf : Int32) (i_nextSum : Int32) (v_leaves : Nat → Int32) (v_above : Nat → Int32) (res : Int32 × (Nat → Int32) × (Nat → Int32)) (kf : (Nat → Int32) → (Nat → Int32) → Option (Int32 × (Nat → Int32) × (Nat → Int32))) : Prop := ∀ (v_lengths : Nat → Int32) (v_depths : Nat → Int32), kf v_lengths v_depths = some res → ∀ (H : Heap) (locs : List Loc) (ls : Array Slot), lv_has ls 3 [(0, .ref a_this)] → va_P D classes [(a_this, .inr (9, [.ref a_lengths, .ref o_halves, .ref a_leaves, .ref o_sorted, .ref o_starts, .ref o_sums, .ref a_above, .ref a_depths, .int i_known, .int i_nextLeaf, .int i_nextSum])), (a_lengths, .inl (cI, 256, .inl v_lengths)), (a_leaves, .inl (cI, 256, .inl v_leaves)), (a_above, .inl (cI, 512, .inl v_above)), (a_depths, .inl (cI, 512, .inl v_depths))] H → va_D A [(a_this, .inr (9, [.ref a_lengths, .ref o_halves, .ref a_leaves, .ref o_sorted, .ref o_starts, .ref o_sums, .ref a_above, .ref a_depths, .int i_known, .int i_nextLeaf, .int i_nextSum])), (a_lengths, .inl (cI, 256, .inl v_lengths)), (a_leaves, .inl (cI, 256, .inl v_leaves)), (a_above, .inl (cI, 512, .inl v_above)), (a_depths, .inl (cI, 512, .inl v_depths))] → va_S A s.heap H locs → W p l e R_Tree_measure s m args below meth c H locs 0 0 Q (F0 m 0 ls [])
set_option maxHeartbeats 4000000 in
set_option maxRecDepth 100000 in
theorem w_Tree_measure_b90 {p : Program} {l : Launch} {e : Env} {s : State} {m : MethodId} {args : Array Value} {below : List Frame} {meth : Method} {c : Code} {Q : State → Prop} {A : Nat → Prop} {D : va_G} {cI cL cZ : ClassId} {a_this : Nat} {a_lengths : Nat} {a_leaves : Nat} {a_above : Nat} {a_depths : Nat} {o_halves : Nat} {o_sorted : Nat} {o_starts : Nat} {o_sums : Nat} {i_known : Int32} {i_nextLeaf : Int32} {i_nextSum : Int32} {v_leaves : Nat → Int32} {v_above : Nat → Int32} {N : Nat} {res : Int32 × (Nat → Int32) × (Nat → Int32)}  (C : Cx p s m args c b_Tree_measure 3 "PrefixMill$Tree" D [(cI, .int), (cL, .long), (cZ, .boolean)] A) (hret : E_Tree_measure p l e s m args below meth c Q A D cI cL cZ a_this a_lengths a_leaves a_above a_depths o_halves o_sorted o_starts o_sums i_known i_nextLeaf i_nextSum v_leaves v_above res)  : I_Tree_measure_b90 p l e s m args below meth c Q A D cI cL cZ a_this a_lengths a_leaves a_above a_depths o_halves o_sorted o_starts o_sums i_known i_nextLeaf i_nextSum v_leaves v_above res (f_Tree_measure_b90 N i_known v_leaves v_above ) := by
  obtain ⟨hx, hb, hml, hown, hts, hK, hA⟩ := C
  intro v_lengths v_depths h H locs ls hl hP hD hS
  unfold f_Tree_measure_b90 at h
  refine lv_aload_n hx hb d_Tree_measure_90 rfl (lv_at hl 0 rfl) ?_
  refine va_get hx hb hts in_Tree hown hK hP 0 rfl rfl 0 (by decide) (hts _ m_156) (fun _ h9 => h9) rfl d_Tree_measure_91 ?_
  obtain ⟨r_1, hc_2, h⟩ := bd1_s h
  have hPc := hP.sub (ws' := [(a_lengths, .inl (cI, 256, .inl v_lengths))]) [1] rfl
  have hDc := hD.sub (ws' := [(a_lengths, .inl (cI, 256, .inl v_lengths))]) [1] (by decide) rfl
  have hFc := va_free (wc := [(a_lengths, .inl (cI, 256, .inl v_lengths))]) hD hS hA [1] rfl
  refine va_calli (va_runSN (As := [.ref a_lengths]) (rest := []) ⟨hx, hb, hml, hown, hts⟩ (c_PM_greatestOf l D cI cL cZ H.size N a_lengths 256 v_lengths r_1 hc_2) ⟨(my_cn 1 hts m_466 rfl rfl (hts _ m_66) (hts _ m_464) (by decide +kernel) ⟨Nat.le_of_ble_eq_true rfl, Nat.le_of_ble_eq_true rfl⟩), hts _ m_465, trivial⟩ ⟨fun a U g mk q => by obtain ⟨q0, q1, qP, qK, qD⟩ := q; exact ⟨q0, q1, qP, va_K.moved (u := U) (U := U.calling g mk a) (Vm.Alike.refl U.vm) qK, qD⟩, fun U hU hW => ⟨rfl, by rw [hU], by rw [hU]; exact hPc, va_K.moved hW.alike hK, hDc.weaken (fun _ _ _ _ => trivial)⟩⟩ rfl rfl hl.1 rfl (lv_room (Nat.le_of_ble_eq_true rfl)) d_Tree_measure_94 ⟨Nat.zero_le _, Nat.zero_le _⟩) hS (fun q _ h => hFc q h) hFc (fun rr u t H1 locs ht hvm hw hB hz1 hk1 hS => ?_)
  obtain ⟨hP1, hK1, hD1⟩ := hB
  rw [ht] at hP1
  subst hw
  obtain ⟨hP, hD⟩ := va_join (wr := [(a_this, .inr (9, [.ref a_lengths, .ref o_halves, .ref a_leaves, .ref o_sorted, .ref o_starts, .ref o_sums, .ref a_above, .ref a_depths, .int i_known, .int i_nextLeaf, .int i_nextSum])), (a_leaves, .inl (cI, 256, .inl v_leaves)), (a_above, .inl (cI, 512, .inl v_above)), (a_depths, .inl (cI, 512, .inl v_depths))]) (w1 := [(a_lengths, .inl (cI, 256, .inl v_lengths))]) hP hD [1] [0, 2, 3, 4] rfl rfl (by decide) (by decide) hk1 hFc hP1 hD1
  clear hPc hDc hFc hk1 hP1 hD1 hK1
  generalize H1 = H at hP hS ⊢
  have hP : va_P D classes [(a_this, .inr (9, [.ref a_lengths, .ref o_halves, .ref a_leaves, .ref o_sorted, .ref o_starts, .ref o_sums, .ref a_above, .ref a_depths, .int i_known, .int i_nextLeaf, .int i_nextSum])), (a_lengths, .inl (cI, 256, .inl v_lengths)), (a_leaves, .inl (cI, 256, .inl v_leaves)), (a_above, .inl (cI, 512, .inl v_above)), (a_depths, .inl (cI, 512, .inl v_depths))] H := hP.sub [0, 4, 1, 2, 3] rfl
  have hD : va_D A [(a_this, .inr (9, [.ref a_lengths, .ref o_halves, .ref a_leaves, .ref o_sorted, .ref o_starts, .ref o_sums, .ref a_above, .ref a_depths, .int i_known, .int i_nextLeaf, .int i_nextSum])), (a_lengths, .inl (cI, 256, .inl v_lengths)), (a_leaves, .inl (cI, 256, .inl v_leaves)), (a_above, .inl (cI, 512, .inl v_above)), (a_depths, .inl (cI, 512, .inl v_depths))] := hD.sub [0, 4, 1, 2, 3] (by decide) rfl
  exact hret _ _ _ _ r_1 v_lengths v_depths h d_Tree_measure_97 hP hD hS
set_option maxHeartbeats 4000000 in
set_option maxRecDepth 100000 in
theorem w_Tree_measure_b59 {p : Program} {l : Launch} {e : Env} {s : State} {m : MethodId} {args : Array Value} {below : List Frame} {meth : Method} {c : Code} {Q : State → Prop} {A : Nat → Prop} {D : va_G} {cI cL cZ : ClassId} {a_this : Nat} {a_lengths : Nat} {a_leaves : Nat} {a_above : Nat} {a_depths : Nat} {o_halves : Nat} {o_sorted : Nat} {o_starts : Nat} {o_sums : Nat} {i_known : Int32} {i_nextLeaf : Int32} {i_nextSum : Int32} {v_leaves : Nat → Int32} {v_above : Nat → Int32} {N : Nat} {res : Int32 × (Nat → Int32) × (Nat → Int32)}  (C : Cx p s m args c b_Tree_measure 3 "PrefixMill$Tree" D [(cI, .int), (cL, .long), (cZ, .boolean)] A) (hret : E_Tree_measure p l e s m args below meth c Q A D cI cL cZ a_this a_lengths a_leaves a_above a_depths o_halves o_sorted o_starts o_sums i_known i_nextLeaf i_nextSum v_leaves v_above res)  : ∀ z : Nat, I_Tree_measure_b59 p l e s m args below meth c Q A D cI cL cZ a_this a_lengths a_leaves a_above a_depths o_halves o_sorted o_starts o_sums i_known i_nextLeaf i_nextSum v_leaves v_above res (f_Tree_measure_b59 N i_known v_leaves v_above  z) := by
  obtain ⟨hx, hb, hml, hown, hts, hK, hA⟩ := C
  intro z
  induction z with
  | zero => intro l2 v_lengths v_depths h; cases h
  | succ z ih =>
    intro l2 v_lengths v_depths h H locs ls hl hP hD hS
    refine lv_iload_n hx hb d_Tree_measure_59 rfl (lv_at hl 1 rfl) ?_
    refine lv_aload_n hx hb d_Tree_measure_60 rfl (lv_at hl 0 rfl) ?_
    refine va_get hx hb hts in_Tree hown hK hP 0 rfl rfl 8 (by decide) (hts _ m_165) (fun _ h9 => h9) rfl d_Tree_measure_61 ?_
    refine lv_icmp_ge (tgt := 90) hx hb d_Tree_measure_64 (by decide) (fun c_1 => ?_) (fun c_1 => ?_)
    · replace h := if_t h c_1
      exact w_Tree_measure_b90 ⟨hx, hb, hml, hown, hts, hK, hA⟩ hret  _ _ h H locs ls (lv_sub hl [0] rfl) hP hD hS
    · replace h := if_f h c_1
      refine lv_aload_n hx hb d_Tree_measure_67 rfl (lv_at hl 0 rfl) ?_
      refine va_get hx hb hts in_Tree hown hK hP 0 rfl rfl 0 (by decide) (hts _ m_156) (fun _ h9 => h9) rfl d_Tree_measure_68 ?_
      refine lv_aload_n hx hb d_Tree_measure_71 rfl (lv_at hl 0 rfl) ?_
      refine va_get hx hb hts in_Tree hown hK hP 0 rfl rfl 2 (by decide) (hts _ m_159) (fun _ h9 => h9) rfl d_Tree_measure_72 ?_
      refine lv_iload_n hx hb d_Tree_measure_75 rfl (lv_at hl 1 rfl) ?_
      obtain ⟨g_2, h⟩ := ck_s h
      refine va_iald hx hb hK hP 2 0 rfl rfl (inb_s g_2) d_Tree_measure_76 ?_
      refine lv_aload_n hx hb d_Tree_measure_77 rfl (lv_at hl 0 rfl) ?_
      refine va_get hx hb hts in_Tree hown hK hP 0 rfl rfl 7 (by decide) (hts _ m_164) (fun _ h9 => h9) rfl d_Tree_measure_78 ?_
      refine lv_iload_n hx hb d_Tree_measure_81 rfl (lv_at hl 1 rfl) ?_
      obtain ⟨g_3, h⟩ := ck_s h
      refine va_iald hx hb hK hP 4 0 rfl rfl (inb_s g_3) d_Tree_measure_82 ?_
      obtain ⟨g_4, h⟩ := ck_s h
      refine va_iast hx hb hK hP hD hS 1 0 rfl rfl (inb_s g_4) d_Tree_measure_83 (fun H locs hP hD hS => ?_)
      obtain ⟨v_lengths_5, ev_lengths_5⟩ : ∃ y, y = (upd v_lengths (Int32.toNatClampNeg (v_leaves (Int32.toNatClampNeg l2))) (v_depths (Int32.toNatClampNeg l2))) := ⟨_, rfl⟩
      replace h := nm_s h ev_lengths_5
      have hP : va_P D classes [(a_this, .inr (9, [.ref a_lengths, .ref o_halves, .ref a_leaves, .ref o_sorted, .ref o_starts, .ref o_sums, .ref a_above, .ref a_depths, .int i_known, .int i_nextLeaf, .int i_nextSum])), (a_lengths, .inl (cI, 256, .inl v_lengths_5)), (a_leaves, .inl (cI, 256, .inl v_leaves)), (a_above, .inl (cI, 512, .inl v_above)), (a_depths, .inl (cI, 512, .inl v_depths))] H := by rw [ev_lengths_5]; exact hP
      have hD : va_D A [(a_this, .inr (9, [.ref a_lengths, .ref o_halves, .ref a_leaves, .ref o_sorted, .ref o_starts, .ref o_sums, .ref a_above, .ref a_depths, .int i_known, .int i_nextLeaf, .int i_nextSum])), (a_lengths, .inl (cI, 256, .inl v_lengths_5)), (a_leaves, .inl (cI, 256, .inl v_leaves)), (a_above, .inl (cI, 512, .inl v_above)), (a_depths, .inl (cI, 512, .inl v_depths))] := by rw [ev_lengths_5]; exact hD
      obtain ⟨l2_6, el2_6⟩ : ∃ y : Int32, y = l2 + 1 := ⟨_, rfl⟩
      replace h := nm_s h el2_6
      refine lv_iinc (v := l2_6) (lv' := [(2, .int l2_6), (0, .ref a_this)]) hx hb d_Tree_measure_84 hl (k := 1) rfl (by rw [el2_6]; rfl) (by decide) rfl (fun ls hl => ?_)
      refine lv_goto (tgt := 59) hx hb d_Tree_measure_87 (by decide) ?_
      exact ih _ _ _ h H locs ls (lv_sub hl [1, 0] rfl) hP hD hS
set_option maxHeartbeats 4000000 in
set_option maxRecDepth 100000 in
theorem w_Tree_measure_b49 {p : Program} {l : Launch} {e : Env} {s : State} {m : MethodId} {args : Array Value} {below : List Frame} {meth : Method} {c : Code} {Q : State → Prop} {A : Nat → Prop} {D : va_G} {cI cL cZ : ClassId} {a_this : Nat} {a_lengths : Nat} {a_leaves : Nat} {a_above : Nat} {a_depths : Nat} {o_halves : Nat} {o_sorted : Nat} {o_starts : Nat} {o_sums : Nat} {i_known : Int32} {i_nextLeaf : Int32} {i_nextSum : Int32} {v_leaves : Nat → Int32} {v_above : Nat → Int32} {N : Nat} {res : Int32 × (Nat → Int32) × (Nat → Int32)}  (C : Cx p s m args c b_Tree_measure 3 "PrefixMill$Tree" D [(cI, .int), (cL, .long), (cZ, .boolean)] A) (hret : E_Tree_measure p l e s m args below meth c Q A D cI cL cZ a_this a_lengths a_leaves a_above a_depths o_halves o_sorted o_starts o_sums i_known i_nextLeaf i_nextSum v_leaves v_above res)  : I_Tree_measure_b49 p l e s m args below meth c Q A D cI cL cZ a_this a_lengths a_leaves a_above a_depths o_halves o_sorted o_starts o_sums i_known i_nextLeaf i_nextSum v_leaves v_above res (f_Tree_measure_b49 N i_known v_leaves v_above ) := by
  obtain ⟨hx, hb, hml, hown, hts, hK, hA⟩ := C
  intro v_lengths v_depths h H locs ls hl hP hD hS
  unfold f_Tree_measure_b49 at h
  refine lv_aload_n hx hb d_Tree_measure_49 rfl (lv_at hl 0 rfl) ?_
  refine va_get hx hb hts in_Tree hown hK hP 0 rfl rfl 0 (by decide) (hts _ m_156) (fun _ h9 => h9) rfl d_Tree_measure_50 ?_
  refine lv_iconst (v := 0) hx hb d_Tree_measure_53 (by decide) ?_
  obtain ⟨v_lengths_1, hc_2, h⟩ := bd1_s h
  have hPc := hP.sub (ws' := [(a_lengths, .inl (cI, 256, .inl v_lengths))]) [1] rfl
  have hDc := hD.sub (ws' := [(a_lengths, .inl (cI, 256, .inl v_lengths))]) [1] (by decide) rfl
  have hFc := va_free (wc := [(a_lengths, .inl (cI, 256, .inl v_lengths))]) hD hS hA [1] rfl
  refine va_callv (va_runS (As := [.ref a_lengths, .int 0]) (rest := []) ⟨hx, hb, hml, hown, hts⟩ (c_JArr_fill l D cI cL cZ H.size N a_lengths 256 v_lengths 0 v_lengths_1 hc_2) ⟨(my_cb 2 hts m_410 rfl rfl (hts _ m_79) (hts _ m_451) (by decide +kernel) ⟨Nat.le_of_ble_eq_true rfl, Nat.le_of_ble_eq_true rfl⟩), hts _ m_409⟩ ⟨fun a U g mk q => by obtain ⟨q0, q1, qP, qK, qD⟩ := q; exact ⟨q0, q1, qP, va_K.moved (u := U) (U := U.calling g mk a) (Vm.Alike.refl U.vm) qK, qD⟩, fun U hU hW => ⟨rfl, by rw [hU], by rw [hU]; exact hPc, va_K.moved hW.alike hK, hDc.weaken (fun _ _ _ _ => trivial)⟩⟩ rfl rfl hl.1 rfl (lv_room (Nat.le_of_ble_eq_true rfl)) d_Tree_measure_54 ⟨Nat.zero_le _, Nat.zero_le _⟩) hS (fun q _ h => hFc q h) hFc (fun u t H1 locs ht hvm hw hB hz1 hk1 hS => ?_)
  obtain ⟨hP1, hK1, hD1⟩ := hB
  rw [ht] at hP1
  obtain ⟨hP, hD⟩ := va_join (wr := [(a_this, .inr (9, [.ref a_lengths, .ref o_halves, .ref a_leaves, .ref o_sorted, .ref o_starts, .ref o_sums, .ref a_above, .ref a_depths, .int i_known, .int i_nextLeaf, .int i_nextSum])), (a_leaves, .inl (cI, 256, .inl v_leaves)), (a_above, .inl (cI, 512, .inl v_above)), (a_depths, .inl (cI, 512, .inl v_depths))]) (w1 := [(a_lengths, .inl (cI, 256, .inl v_lengths_1))]) hP hD [1] [0, 2, 3, 4] rfl rfl (by decide) (by decide) hk1 hFc hP1 hD1
  clear hPc hDc hFc hk1 hP1 hD1 hK1
  generalize H1 = H at hP hS ⊢
  have hP : va_P D classes [(a_this, .inr (9, [.ref a_lengths, .ref o_halves, .ref a_leaves, .ref o_sorted, .ref o_starts, .ref o_sums, .ref a_above, .ref a_depths, .int i_known, .int i_nextLeaf, .int i_nextSum])), (a_lengths, .inl (cI, 256, .inl v_lengths_1)), (a_leaves, .inl (cI, 256, .inl v_leaves)), (a_above, .inl (cI, 512, .inl v_above)), (a_depths, .inl (cI, 512, .inl v_depths))] H := hP.sub [0, 4, 1, 2, 3] rfl
  have hD : va_D A [(a_this, .inr (9, [.ref a_lengths, .ref o_halves, .ref a_leaves, .ref o_sorted, .ref o_starts, .ref o_sums, .ref a_above, .ref a_depths, .int i_known, .int i_nextLeaf, .int i_nextSum])), (a_lengths, .inl (cI, 256, .inl v_lengths_1)), (a_leaves, .inl (cI, 256, .inl v_leaves)), (a_above, .inl (cI, 512, .inl v_above)), (a_depths, .inl (cI, 512, .inl v_depths))] := hD.sub [0, 4, 1, 2, 3] (by decide) rfl
  refine lv_iconst (v := 0) hx hb d_Tree_measure_57 (by decide) ?_
  refine lv_istore_n (lv' := [(2, .int 0), (0, .ref a_this)]) hx hb d_Tree_measure_58 rfl hl (by decide) rfl (fun ls hl => ?_)
  exact w_Tree_measure_b59 ⟨hx, hb, hml, hown, hts, hK, hA⟩ hret  N _ _ _ h H locs ls (lv_sub hl [1, 0] rfl) hP hD hS
set_option maxHeartbeats 4000000 in
set_option maxRecDepth 100000 in
theorem w_Tree_measure_b20 {p : Program} {l : Launch} {e : Env} {s : State} {m : MethodId} {args : Array Value} {below : List Frame} {meth : Method} {c : Code} {Q : State → Prop} {A : Nat → Prop} {D : va_G} {cI cL cZ : ClassId} {a_this : Nat} {a_lengths : Nat} {a_leaves : Nat} {a_above : Nat} {a_depths : Nat} {o_halves : Nat} {o_sorted : Nat} {o_starts : Nat} {o_sums : Nat} {i_known : Int32} {i_nextLeaf : Int32} {i_nextSum : Int32} {v_leaves : Nat → Int32} {v_above : Nat → Int32} {N : Nat} {res : Int32 × (Nat → Int32) × (Nat → Int32)}  (C : Cx p s m args c b_Tree_measure 3 "PrefixMill$Tree" D [(cI, .int), (cL, .long), (cZ, .boolean)] A) (hret : E_Tree_measure p l e s m args below meth c Q A D cI cL cZ a_this a_lengths a_leaves a_above a_depths o_halves o_sorted o_starts o_sums i_known i_nextLeaf i_nextSum v_leaves v_above res)  : ∀ z : Nat, I_Tree_measure_b20 p l e s m args below meth c Q A D cI cL cZ a_this a_lengths a_leaves a_above a_depths o_halves o_sorted o_starts o_sums i_known i_nextLeaf i_nextSum v_leaves v_above res (f_Tree_measure_b20 N i_known v_leaves v_above  z) := by
  obtain ⟨hx, hb, hml, hown, hts, hK, hA⟩ := C
  intro z
  induction z with
  | zero => intro l2 v_lengths v_depths h; cases h
  | succ z ih =>
    intro l2 v_lengths v_depths h H locs ls hl hP hD hS
    refine lv_iload_n hx hb d_Tree_measure_20 rfl (lv_at hl 1 rfl) ?_
    refine lv_if_lt (tgt := 49) hx hb d_Tree_measure_21 (by decide) (fun c_1 => ?_) (fun c_1 => ?_)
    · replace h := if_t h c_1
      exact w_Tree_measure_b49 ⟨hx, hb, hml, hown, hts, hK, hA⟩ hret  _ _ h H locs ls (lv_sub hl [0] rfl) hP hD hS
    · replace h := if_f h c_1
      refine lv_aload_n hx hb d_Tree_measure_24 rfl (lv_at hl 0 rfl) ?_
      refine va_get hx hb hts in_Tree hown hK hP 0 rfl rfl 7 (by decide) (hts _ m_164) (fun _ h9 => h9) rfl d_Tree_measure_25 ?_
      refine lv_iload_n hx hb d_Tree_measure_28 rfl (lv_at hl 1 rfl) ?_
      refine lv_aload_n hx hb d_Tree_measure_29 rfl (lv_at hl 0 rfl) ?_
      refine va_get hx hb hts in_Tree hown hK hP 0 rfl rfl 7 (by decide) (hts _ m_164) (fun _ h9 => h9) rfl d_Tree_measure_30 ?_
      refine lv_aload_n hx hb d_Tree_measure_33 rfl (lv_at hl 0 rfl) ?_
      refine va_get hx hb hts in_Tree hown hK hP 0 rfl rfl 6 (by decide) (hts _ m_163) (fun _ h9 => h9) rfl d_Tree_measure_34 ?_
      refine lv_iload_n hx hb d_Tree_measure_37 rfl (lv_at hl 1 rfl) ?_
      obtain ⟨g_2, h⟩ := ck_s h
      refine va_iald hx hb hK hP 3 0 rfl rfl (inb_s g_2) d_Tree_measure_38 ?_
      obtain ⟨g_3, h⟩ := ck_s h
      refine va_iald hx hb hK hP 4 0 rfl rfl (inb_s g_3) d_Tree_measure_39 ?_
      refine lv_iconst (v := 1) hx hb d_Tree_measure_40 (by decide) ?_
      refine lv_iadd hx hb d_Tree_measure_41 ?_
      obtain ⟨g_4, h⟩ := ck_s h
      refine va_iast hx hb hK hP hD hS 4 0 rfl rfl (inb_s g_4) d_Tree_measure_42 (fun H locs hP hD hS => ?_)
      obtain ⟨v_depths_5, ev_depths_5⟩ : ∃ y, y = (upd v_depths (Int32.toNatClampNeg l2) ((v_depths (Int32.toNatClampNeg (v_above (Int32.toNatClampNeg l2)))) + 1)) := ⟨_, rfl⟩
      replace h := nm_s h ev_depths_5
      have hP : va_P D classes [(a_this, .inr (9, [.ref a_lengths, .ref o_halves, .ref a_leaves, .ref o_sorted, .ref o_starts, .ref o_sums, .ref a_above, .ref a_depths, .int i_known, .int i_nextLeaf, .int i_nextSum])), (a_lengths, .inl (cI, 256, .inl v_lengths)), (a_leaves, .inl (cI, 256, .inl v_leaves)), (a_above, .inl (cI, 512, .inl v_above)), (a_depths, .inl (cI, 512, .inl v_depths_5))] H := by rw [ev_depths_5]; exact hP
      have hD : va_D A [(a_this, .inr (9, [.ref a_lengths, .ref o_halves, .ref a_leaves, .ref o_sorted, .ref o_starts, .ref o_sums, .ref a_above, .ref a_depths, .int i_known, .int i_nextLeaf, .int i_nextSum])), (a_lengths, .inl (cI, 256, .inl v_lengths)), (a_leaves, .inl (cI, 256, .inl v_leaves)), (a_above, .inl (cI, 512, .inl v_above)), (a_depths, .inl (cI, 512, .inl v_depths_5))] := by rw [ev_depths_5]; exact hD
      obtain ⟨l2_6, el2_6⟩ : ∃ y : Int32, y = l2 + (-1) := ⟨_, rfl⟩
      replace h := nm_s h el2_6
      refine lv_iinc (v := l2_6) (lv' := [(2, .int l2_6), (0, .ref a_this)]) hx hb d_Tree_measure_43 hl (k := 1) rfl (by rw [el2_6]; rfl) (by decide) rfl (fun ls hl => ?_)
      refine lv_goto (tgt := 20) hx hb d_Tree_measure_46 (by decide) ?_
      exact ih _ _ _ h H locs ls (lv_sub hl [1, 0] rfl) hP hD hS
set_option maxHeartbeats 4000000 in
set_option maxRecDepth 100000 in
theorem w_Tree_measure_b0 {p : Program} {l : Launch} {e : Env} {s : State} {m : MethodId} {args : Array Value} {below : List Frame} {meth : Method} {c : Code} {Q : State → Prop} {A : Nat → Prop} {D : va_G} {cI cL cZ : ClassId} {a_this : Nat} {a_lengths : Nat} {a_leaves : Nat} {a_above : Nat} {a_depths : Nat} {o_halves : Nat} {o_sorted : Nat} {o_starts : Nat} {o_sums : Nat} {i_known : Int32} {i_nextLeaf : Int32} {i_nextSum : Int32} {v_leaves : Nat → Int32} {v_above : Nat → Int32} {N : Nat} {res : Int32 × (Nat → Int32) × (Nat → Int32)}  (C : Cx p s m args c b_Tree_measure 3 "PrefixMill$Tree" D [(cI, .int), (cL, .long), (cZ, .boolean)] A) (hret : E_Tree_measure p l e s m args below meth c Q A D cI cL cZ a_this a_lengths a_leaves a_above a_depths o_halves o_sorted o_starts o_sums i_known i_nextLeaf i_nextSum v_leaves v_above res)  : I_Tree_measure_b0 p l e s m args below meth c Q A D cI cL cZ a_this a_lengths a_leaves a_above a_depths o_halves o_sorted o_starts o_sums i_known i_nextLeaf i_nextSum v_leaves v_above res (f_Tree_measure N i_known v_leaves v_above ) := by
  obtain ⟨hx, hb, hml, hown, hts, hK, hA⟩ := C
  intro v_lengths v_depths h H locs ls hl hP hD hS
  unfold f_Tree_measure at h
  refine lv_iconst (v := 2) hx hb d_Tree_measure_0 (by decide) ?_
  refine lv_aload_n hx hb d_Tree_measure_1 rfl (lv_at hl 0 rfl) ?_
  refine va_get hx hb hts in_Tree hown hK hP 0 rfl rfl 8 (by decide) (hts _ m_165) (fun _ h9 => h9) rfl d_Tree_measure_2 ?_
  refine lv_imul hx hb d_Tree_measure_5 ?_
  refine lv_iconst (v := 2) hx hb d_Tree_measure_6 (by decide) ?_
  refine lv_isub hx hb d_Tree_measure_7 ?_
  refine lv_topi (fun l1_1 el1_1 => ?_)
  replace h := nm_s h el1_1
  refine lv_istore_n (lv' := [(1, .int l1_1), (0, .ref a_this)]) hx hb d_Tree_measure_8 rfl hl (by decide) rfl (fun ls hl => ?_)
  refine lv_aload_n hx hb d_Tree_measure_9 rfl (lv_at hl 1 rfl) ?_
  refine va_get hx hb hts in_Tree hown hK hP 0 rfl rfl 7 (by decide) (hts _ m_164) (fun _ h9 => h9) rfl d_Tree_measure_10 ?_
  refine lv_iload_n hx hb d_Tree_measure_13 rfl (lv_at hl 0 rfl) ?_
  refine lv_iconst (v := 0) hx hb d_Tree_measure_14 (by decide) ?_
  obtain ⟨g_2, h⟩ := ck_s h
  refine va_iast hx hb hK hP hD hS 4 0 rfl rfl (inb_s g_2) d_Tree_measure_15 (fun H locs hP hD hS => ?_)
  obtain ⟨v_depths_3, ev_depths_3⟩ : ∃ y, y = (upd v_depths (Int32.toNatClampNeg l1_1) 0) := ⟨_, rfl⟩
  replace h := nm_s h ev_depths_3
  have hP : va_P D classes [(a_this, .inr (9, [.ref a_lengths, .ref o_halves, .ref a_leaves, .ref o_sorted, .ref o_starts, .ref o_sums, .ref a_above, .ref a_depths, .int i_known, .int i_nextLeaf, .int i_nextSum])), (a_lengths, .inl (cI, 256, .inl v_lengths)), (a_leaves, .inl (cI, 256, .inl v_leaves)), (a_above, .inl (cI, 512, .inl v_above)), (a_depths, .inl (cI, 512, .inl v_depths_3))] H := by rw [ev_depths_3]; exact hP
  have hD : va_D A [(a_this, .inr (9, [.ref a_lengths, .ref o_halves, .ref a_leaves, .ref o_sorted, .ref o_starts, .ref o_sums, .ref a_above, .ref a_depths, .int i_known, .int i_nextLeaf, .int i_nextSum])), (a_lengths, .inl (cI, 256, .inl v_lengths)), (a_leaves, .inl (cI, 256, .inl v_leaves)), (a_above, .inl (cI, 512, .inl v_above)), (a_depths, .inl (cI, 512, .inl v_depths_3))] := by rw [ev_depths_3]; exact hD
  refine lv_iload_n hx hb d_Tree_measure_16 rfl (lv_at hl 0 rfl) ?_
  refine lv_iconst (v := 1) hx hb d_Tree_measure_17 (by decide) ?_
  refine lv_isub hx hb d_Tree_measure_18 ?_
  refine lv_topi (fun l2_4 el2_4 => ?_)
  replace h := nm_s h el2_4
  refine lv_istore_n (lv' := [(2, .int l2_4), (1, .int l1_1), (0, .ref a_this)]) hx hb d_Tree_measure_19 rfl hl (by decide) rfl (fun ls hl => ?_)
  exact w_Tree_measure_b20 ⟨hx, hb, hml, hown, hts, hK, hA⟩ hret  N _ _ _ h H locs ls (lv_sub hl [2, 0] rfl) hP hD hS
set_option maxHeartbeats 4000000 in
set_option maxRecDepth 100000 in
theorem c_Tree_measure (l : Launch) (D : va_G) (cI cL cZ : ClassId) (sz N : Nat) (a_this : Nat) (a_lengths : Nat) (a_leaves : Nat) (a_above : Nat) (a_depths : Nat) (o_halves : Nat) (o_sorted : Nat) (o_starts : Nat) (o_sums : Nat) (i_known : Int32) (i_nextLeaf : Int32) (i_nextSum : Int32) (v_lengths : Nat → Int32) (v_leaves : Nat → Int32) (v_above : Nat → Int32) (v_depths : Nat → Int32) (rv : Int32) (v_lengths' : Nat → Int32) (v_depths' : Nat → Int32) (h : f_Tree_measure N i_known v_leaves v_above v_lengths v_depths = some (rv, v_lengths', v_depths')) : Met l ({ cls := "PrefixMill$Tree", name := "measure", desc := "()I" } : Jvm.MethodName) ws_Tree_measure R_Tree_measure (va_Pc [.ref a_this] (fun U => U.heap.size = sz ∧ va_P D classes [(a_this, .inr (9, [.ref a_lengths, .ref o_halves, .ref a_leaves, .ref o_sorted, .ref o_starts, .ref o_sums, .ref a_above, .ref a_depths, .int i_known, .int i_nextLeaf, .int i_nextSum])), (a_lengths, .inl (cI, 256, .inl v_lengths)), (a_leaves, .inl (cI, 256, .inl v_leaves)), (a_above, .inl (cI, 512, .inl v_above)), (a_depths, .inl (cI, 512, .inl v_depths))] U.heap ∧ va_K D classes [(cI, .int), (cL, .long), (cZ, .boolean)] U ∧ va_D (fun _ => True) [(a_this, .inr (9, [.ref a_lengths, .ref o_halves, .ref a_leaves, .ref o_sorted, .ref o_starts, .ref o_sums, .ref a_above, .ref a_depths, .int i_known, .int i_nextLeaf, .int i_nextSum])), (a_lengths, .inl (cI, 256, .inl v_lengths)), (a_leaves, .inl (cI, 256, .inl v_leaves)), (a_above, .inl (cI, 512, .inl v_above)), (a_depths, .inl (cI, 512, .inl v_depths))])) (va_Qi (fun (r0 : Int32) (_ : Unit) => rv = r0) (fun _ t => va_P D classes [(a_this, .inr (9, [.ref a_lengths, .ref o_halves, .ref a_leaves, .ref o_sorted, .ref o_starts, .ref o_sums, .ref a_above, .ref a_depths, .int i_known, .int i_nextLeaf, .int i_nextSum])), (a_lengths, .inl (cI, 256, .inl v_lengths')), (a_leaves, .inl (cI, 256, .inl v_leaves)), (a_above, .inl (cI, 512, .inl v_above)), (a_depths, .inl (cI, 512, .inl v_depths'))] t.heap ∧ va_K D classes [(cI, .int), (cL, .long), (cZ, .boolean)] t ∧ va_D (va_A [(a_this, .inr (9, [.ref a_lengths, .ref o_halves, .ref a_leaves, .ref o_sorted, .ref o_starts, .ref o_sums, .ref a_above, .ref a_depths, .int i_known, .int i_nextLeaf, .int i_nextSum])), (a_lengths, .inl (cI, 256, .inl v_lengths)), (a_leaves, .inl (cI, 256, .inl v_leaves)), (a_above, .inl (cI, 512, .inl v_above)), (a_depths, .inl (cI, 512, .inl v_depths))] sz) [(a_this, .inr (9, [.ref a_lengths, .ref o_halves, .ref a_leaves, .ref o_sorted, .ref o_starts, .ref o_sums, .ref a_above, .ref a_depths, .int i_known, .int i_nextLeaf, .int i_nextSum])), (a_lengths, .inl (cI, 256, .inl v_lengths')), (a_leaves, .inl (cI, 256, .inl v_leaves)), (a_above, .inl (cI, 512, .inl v_above)), (a_depths, .inl (cI, 512, .inl v_depths'))]) (va_A [(a_this, .inr (9, [.ref a_lengths, .ref o_halves, .ref a_leaves, .ref o_sorted, .ref o_starts, .ref o_sums, .ref a_above, .ref a_depths, .int i_known, .int i_nextLeaf, .int i_nextSum])), (a_lengths, .inl (cI, 256, .inl v_lengths)), (a_leaves, .inl (cI, 256, .inl v_leaves)), (a_above, .inl (cI, 512, .inl v_above)), (a_depths, .inl (cI, 512, .inl v_depths))] sz)) 0 0 (va_A [(a_this, .inr (9, [.ref a_lengths, .ref o_halves, .ref a_leaves, .ref o_sorted, .ref o_starts, .ref o_sums, .ref a_above, .ref a_depths, .int i_known, .int i_nextLeaf, .int i_nextSum])), (a_lengths, .inl (cI, 256, .inl v_lengths)), (a_leaves, .inl (cI, 256, .inl v_leaves)), (a_above, .inl (cI, 512, .inl v_above)), (a_depths, .inl (cI, 512, .inl v_depths))] sz) := by
  refine Met.ofW (cc := b_Tree_measure) (maxL := 3) (ret := (some .int)) (by decide) rfl ?_
  intro p e s m args below meth c s₁ B hml hv
  obtain ⟨rfl, hsz, hP, hK, hD0⟩ := hv
  have hx := B.exec
  have hb := B.bytes
  have hr := B.returns
  have hts0 := atoms_spec (ws := ws_Tree_measure) B.pre
  have hts := gd_tl hts0
  clear hts0
  have hown : s.vm.findClass "PrefixMill$Tree" = some m.cls := findClass_of_methodNamed B.named
  have hlocks := B.notSynchronized
  subst hsz
  have hD := hD0.self (sz := s.heap.size)
  generalize hAe : va_A [(a_this, .inr (9, [.ref a_lengths, .ref o_halves, .ref a_leaves, .ref o_sorted, .ref o_starts, .ref o_sums, .ref a_above, .ref a_depths, .int i_known, .int i_nextLeaf, .int i_nextSum])), (a_lengths, .inl (cI, 256, .inl v_lengths)), (a_leaves, .inl (cI, 256, .inl v_leaves)), (a_above, .inl (cI, 512, .inl v_above)), (a_depths, .inl (cI, 512, .inl v_depths))] s.heap.size = A at hD ⊢
  have hA : ∀ q : Nat, s.heap.size ≤ q → A q := fun q h => by rw [← hAe]; exact Or.inr h
  have hS : va_S A s.heap s.heap [] := va_S.rf
  have hP : va_P D classes [(a_this, .inr (9, [.ref a_lengths, .ref o_halves, .ref a_leaves, .ref o_sorted, .ref o_starts, .ref o_sums, .ref a_above, .ref a_depths, .int i_known, .int i_nextLeaf, .int i_nextSum])), (a_lengths, .inl (cI, 256, .inl v_lengths)), (a_leaves, .inl (cI, 256, .inl v_leaves)), (a_above, .inl (cI, 512, .inl v_above)), (a_depths, .inl (cI, 512, .inl v_depths))] s.heap := hP
  have hl := lv_entry ([.ref a_this]) (n := 3) (Nat.le_of_ble_eq_true rfl)
  rw [lg_entry_eq]
  generalize (lg_sl ([.ref a_this]) ++ List.replicate (3 - (lg_sl ([.ref a_this])).length) Slot.unset).toArray = ls at hl ⊢
  have hl : lv_has ls 3 [(0, .ref a_this)] := hl
  have C : Cx p s m ([.ref a_this] : List Value).toArray c b_Tree_measure 3 "PrefixMill$Tree" D [(cI, .int), (cL, .long), (cZ, .boolean)] A := ⟨hx, hb, hml, hown, hts, hK, hA⟩
  refine w_Tree_measure_b0 (res := (rv, v_lengths', v_depths')) C ?_ _ _ h s.heap [] ls hl hP hD hS
  intro pc9 H9 locs9 ls9 rv9 v_lengths9 v_depths9 e9 d9 hP9 hD9 hS9
  cases e9
  exact W.iret (v := rv) hx hb hr (fun t ht hW => ⟨⟨rv, (), rfl, rfl, by rw [ht]; exact hP9, va_K.moved hW.alike hK, hD9⟩, hS9.F ht⟩) hS9.2.2 d9
abbrev b_Tree_halve : ByteArray := prog_9_method_4_code
def ws_Tree_halve : List Cond := .code ({ cls := "PrefixMill$Tree", name := "halve", desc := "()V" } : Jvm.MethodName) b_Tree_halve 2 none :: tt
theorem d_Tree_halve_0 : decode b_Tree_halve 0 = .ok (.iconst 0, 1) := by decide +kernel
theorem d_Tree_halve_1 : decode b_Tree_halve 1 = .ok (.istore_n 1, 1) := by decide +kernel
theorem d_Tree_halve_2 : decode b_Tree_halve 2 = .ok (.iload_n 1, 1) := by decide +kernel
theorem d_Tree_halve_3 : decode b_Tree_halve 3 = .ok (.sipush 256, 3) := by decide +kernel
theorem d_Tree_halve_6 : decode b_Tree_halve 6 = .ok (.if_icmp .ge 25, 3) := by decide +kernel
theorem d_Tree_halve_9 : decode b_Tree_halve 9 = .ok (.aload_n 0, 1) := by decide +kernel
theorem d_Tree_halve_10 : decode b_Tree_halve 10 = .ok (.getfield 15, 3) := by decide +kernel
theorem d_Tree_halve_13 : decode b_Tree_halve 13 = .ok (.iload_n 1, 1) := by decide +kernel
theorem d_Tree_halve_14 : decode b_Tree_halve 14 = .ok (.aload_n 0, 1) := by decide +kernel
theorem d_Tree_halve_15 : decode b_Tree_halve 15 = .ok (.getfield 15, 3) := by decide +kernel
theorem d_Tree_halve_18 : decode b_Tree_halve 18 = .ok (.iload_n 1, 1) := by decide +kernel
theorem d_Tree_halve_19 : decode b_Tree_halve 19 = .ok (.iaload, 1) := by decide +kernel
theorem d_Tree_halve_20 : decode b_Tree_halve 20 = .ok (.iconst 1, 1) := by decide +kernel
theorem d_Tree_halve_21 : decode b_Tree_halve 21 = .ok (.iadd, 1) := by decide +kernel
theorem d_Tree_halve_22 : decode b_Tree_halve 22 = .ok (.iconst 2, 1) := by decide +kernel
theorem d_Tree_halve_23 : decode b_Tree_halve 23 = .ok (.idiv, 1) := by decide +kernel
theorem d_Tree_halve_24 : decode b_Tree_halve 24 = .ok (.iastore, 1) := by decide +kernel
theorem d_Tree_halve_25 : decode b_Tree_halve 25 = .ok (.iinc 1 1, 3) := by decide +kernel
theorem d_Tree_halve_28 : decode b_Tree_halve 28 = .ok (.goto (-26), 3) := by decide +kernel
theorem d_Tree_halve_31 : decode b_Tree_halve 31 = .ok (.return_, 1) := by decide +kernel
def f_Tree_halve_b2 (N : Nat)   : Nat → Int32 → (Nat → Int32) → Option ((Nat → Int32))
  | 0, _, _ => none
  | z + 1, l1, v_halves =>
  if 256 ≤ l1 then
  some (v_halves)
  else
  ck (inb l1 256) <|
  ck (inb l1 256) <|
  nm (upd v_halves (Int32.toNatClampNeg l1) (((v_halves (Int32.toNatClampNeg l1)) + 1) / 2)) fun v_halves_4 =>
  nm (l1 + 1) fun l1_5 =>
  f_Tree_halve_b2 N   z l1_5 v_halves_4
def f_Tree_halve (N : Nat)   (v_halves : Nat → Int32) : Option ((Nat → Int32)) :=
  f_Tree_halve_b2 N   N 0 v_halves
abbrev R_Tree_halve : Room := ({ frames := 0, cells := 0, slots := 0, locals := 0 } : Room)
def E_Tree_halve (p : Program) (l : Launch) (e : Env) (s : State) (m : MethodId) (args : Array Value) (below : List Frame) (meth : Method) (c : Code) (Q : State → Prop) (A : Nat → Prop) (D : va_G) (cI cL cZ : ClassId) (a_this : Nat) (a_halves : Nat) (o_lengths : Nat) (o_leaves : Nat) (o_sorted : Nat) (o_starts : Nat) (o_sums : Nat) (o_above : Nat) (o_depths : Nat) (i_known : Int32) (i_nextLeaf : Int32) (i_nextSum : Int32) (res : (Nat → Int32)) : Prop := ∀ (pc : Nat) (H : Heap) (locs : List Loc) (ls : Array Slot) (v_halves : Nat → Int32), some (v_halves) = some res → decode b_Tree_halve pc = .ok (.return_, 1) → va_P D classes [(a_this, .inr (9, [.ref o_lengths, .ref a_halves, .ref o_leaves, .ref o_sorted, .ref o_starts, .ref o_sums, .ref o_above, .ref o_depths, .int i_known, .int i_nextLeaf, .int i_nextSum])), (a_halves, .inl (cI, 256, .inl v_halves))] H → va_D A [(a_this, .inr (9, [.ref o_lengths, .ref a_halves, .ref o_leaves, .ref o_sorted, .ref o_starts, .ref o_sums, .ref o_above, .ref o_depths, .int i_known, .int i_nextLeaf, .int i_nextSum])), (a_halves, .inl (cI, 256, .inl v_halves))] → va_S A s.heap H locs → W p l e R_Tree_halve s m args below meth c H locs 0 0 Q (F0 m pc ls [])
def I_Tree_halve_b2 (p : Program) (l : Launch) (e : Env) (s : State) (m : MethodId) (args : Array Value) (below : List Frame) (meth : Method) (c : Code) (Q : State → Prop) (A : Nat → Prop) (D : va_G) (cI cL cZ : ClassId) (a_this : Nat) (a_halves : Nat) (o_lengths : Nat) (o_leaves : Nat) (o_sorted : Nat) (o_starts : Nat) (o_sums : Nat) (o_above : Nat) (o_depths : Nat) (i_known : Int32) (i_nextLeaf : Int32) (i_nextSum : Int32) (res : (Nat → Int32)) (kf : Int32 → (Nat → Int32) → Option ((Nat → Int32))) : Prop := ∀ (l1 : Int32) (v_halves : Nat → Int32), kf l1 v_halves = some res → ∀ (H : Heap) (locs : List Loc) (ls : Array Slot), lv_has ls 2 [(0, .ref a_this), (1, .int l1)] → va_P D classes [(a_this, .inr (9, [.ref o_lengths, .ref a_halves, .ref o_leaves, .ref o_sorted, .ref o_starts, .ref o_sums, .ref o_above, .ref o_depths, .int i_known, .int i_nextLeaf, .int i_nextSum])), (a_halves, .inl (cI, 256, .inl v_halves))] H → va_D A [(a_this, .inr (9, [.ref o_lengths, .ref a_halves, .ref o_leaves, .ref o_sorted, .ref o_starts, .ref o_sums, .ref o_above, .ref o_depths, .int i_known, .int i_nextLeaf, .int i_nextSum])), (a_halves, .inl (cI, 256, .inl v_halves))] → va_S A s.heap H locs → W p l e R_Tree_halve s m args below meth c H locs 0 0 Q (F0 m 2 ls [])
def I_Tree_halve_b0 (p : Program) (l : Launch) (e : Env) (s : State) (m : MethodId) (args : Array Value) (below : List Frame) (meth : Method) (c : Code) (Q : State → Prop) (A : Nat → Prop) (D : va_G) (cI cL cZ : ClassId) (a_this : Nat) (a_halves : Nat) (o_lengths : Nat) (o_leaves : Nat) (o_sorted : Nat) (o_starts : Nat) (o_sums : Nat) (o_above : Nat) (o_depths : Nat) (i_known : Int32) (i_nextLeaf : Int32) (i_nextSum : Int32) (res : (Nat → Int32)) (kf : (Nat → Int32) → Option ((Nat → Int32))) : Prop := ∀ (v_halves : Nat → Int32), kf v_halves = some res → ∀ (H : Heap) (locs : List Loc) (ls : Array Slot), lv_has ls 2 [(0, .ref a_this)] → va_P D classes [(a_this, .inr (9, [.ref o_lengths, .ref a_halves, .ref o_leaves, .ref o_sorted, .ref o_starts, .ref o_sums, .ref o_above, .ref o_depths, .int i_known, .int i_nextLeaf, .int i_nextSum])), (a_halves, .inl (cI, 256, .inl v_halves))] H → va_D A [(a_this, .inr (9, [.ref o_lengths, .ref a_halves, .ref o_leaves, .ref o_sorted, .ref o_starts, .ref o_sums, .ref o_above, .ref o_depths, .int i_known, .int i_nextLeaf, .int i_nextSum])), (a_halves, .inl (cI, 256, .inl v_halves))] → va_S A s.heap H locs → W p l e R_Tree_halve s m args below meth c H locs 0 0 Q (F0 m 0 ls [])
set_option maxHeartbeats 4000000 in
set_option maxRecDepth 100000 in
theorem w_Tree_halve_b2 {p : Program} {l : Launch} {e : Env} {s : State} {m : MethodId} {args : Array Value} {below : List Frame} {meth : Method} {c : Code} {Q : State → Prop} {A : Nat → Prop} {D : va_G} {cI cL cZ : ClassId} {a_this : Nat} {a_halves : Nat} {o_lengths : Nat} {o_leaves : Nat} {o_sorted : Nat} {o_starts : Nat} {o_sums : Nat} {o_above : Nat} {o_depths : Nat} {i_known : Int32} {i_nextLeaf : Int32} {i_nextSum : Int32} {N : Nat} {res : (Nat → Int32)}  (C : Cx p s m args c b_Tree_halve 2 "PrefixMill$Tree" D [(cI, .int), (cL, .long), (cZ, .boolean)] A) (hret : E_Tree_halve p l e s m args below meth c Q A D cI cL cZ a_this a_halves o_lengths o_leaves o_sorted o_starts o_sums o_above o_depths i_known i_nextLeaf i_nextSum res)  : ∀ z : Nat, I_Tree_halve_b2 p l e s m args below meth c Q A D cI cL cZ a_this a_halves o_lengths o_leaves o_sorted o_starts o_sums o_above o_depths i_known i_nextLeaf i_nextSum res (f_Tree_halve_b2 N   z) := by
  obtain ⟨hx, hb, hml, hown, hts, hK, hA⟩ := C
  intro z
  induction z with
  | zero => intro l1 v_halves h; cases h
  | succ z ih =>
    intro l1 v_halves h H locs ls hl hP hD hS
    refine lv_iload_n hx hb d_Tree_halve_2 rfl (lv_at hl 1 rfl) ?_
    refine lv_sipush (v := 256) hx hb d_Tree_halve_3 (by decide) ?_
    refine lv_icmp_ge (tgt := 31) hx hb d_Tree_halve_6 (by decide) (fun c_1 => ?_) (fun c_1 => ?_)
    · replace h := if_t h c_1
      exact hret _ _ _ _ v_halves h d_Tree_halve_31 hP hD hS
    · replace h := if_f h c_1
      refine lv_aload_n hx hb d_Tree_halve_9 rfl (lv_at hl 0 rfl) ?_
      refine va_get hx hb hts in_Tree hown hK hP 0 rfl rfl 1 (by decide) (hts _ m_158) (fun _ h9 => h9) rfl d_Tree_halve_10 ?_
      refine lv_iload_n hx hb d_Tree_halve_13 rfl (lv_at hl 1 rfl) ?_
      refine lv_aload_n hx hb d_Tree_halve_14 rfl (lv_at hl 0 rfl) ?_
      refine va_get hx hb hts in_Tree hown hK hP 0 rfl rfl 1 (by decide) (hts _ m_158) (fun _ h9 => h9) rfl d_Tree_halve_15 ?_
      refine lv_iload_n hx hb d_Tree_halve_18 rfl (lv_at hl 1 rfl) ?_
      obtain ⟨g_2, h⟩ := ck_s h
      refine va_iald hx hb hK hP 1 0 rfl rfl (inb_s g_2) d_Tree_halve_19 ?_
      refine lv_iconst (v := 1) hx hb d_Tree_halve_20 (by decide) ?_
      refine lv_iadd hx hb d_Tree_halve_21 ?_
      refine lv_iconst (v := 2) hx hb d_Tree_halve_22 (by decide) ?_
      refine lv_idiv hx hb d_Tree_halve_23 (by decide) ?_
      obtain ⟨g_3, h⟩ := ck_s h
      refine va_iast hx hb hK hP hD hS 1 0 rfl rfl (inb_s g_3) d_Tree_halve_24 (fun H locs hP hD hS => ?_)
      obtain ⟨v_halves_4, ev_halves_4⟩ : ∃ y, y = (upd v_halves (Int32.toNatClampNeg l1) (((v_halves (Int32.toNatClampNeg l1)) + 1) / 2)) := ⟨_, rfl⟩
      replace h := nm_s h ev_halves_4
      have hP : va_P D classes [(a_this, .inr (9, [.ref o_lengths, .ref a_halves, .ref o_leaves, .ref o_sorted, .ref o_starts, .ref o_sums, .ref o_above, .ref o_depths, .int i_known, .int i_nextLeaf, .int i_nextSum])), (a_halves, .inl (cI, 256, .inl v_halves_4))] H := by rw [ev_halves_4]; exact hP
      have hD : va_D A [(a_this, .inr (9, [.ref o_lengths, .ref a_halves, .ref o_leaves, .ref o_sorted, .ref o_starts, .ref o_sums, .ref o_above, .ref o_depths, .int i_known, .int i_nextLeaf, .int i_nextSum])), (a_halves, .inl (cI, 256, .inl v_halves_4))] := by rw [ev_halves_4]; exact hD
      obtain ⟨l1_5, el1_5⟩ : ∃ y : Int32, y = l1 + 1 := ⟨_, rfl⟩
      replace h := nm_s h el1_5
      refine lv_iinc (v := l1_5) (lv' := [(1, .int l1_5), (0, .ref a_this)]) hx hb d_Tree_halve_25 hl (k := 1) rfl (by rw [el1_5]; rfl) (by decide) rfl (fun ls hl => ?_)
      refine lv_goto (tgt := 2) hx hb d_Tree_halve_28 (by decide) ?_
      exact ih _ _ h H locs ls (lv_sub hl [1, 0] rfl) hP hD hS
set_option maxHeartbeats 4000000 in
set_option maxRecDepth 100000 in
theorem w_Tree_halve_b0 {p : Program} {l : Launch} {e : Env} {s : State} {m : MethodId} {args : Array Value} {below : List Frame} {meth : Method} {c : Code} {Q : State → Prop} {A : Nat → Prop} {D : va_G} {cI cL cZ : ClassId} {a_this : Nat} {a_halves : Nat} {o_lengths : Nat} {o_leaves : Nat} {o_sorted : Nat} {o_starts : Nat} {o_sums : Nat} {o_above : Nat} {o_depths : Nat} {i_known : Int32} {i_nextLeaf : Int32} {i_nextSum : Int32} {N : Nat} {res : (Nat → Int32)}  (C : Cx p s m args c b_Tree_halve 2 "PrefixMill$Tree" D [(cI, .int), (cL, .long), (cZ, .boolean)] A) (hret : E_Tree_halve p l e s m args below meth c Q A D cI cL cZ a_this a_halves o_lengths o_leaves o_sorted o_starts o_sums o_above o_depths i_known i_nextLeaf i_nextSum res)  : I_Tree_halve_b0 p l e s m args below meth c Q A D cI cL cZ a_this a_halves o_lengths o_leaves o_sorted o_starts o_sums o_above o_depths i_known i_nextLeaf i_nextSum res (f_Tree_halve N  ) := by
  obtain ⟨hx, hb, hml, hown, hts, hK, hA⟩ := C
  intro v_halves h H locs ls hl hP hD hS
  unfold f_Tree_halve at h
  refine lv_iconst (v := 0) hx hb d_Tree_halve_0 (by decide) ?_
  refine lv_istore_n (lv' := [(1, .int 0), (0, .ref a_this)]) hx hb d_Tree_halve_1 rfl hl (by decide) rfl (fun ls hl => ?_)
  exact w_Tree_halve_b2 ⟨hx, hb, hml, hown, hts, hK, hA⟩ hret  N _ _ h H locs ls (lv_sub hl [1, 0] rfl) hP hD hS
set_option maxHeartbeats 4000000 in
set_option maxRecDepth 100000 in
theorem c_Tree_halve (l : Launch) (D : va_G) (cI cL cZ : ClassId) (sz N : Nat) (a_this : Nat) (a_halves : Nat) (o_lengths : Nat) (o_leaves : Nat) (o_sorted : Nat) (o_starts : Nat) (o_sums : Nat) (o_above : Nat) (o_depths : Nat) (i_known : Int32) (i_nextLeaf : Int32) (i_nextSum : Int32) (v_halves : Nat → Int32) (v_halves' : Nat → Int32) (h : f_Tree_halve N  v_halves = some (v_halves')) : Met l ({ cls := "PrefixMill$Tree", name := "halve", desc := "()V" } : Jvm.MethodName) ws_Tree_halve R_Tree_halve (va_Pc [.ref a_this] (fun U => U.heap.size = sz ∧ va_P D classes [(a_this, .inr (9, [.ref o_lengths, .ref a_halves, .ref o_leaves, .ref o_sorted, .ref o_starts, .ref o_sums, .ref o_above, .ref o_depths, .int i_known, .int i_nextLeaf, .int i_nextSum])), (a_halves, .inl (cI, 256, .inl v_halves))] U.heap ∧ va_K D classes [(cI, .int), (cL, .long), (cZ, .boolean)] U ∧ va_D (fun _ => True) [(a_this, .inr (9, [.ref o_lengths, .ref a_halves, .ref o_leaves, .ref o_sorted, .ref o_starts, .ref o_sums, .ref o_above, .ref o_depths, .int i_known, .int i_nextLeaf, .int i_nextSum])), (a_halves, .inl (cI, 256, .inl v_halves))])) (va_Qv (fun _ : Unit => True) (fun _ t => va_P D classes [(a_this, .inr (9, [.ref o_lengths, .ref a_halves, .ref o_leaves, .ref o_sorted, .ref o_starts, .ref o_sums, .ref o_above, .ref o_depths, .int i_known, .int i_nextLeaf, .int i_nextSum])), (a_halves, .inl (cI, 256, .inl v_halves'))] t.heap ∧ va_K D classes [(cI, .int), (cL, .long), (cZ, .boolean)] t ∧ va_D (va_A [(a_this, .inr (9, [.ref o_lengths, .ref a_halves, .ref o_leaves, .ref o_sorted, .ref o_starts, .ref o_sums, .ref o_above, .ref o_depths, .int i_known, .int i_nextLeaf, .int i_nextSum])), (a_halves, .inl (cI, 256, .inl v_halves))] sz) [(a_this, .inr (9, [.ref o_lengths, .ref a_halves, .ref o_leaves, .ref o_sorted, .ref o_starts, .ref o_sums, .ref o_above, .ref o_depths, .int i_known, .int i_nextLeaf, .int i_nextSum])), (a_halves, .inl (cI, 256, .inl v_halves'))]) (va_A [(a_this, .inr (9, [.ref o_lengths, .ref a_halves, .ref o_leaves, .ref o_sorted, .ref o_starts, .ref o_sums, .ref o_above, .ref o_depths, .int i_known, .int i_nextLeaf, .int i_nextSum])), (a_halves, .inl (cI, 256, .inl v_halves))] sz)) 0 0 (va_A [(a_this, .inr (9, [.ref o_lengths, .ref a_halves, .ref o_leaves, .ref o_sorted, .ref o_starts, .ref o_sums, .ref o_above, .ref o_depths, .int i_known, .int i_nextLeaf, .int i_nextSum])), (a_halves, .inl (cI, 256, .inl v_halves))] sz) := by
  refine Met.ofW (cc := b_Tree_halve) (maxL := 2) (ret := none) (by decide) rfl ?_
  intro p e s m args below meth c s₁ B hml hv
  obtain ⟨rfl, hsz, hP, hK, hD0⟩ := hv
  have hx := B.exec
  have hb := B.bytes
  have hr := B.returns
  have hts0 := atoms_spec (ws := ws_Tree_halve) B.pre
  have hts := gd_tl hts0
  clear hts0
  have hown : s.vm.findClass "PrefixMill$Tree" = some m.cls := findClass_of_methodNamed B.named
  have hlocks := B.notSynchronized
  subst hsz
  have hD := hD0.self (sz := s.heap.size)
  generalize hAe : va_A [(a_this, .inr (9, [.ref o_lengths, .ref a_halves, .ref o_leaves, .ref o_sorted, .ref o_starts, .ref o_sums, .ref o_above, .ref o_depths, .int i_known, .int i_nextLeaf, .int i_nextSum])), (a_halves, .inl (cI, 256, .inl v_halves))] s.heap.size = A at hD ⊢
  have hA : ∀ q : Nat, s.heap.size ≤ q → A q := fun q h => by rw [← hAe]; exact Or.inr h
  have hS : va_S A s.heap s.heap [] := va_S.rf
  have hP : va_P D classes [(a_this, .inr (9, [.ref o_lengths, .ref a_halves, .ref o_leaves, .ref o_sorted, .ref o_starts, .ref o_sums, .ref o_above, .ref o_depths, .int i_known, .int i_nextLeaf, .int i_nextSum])), (a_halves, .inl (cI, 256, .inl v_halves))] s.heap := hP
  have hl := lv_entry ([.ref a_this]) (n := 2) (Nat.le_of_ble_eq_true rfl)
  rw [lg_entry_eq]
  generalize (lg_sl ([.ref a_this]) ++ List.replicate (2 - (lg_sl ([.ref a_this])).length) Slot.unset).toArray = ls at hl ⊢
  have hl : lv_has ls 2 [(0, .ref a_this)] := hl
  have C : Cx p s m ([.ref a_this] : List Value).toArray c b_Tree_halve 2 "PrefixMill$Tree" D [(cI, .int), (cL, .long), (cZ, .boolean)] A := ⟨hx, hb, hml, hown, hts, hK, hA⟩
  refine w_Tree_halve_b0 (res := (v_halves')) C ?_ _ h s.heap [] ls hl hP hD hS
  intro pc9 H9 locs9 ls9 v_halves9 e9 d9 hP9 hD9 hS9
  cases e9
  exact W.vret hx hb hr (fun t ht hW => ⟨⟨(), rfl, trivial, by rw [ht]; exact hP9, va_K.moved hW.alike hK, hD9⟩, hS9.F ht⟩) hS9.2.2 d9
abbrev b_Tree_grow : ByteArray := prog_9_method_3_code
def ws_Tree_grow : List Cond := .code ({ cls := "PrefixMill$Tree", name := "grow", desc := "(I)V" } : Jvm.MethodName) b_Tree_grow 3 none :: tt
theorem d_Tree_grow_0 : decode b_Tree_grow 0 = .ok (.iconst 0, 1) := by decide +kernel
theorem d_Tree_grow_1 : decode b_Tree_grow 1 = .ok (.istore_n 2, 1) := by decide +kernel
theorem d_Tree_grow_2 : decode b_Tree_grow 2 = .ok (.iload_n 2, 1) := by decide +kernel
theorem d_Tree_grow_3 : decode b_Tree_grow 3 = .ok (.bipush 16, 2) := by decide +kernel
theorem d_Tree_grow_5 : decode b_Tree_grow 5 = .ok (.if_icmp .gt 30, 3) := by decide +kernel
theorem d_Tree_grow_8 : decode b_Tree_grow 8 = .ok (.aload_n 0, 1) := by decide +kernel
theorem d_Tree_grow_9 : decode b_Tree_grow 9 = .ok (.invokevirtual 40, 3) := by decide +kernel
theorem d_Tree_grow_12 : decode b_Tree_grow 12 = .ok (.aload_n 0, 1) := by decide +kernel
theorem d_Tree_grow_13 : decode b_Tree_grow 13 = .ok (.invokevirtual 43, 3) := by decide +kernel
theorem d_Tree_grow_16 : decode b_Tree_grow 16 = .ok (.aload_n 0, 1) := by decide +kernel
theorem d_Tree_grow_17 : decode b_Tree_grow 17 = .ok (.invokevirtual 46, 3) := by decide +kernel
theorem d_Tree_grow_20 : decode b_Tree_grow 20 = .ok (.iload_n 1, 1) := by decide +kernel
theorem d_Tree_grow_21 : decode b_Tree_grow 21 = .ok (.if_icmp .gt 4, 3) := by decide +kernel
theorem d_Tree_grow_24 : decode b_Tree_grow 24 = .ok (.return_, 1) := by decide +kernel
theorem d_Tree_grow_25 : decode b_Tree_grow 25 = .ok (.aload_n 0, 1) := by decide +kernel
theorem d_Tree_grow_26 : decode b_Tree_grow 26 = .ok (.invokevirtual 50, 3) := by decide +kernel
theorem d_Tree_grow_29 : decode b_Tree_grow 29 = .ok (.iinc 2 1, 3) := by decide +kernel
theorem d_Tree_grow_32 : decode b_Tree_grow 32 = .ok (.goto (-30), 3) := by decide +kernel
theorem d_Tree_grow_35 : decode b_Tree_grow 35 = .ok (.return_, 1) := by decide +kernel
def f_Tree_grow_b2 (N : Nat) (i_known : Int32) (l1 : Int32)  : Nat → Int32 → Int32 → Int32 → (Nat → Int32) → (Nat → Int32) → (Nat → Int32) → (Nat → Int32) → (Nat → Int32) → (Nat → Int32) → (Nat → Int32) → (Nat → Int32) → Option (Int32 × Int32 × (Nat → Int32) × (Nat → Int32) × (Nat → Int32) × (Nat → Int32) × (Nat → Int32) × (Nat → Int32) × (Nat → Int32) × (Nat → Int32))
  | 0, _, _, _, _, _, _, _, _, _, _, _ => none
  | z + 1, l2, i_nextLeaf, i_nextSum, v_lengths, v_halves, v_leaves, v_sorted, v_starts, v_sums, v_above, v_depths =>
  if 16 < l2 then
  some (i_nextLeaf, i_nextSum, v_lengths, v_halves, v_leaves, v_sorted, v_starts, v_sums, v_above, v_depths)
  else
  bd3 (f_Tree_sortLeaves N i_known v_halves v_leaves v_sorted v_starts) fun v_leaves_2 v_sorted_3 v_starts_4 =>
  bd4 (f_Tree_join N i_known v_halves v_leaves_2 i_nextLeaf i_nextSum v_sums v_above) fun i_nextLeaf_6 i_nextSum_7 v_sums_8 v_above_9 =>
  bd3 (f_Tree_measure N i_known v_leaves_2 v_above_9 v_lengths v_depths) fun r_11 v_lengths_12 v_depths_13 =>
  if l1 < r_11 then
  bd1 (f_Tree_halve N v_halves) fun v_halves_16 =>
  nm (l2 + 1) fun l2_18 =>
  f_Tree_grow_b2 N i_known l1  z l2_18 i_nextLeaf_6 i_nextSum_7 v_lengths_12 v_halves_16 v_leaves_2 v_sorted_3 v_starts_4 v_sums_8 v_above_9 v_depths_13
  else
  some (i_nextLeaf_6, i_nextSum_7, v_lengths_12, v_halves, v_leaves_2, v_sorted_3, v_starts_4, v_sums_8, v_above_9, v_depths_13)
def f_Tree_grow (N : Nat) (i_known : Int32) (l1 : Int32)  (i_nextLeaf : Int32) (i_nextSum : Int32) (v_lengths : Nat → Int32) (v_halves : Nat → Int32) (v_leaves : Nat → Int32) (v_sorted : Nat → Int32) (v_starts : Nat → Int32) (v_sums : Nat → Int32) (v_above : Nat → Int32) (v_depths : Nat → Int32) : Option (Int32 × Int32 × (Nat → Int32) × (Nat → Int32) × (Nat → Int32) × (Nat → Int32) × (Nat → Int32) × (Nat → Int32) × (Nat → Int32) × (Nat → Int32)) :=
  f_Tree_grow_b2 N i_known l1  N 0 i_nextLeaf i_nextSum v_lengths v_halves v_leaves v_sorted v_starts v_sums v_above v_depths
abbrev R_Tree_grow : Room := ({ frames := 3, cells := 0, slots := 0, locals := 70 } : Room)
def E_Tree_grow (p : Program) (l : Launch) (e : Env) (s : State) (m : MethodId) (args : Array Value) (below : List Frame) (meth : Method) (c : Code) (Q : State → Prop) (A : Nat → Prop) (D : va_G) (cI cL cZ : ClassId) (a_this : Nat) (a_lengths : Nat) (a_halves : Nat) (a_leaves : Nat) (a_sorted : Nat) (a_starts : Nat) (a_sums : Nat) (a_above : Nat) (a_depths : Nat) (i_known : Int32) (l1 : Int32) (res : Int32 × Int32 × (Nat → Int32) × (Nat → Int32) × (Nat → Int32) × (Nat → Int32) × (Nat → Int32) × (Nat → Int32) × (Nat → Int32) × (Nat → Int32)) : Prop := ∀ (pc : Nat) (H : Heap) (locs : List Loc) (ls : Array Slot) (i_nextLeaf : Int32) (i_nextSum : Int32) (v_lengths : Nat → Int32) (v_halves : Nat → Int32) (v_leaves : Nat → Int32) (v_sorted : Nat → Int32) (v_starts : Nat → Int32) (v_sums : Nat → Int32) (v_above : Nat → Int32) (v_depths : Nat → Int32), some (i_nextLeaf, i_nextSum, v_lengths, v_halves, v_leaves, v_sorted, v_starts, v_sums, v_above, v_depths) = some res → decode b_Tree_grow pc = .ok (.return_, 1) → va_P D classes [(a_this, .inr (9, [.ref a_lengths, .ref a_halves, .ref a_leaves, .ref a_sorted, .ref a_starts, .ref a_sums, .ref a_above, .ref a_depths, .int i_known, .int i_nextLeaf, .int i_nextSum])), (a_lengths, .inl (cI, 256, .inl v_lengths)), (a_halves, .inl (cI, 256, .inl v_halves)), (a_leaves, .inl (cI, 256, .inl v_leaves)), (a_sorted, .inl (cI, 256, .inl v_sorted)), (a_starts, .inl (cI, 257, .inl v_starts)), (a_sums, .inl (cI, 512, .inl v_sums)), (a_above, .inl (cI, 512, .inl v_above)), (a_depths, .inl (cI, 512, .inl v_depths))] H → va_D A [(a_this, .inr (9, [.ref a_lengths, .ref a_halves, .ref a_leaves, .ref a_sorted, .ref a_starts, .ref a_sums, .ref a_above, .ref a_depths, .int i_known, .int i_nextLeaf, .int i_nextSum])), (a_lengths, .inl (cI, 256, .inl v_lengths)), (a_halves, .inl (cI, 256, .inl v_halves)), (a_leaves, .inl (cI, 256, .inl v_leaves)), (a_sorted, .inl (cI, 256, .inl v_sorted)), (a_starts, .inl (cI, 257, .inl v_starts)), (a_sums, .inl (cI, 512, .inl v_sums)), (a_above, .inl (cI, 512, .inl v_above)), (a_depths, .inl (cI, 512, .inl v_depths))] → va_S A s.heap H locs → W p l e R_Tree_grow s m args below meth c H locs 0 0 Q (F0 m pc ls [])
def I_Tree_grow_b2 (p : Program) (l : Launch) (e : Env) (s : State) (m : MethodId) (args : Array Value) (below : List Frame) (meth : Method) (c : Code) (Q : State → Prop) (A : Nat → Prop) (D : va_G) (cI cL cZ : ClassId) (a_this : Nat) (a_lengths : Nat) (a_halves : Nat) (a_leaves : Nat) (a_sorted : Nat) (a_starts : Nat) (a_sums : Nat) (a_above : Nat) (a_depths : Nat) (i_known : Int32) (l1 : Int32) (res : Int32 × Int32 × (Nat → Int32) × (Nat → Int32) × (Nat → Int32) × (Nat → Int32) × (Nat → Int32) × (Nat → Int32) × (Nat → Int32) × (Nat → Int32)) (kf : Int32 → Int32 → Int32 → (Nat → Int32) → (Nat → Int32) → (Nat → Int32) → (Nat → Int32) → (Nat → Int32) → (Nat → Int32) → (Nat → Int32) → (Nat → Int32) → Option (Int32 × Int32 × (Nat → Int32) × (Nat → Int32) × (Nat → Int32) × (Nat → Int32) × (Nat → Int32) × (Nat → Int32) × (Nat → Int32) × (Nat → Int32))) : Prop := ∀ (l2 : Int32) (i_nextLeaf : Int32) (i_nextSum : Int32) (v_lengths : Nat → Int32) (v_halves : Nat → Int32) (v_leaves : Nat → Int32) (v_sorted : Nat → Int32) (v_starts : Nat → Int32) (v_sums : Nat → Int32) (v_above : Nat → Int32) (v_depths : Nat → Int32), kf l2 i_nextLeaf i_nextSum v_lengths v_halves v_leaves v_sorted v_starts v_sums v_above v_depths = some res → ∀ (H : Heap) (locs : List Loc) (ls : Array Slot), lv_has ls 3 [(0, .ref a_this), (1, .int l1), (2, .int l2)] → va_P D classes [(a_this, .inr (9, [.ref a_lengths, .ref a_halves, .ref a_leaves, .ref a_sorted, .ref a_starts, .ref a_sums, .ref a_above, .ref a_depths, .int i_known, .int i_nextLeaf, .int i_nextSum])), (a_lengths, .inl (cI, 256, .inl v_lengths)), (a_halves, .inl (cI, 256, .inl v_halves)), (a_leaves, .inl (cI, 256, .inl v_leaves)), (a_sorted, .inl (cI, 256, .inl v_sorted)), (a_starts, .inl (cI, 257, .inl v_starts)), (a_sums, .inl (cI, 512, .inl v_sums)), (a_above, .inl (cI, 512, .inl v_above)), (a_depths, .inl (cI, 512, .inl v_depths))] H → va_D A [(a_this, .inr (9, [.ref a_lengths, .ref a_halves, .ref a_leaves, .ref a_sorted, .ref a_starts, .ref a_sums, .ref a_above, .ref a_depths, .int i_known, .int i_nextLeaf, .int i_nextSum])), (a_lengths, .inl (cI, 256, .inl v_lengths)), (a_halves, .inl (cI, 256, .inl v_halves)), (a_leaves, .inl (cI, 256, .inl v_leaves)), (a_sorted, .inl (cI, 256, .inl v_sorted)), (a_starts, .inl (cI, 257, .inl v_starts)), (a_sums, .inl (cI, 512, .inl v_sums)), (a_above, .inl (cI, 512, .inl v_above)), (a_depths, .inl (cI, 512, .inl v_depths))] → va_S A s.heap H locs → W p l e R_Tree_grow s m args below meth c H locs 0 0 Q (F0 m 2 ls [])
def I_Tree_grow_b0 (p : Program) (l : Launch) (e : Env) (s : State) (m : MethodId) (args : Array Value) (below : List Frame) (meth : Method) (c : Code) (Q : State → Prop) (A : Nat → Prop) (D : va_G) (cI cL cZ : ClassId) (a_this : Nat) (a_lengths : Nat) (a_halves : Nat) (a_leaves : Nat) (a_sorted : Nat) (a_starts : Nat) (a_sums : Nat) (a_above : Nat) (a_depths : Nat) (i_known : Int32) (l1 : Int32) (res : Int32 × Int32 × (Nat → Int32) × (Nat → Int32) × (Nat → Int32) × (Nat → Int32) × (Nat → Int32) × (Nat → Int32) × (Nat → Int32) × (Nat → Int32)) (kf : Int32 → Int32 → (Nat → Int32) → (Nat → Int32) → (Nat → Int32) → (Nat → Int32) → (Nat → Int32) → (Nat → Int32) → (Nat → Int32) → (Nat → Int32) → Option (Int32 × Int32 × (Nat → Int32) × (Nat → Int32) × (Nat → Int32) × (Nat → Int32) × (Nat → Int32) × (Nat → Int32) × (Nat → Int32) × (Nat → Int32))) : Prop := ∀ (i_nextLeaf : Int32) (i_nextSum : Int32) (v_lengths : Nat → Int32) (v_halves : Nat → Int32) (v_leaves : Nat → Int32) (v_sorted : Nat → Int32) (v_starts : Nat → Int32) (v_sums : Nat → Int32) (v_above : Nat → Int32) (v_depths : Nat → Int32), kf i_nextLeaf i_nextSum v_lengths v_halves v_leaves v_sorted v_starts v_sums v_above v_depths = some res → ∀ (H : Heap) (locs : List Loc) (ls : Array Slot), lv_has ls 3 [(0, .ref a_this), (1, .int l1)] → va_P D classes [(a_this, .inr (9, [.ref a_lengths, .ref a_halves, .ref a_leaves, .ref a_sorted, .ref a_starts, .ref a_sums, .ref a_above, .ref a_depths, .int i_known, .int i_nextLeaf, .int i_nextSum])), (a_lengths, .inl (cI, 256, .inl v_lengths)), (a_halves, .inl (cI, 256, .inl v_halves)), (a_leaves, .inl (cI, 256, .inl v_leaves)), (a_sorted, .inl (cI, 256, .inl v_sorted)), (a_starts, .inl (cI, 257, .inl v_starts)), (a_sums, .inl (cI, 512, .inl v_sums)), (a_above, .inl (cI, 512, .inl v_above)), (a_depths, .inl (cI, 512, .inl v_depths))] H → va_D A [(a_this, .inr (9, [.ref a_lengths, .ref a_halves, .ref a_leaves, .ref a_sorted, .ref a_starts, .ref a_sums, .ref a_above, .ref a_depths, .int i_known, .int i_nextLeaf, .int i_nextSum])), (a_lengths, .inl (cI, 256, .inl v_lengths)), (a_halves, .inl (cI, 256, .inl v_halves)), (a_leaves, .inl (cI, 256, .inl v_leaves)), (a_sorted, .inl (cI, 256, .inl v_sorted)), (a_starts, .inl (cI, 257, .inl v_starts)), (a_sums, .inl (cI, 512, .inl v_sums)), (a_above, .inl (cI, 512, .inl v_above)), (a_depths, .inl (cI, 512, .inl v_depths))] → va_S A s.heap H locs → W p l e R_Tree_grow s m args below meth c H locs 0 0 Q (F0 m 0 ls [])
set_option maxHeartbeats 4000000 in
set_option maxRecDepth 100000 in
theorem w_Tree_grow_b2 {p : Program} {l : Launch} {e : Env} {s : State} {m : MethodId} {args : Array Value} {below : List Frame} {meth : Method} {c : Code} {Q : State → Prop} {A : Nat → Prop} {D : va_G} {cI cL cZ : ClassId} {a_this : Nat} {a_lengths : Nat} {a_halves : Nat} {a_leaves : Nat} {a_sorted : Nat} {a_starts : Nat} {a_sums : Nat} {a_above : Nat} {a_depths : Nat} {i_known : Int32} {l1 : Int32} {N : Nat} {res : Int32 × Int32 × (Nat → Int32) × (Nat → Int32) × (Nat → Int32) × (Nat → Int32) × (Nat → Int32) × (Nat → Int32) × (Nat → Int32) × (Nat → Int32)}  (C : Cx p s m args c b_Tree_grow 3 "PrefixMill$Tree" D [(cI, .int), (cL, .long), (cZ, .boolean)] A) (hret : E_Tree_grow p l e s m args below meth c Q A D cI cL cZ a_this a_lengths a_halves a_leaves a_sorted a_starts a_sums a_above a_depths i_known l1 res)  : ∀ z : Nat, I_Tree_grow_b2 p l e s m args below meth c Q A D cI cL cZ a_this a_lengths a_halves a_leaves a_sorted a_starts a_sums a_above a_depths i_known l1 res (f_Tree_grow_b2 N i_known l1  z) := by
  obtain ⟨hx, hb, hml, hown, hts, hK, hA⟩ := C
  intro z
  induction z with
  | zero => intro l2 i_nextLeaf i_nextSum v_lengths v_halves v_leaves v_sorted v_starts v_sums v_above v_depths h; cases h
  | succ z ih =>
    intro l2 i_nextLeaf i_nextSum v_lengths v_halves v_leaves v_sorted v_starts v_sums v_above v_depths h H locs ls hl hP hD hS
    refine lv_iload_n hx hb d_Tree_grow_2 rfl (lv_at hl 2 rfl) ?_
    refine lv_bipush (v := 16) hx hb d_Tree_grow_3 (by decide) ?_
    refine lv_icmp_gt (tgt := 35) hx hb d_Tree_grow_5 (by decide) (fun c_1 => ?_) (fun c_1 => ?_)
    · replace h := if_t h c_1
      exact hret _ _ _ _ i_nextLeaf i_nextSum v_lengths v_halves v_leaves v_sorted v_starts v_sums v_above v_depths h d_Tree_grow_35 hP hD hS
    · replace h := if_f h c_1
      refine lv_aload_n hx hb d_Tree_grow_8 rfl (lv_at hl 0 rfl) ?_
      obtain ⟨v_leaves_2, v_sorted_3, v_starts_4, hc_5, h⟩ := bd3_s h
      have hPc := hP.sub (ws' := [(a_this, .inr (9, [.ref a_lengths, .ref a_halves, .ref a_leaves, .ref a_sorted, .ref a_starts, .ref a_sums, .ref a_above, .ref a_depths, .int i_known, .int i_nextLeaf, .int i_nextSum])), (a_halves, .inl (cI, 256, .inl v_halves)), (a_leaves, .inl (cI, 256, .inl v_leaves)), (a_sorted, .inl (cI, 256, .inl v_sorted)), (a_starts, .inl (cI, 257, .inl v_starts))]) [0, 2, 3, 4, 5] rfl
      have hDc := hD.sub (ws' := [(a_this, .inr (9, [.ref a_lengths, .ref a_halves, .ref a_leaves, .ref a_sorted, .ref a_starts, .ref a_sums, .ref a_above, .ref a_depths, .int i_known, .int i_nextLeaf, .int i_nextSum])), (a_halves, .inl (cI, 256, .inl v_halves)), (a_leaves, .inl (cI, 256, .inl v_leaves)), (a_sorted, .inl (cI, 256, .inl v_sorted)), (a_starts, .inl (cI, 257, .inl v_starts))]) [0, 2, 3, 4, 5] (by decide) rfl
      have hFc := va_free (wc := [(a_this, .inr (9, [.ref a_lengths, .ref a_halves, .ref a_leaves, .ref a_sorted, .ref a_starts, .ref a_sums, .ref a_above, .ref a_depths, .int i_known, .int i_nextLeaf, .int i_nextSum])), (a_halves, .inl (cI, 256, .inl v_halves)), (a_leaves, .inl (cI, 256, .inl v_leaves)), (a_sorted, .inl (cI, 256, .inl v_sorted)), (a_starts, .inl (cI, 257, .inl v_starts))]) hD hS hA [0, 2, 3, 4, 5] rfl
      refine va_callv (va_runV (As := []) (rest := []) ⟨hx, hb, hml, hown, hts⟩ (c_Tree_sortLeaves l D cI cL cZ H.size N a_this a_halves a_leaves a_sorted a_starts a_lengths a_sums a_above a_depths i_known i_nextLeaf i_nextSum v_halves v_leaves v_sorted v_starts v_leaves_2 v_sorted_3 v_starts_4 hc_5) ⟨(my_cb 0 hts m_446 rfl rfl (hts _ m_69) (hts _ m_443) (by decide +kernel) ⟨Nat.le_of_ble_eq_true rfl, Nat.le_of_ble_eq_true rfl⟩), hts _ m_445, hts _ m_0⟩ ⟨fun a U g mk q => by obtain ⟨q0, q1, qP, qK, qD⟩ := q; exact ⟨q0, q1, qP, va_K.moved (u := U) (U := U.calling g mk a) (Vm.Alike.refl U.vm) qK, qD⟩, va_recv hK hPc (ci := 9) (q0 := 0) rfl rfl, fun U hU hW => ⟨rfl, by rw [hU], by rw [hU]; exact hPc, va_K.moved hW.alike hK, hDc.weaken (fun _ _ _ _ => trivial)⟩⟩ rfl rfl hl.1 rfl (lv_room (Nat.le_of_ble_eq_true rfl)) d_Tree_grow_9 ⟨Nat.zero_le _, Nat.zero_le _⟩) hS (fun q _ h => hFc q h) hFc (fun u t H1 locs ht hvm hw hB hz1 hk1 hS => ?_)
      obtain ⟨hP1, hK1, hD1⟩ := hB
      rw [ht] at hP1
      obtain ⟨hP, hD⟩ := va_join (wr := [(a_lengths, .inl (cI, 256, .inl v_lengths)), (a_sums, .inl (cI, 512, .inl v_sums)), (a_above, .inl (cI, 512, .inl v_above)), (a_depths, .inl (cI, 512, .inl v_depths))]) (w1 := [(a_this, .inr (9, [.ref a_lengths, .ref a_halves, .ref a_leaves, .ref a_sorted, .ref a_starts, .ref a_sums, .ref a_above, .ref a_depths, .int i_known, .int i_nextLeaf, .int i_nextSum])), (a_halves, .inl (cI, 256, .inl v_halves)), (a_leaves, .inl (cI, 256, .inl v_leaves_2)), (a_sorted, .inl (cI, 256, .inl v_sorted_3)), (a_starts, .inl (cI, 257, .inl v_starts_4))]) hP hD [0, 2, 3, 4, 5] [1, 6, 7, 8] rfl rfl (by decide) (by decide) hk1 hFc hP1 hD1
      clear hPc hDc hFc hk1 hP1 hD1 hK1
      generalize H1 = H at hP hS ⊢
      have hP : va_P D classes [(a_this, .inr (9, [.ref a_lengths, .ref a_halves, .ref a_leaves, .ref a_sorted, .ref a_starts, .ref a_sums, .ref a_above, .ref a_depths, .int i_known, .int i_nextLeaf, .int i_nextSum])), (a_lengths, .inl (cI, 256, .inl v_lengths)), (a_halves, .inl (cI, 256, .inl v_halves)), (a_leaves, .inl (cI, 256, .inl v_leaves_2)), (a_sorted, .inl (cI, 256, .inl v_sorted_3)), (a_starts, .inl (cI, 257, .inl v_starts_4)), (a_sums, .inl (cI, 512, .inl v_sums)), (a_above, .inl (cI, 512, .inl v_above)), (a_depths, .inl (cI, 512, .inl v_depths))] H := hP.sub [4, 0, 5, 6, 7, 8, 1, 2, 3] rfl
      have hD : va_D A [(a_this, .inr (9, [.ref a_lengths, .ref a_halves, .ref a_leaves, .ref a_sorted, .ref a_starts, .ref a_sums, .ref a_above, .ref a_depths, .int i_known, .int i_nextLeaf, .int i_nextSum])), (a_lengths, .inl (cI, 256, .inl v_lengths)), (a_halves, .inl (cI, 256, .inl v_halves)), (a_leaves, .inl (cI, 256, .inl v_leaves_2)), (a_sorted, .inl (cI, 256, .inl v_sorted_3)), (a_starts, .inl (cI, 257, .inl v_starts_4)), (a_sums, .inl (cI, 512, .inl v_sums)), (a_above, .inl (cI, 512, .inl v_above)), (a_depths, .inl (cI, 512, .inl v_depths))] := hD.sub [4, 0, 5, 6, 7, 8, 1, 2, 3] (by decide) rfl
      refine lv_aload_n hx hb d_Tree_grow_12 rfl (lv_at hl 0 rfl) ?_
      obtain ⟨i_nextLeaf_6, i_nextSum_7, v_sums_8, v_above_9, hc_10, h⟩ := bd4_s h
      have hPc := hP.sub (ws' := [(a_this, .inr (9, [.ref a_lengths, .ref a_halves, .ref a_leaves, .ref a_sorted, .ref a_starts, .ref a_sums, .ref a_above, .ref a_depths, .int i_known, .int i_nextLeaf, .int i_nextSum])), (a_halves, .inl (cI, 256, .inl v_halves)), (a_leaves, .inl (cI, 256, .inl v_leaves_2)), (a_sums, .inl (cI, 512, .inl v_sums)), (a_above, .inl (cI, 512, .inl v_above))]) [0, 2, 3, 6, 7] rfl
      have hDc := hD.sub (ws' := [(a_this, .inr (9, [.ref a_lengths, .ref a_halves, .ref a_leaves, .ref a_sorted, .ref a_starts, .ref a_sums, .ref a_above, .ref a_depths, .int i_known, .int i_nextLeaf, .int i_nextSum])), (a_halves, .inl (cI, 256, .inl v_halves)), (a_leaves, .inl (cI, 256, .inl v_leaves_2)), (a_sums, .inl (cI, 512, .inl v_sums)), (a_above, .inl (cI, 512, .inl v_above))]) [0, 2, 3, 6, 7] (by decide) rfl
      have hFc := va_free (wc := [(a_this, .inr (9, [.ref a_lengths, .ref a_halves, .ref a_leaves, .ref a_sorted, .ref a_starts, .ref a_sums, .ref a_above, .ref a_depths, .int i_known, .int i_nextLeaf, .int i_nextSum])), (a_halves, .inl (cI, 256, .inl v_halves)), (a_leaves, .inl (cI, 256, .inl v_leaves_2)), (a_sums, .inl (cI, 512, .inl v_sums)), (a_above, .inl (cI, 512, .inl v_above))]) hD hS hA [0, 2, 3, 6, 7] rfl
      refine va_callv (va_runV (As := []) (rest := []) ⟨hx, hb, hml, hown, hts⟩ (c_Tree_join l D cI cL cZ H.size N a_this a_halves a_leaves a_sums a_above a_lengths a_sorted a_starts a_depths i_known i_nextLeaf i_nextSum v_halves v_leaves_2 v_sums v_above i_nextLeaf_6 i_nextSum_7 v_sums_8 v_above_9 hc_10) ⟨(my_cb 0 hts m_455 rfl rfl (hts _ m_69) (hts _ m_452) (by decide +kernel) ⟨Nat.le_of_ble_eq_true rfl, Nat.le_of_ble_eq_true rfl⟩), hts _ m_454, hts _ m_2⟩ ⟨fun a U g mk q => by obtain ⟨q0, q1, qP, qK, qD⟩ := q; exact ⟨q0, q1, qP, va_K.moved (u := U) (U := U.calling g mk a) (Vm.Alike.refl U.vm) qK, qD⟩, va_recv hK hPc (ci := 9) (q0 := 0) rfl rfl, fun U hU hW => ⟨rfl, by rw [hU], by rw [hU]; exact hPc, va_K.moved hW.alike hK, hDc.weaken (fun _ _ _ _ => trivial)⟩⟩ rfl rfl hl.1 rfl (lv_room (Nat.le_of_ble_eq_true rfl)) d_Tree_grow_13 ⟨Nat.zero_le _, Nat.zero_le _⟩) hS (fun q _ h => hFc q h) hFc (fun u t H1 locs ht hvm hw hB hz1 hk1 hS => ?_)
      obtain ⟨hP1, hK1, hD1⟩ := hB
      rw [ht] at hP1
      obtain ⟨hP, hD⟩ := va_join (wr := [(a_lengths, .inl (cI, 256, .inl v_lengths)), (a_sorted, .inl (cI, 256, .inl v_sorted_3)), (a_starts, .inl (cI, 257, .inl v_starts_4)), (a_depths, .inl (cI, 512, .inl v_depths))]) (w1 := [(a_this, .inr (9, [.ref a_lengths, .ref a_halves, .ref a_leaves, .ref a_sorted, .ref a_starts, .ref a_sums, .ref a_above, .ref a_depths, .int i_known, .int i_nextLeaf_6, .int i_nextSum_7])), (a_halves, .inl (cI, 256, .inl v_halves)), (a_leaves, .inl (cI, 256, .inl v_leaves_2)), (a_sums, .inl (cI, 512, .inl v_sums_8)), (a_above, .inl (cI, 512, .inl v_above_9))]) hP hD [0, 2, 3, 6, 7] [1, 4, 5, 8] rfl rfl (by decide) (by decide) hk1 hFc hP1 hD1
      clear hPc hDc hFc hk1 hP1 hD1 hK1
      generalize H1 = H at hP hS ⊢
      have hP : va_P D classes [(a_this, .inr (9, [.ref a_lengths, .ref a_halves, .ref a_leaves, .ref a_sorted, .ref a_starts, .ref a_sums, .ref a_above, .ref a_depths, .int i_known, .int i_nextLeaf_6, .int i_nextSum_7])), (a_lengths, .inl (cI, 256, .inl v_lengths)), (a_halves, .inl (cI, 256, .inl v_halves)), (a_leaves, .inl (cI, 256, .inl v_leaves_2)), (a_sorted, .inl (cI, 256, .inl v_sorted_3)), (a_starts, .inl (cI, 257, .inl v_starts_4)), (a_sums, .inl (cI, 512, .inl v_sums_8)), (a_above, .inl (cI, 512, .inl v_above_9)), (a_depths, .inl (cI, 512, .inl v_depths))] H := hP.sub [4, 0, 5, 6, 1, 2, 7, 8, 3] rfl
      have hD : va_D A [(a_this, .inr (9, [.ref a_lengths, .ref a_halves, .ref a_leaves, .ref a_sorted, .ref a_starts, .ref a_sums, .ref a_above, .ref a_depths, .int i_known, .int i_nextLeaf_6, .int i_nextSum_7])), (a_lengths, .inl (cI, 256, .inl v_lengths)), (a_halves, .inl (cI, 256, .inl v_halves)), (a_leaves, .inl (cI, 256, .inl v_leaves_2)), (a_sorted, .inl (cI, 256, .inl v_sorted_3)), (a_starts, .inl (cI, 257, .inl v_starts_4)), (a_sums, .inl (cI, 512, .inl v_sums_8)), (a_above, .inl (cI, 512, .inl v_above_9)), (a_depths, .inl (cI, 512, .inl v_depths))] := hD.sub [4, 0, 5, 6, 1, 2, 7, 8, 3] (by decide) rfl
      refine lv_aload_n hx hb d_Tree_grow_16 rfl (lv_at hl 0 rfl) ?_
      obtain ⟨r_11, v_lengths_12, v_depths_13, hc_14, h⟩ := bd3_s h
      have hPc := hP.sub (ws' := [(a_this, .inr (9, [.ref a_lengths, .ref a_halves, .ref a_leaves, .ref a_sorted, .ref a_starts, .ref a_sums, .ref a_above, .ref a_depths, .int i_known, .int i_nextLeaf_6, .int i_nextSum_7])), (a_lengths, .inl (cI, 256, .inl v_lengths)), (a_leaves, .inl (cI, 256, .inl v_leaves_2)), (a_above, .inl (cI, 512, .inl v_above_9)), (a_depths, .inl (cI, 512, .inl v_depths))]) [0, 1, 3, 7, 8] rfl
      have hDc := hD.sub (ws' := [(a_this, .inr (9, [.ref a_lengths, .ref a_halves, .ref a_leaves, .ref a_sorted, .ref a_starts, .ref a_sums, .ref a_above, .ref a_depths, .int i_known, .int i_nextLeaf_6, .int i_nextSum_7])), (a_lengths, .inl (cI, 256, .inl v_lengths)), (a_leaves, .inl (cI, 256, .inl v_leaves_2)), (a_above, .inl (cI, 512, .inl v_above_9)), (a_depths, .inl (cI, 512, .inl v_depths))]) [0, 1, 3, 7, 8] (by decide) rfl
      have hFc := va_free (wc := [(a_this, .inr (9, [.ref a_lengths, .ref a_halves, .ref a_leaves, .ref a_sorted, .ref a_starts, .ref a_sums, .ref a_above, .ref a_depths, .int i_known, .int i_nextLeaf_6, .int i_nextSum_7])), (a_lengths, .inl (cI, 256, .inl v_lengths)), (a_leaves, .inl (cI, 256, .inl v_leaves_2)), (a_above, .inl (cI, 512, .inl v_above_9)), (a_depths, .inl (cI, 512, .inl v_depths))]) hD hS hA [0, 1, 3, 7, 8] rfl
      refine va_calli (va_runV (As := []) (rest := []) ⟨hx, hb, hml, hown, hts⟩ (c_Tree_measure l D cI cL cZ H.size N a_this a_lengths a_leaves a_above a_depths a_halves a_sorted a_starts a_sums i_known i_nextLeaf_6 i_nextSum_7 v_lengths v_leaves_2 v_above_9 v_depths r_11 v_lengths_12 v_depths_13 hc_14) ⟨(my_cb 0 hts m_463 rfl rfl (hts _ m_69) (hts _ m_460) (by decide +kernel) ⟨Nat.le_of_ble_eq_true rfl, Nat.le_of_ble_eq_true rfl⟩), hts _ m_462, hts _ m_4⟩ ⟨fun a U g mk q => by obtain ⟨q0, q1, qP, qK, qD⟩ := q; exact ⟨q0, q1, qP, va_K.moved (u := U) (U := U.calling g mk a) (Vm.Alike.refl U.vm) qK, qD⟩, va_recv hK hPc (ci := 9) (q0 := 0) rfl rfl, fun U hU hW => ⟨rfl, by rw [hU], by rw [hU]; exact hPc, va_K.moved hW.alike hK, hDc.weaken (fun _ _ _ _ => trivial)⟩⟩ rfl rfl hl.1 rfl (lv_room (Nat.le_of_ble_eq_true rfl)) d_Tree_grow_17 ⟨Nat.zero_le _, Nat.zero_le _⟩) hS (fun q _ h => hFc q h) hFc (fun rr u t H1 locs ht hvm hw hB hz1 hk1 hS => ?_)
      obtain ⟨hP1, hK1, hD1⟩ := hB
      rw [ht] at hP1
      subst hw
      obtain ⟨hP, hD⟩ := va_join (wr := [(a_halves, .inl (cI, 256, .inl v_halves)), (a_sorted, .inl (cI, 256, .inl v_sorted_3)), (a_starts, .inl (cI, 257, .inl v_starts_4)), (a_sums, .inl (cI, 512, .inl v_sums_8))]) (w1 := [(a_this, .inr (9, [.ref a_lengths, .ref a_halves, .ref a_leaves, .ref a_sorted, .ref a_starts, .ref a_sums, .ref a_above, .ref a_depths, .int i_known, .int i_nextLeaf_6, .int i_nextSum_7])), (a_lengths, .inl (cI, 256, .inl v_lengths_12)), (a_leaves, .inl (cI, 256, .inl v_leaves_2)), (a_above, .inl (cI, 512, .inl v_above_9)), (a_depths, .inl (cI, 512, .inl v_depths_13))]) hP hD [0, 1, 3, 7, 8] [2, 4, 5, 6] rfl rfl (by decide) (by decide) hk1 hFc hP1 hD1
      clear hPc hDc hFc hk1 hP1 hD1 hK1
      generalize H1 = H at hP hS ⊢
      have hP : va_P D classes [(a_this, .inr (9, [.ref a_lengths, .ref a_halves, .ref a_leaves, .ref a_sorted, .ref a_starts, .ref a_sums, .ref a_above, .ref a_depths, .int i_known, .int i_nextLeaf_6, .int i_nextSum_7])), (a_lengths, .inl (cI, 256, .inl v_lengths_12)), (a_halves, .inl (cI, 256, .inl v_halves)), (a_leaves, .inl (cI, 256, .inl v_leaves_2)), (a_sorted, .inl (cI, 256, .inl v_sorted_3)), (a_starts, .inl (cI, 257, .inl v_starts_4)), (a_sums, .inl (cI, 512, .inl v_sums_8)), (a_above, .inl (cI, 512, .inl v_above_9)), (a_depths, .inl (cI, 512, .inl v_depths_13))] H := hP.sub [4, 5, 0, 6, 1, 2, 3, 7, 8] rfl
      have hD : va_D A [(a_this, .inr (9, [.ref a_lengths, .ref a_halves, .ref a_leaves, .ref a_sorted, .ref a_starts, .ref a_sums, .ref a_above, .ref a_depths, .int i_known, .int i_nextLeaf_6, .int i_nextSum_7])), (a_lengths, .inl (cI, 256, .inl v_lengths_12)), (a_halves, .inl (cI, 256, .inl v_halves)), (a_leaves, .inl (cI, 256, .inl v_leaves_2)), (a_sorted, .inl (cI, 256, .inl v_sorted_3)), (a_starts, .inl (cI, 257, .inl v_starts_4)), (a_sums, .inl (cI, 512, .inl v_sums_8)), (a_above, .inl (cI, 512, .inl v_above_9)), (a_depths, .inl (cI, 512, .inl v_depths_13))] := hD.sub [4, 5, 0, 6, 1, 2, 3, 7, 8] (by decide) rfl
      refine lv_iload_n hx hb d_Tree_grow_20 rfl (lv_at hl 1 rfl) ?_
      refine lv_icmp_gt (tgt := 25) hx hb d_Tree_grow_21 (by decide) (fun c_15 => ?_) (fun c_15 => ?_)
      · replace h := if_t h c_15
        refine lv_aload_n hx hb d_Tree_grow_25 rfl (lv_at hl 0 rfl) ?_
        obtain ⟨v_halves_16, hc_17, h⟩ := bd1_s h
        have hPc := hP.sub (ws' := [(a_this, .inr (9, [.ref a_lengths, .ref a_halves, .ref a_leaves, .ref a_sorted, .ref a_starts, .ref a_sums, .ref a_above, .ref a_depths, .int i_known, .int i_nextLeaf_6, .int i_nextSum_7])), (a_halves, .inl (cI, 256, .inl v_halves))]) [0, 2] rfl
        have hDc := hD.sub (ws' := [(a_this, .inr (9, [.ref a_lengths, .ref a_halves, .ref a_leaves, .ref a_sorted, .ref a_starts, .ref a_sums, .ref a_above, .ref a_depths, .int i_known, .int i_nextLeaf_6, .int i_nextSum_7])), (a_halves, .inl (cI, 256, .inl v_halves))]) [0, 2] (by decide) rfl
        have hFc := va_free (wc := [(a_this, .inr (9, [.ref a_lengths, .ref a_halves, .ref a_leaves, .ref a_sorted, .ref a_starts, .ref a_sums, .ref a_above, .ref a_depths, .int i_known, .int i_nextLeaf_6, .int i_nextSum_7])), (a_halves, .inl (cI, 256, .inl v_halves))]) hD hS hA [0, 2] rfl
        refine va_callv (va_runV (As := []) (rest := []) ⟨hx, hb, hml, hown, hts⟩ (c_Tree_halve l D cI cL cZ H.size N a_this a_halves a_lengths a_leaves a_sorted a_starts a_sums a_above a_depths i_known i_nextLeaf_6 i_nextSum_7 v_halves v_halves_16 hc_17) ⟨(my_cb 0 hts m_473 rfl rfl (hts _ m_69) (hts _ m_470) (by decide +kernel) ⟨Nat.le_of_ble_eq_true rfl, Nat.le_of_ble_eq_true rfl⟩), hts _ m_472, hts _ m_5⟩ ⟨fun a U g mk q => by obtain ⟨q0, q1, qP, qK, qD⟩ := q; exact ⟨q0, q1, qP, va_K.moved (u := U) (U := U.calling g mk a) (Vm.Alike.refl U.vm) qK, qD⟩, va_recv hK hPc (ci := 9) (q0 := 0) rfl rfl, fun U hU hW => ⟨rfl, by rw [hU], by rw [hU]; exact hPc, va_K.moved hW.alike hK, hDc.weaken (fun _ _ _ _ => trivial)⟩⟩ rfl rfl hl.1 rfl (lv_room (Nat.le_of_ble_eq_true rfl)) d_Tree_grow_26 ⟨Nat.zero_le _, Nat.zero_le _⟩) hS (fun q _ h => hFc q h) hFc (fun u t H1 locs ht hvm hw hB hz1 hk1 hS => ?_)
        obtain ⟨hP1, hK1, hD1⟩ := hB
        rw [ht] at hP1
        obtain ⟨hP, hD⟩ := va_join (wr := [(a_lengths, .inl (cI, 256, .inl v_lengths_12)), (a_leaves, .inl (cI, 256, .inl v_leaves_2)), (a_sorted, .inl (cI, 256, .inl v_sorted_3)), (a_starts, .inl (cI, 257, .inl v_starts_4)), (a_sums, .inl (cI, 512, .inl v_sums_8)), (a_above, .inl (cI, 512, .inl v_above_9)), (a_depths, .inl (cI, 512, .inl v_depths_13))]) (w1 := [(a_this, .inr (9, [.ref a_lengths, .ref a_halves, .ref a_leaves, .ref a_sorted, .ref a_starts, .ref a_sums, .ref a_above, .ref a_depths, .int i_known, .int i_nextLeaf_6, .int i_nextSum_7])), (a_halves, .inl (cI, 256, .inl v_halves_16))]) hP hD [0, 2] [1, 3, 4, 5, 6, 7, 8] rfl rfl (by decide) (by decide) hk1 hFc hP1 hD1
        clear hPc hDc hFc hk1 hP1 hD1 hK1
        generalize H1 = H at hP hS ⊢
        have hP : va_P D classes [(a_this, .inr (9, [.ref a_lengths, .ref a_halves, .ref a_leaves, .ref a_sorted, .ref a_starts, .ref a_sums, .ref a_above, .ref a_depths, .int i_known, .int i_nextLeaf_6, .int i_nextSum_7])), (a_lengths, .inl (cI, 256, .inl v_lengths_12)), (a_halves, .inl (cI, 256, .inl v_halves_16)), (a_leaves, .inl (cI, 256, .inl v_leaves_2)), (a_sorted, .inl (cI, 256, .inl v_sorted_3)), (a_starts, .inl (cI, 257, .inl v_starts_4)), (a_sums, .inl (cI, 512, .inl v_sums_8)), (a_above, .inl (cI, 512, .inl v_above_9)), (a_depths, .inl (cI, 512, .inl v_depths_13))] H := hP.sub [7, 0, 8, 1, 2, 3, 4, 5, 6] rfl
        have hD : va_D A [(a_this, .inr (9, [.ref a_lengths, .ref a_halves, .ref a_leaves, .ref a_sorted, .ref a_starts, .ref a_sums, .ref a_above, .ref a_depths, .int i_known, .int i_nextLeaf_6, .int i_nextSum_7])), (a_lengths, .inl (cI, 256, .inl v_lengths_12)), (a_halves, .inl (cI, 256, .inl v_halves_16)), (a_leaves, .inl (cI, 256, .inl v_leaves_2)), (a_sorted, .inl (cI, 256, .inl v_sorted_3)), (a_starts, .inl (cI, 257, .inl v_starts_4)), (a_sums, .inl (cI, 512, .inl v_sums_8)), (a_above, .inl (cI, 512, .inl v_above_9)), (a_depths, .inl (cI, 512, .inl v_depths_13))] := hD.sub [7, 0, 8, 1, 2, 3, 4, 5, 6] (by decide) rfl
        obtain ⟨l2_18, el2_18⟩ : ∃ y : Int32, y = l2 + 1 := ⟨_, rfl⟩
        replace h := nm_s h el2_18
        refine lv_iinc (v := l2_18) (lv' := [(2, .int l2_18), (0, .ref a_this), (1, .int l1)]) hx hb d_Tree_grow_29 hl (k := 2) rfl (by rw [el2_18]; rfl) (by decide) rfl (fun ls hl => ?_)
        refine lv_goto (tgt := 2) hx hb d_Tree_grow_32 (by decide) ?_
        exact ih _ _ _ _ _ _ _ _ _ _ _ h H locs ls (lv_sub hl [1, 2, 0] rfl) hP hD hS
      · replace h := if_f h c_15
        exact hret _ _ _ _ i_nextLeaf_6 i_nextSum_7 v_lengths_12 v_halves v_leaves_2 v_sorted_3 v_starts_4 v_sums_8 v_above_9 v_depths_13 h d_Tree_grow_24 hP hD hS
set_option maxHeartbeats 4000000 in
set_option maxRecDepth 100000 in
theorem w_Tree_grow_b0 {p : Program} {l : Launch} {e : Env} {s : State} {m : MethodId} {args : Array Value} {below : List Frame} {meth : Method} {c : Code} {Q : State → Prop} {A : Nat → Prop} {D : va_G} {cI cL cZ : ClassId} {a_this : Nat} {a_lengths : Nat} {a_halves : Nat} {a_leaves : Nat} {a_sorted : Nat} {a_starts : Nat} {a_sums : Nat} {a_above : Nat} {a_depths : Nat} {i_known : Int32} {l1 : Int32} {N : Nat} {res : Int32 × Int32 × (Nat → Int32) × (Nat → Int32) × (Nat → Int32) × (Nat → Int32) × (Nat → Int32) × (Nat → Int32) × (Nat → Int32) × (Nat → Int32)}  (C : Cx p s m args c b_Tree_grow 3 "PrefixMill$Tree" D [(cI, .int), (cL, .long), (cZ, .boolean)] A) (hret : E_Tree_grow p l e s m args below meth c Q A D cI cL cZ a_this a_lengths a_halves a_leaves a_sorted a_starts a_sums a_above a_depths i_known l1 res)  : I_Tree_grow_b0 p l e s m args below meth c Q A D cI cL cZ a_this a_lengths a_halves a_leaves a_sorted a_starts a_sums a_above a_depths i_known l1 res (f_Tree_grow N i_known l1 ) := by
  obtain ⟨hx, hb, hml, hown, hts, hK, hA⟩ := C
  intro i_nextLeaf i_nextSum v_lengths v_halves v_leaves v_sorted v_starts v_sums v_above v_depths h H locs ls hl hP hD hS
  unfold f_Tree_grow at h
  refine lv_iconst (v := 0) hx hb d_Tree_grow_0 (by decide) ?_
  refine lv_istore_n (lv' := [(2, .int 0), (0, .ref a_this), (1, .int l1)]) hx hb d_Tree_grow_1 rfl hl (by decide) rfl (fun ls hl => ?_)
  exact w_Tree_grow_b2 ⟨hx, hb, hml, hown, hts, hK, hA⟩ hret  N _ _ _ _ _ _ _ _ _ _ _ h H locs ls (lv_sub hl [1, 2, 0] rfl) hP hD hS
set_option maxHeartbeats 4000000 in
set_option maxRecDepth 100000 in
theorem c_Tree_grow (l : Launch) (D : va_G) (cI cL cZ : ClassId) (sz N : Nat) (a_this : Nat) (a_lengths : Nat) (a_halves : Nat) (a_leaves : Nat) (a_sorted : Nat) (a_starts : Nat) (a_sums : Nat) (a_above : Nat) (a_depths : Nat) (i_known : Int32) (i_nextLeaf : Int32) (i_nextSum : Int32) (v_lengths : Nat → Int32) (v_halves : Nat → Int32) (v_leaves : Nat → Int32) (v_sorted : Nat → Int32) (v_starts : Nat → Int32) (v_sums : Nat → Int32) (v_above : Nat → Int32) (v_depths : Nat → Int32) (l1 : Int32) (i_nextLeaf' : Int32) (i_nextSum' : Int32) (v_lengths' : Nat → Int32) (v_halves' : Nat → Int32) (v_leaves' : Nat → Int32) (v_sorted' : Nat → Int32) (v_starts' : Nat → Int32) (v_sums' : Nat → Int32) (v_above' : Nat → Int32) (v_depths' : Nat → Int32) (h : f_Tree_grow N i_known l1 i_nextLeaf i_nextSum v_lengths v_halves v_leaves v_sorted v_starts v_sums v_above v_depths = some (i_nextLeaf', i_nextSum', v_lengths', v_halves', v_leaves', v_sorted', v_starts', v_sums', v_above', v_depths')) : Met l ({ cls := "PrefixMill$Tree", name := "grow", desc := "(I)V" } : Jvm.MethodName) ws_Tree_grow R_Tree_grow (va_Pc [.ref a_this, .int l1] (fun U => U.heap.size = sz ∧ va_P D classes [(a_this, .inr (9, [.ref a_lengths, .ref a_halves, .ref a_leaves, .ref a_sorted, .ref a_starts, .ref a_sums, .ref a_above, .ref a_depths, .int i_known, .int i_nextLeaf, .int i_nextSum])), (a_lengths, .inl (cI, 256, .inl v_lengths)), (a_halves, .inl (cI, 256, .inl v_halves)), (a_leaves, .inl (cI, 256, .inl v_leaves)), (a_sorted, .inl (cI, 256, .inl v_sorted)), (a_starts, .inl (cI, 257, .inl v_starts)), (a_sums, .inl (cI, 512, .inl v_sums)), (a_above, .inl (cI, 512, .inl v_above)), (a_depths, .inl (cI, 512, .inl v_depths))] U.heap ∧ va_K D classes [(cI, .int), (cL, .long), (cZ, .boolean)] U ∧ va_D (fun _ => True) [(a_this, .inr (9, [.ref a_lengths, .ref a_halves, .ref a_leaves, .ref a_sorted, .ref a_starts, .ref a_sums, .ref a_above, .ref a_depths, .int i_known, .int i_nextLeaf, .int i_nextSum])), (a_lengths, .inl (cI, 256, .inl v_lengths)), (a_halves, .inl (cI, 256, .inl v_halves)), (a_leaves, .inl (cI, 256, .inl v_leaves)), (a_sorted, .inl (cI, 256, .inl v_sorted)), (a_starts, .inl (cI, 257, .inl v_starts)), (a_sums, .inl (cI, 512, .inl v_sums)), (a_above, .inl (cI, 512, .inl v_above)), (a_depths, .inl (cI, 512, .inl v_depths))])) (va_Qv (fun _ : Unit => True) (fun _ t => va_P D classes [(a_this, .inr (9, [.ref a_lengths, .ref a_halves, .ref a_leaves, .ref a_sorted, .ref a_starts, .ref a_sums, .ref a_above, .ref a_depths, .int i_known, .int i_nextLeaf', .int i_nextSum'])), (a_lengths, .inl (cI, 256, .inl v_lengths')), (a_halves, .inl (cI, 256, .inl v_halves')), (a_leaves, .inl (cI, 256, .inl v_leaves')), (a_sorted, .inl (cI, 256, .inl v_sorted')), (a_starts, .inl (cI, 257, .inl v_starts')), (a_sums, .inl (cI, 512, .inl v_sums')), (a_above, .inl (cI, 512, .inl v_above')), (a_depths, .inl (cI, 512, .inl v_depths'))] t.heap ∧ va_K D classes [(cI, .int), (cL, .long), (cZ, .boolean)] t ∧ va_D (va_A [(a_this, .inr (9, [.ref a_lengths, .ref a_halves, .ref a_leaves, .ref a_sorted, .ref a_starts, .ref a_sums, .ref a_above, .ref a_depths, .int i_known, .int i_nextLeaf, .int i_nextSum])), (a_lengths, .inl (cI, 256, .inl v_lengths)), (a_halves, .inl (cI, 256, .inl v_halves)), (a_leaves, .inl (cI, 256, .inl v_leaves)), (a_sorted, .inl (cI, 256, .inl v_sorted)), (a_starts, .inl (cI, 257, .inl v_starts)), (a_sums, .inl (cI, 512, .inl v_sums)), (a_above, .inl (cI, 512, .inl v_above)), (a_depths, .inl (cI, 512, .inl v_depths))] sz) [(a_this, .inr (9, [.ref a_lengths, .ref a_halves, .ref a_leaves, .ref a_sorted, .ref a_starts, .ref a_sums, .ref a_above, .ref a_depths, .int i_known, .int i_nextLeaf', .int i_nextSum'])), (a_lengths, .inl (cI, 256, .inl v_lengths')), (a_halves, .inl (cI, 256, .inl v_halves')), (a_leaves, .inl (cI, 256, .inl v_leaves')), (a_sorted, .inl (cI, 256, .inl v_sorted')), (a_starts, .inl (cI, 257, .inl v_starts')), (a_sums, .inl (cI, 512, .inl v_sums')), (a_above, .inl (cI, 512, .inl v_above')), (a_depths, .inl (cI, 512, .inl v_depths'))]) (va_A [(a_this, .inr (9, [.ref a_lengths, .ref a_halves, .ref a_leaves, .ref a_sorted, .ref a_starts, .ref a_sums, .ref a_above, .ref a_depths, .int i_known, .int i_nextLeaf, .int i_nextSum])), (a_lengths, .inl (cI, 256, .inl v_lengths)), (a_halves, .inl (cI, 256, .inl v_halves)), (a_leaves, .inl (cI, 256, .inl v_leaves)), (a_sorted, .inl (cI, 256, .inl v_sorted)), (a_starts, .inl (cI, 257, .inl v_starts)), (a_sums, .inl (cI, 512, .inl v_sums)), (a_above, .inl (cI, 512, .inl v_above)), (a_depths, .inl (cI, 512, .inl v_depths))] sz)) 0 0 (va_A [(a_this, .inr (9, [.ref a_lengths, .ref a_halves, .ref a_leaves, .ref a_sorted, .ref a_starts, .ref a_sums, .ref a_above, .ref a_depths, .int i_known, .int i_nextLeaf, .int i_nextSum])), (a_lengths, .inl (cI, 256, .inl v_lengths)), (a_halves, .inl (cI, 256, .inl v_halves)), (a_leaves, .inl (cI, 256, .inl v_leaves)), (a_sorted, .inl (cI, 256, .inl v_sorted)), (a_starts, .inl (cI, 257, .inl v_starts)), (a_sums, .inl (cI, 512, .inl v_sums)), (a_above, .inl (cI, 512, .inl v_above)), (a_depths, .inl (cI, 512, .inl v_depths))] sz) := by
  refine Met.ofW (cc := b_Tree_grow) (maxL := 3) (ret := none) (by decide) rfl ?_
  intro p e s m args below meth c s₁ B hml hv
  obtain ⟨rfl, hsz, hP, hK, hD0⟩ := hv
  have hx := B.exec
  have hb := B.bytes
  have hr := B.returns
  have hts0 := atoms_spec (ws := ws_Tree_grow) B.pre
  have hts := gd_tl hts0
  clear hts0
  have hown : s.vm.findClass "PrefixMill$Tree" = some m.cls := findClass_of_methodNamed B.named
  have hlocks := B.notSynchronized
  subst hsz
  have hD := hD0.self (sz := s.heap.size)
  generalize hAe : va_A [(a_this, .inr (9, [.ref a_lengths, .ref a_halves, .ref a_leaves, .ref a_sorted, .ref a_starts, .ref a_sums, .ref a_above, .ref a_depths, .int i_known, .int i_nextLeaf, .int i_nextSum])), (a_lengths, .inl (cI, 256, .inl v_lengths)), (a_halves, .inl (cI, 256, .inl v_halves)), (a_leaves, .inl (cI, 256, .inl v_leaves)), (a_sorted, .inl (cI, 256, .inl v_sorted)), (a_starts, .inl (cI, 257, .inl v_starts)), (a_sums, .inl (cI, 512, .inl v_sums)), (a_above, .inl (cI, 512, .inl v_above)), (a_depths, .inl (cI, 512, .inl v_depths))] s.heap.size = A at hD ⊢
  have hA : ∀ q : Nat, s.heap.size ≤ q → A q := fun q h => by rw [← hAe]; exact Or.inr h
  have hS : va_S A s.heap s.heap [] := va_S.rf
  have hP : va_P D classes [(a_this, .inr (9, [.ref a_lengths, .ref a_halves, .ref a_leaves, .ref a_sorted, .ref a_starts, .ref a_sums, .ref a_above, .ref a_depths, .int i_known, .int i_nextLeaf, .int i_nextSum])), (a_lengths, .inl (cI, 256, .inl v_lengths)), (a_halves, .inl (cI, 256, .inl v_halves)), (a_leaves, .inl (cI, 256, .inl v_leaves)), (a_sorted, .inl (cI, 256, .inl v_sorted)), (a_starts, .inl (cI, 257, .inl v_starts)), (a_sums, .inl (cI, 512, .inl v_sums)), (a_above, .inl (cI, 512, .inl v_above)), (a_depths, .inl (cI, 512, .inl v_depths))] s.heap := hP
  have hl := lv_entry ([.ref a_this, .int l1]) (n := 3) (Nat.le_of_ble_eq_true rfl)
  rw [lg_entry_eq]
  generalize (lg_sl ([.ref a_this, .int l1]) ++ List.replicate (3 - (lg_sl ([.ref a_this, .int l1])).length) Slot.unset).toArray = ls at hl ⊢
  have hl : lv_has ls 3 [(0, .ref a_this), (1, .int l1)] := hl
  have C : Cx p s m ([.ref a_this, .int l1] : List Value).toArray c b_Tree_grow 3 "PrefixMill$Tree" D [(cI, .int), (cL, .long), (cZ, .boolean)] A := ⟨hx, hb, hml, hown, hts, hK, hA⟩
  refine w_Tree_grow_b0 (res := (i_nextLeaf', i_nextSum', v_lengths', v_halves', v_leaves', v_sorted', v_starts', v_sums', v_above', v_depths')) C ?_ _ _ _ _ _ _ _ _ _ _ h s.heap [] ls hl hP hD hS
  intro pc9 H9 locs9 ls9 i_nextLeaf9 i_nextSum9 v_lengths9 v_halves9 v_leaves9 v_sorted9 v_starts9 v_sums9 v_above9 v_depths9 e9 d9 hP9 hD9 hS9
  cases e9
  exact W.vret hx hb hr (fun t ht hW => ⟨⟨(), rfl, trivial, by rw [ht]; exact hP9, va_K.moved hW.alike hK, hD9⟩, hS9.F ht⟩) hS9.2.2 d9
