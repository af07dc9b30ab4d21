abbrev b_PM_lengths : ByteArray := prog_1_method_10_code
def ws_PM_lengths : List Cond := .code ({ cls := "PrefixMill", name := "lengths", desc := "(I)I" } : Jvm.MethodName) b_PM_lengths 3 (some .int) :: tt
theorem d_PM_lengths_0 : decode b_PM_lengths 0 = .ok (.iload_n 1, 1) := by decide +kernel
theorem d_PM_lengths_1 : decode b_PM_lengths 1 = .ok (.iconst 1, 1) := by decide +kernel
theorem d_PM_lengths_2 : decode b_PM_lengths 2 = .ok (.if_icmp .lt 9, 3) := by decide +kernel
theorem d_PM_lengths_5 : decode b_PM_lengths 5 = .ok (.iload_n 1, 1) := by decide +kernel
theorem d_PM_lengths_6 : decode b_PM_lengths 6 = .ok (.bipush 11, 2) := by decide +kernel
theorem d_PM_lengths_8 : decode b_PM_lengths 8 = .ok (.if_icmp .le 5, 3) := by decide +kernel
theorem d_PM_lengths_11 : decode b_PM_lengths 11 = .ok (.iconst (-1), 1) := by decide +kernel
theorem d_PM_lengths_12 : decode b_PM_lengths 12 = .ok (.ireturn, 1) := by decide +kernel
theorem d_PM_lengths_13 : decode b_PM_lengths 13 = .ok (.aload_n 0, 1) := by decide +kernel
theorem d_PM_lengths_14 : decode b_PM_lengths 14 = .ok (.getfield 35, 3) := by decide +kernel
theorem d_PM_lengths_17 : decode b_PM_lengths 17 = .ok (.aload_n 0, 1) := by decide +kernel
theorem d_PM_lengths_18 : decode b_PM_lengths 18 = .ok (.getfield 21, 3) := by decide +kernel
theorem d_PM_lengths_21 : decode b_PM_lengths 21 = .ok (.invokevirtual 92, 3) := by decide +kernel
theorem d_PM_lengths_24 : decode b_PM_lengths 24 = .ok (.istore_n 2, 1) := by decide +kernel
theorem d_PM_lengths_25 : decode b_PM_lengths 25 = .ok (.iload_n 2, 1) := by decide +kernel
theorem d_PM_lengths_26 : decode b_PM_lengths 26 = .ok (.iconst 2, 1) := by decide +kernel
theorem d_PM_lengths_27 : decode b_PM_lengths 27 = .ok (.if_icmp .lt 10, 3) := by decide +kernel
theorem d_PM_lengths_30 : decode b_PM_lengths 30 = .ok (.iload_n 2, 1) := by decide +kernel
theorem d_PM_lengths_31 : decode b_PM_lengths 31 = .ok (.iconst 1, 1) := by decide +kernel
theorem d_PM_lengths_32 : decode b_PM_lengths 32 = .ok (.iload_n 1, 1) := by decide +kernel
theorem d_PM_lengths_33 : decode b_PM_lengths 33 = .ok (.ishl, 1) := by decide +kernel
theorem d_PM_lengths_34 : decode b_PM_lengths 34 = .ok (.if_icmp .le 6, 3) := by decide +kernel
theorem d_PM_lengths_37 : decode b_PM_lengths 37 = .ok (.bipush (-2), 2) := by decide +kernel
theorem d_PM_lengths_39 : decode b_PM_lengths 39 = .ok (.ireturn, 1) := by decide +kernel
theorem d_PM_lengths_40 : decode b_PM_lengths 40 = .ok (.aload_n 0, 1) := by decide +kernel
theorem d_PM_lengths_41 : decode b_PM_lengths 41 = .ok (.getfield 35, 3) := by decide +kernel
theorem d_PM_lengths_44 : decode b_PM_lengths 44 = .ok (.iload_n 1, 1) := by decide +kernel
theorem d_PM_lengths_45 : decode b_PM_lengths 45 = .ok (.invokevirtual 96, 3) := by decide +kernel
theorem d_PM_lengths_48 : decode b_PM_lengths 48 = .ok (.aload_n 0, 1) := by decide +kernel
theorem d_PM_lengths_49 : decode b_PM_lengths 49 = .ok (.getfield 28, 3) := by decide +kernel
theorem d_PM_lengths_52 : decode b_PM_lengths 52 = .ok (.aload_n 0, 1) := by decide +kernel
theorem d_PM_lengths_53 : decode b_PM_lengths 53 = .ok (.getfield 35, 3) := by decide +kernel
theorem d_PM_lengths_56 : decode b_PM_lengths 56 = .ok (.getfield 99, 3) := by decide +kernel
theorem d_PM_lengths_59 : decode b_PM_lengths 59 = .ok (.invokevirtual 102, 3) := by decide +kernel
theorem d_PM_lengths_62 : decode b_PM_lengths 62 = .ok (.ireturn, 1) := by decide +kernel
def f_PM_lengths_b11 (N : Nat) (v_counts : Nat → Int32) (l1 : Int32)  (i_codes_greatest : Int32) (i_codes_known : Int32) (i_codes_highest : Int32) (v_codes_lengths : Nat → Int32) (v_codes_values : Nat → Int32) (v_codes_cells : Nat → Int32) (i_tree_known : Int32) (i_tree_nextLeaf : Int32) (i_tree_nextSum : Int32) (v_tree_lengths : Nat → Int32) (v_tree_halves : Nat → Int32) (v_tree_leaves : Nat → Int32) (v_tree_sorted : Nat → Int32) (v_tree_starts : Nat → Int32) (v_tree_sums : Nat → Int32) (v_tree_above : Nat → Int32) (v_tree_depths : Nat → Int32) : Option (Int32 × Int32 × Int32 × Int32 × (Nat → Int32) × (Nat → Int32) × (Nat → Int32) × Int32 × Int32 × Int32 × (Nat → Int32) × (Nat → Int32) × (Nat → Int32) × (Nat → Int32) × (Nat → Int32) × (Nat → Int32) × (Nat → Int32) × (Nat → Int32)) :=
  some ((-1), i_codes_greatest, i_codes_known, i_codes_highest, v_codes_lengths, v_codes_values, v_codes_cells, i_tree_known, i_tree_nextLeaf, i_tree_nextSum, v_tree_lengths, v_tree_halves, v_tree_leaves, v_tree_sorted, v_tree_starts, v_tree_sums, v_tree_above, v_tree_depths)
def f_PM_lengths_b37 (N : Nat) (v_counts : Nat → Int32) (l1 : Int32)  (i_codes_greatest : Int32) (i_codes_known : Int32) (i_codes_highest : Int32) (v_codes_lengths : Nat → Int32) (v_codes_values : Nat → Int32) (v_codes_cells : Nat → Int32) (i_tree_known : Int32) (i_tree_nextLeaf : Int32) (i_tree_nextSum : Int32) (v_tree_lengths : Nat → Int32) (v_tree_halves : Nat → Int32) (v_tree_leaves : Nat → Int32) (v_tree_sorted : Nat → Int32) (v_tree_starts : Nat → Int32) (v_tree_sums : Nat → Int32) (v_tree_above : Nat → Int32) (v_tree_depths : Nat → Int32) : Option (Int32 × Int32 × Int32 × Int32 × (Nat → Int32) × (Nat → Int32) × (Nat → Int32) × Int32 × Int32 × Int32 × (Nat → Int32) × (Nat → Int32) × (Nat → Int32) × (Nat → Int32) × (Nat → Int32) × (Nat → Int32) × (Nat → Int32) × (Nat → Int32)) :=
  some ((-2), i_codes_greatest, i_codes_known, i_codes_highest, v_codes_lengths, v_codes_values, v_codes_cells, i_tree_known, i_tree_nextLeaf, i_tree_nextSum, v_tree_lengths, v_tree_halves, v_tree_leaves, v_tree_sorted, v_tree_starts, v_tree_sums, v_tree_above, v_tree_depths)
def f_PM_lengths (N : Nat) (v_counts : Nat → Int32) (l1 : Int32)  (i_codes_greatest : Int32) (i_codes_known : Int32) (i_codes_highest : Int32) (v_codes_lengths : Nat → Int32) (v_codes_values : Nat → Int32) (v_codes_cells : Nat → Int32) (i_tree_known : Int32) (i_tree_nextLeaf : Int32) (i_tree_nextSum : Int32) (v_tree_lengths : Nat → Int32) (v_tree_halves : Nat → Int32) (v_tree_leaves : Nat → Int32) (v_tree_sorted : Nat → Int32) (v_tree_starts : Nat → Int32) (v_tree_sums : Nat → Int32) (v_tree_above : Nat → Int32) (v_tree_depths : Nat → Int32) : Option (Int32 × Int32 × Int32 × Int32 × (Nat → Int32) × (Nat → Int32) × (Nat → Int32) × Int32 × Int32 × Int32 × (Nat → Int32) × (Nat → Int32) × (Nat → Int32) × (Nat → Int32) × (Nat → Int32) × (Nat → Int32) × (Nat → Int32) × (Nat → Int32)) :=
  if l1 < 1 then
  f_PM_lengths_b11 N v_counts l1  i_codes_greatest i_codes_known i_codes_highest v_codes_lengths v_codes_values v_codes_cells i_tree_known i_tree_nextLeaf i_tree_nextSum v_tree_lengths v_tree_halves v_tree_leaves v_tree_sorted v_tree_starts v_tree_sums v_tree_above v_tree_depths
  else
  if l1 ≤ 11 then
  bd3 (f_Tree_plant N 256 v_counts i_tree_known v_tree_halves) fun r_3 i_tree_known_4 v_tree_halves_5 =>
  if r_3 < 2 then
  f_PM_lengths_b37 N v_counts l1  i_codes_greatest i_codes_known i_codes_highest v_codes_lengths v_codes_values v_codes_cells i_tree_known_4 i_tree_nextLeaf i_tree_nextSum v_tree_lengths v_tree_halves_5 v_tree_leaves v_tree_sorted v_tree_starts v_tree_sums v_tree_above v_tree_depths
  else
  if r_3 ≤ (1 <<< (l1 &&& 31)) then
  bd10 (f_Tree_grow N i_tree_known_4 l1 i_tree_nextLeaf i_tree_nextSum v_tree_lengths v_tree_halves_5 v_tree_leaves v_tree_sorted v_tree_starts v_tree_sums v_tree_above v_tree_depths) fun i_tree_nextLeaf_9 i_tree_nextSum_10 v_tree_lengths_11 v_tree_halves_12 v_tree_leaves_13 v_tree_sorted_14 v_tree_starts_15 v_tree_sums_16 v_tree_above_17 v_tree_depths_18 =>
  bd7 (f_Codes_become N 256 v_tree_lengths_11 i_codes_greatest i_codes_known i_codes_highest v_codes_lengths v_codes_values v_codes_cells) fun r_20 i_codes_greatest_21 i_codes_known_22 i_codes_highest_23 v_codes_lengths_24 v_codes_values_25 v_codes_cells_26 =>
  some (r_20, i_codes_greatest_21, i_codes_known_22, i_codes_highest_23, v_codes_lengths_24, v_codes_values_25, v_codes_cells_26, i_tree_known_4, i_tree_nextLeaf_9, i_tree_nextSum_10, v_tree_lengths_11, v_tree_halves_12, v_tree_leaves_13, v_tree_sorted_14, v_tree_starts_15, v_tree_sums_16, v_tree_above_17, v_tree_depths_18)
  else
  f_PM_lengths_b37 N v_counts l1  i_codes_greatest i_codes_known i_codes_highest v_codes_lengths v_codes_values v_codes_cells i_tree_known_4 i_tree_nextLeaf i_tree_nextSum v_tree_lengths v_tree_halves_5 v_tree_leaves v_tree_sorted v_tree_starts v_tree_sums v_tree_above v_tree_depths
  else
  f_PM_lengths_b11 N v_counts l1  i_codes_greatest i_codes_known i_codes_highest v_codes_lengths v_codes_values v_codes_cells i_tree_known i_tree_nextLeaf i_tree_nextSum v_tree_lengths v_tree_halves v_tree_leaves v_tree_sorted v_tree_starts v_tree_sums v_tree_above v_tree_depths
abbrev R_PM_lengths : Room := ({ frames := 4, cells := 0, slots := 0, locals := 92 } : Room)
def E_PM_lengths (p : Program) (l : Launch) (e : Env) (s : State) (m : MethodId) (args : Array Value) (below : List Frame) (meth : Method) (c : Code) (Q : State → Prop) (A : Nat → Prop) (D : va_G) (cI cL cZ : ClassId) (a_this : Nat) (a_counts : Nat) (a_codes : Nat) (a_codes_lengths : Nat) (a_codes_values : Nat) (a_codes_cells : Nat) (a_tree : Nat) (a_tree_lengths : Nat) (a_tree_halves : Nat) (a_tree_leaves : Nat) (a_tree_sorted : Nat) (a_tree_starts : Nat) (a_tree_sums : Nat) (a_tree_above : Nat) (a_tree_depths : Nat) (o_in : Nat) (o_out : Nat) (o_writer : Nat) (o_reader : Nat) (o_streams : Nat) (i_place : Int32) (v_counts : Nat → Int32) (l1 : Int32) (res : Int32 × Int32 × Int32 × Int32 × (Nat → Int32) × (Nat → Int32) × (Nat → Int32) × Int32 × Int32 × Int32 × (Nat → Int32) × (Nat → Int32) × (Nat → Int32) × (Nat → Int32) × (Nat → Int32) × (Nat → Int32) × (Nat → Int32) × (Nat → Int32)) : Prop := ∀ (pc : Nat) (H : Heap) (locs : List Loc) (ls : Array Slot) (rv : Int32) (i_codes_greatest : Int32) (i_codes_known : Int32) (i_codes_highest : Int32) (v_codes_lengths : Nat → Int32) (v_codes_values : Nat → Int32) (v_codes_cells : Nat → Int32) (i_tree_known : Int32) (i_tree_nextLeaf : Int32) (i_tree_nextSum : Int32) (v_tree_lengths : Nat → Int32) (v_tree_halves : Nat → Int32) (v_tree_leaves : Nat → Int32) (v_tree_sorted : Nat → Int32) (v_tree_starts : Nat → Int32) (v_tree_sums : Nat → Int32) (v_tree_above : Nat → Int32) (v_tree_depths : Nat → Int32), some (rv, i_codes_greatest, i_codes_known, i_codes_highest, v_codes_lengths, v_codes_values, v_codes_cells, i_tree_known, i_tree_nextLeaf, i_tree_nextSum, v_tree_lengths, v_tree_halves, v_tree_leaves, v_tree_sorted, v_tree_starts, v_tree_sums, v_tree_above, v_tree_depths) = some res → decode b_PM_lengths pc = .ok (.ireturn, 1) → va_P D classes [(a_this, .inr (0, [.ref o_in, .ref o_out, .ref a_counts, .ref a_codes, .ref a_tree, .ref o_writer, .ref o_reader, .ref o_streams, .int i_place])), (a_counts, .inl (cI, 256, .inl v_counts)), (a_codes, .inr (2, [.ref a_codes_lengths, .ref a_codes_values, .ref a_codes_cells, .int i_codes_greatest, .int i_codes_known, .int i_codes_highest])), (a_codes_lengths, .inl (cI, 256, .inl v_codes_lengths)), (a_codes_values, .inl (cI, 256, .inl v_codes_values)), (a_codes_cells, .inl (cI, 2048, .inl v_codes_cells)), (a_tree, .inr (9, [.ref a_tree_lengths, .ref a_tree_halves, .ref a_tree_leaves, .ref a_tree_sorted, .ref a_tree_starts, .ref a_tree_sums, .ref a_tree_above, .ref a_tree_depths, .int i_tree_known, .int i_tree_nextLeaf, .int i_tree_nextSum])), (a_tree_lengths, .inl (cI, 256, .inl v_tree_lengths)), (a_tree_halves, .inl (cI, 256, .inl v_tree_halves)), (a_tree_leaves, .inl (cI, 256, .inl v_tree_leaves)), (a_tree_sorted, .inl (cI, 256, .inl v_tree_sorted)), (a_tree_starts, .inl (cI, 257, .inl v_tree_starts)), (a_tree_sums, .inl (cI, 512, .inl v_tree_sums)), (a_tree_above, .inl (cI, 512, .inl v_tree_above)), (a_tree_depths, .inl (cI, 512, .inl v_tree_depths))] H → va_D A [(a_this, .inr (0, [.ref o_in, .ref o_out, .ref a_counts, .ref a_codes, .ref a_tree, .ref o_writer, .ref o_reader, .ref o_streams, .int i_place])), (a_counts, .inl (cI, 256, .inl v_counts)), (a_codes, .inr (2, [.ref a_codes_lengths, .ref a_codes_values, .ref a_codes_cells, .int i_codes_greatest, .int i_codes_known, .int i_codes_highest])), (a_codes_lengths, .inl (cI, 256, .inl v_codes_lengths)), (a_codes_values, .inl (cI, 256, .inl v_codes_values)), (a_codes_cells, .inl (cI, 2048, .inl v_codes_cells)), (a_tree, .inr (9, [.ref a_tree_lengths, .ref a_tree_halves, .ref a_tree_leaves, .ref a_tree_sorted, .ref a_tree_starts, .ref a_tree_sums, .ref a_tree_above, .ref a_tree_depths, .int i_tree_known, .int i_tree_nextLeaf, .int i_tree_nextSum])), (a_tree_lengths, .inl (cI, 256, .inl v_tree_lengths)), (a_tree_halves, .inl (cI, 256, .inl v_tree_halves)), (a_tree_leaves, .inl (cI, 256, .inl v_tree_leaves)), (a_tree_sorted, .inl (cI, 256, .inl v_tree_sorted)), (a_tree_starts, .inl (cI, 257, .inl v_tree_starts)), (a_tree_sums, .inl (cI, 512, .inl v_tree_sums)), (a_tree_above, .inl (cI, 512, .inl v_tree_above)), (a_tree_depths, .inl (cI, 512, .inl v_tree_depths))] → va_S A s.heap H locs → W p l e R_PM_lengths s m args below meth c H locs 0 0 Q (F0 m pc ls [.int rv])
def I_PM_lengths_b11 (p : Program) (l : Launch) (e : Env) (s : State) (m : MethodId) (args : Array Value) (below : List Frame) (meth : Method) (c : Code) (Q : State → Prop) (A : Nat → Prop) (D : va_G) (cI cL cZ : ClassId) (a_this : Nat) (a_counts : Nat) (a_codes : Nat) (a_codes_lengths : Nat) (a_codes_values : Nat) (a_codes_cells : Nat) (a_tree : Nat) (a_tree_lengths : Nat) (a_tree_halves : Nat) (a_tree_leaves : Nat) (a_tree_sorted : Nat) (a_tree_starts : Nat) (a_tree_sums : Nat) (a_tree_above : Nat) (a_tree_depths : Nat) (o_in : Nat) (o_out : Nat) (o_writer : Nat) (o_reader : Nat) (o_streams : Nat) (i_place : Int32) (v_counts : Nat → Int32) (l1 : Int32) (res : Int32 × Int32 × Int32 × Int32 × (Nat → Int32) × (Nat → Int32) × (Nat → Int32) × Int32 × Int32 × Int32 × (Nat → Int32) × (Nat → Int32) × (Nat → Int32) × (Nat → Int32) × (Nat → Int32) × (Nat → Int32) × (Nat → Int32) × (Nat → Int32)) (kf : Int32 → Int32 → Int32 → (Nat → Int32) → (Nat → Int32) → (Nat → Int32) → Int32 → Int32 → Int32 → (Nat → Int32) → (Nat → Int32) → (Nat → Int32) → (Nat → Int32) → (Nat → Int32) → (Nat → Int32) → (Nat → Int32) → (Nat → Int32) → Option (Int32 × Int32 × Int32 × Int32 × (Nat → Int32) × (Nat → Int32) × (Nat → Int32) × Int32 × Int32 × Int32 × (Nat → Int32) × (Nat → Int32) × (Nat → Int32) × (Nat → Int32) × (Nat → Int32) × (Nat → Int32) × (Nat → Int32) × (Nat → Int32))) : Prop := ∀ (i_codes_greatest : Int32) (i_codes_known : Int32) (i_codes_highest : Int32) (v_codes_lengths : Nat → Int32) (v_codes_values : Nat → Int32) (v_codes_cells : Nat → Int32) (i_tree_known : Int32) (i_tree_nextLeaf : Int32) (i_tree_nextSum : Int32) (v_tree_lengths : Nat → Int32) (v_tree_halves : Nat → Int32) (v_tree_leaves : Nat → Int32) (v_tree_sorted : Nat → Int32) (v_tree_starts : Nat → Int32) (v_tree_sums : Nat → Int32) (v_tree_above : Nat → Int32) (v_tree_depths : Nat → Int32), kf i_codes_greatest i_codes_known i_codes_highest v_codes_lengths v_codes_values v_codes_cells i_tree_known i_tree_nextLeaf i_tree_nextSum v_tree_lengths v_tree_halves v_tree_leaves v_tree_sorted v_tree_starts v_tree_sums v_tree_above v_tree_depths = some res → ∀ (H : Heap) (locs : List Loc) (ls : Array Slot), lv_has ls 3 [] → va_P D classes [(a_this, .inr (0, [.ref o_in, .ref o_out, .ref a_counts, .ref a_codes, .ref a_tree, .ref o_writer, .ref o_reader, .ref o_streams, .int i_place])), (a_counts, .inl (cI, 256, .inl v_counts)), (a_codes, .inr (2, [.ref a_codes_lengths, .ref a_codes_values, .ref a_codes_cells, .int i_codes_greatest, .int i_codes_known, .int i_codes_highest])), (a_codes_lengths, .inl (cI, 256, .inl v_codes_lengths)), (a_codes_values, .inl (cI, 256, .inl v_codes_values)), (a_codes_cells, .inl (cI, 2048, .inl v_codes_cells)), (a_tree, .inr (9, [.ref a_tree_lengths, .ref a_tree_halves, .ref a_tree_leaves, .ref a_tree_sorted, .ref a_tree_starts, .ref a_tree_sums, .ref a_tree_above, .ref a_tree_depths, .int i_tree_known, .int i_tree_nextLeaf, .int i_tree_nextSum])), (a_tree_lengths, .inl (cI, 256, .inl v_tree_lengths)), (a_tree_halves, .inl (cI, 256, .inl v_tree_halves)), (a_tree_leaves, .inl (cI, 256, .inl v_tree_leaves)), (a_tree_sorted, .inl (cI, 256, .inl v_tree_sorted)), (a_tree_starts, .inl (cI, 257, .inl v_tree_starts)), (a_tree_sums, .inl (cI, 512, .inl v_tree_sums)), (a_tree_above, .inl (cI, 512, .inl v_tree_above)), (a_tree_depths, .inl (cI, 512, .inl v_tree_depths))] H → va_D A [(a_this, .inr (0, [.ref o_in, .ref o_out, .ref a_counts, .ref a_codes, .ref a_tree, .ref o_writer, .ref o_reader, .ref o_streams, .int i_place])), (a_counts, .inl (cI, 256, .inl v_counts)), (a_codes, .inr (2, [.ref a_codes_lengths, .ref a_codes_values, .ref a_codes_cells, .int i_codes_greatest, .int i_codes_known, .int i_codes_highest])), (a_codes_lengths, .inl (cI, 256, .inl v_codes_lengths)), (a_codes_values, .inl (cI, 256, .inl v_codes_values)), (a_codes_cells, .inl (cI, 2048, .inl v_codes_cells)), (a_tree, .inr (9, [.ref a_tree_lengths, .ref a_tree_halves, .ref a_tree_leaves, .ref a_tree_sorted, .ref a_tree_starts, .ref a_tree_sums, .ref a_tree_above, .ref a_tree_depths, .int i_tree_known, .int i_tree_nextLeaf, .int i_tree_nextSum])), (a_tree_lengths, .inl (cI, 256, .inl v_tree_lengths)), (a_tree_halves, .inl (cI, 256, .inl v_tree_halves)), (a_tree_leaves, .inl (cI, 256, .inl v_tree_leaves)), (a_tree_sorted, .inl (cI, 256, .inl v_tree_sorted)), (a_tree_starts, .inl (cI, 257, .inl v_tree_starts)), (a_tree_sums, .inl (cI, 512, .inl v_tree_sums)), (a_tree_above, .inl (cI, 512, .inl v_tree_above)), (a_tree_depths, .inl (cI, 512, .inl v_tree_depths))] → va_S A s.heap H locs → W p l e R_PM_lengths s m args below meth c H locs 0 0 Q (F0 m 11 ls [])
def I_PM_lengths_b37 (p : Program) (l : Launch) (e : Env) (s : State) (m : MethodId) (args : Array Value) (below : List Frame) (meth : Method) (c : Code) (Q : State → Prop) (A : Nat → Prop) (D : va_G) (cI cL cZ : ClassId) (a_this : Nat) (a_counts : Nat) (a_codes : Nat) (a_codes_lengths : Nat) (a_codes_values : Nat) (a_codes_cells : Nat) (a_tree : Nat) (a_tree_lengths : Nat) (a_tree_halves : Nat) (a_tree_leaves : Nat) (a_tree_sorted : Nat) (a_tree_starts : Nat) (a_tree_sums : Nat) (a_tree_above : Nat) (a_tree_depths : Nat) (o_in : Nat) (o_out : Nat) (o_writer : Nat) (o_reader : Nat) (o_streams : Nat) (i_place : Int32) (v_counts : Nat → Int32) (l1 : Int32) (res : Int32 × Int32 × Int32 × Int32 × (Nat → Int32) × (Nat → Int32) × (Nat → Int32) × Int32 × Int32 × Int32 × (Nat → Int32) × (Nat → Int32) × (Nat → Int32) × (Nat → Int32) × (Nat → Int32) × (Nat → Int32) × (Nat → Int32) × (Nat → Int32)) (kf : Int32 → Int32 → Int32 → (Nat → Int32) → (Nat → Int32) → (Nat → Int32) → Int32 → Int32 → Int32 → (Nat → Int32) → (Nat → Int32) → (Nat → Int32) → (Nat → Int32) → (Nat → Int32) → (Nat → Int32) → (Nat → Int32) → (Nat → Int32) → Option (Int32 × Int32 × Int32 × Int32 × (Nat → Int32) × (Nat → Int32) × (Nat → Int32) × Int32 × Int32 × Int32 × (Nat → Int32) × (Nat → Int32) × (Nat → Int32) × (Nat → Int32) × (Nat → Int32) × (Nat → Int32) × (Nat → Int32) × (Nat → Int32))) : Prop := ∀ (i_codes_greatest : Int32) (i_codes_known : Int32) (i_codes_highest : Int32) (v_codes_lengths : Nat → Int32) (v_codes_values : Nat → Int32) (v_codes_cells : Nat → Int32) (i_tree_known : Int32) (i_tree_nextLeaf : Int32) (i_tree_nextSum : Int32) (v_tree_lengths : Nat → Int32) (v_tree_halves : Nat → Int32) (v_tree_leaves : Nat → Int32) (v_tree_sorted : Nat → Int32) (v_tree_starts : Nat → Int32) (v_tree_sums : Nat → Int32) (v_tree_above : Nat → Int32) (v_tree_depths : Nat → Int32), kf i_codes_greatest i_codes_known i_codes_highest v_codes_lengths v_codes_values v_codes_cells i_tree_known i_tree_nextLeaf i_tree_nextSum v_tree_lengths v_tree_halves v_tree_leaves v_tree_sorted v_tree_starts v_tree_sums v_tree_above v_tree_depths = some res → ∀ (H : Heap) (locs : List Loc) (ls : Array Slot), lv_has ls 3 [] → va_P D classes [(a_this, .inr (0, [.ref o_in, .ref o_out, .ref a_counts, .ref a_codes, .ref a_tree, .ref o_writer, .ref o_reader, .ref o_streams, .int i_place])), (a_counts, .inl (cI, 256, .inl v_counts)), (a_codes, .inr (2, [.ref a_codes_lengths, .ref a_codes_values, .ref a_codes_cells, .int i_codes_greatest, .int i_codes_known, .int i_codes_highest])), (a_codes_lengths, .inl (cI, 256, .inl v_codes_lengths)), (a_codes_values, .inl (cI, 256, .inl v_codes_values)), (a_codes_cells, .inl (cI, 2048, .inl v_codes_cells)), (a_tree, .inr (9, [.ref a_tree_lengths, .ref a_tree_halves, .ref a_tree_leaves, .ref a_tree_sorted, .ref a_tree_starts, .ref a_tree_sums, .ref a_tree_above, .ref a_tree_depths, .int i_tree_known, .int i_tree_nextLeaf, .int i_tree_nextSum])), (a_tree_lengths, .inl (cI, 256, .inl v_tree_lengths)), (a_tree_halves, .inl (cI, 256, .inl v_tree_halves)), (a_tree_leaves, .inl (cI, 256, .inl v_tree_leaves)), (a_tree_sorted, .inl (cI, 256, .inl v_tree_sorted)), (a_tree_starts, .inl (cI, 257, .inl v_tree_starts)), (a_tree_sums, .inl (cI, 512, .inl v_tree_sums)), (a_tree_above, .inl (cI, 512, .inl v_tree_above)), (a_tree_depths, .inl (cI, 512, .inl v_tree_depths))] H → va_D A [(a_this, .inr (0, [.ref o_in, .ref o_out, .ref a_counts, .ref a_codes, .ref a_tree, .ref o_writer, .ref o_reader, .ref o_streams, .int i_place])), (a_counts, .inl (cI, 256, .inl v_counts)), (a_codes, .inr (2, [.ref a_codes_lengths, .ref a_codes_values, .ref a_codes_cells, .int i_codes_greatest, .int i_codes_known, .int i_codes_highest])), (a_codes_lengths, .inl (cI, 256, .inl v_codes_lengths)), (a_codes_values, .inl (cI, 256, .inl v_codes_values)), (a_codes_cells, .inl (cI, 2048, .inl v_codes_cells)), (a_tree, .inr (9, [.ref a_tree_lengths, .ref a_tree_halves, .ref a_tree_leaves, .ref a_tree_sorted, .ref a_tree_starts, .ref a_tree_sums, .ref a_tree_above, .ref a_tree_depths, .int i_tree_known, .int i_tree_nextLeaf, .int i_tree_nextSum])), (a_tree_lengths, .inl (cI, 256, .inl v_tree_lengths)), (a_tree_halves, .inl (cI, 256, .inl v_tree_halves)), (a_tree_leaves, .inl (cI, 256, .inl v_tree_leaves)), (a_tree_sorted, .inl (cI, 256, .inl v_tree_sorted)), (a_tree_starts, .inl (cI, 257, .inl v_tree_starts)), (a_tree_sums, .inl (cI, 512, .inl v_tree_sums)), (a_tree_above, .inl (cI, 512, .inl v_tree_above)), (a_tree_depths, .inl (cI, 512, .inl v_tree_depths))] → va_S A s.heap H locs → W p l e R_PM_lengths s m args below meth c H locs 0 0 Q (F0 m 37 ls [])
def I_PM_lengths_b0 (p : Program) (l : Launch) (e : Env) (s : State) (m : MethodId) (args : Array Value) (below : List Frame) (meth : Method) (c : Code) (Q : State → Prop) (A : Nat → Prop) (D : va_G) (cI cL cZ : ClassId) (a_this : Nat) (a_counts : Nat) (a_codes : Nat) (a_codes_lengths : Nat) (a_codes_values : Nat) (a_codes_cells : Nat) (a_tree : Nat) (a_tree_lengths : Nat) (a_tree_halves : Nat) (a_tree_leaves : Nat) (a_tree_sorted : Nat) (a_tree_starts : Nat) (a_tree_sums : Nat) (a_tree_above : Nat) (a_tree_depths : Nat) (o_in : Nat) (o_out : Nat) (o_writer : Nat) (o_reader : Nat) (o_streams : Nat) (i_place : Int32) (v_counts : Nat → Int32) (l1 : Int32) (res : Int32 × Int32 × Int32 × Int32 × (Nat → Int32) × (Nat → Int32) × (Nat → Int32) × Int32 × Int32 × Int32 × (Nat → Int32) × (Nat → Int32) × (Nat → Int32) × (Nat → Int32) × (Nat → Int32) × (Nat → Int32) × (Nat → Int32) × (Nat → Int32)) (kf : Int32 → Int32 → Int32 → (Nat → Int32) → (Nat → Int32) → (Nat → Int32) → Int32 → Int32 → Int32 → (Nat → Int32) → (Nat → Int32) → (Nat → Int32) → (Nat → Int32) → (Nat → Int32) → (Nat → Int32) → (Nat → Int32) → (Nat → Int32) → Option (Int32 × Int32 × Int32 × Int32 × (Nat → Int32) × (Nat → Int32) × (Nat → Int32) × Int32 × Int32 × Int32 × (Nat → Int32) × (Nat → Int32) × (Nat → Int32) × (Nat → Int32) × (Nat → Int32) × (Nat → Int32) × (Nat → Int32) × (Nat → Int32))) : Prop := ∀ (i_codes_greatest : Int32) (i_codes_known : Int32) (i_codes_highest : Int32) (v_codes_lengths : Nat → Int32) (v_codes_values : Nat → Int32) (v_codes_cells : Nat → Int32) (i_tree_known : Int32) (i_tree_nextLeaf : Int32) (i_tree_nextSum : Int32) (v_tree_lengths : Nat → Int32) (v_tree_halves : Nat → Int32) (v_tree_leaves : Nat → Int32) (v_tree_sorted : Nat → Int32) (v_tree_starts : Nat → Int32) (v_tree_sums : Nat → Int32) (v_tree_above : Nat → Int32) (v_tree_depths : Nat → Int32), kf i_codes_greatest i_codes_known i_codes_highest v_codes_lengths v_codes_values v_codes_cells i_tree_known i_tree_nextLeaf i_tree_nextSum v_tree_lengths v_tree_halves v_tree_leaves v_tree_sorted v_tree_starts v_tree_sums v_tree_above v_tree_depths = some res → ∀ (H : Heap) (locs : List Loc) (ls : Array Slot), lv_has ls 3 [(0, .ref a_this), (1, .int l1)] → va_P D classes [(a_this, .inr (0, [.ref o_in, .ref o_out, .ref a_counts, .ref a_codes, .ref a_tree, .ref o_writer, .ref o_reader, .ref o_streams, .int i_place])), (a_counts, .inl (cI, 256, .inl v_counts)), (a_codes, .inr (2, [.ref a_codes_lengths, .ref a_codes_values, .ref a_codes_cells, .int i_codes_greatest, .int i_codes_known, .int i_codes_highest])), (a_codes_lengths, .inl (cI, 256, .inl v_codes_lengths)), (a_codes_values, .inl (cI, 256, .inl v_codes_values)), (a_codes_cells, .inl (cI, 2048, .inl v_codes_cells)), (a_tree, .inr (9, [.ref a_tree_lengths, .ref a_tree_halves, .ref a_tree_leaves, .ref a_tree_sorted, .ref a_tree_starts, .ref a_tree_sums, .ref a_tree_above, .ref a_tree_depths, .int i_tree_known, .int i_tree_nextLeaf, .int i_tree_nextSum])), (a_tree_lengths, .inl (cI, 256, .inl v_tree_lengths)), (a_tree_halves, .inl (cI, 256, .inl v_tree_halves)), (a_tree_leaves, .inl (cI, 256, .inl v_tree_leaves)), (a_tree_sorted, .inl (cI, 256, .inl v_tree_sorted)), (a_tree_starts, .inl (cI, 257, .inl v_tree_starts)), (a_tree_sums, .inl (cI, 512, .inl v_tree_sums)), (a_tree_above, .inl (cI, 512, .inl v_tree_above)), (a_tree_depths, .inl (cI, 512, .inl v_tree_depths))] H → va_D A [(a_this, .inr (0, [.ref o_in, .ref o_out, .ref a_counts, .ref a_codes, .ref a_tree, .ref o_writer, .ref o_reader, .ref o_streams, .int i_place])), (a_counts, .inl (cI, 256, .inl v_counts)), (a_codes, .inr (2, [.ref a_codes_lengths, .ref a_codes_values, .ref a_codes_cells, .int i_codes_greatest, .int i_codes_known, .int i_codes_highest])), (a_codes_lengths, .inl (cI, 256, .inl v_codes_lengths)), (a_codes_values, .inl (cI, 256, .inl v_codes_values)), (a_codes_cells, .inl (cI, 2048, .inl v_codes_cells)), (a_tree, .inr (9, [.ref a_tree_lengths, .ref a_tree_halves, .ref a_tree_leaves, .ref a_tree_sorted, .ref a_tree_starts, .ref a_tree_sums, .ref a_tree_above, .ref a_tree_depths, .int i_tree_known, .int i_tree_nextLeaf, .int i_tree_nextSum])), (a_tree_lengths, .inl (cI, 256, .inl v_tree_lengths)), (a_tree_halves, .inl (cI, 256, .inl v_tree_halves)), (a_tree_leaves, .inl (cI, 256, .inl v_tree_leaves)), (a_tree_sorted, .inl (cI, 256, .inl v_tree_sorted)), (a_tree_starts, .inl (cI, 257, .inl v_tree_starts)), (a_tree_sums, .inl (cI, 512, .inl v_tree_sums)), (a_tree_above, .inl (cI, 512, .inl v_tree_above)), (a_tree_depths, .inl (cI, 512, .inl v_tree_depths))] → va_S A s.heap H locs → W p l e R_PM_lengths s m args below meth c H locs 0 0 Q (F0 m 0 ls [])
set_option maxHeartbeats 4000000 in
set_option maxRecDepth 100000 in
theorem w_PM_lengths_b11 {p : Program} {l : Launch} {e : Env} {s : State} {m : MethodId} {args : Array Value} {below : List Frame} {meth : Method} {c : Code} {Q : State → Prop} {A : Nat → Prop} {D : va_G} {cI cL cZ : ClassId} {a_this : Nat} {a_counts : Nat} {a_codes : Nat} {a_codes_lengths : Nat} {a_codes_values : Nat} {a_codes_cells : Nat} {a_tree : Nat} {a_tree_lengths : Nat} {a_tree_halves : Nat} {a_tree_leaves : Nat} {a_tree_sorted : Nat} {a_tree_starts : Nat} {a_tree_sums : Nat} {a_tree_above : Nat} {a_tree_depths : Nat} {o_in : Nat} {o_out : Nat} {o_writer : Nat} {o_reader : Nat} {o_streams : Nat} {i_place : Int32} {v_counts : Nat → Int32} {l1 : Int32} {N : Nat} {res : Int32 × Int32 × Int32 × Int32 × (Nat → Int32) × (Nat → Int32) × (Nat → Int32) × Int32 × Int32 × Int32 × (Nat → Int32) × (Nat → Int32) × (Nat → Int32) × (Nat → Int32) × (Nat → Int32) × (Nat → Int32) × (Nat → Int32) × (Nat → Int32)}  (C : Cx p s m args c b_PM_lengths 3 "PrefixMill" D [(cI, .int), (cL, .long), (cZ, .boolean)] A) (hret : E_PM_lengths p l e s m args below meth c Q A D cI cL cZ a_this a_counts a_codes a_codes_lengths a_codes_values a_codes_cells a_tree a_tree_lengths a_tree_halves a_tree_leaves a_tree_sorted a_tree_starts a_tree_sums a_tree_above a_tree_depths o_in o_out o_writer o_reader o_streams i_place v_counts l1 res)  : I_PM_lengths_b11 p l e s m args below meth c Q A D cI cL cZ a_this a_counts a_codes a_codes_lengths a_codes_values a_codes_cells a_tree a_tree_lengths a_tree_halves a_tree_leaves a_tree_sorted a_tree_starts a_tree_sums a_tree_above a_tree_depths o_in o_out o_writer o_reader o_streams i_place v_counts l1 res (f_PM_lengths_b11 N v_counts l1 ) := by
  obtain ⟨hx, hb, hml, hown, hts, hK, hA⟩ := C
  intro i_codes_greatest i_codes_known i_codes_highest v_codes_lengths v_codes_values v_codes_cells i_tree_known i_tree_nextLeaf i_tree_nextSum v_tree_lengths v_tree_halves v_tree_leaves v_tree_sorted v_tree_starts v_tree_sums v_tree_above v_tree_depths h H locs ls hl hP hD hS
  unfold f_PM_lengths_b11 at h
  refine lv_iconst (v := (-1)) hx hb d_PM_lengths_11 (by decide) ?_
  exact hret _ _ _ _ (-1) i_codes_greatest i_codes_known i_codes_highest v_codes_lengths v_codes_values v_codes_cells i_tree_known i_tree_nextLeaf i_tree_nextSum v_tree_lengths v_tree_halves v_tree_leaves v_tree_sorted v_tree_starts v_tree_sums v_tree_above v_tree_depths h d_PM_lengths_12 hP hD hS
set_option maxHeartbeats 4000000 in
set_option maxRecDepth 100000 in
theorem w_PM_lengths_b37 {p : Program} {l : Launch} {e : Env} {s : State} {m : MethodId} {args : Array Value} {below : List Frame} {meth : Method} {c : Code} {Q : State → Prop} {A : Nat → Prop} {D : va_G} {cI cL cZ : ClassId} {a_this : Nat} {a_counts : Nat} {a_codes : Nat} {a_codes_lengths : Nat} {a_codes_values : Nat} {a_codes_cells : Nat} {a_tree : Nat} {a_tree_lengths : Nat} {a_tree_halves : Nat} {a_tree_leaves : Nat} {a_tree_sorted : Nat} {a_tree_starts : Nat} {a_tree_sums : Nat} {a_tree_above : Nat} {a_tree_depths : Nat} {o_in : Nat} {o_out : Nat} {o_writer : Nat} {o_reader : Nat} {o_streams : Nat} {i_place : Int32} {v_counts : Nat → Int32} {l1 : Int32} {N : Nat} {res : Int32 × Int32 × Int32 × Int32 × (Nat → Int32) × (Nat → Int32) × (Nat → Int32) × Int32 × Int32 × Int32 × (Nat → Int32) × (Nat → Int32) × (Nat → Int32) × (Nat → Int32) × (Nat → Int32) × (Nat → Int32) × (Nat → Int32) × (Nat → Int32)}  (C : Cx p s m args c b_PM_lengths 3 "PrefixMill" D [(cI, .int), (cL, .long), (cZ, .boolean)] A) (hret : E_PM_lengths p l e s m args below meth c Q A D cI cL cZ a_this a_counts a_codes a_codes_lengths a_codes_values a_codes_cells a_tree a_tree_lengths a_tree_halves a_tree_leaves a_tree_sorted a_tree_starts a_tree_sums a_tree_above a_tree_depths o_in o_out o_writer o_reader o_streams i_place v_counts l1 res)  : I_PM_lengths_b37 p l e s m args below meth c Q A D cI cL cZ a_this a_counts a_codes a_codes_lengths a_codes_values a_codes_cells a_tree a_tree_lengths a_tree_halves a_tree_leaves a_tree_sorted a_tree_starts a_tree_sums a_tree_above a_tree_depths o_in o_out o_writer o_reader o_streams i_place v_counts l1 res (f_PM_lengths_b37 N v_counts l1 ) := by
  obtain ⟨hx, hb, hml, hown, hts, hK, hA⟩ := C
  intro i_codes_greatest i_codes_known i_codes_highest v_codes_lengths v_codes_values v_codes_cells i_tree_known i_tree_nextLeaf i_tree_nextSum v_tree_lengths v_tree_halves v_tree_leaves v_tree_sorted v_tree_starts v_tree_sums v_tree_above v_tree_depths h H locs ls hl hP hD hS
  unfold f_PM_lengths_b37 at h
  refine lv_bipush (v := (-2)) hx hb d_PM_lengths_37 (by decide) ?_
  exact hret _ _ _ _ (-2) i_codes_greatest i_codes_known i_codes_highest v_codes_lengths v_codes_values v_codes_cells i_tree_known i_tree_nextLeaf i_tree_nextSum v_tree_lengths v_tree_halves v_tree_leaves v_tree_sorted v_tree_starts v_tree_sums v_tree_above v_tree_depths h d_PM_lengths_39 hP hD hS
set_option maxHeartbeats 4000000 in
set_option maxRecDepth 100000 in
theorem w_PM_lengths_b0 {p : Program} {l : Launch} {e : Env} {s : State} {m : MethodId} {args : Array Value} {below : List Frame} {meth : Method} {c : Code} {Q : State → Prop} {A : Nat → Prop} {D : va_G} {cI cL cZ : ClassId} {a_this : Nat} {a_counts : Nat} {a_codes : Nat} {a_codes_lengths : Nat} {a_codes_values : Nat} {a_codes_cells : Nat} {a_tree : Nat} {a_tree_lengths : Nat} {a_tree_halves : Nat} {a_tree_leaves : Nat} {a_tree_sorted : Nat} {a_tree_starts : Nat} {a_tree_sums : Nat} {a_tree_above : Nat} {a_tree_depths : Nat} {o_in : Nat} {o_out : Nat} {o_writer : Nat} {o_reader : Nat} {o_streams : Nat} {i_place : Int32} {v_counts : Nat → Int32} {l1 : Int32} {N : Nat} {res : Int32 × Int32 × Int32 × Int32 × (Nat → Int32) × (Nat → Int32) × (Nat → Int32) × Int32 × Int32 × Int32 × (Nat → Int32) × (Nat → Int32) × (Nat → Int32) × (Nat → Int32) × (Nat → Int32) × (Nat → Int32) × (Nat → Int32) × (Nat → Int32)}  (C : Cx p s m args c b_PM_lengths 3 "PrefixMill" D [(cI, .int), (cL, .long), (cZ, .boolean)] A) (hret : E_PM_lengths p l e s m args below meth c Q A D cI cL cZ a_this a_counts a_codes a_codes_lengths a_codes_values a_codes_cells a_tree a_tree_lengths a_tree_halves a_tree_leaves a_tree_sorted a_tree_starts a_tree_sums a_tree_above a_tree_depths o_in o_out o_writer o_reader o_streams i_place v_counts l1 res)  : I_PM_lengths_b0 p l e s m args below meth c Q A D cI cL cZ a_this a_counts a_codes a_codes_lengths a_codes_values a_codes_cells a_tree a_tree_lengths a_tree_halves a_tree_leaves a_tree_sorted a_tree_starts a_tree_sums a_tree_above a_tree_depths o_in o_out o_writer o_reader o_streams i_place v_counts l1 res (f_PM_lengths N v_counts l1 ) := by
  obtain ⟨hx, hb, hml, hown, hts, hK, hA⟩ := C
  intro i_codes_greatest i_codes_known i_codes_highest v_codes_lengths v_codes_values v_codes_cells i_tree_known i_tree_nextLeaf i_tree_nextSum v_tree_lengths v_tree_halves v_tree_leaves v_tree_sorted v_tree_starts v_tree_sums v_tree_above v_tree_depths h H locs ls hl hP hD hS
  unfold f_PM_lengths at h
  refine lv_iload_n hx hb d_PM_lengths_0 rfl (lv_at hl 1 rfl) ?_
  refine lv_iconst (v := 1) hx hb d_PM_lengths_1 (by decide) ?_
  refine lv_icmp_lt (tgt := 11) hx hb d_PM_lengths_2 (by decide) (fun c_1 => ?_) (fun c_1 => ?_)
  · replace h := if_t h c_1
    exact w_PM_lengths_b11 ⟨hx, hb, hml, hown, hts, hK, hA⟩ hret  _ _ _ _ _ _ _ _ _ _ _ _ _ _ _ _ _ h H locs ls (lv_sub hl [] rfl) hP hD hS
  · replace h := if_f h c_1
    refine lv_iload_n hx hb d_PM_lengths_5 rfl (lv_at hl 1 rfl) ?_
    refine lv_bipush (v := 11) hx hb d_PM_lengths_6 (by decide) ?_
    refine lv_icmp_le (tgt := 13) hx hb d_PM_lengths_8 (by decide) (fun c_2 => ?_) (fun c_2 => ?_)
    · replace h := if_t h c_2
      refine lv_aload_n hx hb d_PM_lengths_13 rfl (lv_at hl 0 rfl) ?_
      refine va_get hx hb hts in_PM hown hK hP 0 rfl rfl 4 (by decide) (hts _ m_344) (fun _ h9 => h9) rfl d_PM_lengths_14 ?_
      refine lv_aload_n hx hb d_PM_lengths_17 rfl (lv_at hl 0 rfl) ?_
      refine va_get hx hb hts in_PM hown hK hP 0 rfl rfl 2 (by decide) (hts _ m_342) (fun _ h9 => h9) rfl d_PM_lengths_18 ?_
      obtain ⟨r_3, i_tree_known_4, v_tree_halves_5, hc_6, h⟩ := bd3_s h
      have hPc := hP.sub (ws' := [(a_tree, .inr (9, [.ref a_tree_lengths, .ref a_tree_halves, .ref a_tree_leaves, .ref a_tree_sorted, .ref a_tree_starts, .ref a_tree_sums, .ref a_tree_above, .ref a_tree_depths, .int i_tree_known, .int i_tree_nextLeaf, .int i_tree_nextSum])), (a_tree_halves, .inl (cI, 256, .inl v_tree_halves)), (a_counts, .inl (cI, 256, .inl v_counts))]) [6, 8, 1] rfl
      have hDc := hD.sub (ws' := [(a_tree, .inr (9, [.ref a_tree_lengths, .ref a_tree_halves, .ref a_tree_leaves, .ref a_tree_sorted, .ref a_tree_starts, .ref a_tree_sums, .ref a_tree_above, .ref a_tree_depths, .int i_tree_known, .int i_tree_nextLeaf, .int i_tree_nextSum])), (a_tree_halves, .inl (cI, 256, .inl v_tree_halves)), (a_counts, .inl (cI, 256, .inl v_counts))]) [6, 8, 1] (by decide) rfl
      have hFc := va_free (wc := [(a_tree, .inr (9, [.ref a_tree_lengths, .ref a_tree_halves, .ref a_tree_leaves, .ref a_tree_sorted, .ref a_tree_starts, .ref a_tree_sums, .ref a_tree_above, .ref a_tree_depths, .int i_tree_known, .int i_tree_nextLeaf, .int i_tree_nextSum])), (a_tree_halves, .inl (cI, 256, .inl v_tree_halves)), (a_counts, .inl (cI, 256, .inl v_counts))]) hD hS hA [6, 8, 1] rfl
      refine va_calli (va_runV (As := [.ref a_counts]) (rest := []) ⟨hx, hb, hml, hown, hts⟩ (c_Tree_plant l D cI cL cZ H.size N a_tree a_tree_halves a_counts a_tree_lengths a_tree_leaves a_tree_sorted a_tree_starts a_tree_sums a_tree_above a_tree_depths i_tree_known i_tree_nextLeaf i_tree_nextSum v_tree_halves 256 v_counts r_3 i_tree_known_4 v_tree_halves_5 hc_6) ⟨(my_cb 1 hts m_438 rfl rfl (hts _ m_69) (hts _ m_435) (by decide +kernel) ⟨Nat.le_of_ble_eq_true rfl, Nat.le_of_ble_eq_true rfl⟩), hts _ m_436, hts _ m_437⟩ ⟨fun a U g mk q => by obtain ⟨q0, q1, qP, qK, qD⟩ := q; exact ⟨q0, q1, qP, va_K.moved (u := U) (U := U.calling g mk a) (Vm.Alike.refl U.vm) qK, qD⟩, va_recv hK hPc (ci := 9) (q0 := 0) rfl rfl, fun U hU hW => ⟨rfl, by rw [hU], by rw [hU]; exact hPc, va_K.moved hW.alike hK, hDc.weaken (fun _ _ _ _ => trivial)⟩⟩ rfl rfl hl.1 rfl (lv_room (Nat.le_of_ble_eq_true rfl)) d_PM_lengths_21 ⟨Nat.zero_le _, Nat.zero_le _⟩) hS (fun q _ h => hFc q h) hFc (fun rr u t H1 locs ht hvm hw hB hz1 hk1 hS => ?_)
      obtain ⟨hP1, hK1, hD1⟩ := hB
      rw [ht] at hP1
      subst hw
      obtain ⟨hP, hD⟩ := va_join (wr := [(a_this, .inr (0, [.ref o_in, .ref o_out, .ref a_counts, .ref a_codes, .ref a_tree, .ref o_writer, .ref o_reader, .ref o_streams, .int i_place])), (a_codes, .inr (2, [.ref a_codes_lengths, .ref a_codes_values, .ref a_codes_cells, .int i_codes_greatest, .int i_codes_known, .int i_codes_highest])), (a_codes_lengths, .inl (cI, 256, .inl v_codes_lengths)), (a_codes_values, .inl (cI, 256, .inl v_codes_values)), (a_codes_cells, .inl (cI, 2048, .inl v_codes_cells)), (a_tree_lengths, .inl (cI, 256, .inl v_tree_lengths)), (a_tree_leaves, .inl (cI, 256, .inl v_tree_leaves)), (a_tree_sorted, .inl (cI, 256, .inl v_tree_sorted)), (a_tree_starts, .inl (cI, 257, .inl v_tree_starts)), (a_tree_sums, .inl (cI, 512, .inl v_tree_sums)), (a_tree_above, .inl (cI, 512, .inl v_tree_above)), (a_tree_depths, .inl (cI, 512, .inl v_tree_depths))]) (w1 := [(a_tree, .inr (9, [.ref a_tree_lengths, .ref a_tree_halves, .ref a_tree_leaves, .ref a_tree_sorted, .ref a_tree_starts, .ref a_tree_sums, .ref a_tree_above, .ref a_tree_depths, .int i_tree_known_4, .int i_tree_nextLeaf, .int i_tree_nextSum])), (a_tree_halves, .inl (cI, 256, .inl v_tree_halves_5)), (a_counts, .inl (cI, 256, .inl v_counts))]) hP hD [6, 8, 1] [0, 2, 3, 4, 5, 7, 9, 10, 11, 12, 13, 14] rfl rfl (by decide) (by decide) hk1 hFc hP1 hD1
      clear hPc hDc hFc hk1 hP1 hD1 hK1
      generalize H1 = H at hP hS ⊢
      have hP : va_P D classes [(a_this, .inr (0, [.ref o_in, .ref o_out, .ref a_counts, .ref a_codes, .ref a_tree, .ref o_writer, .ref o_reader, .ref o_streams, .int i_place])), (a_counts, .inl (cI, 256, .inl v_counts)), (a_codes, .inr (2, [.ref a_codes_lengths, .ref a_codes_values, .ref a_codes_cells, .int i_codes_greatest, .int i_codes_known, .int i_codes_highest])), (a_codes_lengths, .inl (cI, 256, .inl v_codes_lengths)), (a_codes_values, .inl (cI, 256, .inl v_codes_values)), (a_codes_cells, .inl (cI, 2048, .inl v_codes_cells)), (a_tree, .inr (9, [.ref a_tree_lengths, .ref a_tree_halves, .ref a_tree_leaves, .ref a_tree_sorted, .ref a_tree_starts, .ref a_tree_sums, .ref a_tree_above, .ref a_tree_depths, .int i_tree_known_4, .int i_tree_nextLeaf, .int i_tree_nextSum])), (a_tree_lengths, .inl (cI, 256, .inl v_tree_lengths)), (a_tree_halves, .inl (cI, 256, .inl v_tree_halves_5)), (a_tree_leaves, .inl (cI, 256, .inl v_tree_leaves)), (a_tree_sorted, .inl (cI, 256, .inl v_tree_sorted)), (a_tree_starts, .inl (cI, 257, .inl v_tree_starts)), (a_tree_sums, .inl (cI, 512, .inl v_tree_sums)), (a_tree_above, .inl (cI, 512, .inl v_tree_above)), (a_tree_depths, .inl (cI, 512, .inl v_tree_depths))] H := hP.sub [0, 14, 1, 2, 3, 4, 12, 5, 13, 6, 7, 8, 9, 10, 11] rfl
      have hD : va_D A [(a_this, .inr (0, [.ref o_in, .ref o_out, .ref a_counts, .ref a_codes, .ref a_tree, .ref o_writer, .ref o_reader, .ref o_streams, .int i_place])), (a_counts, .inl (cI, 256, .inl v_counts)), (a_codes, .inr (2, [.ref a_codes_lengths, .ref a_codes_values, .ref a_codes_cells, .int i_codes_greatest, .int i_codes_known, .int i_codes_highest])), (a_codes_lengths, .inl (cI, 256, .inl v_codes_lengths)), (a_codes_values, .inl (cI, 256, .inl v_codes_values)), (a_codes_cells, .inl (cI, 2048, .inl v_codes_cells)), (a_tree, .inr (9, [.ref a_tree_lengths, .ref a_tree_halves, .ref a_tree_leaves, .ref a_tree_sorted, .ref a_tree_starts, .ref a_tree_sums, .ref a_tree_above, .ref a_tree_depths, .int i_tree_known_4, .int i_tree_nextLeaf, .int i_tree_nextSum])), (a_tree_lengths, .inl (cI, 256, .inl v_tree_lengths)), (a_tree_halves, .inl (cI, 256, .inl v_tree_halves_5)), (a_tree_leaves, .inl (cI, 256, .inl v_tree_leaves)), (a_tree_sorted, .inl (cI, 256, .inl v_tree_sorted)), (a_tree_starts, .inl (cI, 257, .inl v_tree_starts)), (a_tree_sums, .inl (cI, 512, .inl v_tree_sums)), (a_tree_above, .inl (cI, 512, .inl v_tree_above)), (a_tree_depths, .inl (cI, 512, .inl v_tree_depths))] := hD.sub [0, 14, 1, 2, 3, 4, 12, 5, 13, 6, 7, 8, 9, 10, 11] (by decide) rfl
      refine lv_istore_n (lv' := [(2, .int r_3), (0, .ref a_this), (1, .int l1)]) hx hb d_PM_lengths_24 rfl hl (by decide) rfl (fun ls hl => ?_)
      refine lv_iload_n hx hb d_PM_lengths_25 rfl (lv_at hl 0 rfl) ?_
      refine lv_iconst (v := 2) hx hb d_PM_lengths_26 (by decide) ?_
      refine lv_icmp_lt (tgt := 37) hx hb d_PM_lengths_27 (by decide) (fun c_7 => ?_) (fun c_7 => ?_)
      · replace h := if_t h c_7
        exact w_PM_lengths_b37 ⟨hx, hb, hml, hown, hts, hK, hA⟩ hret  _ _ _ _ _ _ _ _ _ _ _ _ _ _ _ _ _ h H locs ls (lv_sub hl [] rfl) hP hD hS
      · replace h := if_f h c_7
        refine lv_iload_n hx hb d_PM_lengths_30 rfl (lv_at hl 0 rfl) ?_
        refine lv_iconst (v := 1) hx hb d_PM_lengths_31 (by decide) ?_
        refine lv_iload_n hx hb d_PM_lengths_32 rfl (lv_at hl 2 rfl) ?_
        refine lv_ishl hx hb d_PM_lengths_33 ?_
        refine lv_icmp_le (tgt := 40) hx hb d_PM_lengths_34 (by decide) (fun c_8 => ?_) (fun c_8 => ?_)
        · replace h := if_t h c_8
          refine lv_aload_n hx hb d_PM_lengths_40 rfl (lv_at hl 1 rfl) ?_
          refine va_get hx hb hts in_PM hown hK hP 0 rfl rfl 4 (by decide) (hts _ m_344) (fun _ h9 => h9) rfl d_PM_lengths_41 ?_
          refine lv_iload_n hx hb d_PM_lengths_44 rfl (lv_at hl 2 rfl) ?_
          obtain ⟨i_tree_nextLeaf_9, i_tree_nextSum_10, v_tree_lengths_11, v_tree_halves_12, v_tree_leaves_13, v_tree_sorted_14, v_tree_starts_15, v_tree_sums_16, v_tree_above_17, v_tree_depths_18, hc_19, h⟩ := bd10_s h
          have hPc := hP.sub (ws' := [(a_tree, .inr (9, [.ref a_tree_lengths, .ref a_tree_halves, .ref a_tree_leaves, .ref a_tree_sorted, .ref a_tree_starts, .ref a_tree_sums, .ref a_tree_above, .ref a_tree_depths, .int i_tree_known_4, .int i_tree_nextLeaf, .int i_tree_nextSum])), (a_tree_lengths, .inl (cI, 256, .inl v_tree_lengths)), (a_tree_halves, .inl (cI, 256, .inl v_tree_halves_5)), (a_tree_leaves, .inl (cI, 256, .inl v_tree_leaves)), (a_tree_sorted, .inl (cI, 256, .inl v_tree_sorted)), (a_tree_starts, .inl (cI, 257, .inl v_tree_starts)), (a_tree_sums, .inl (cI, 512, .inl v_tree_sums)), (a_tree_above, .inl (cI, 512, .inl v_tree_above)), (a_tree_depths, .inl (cI, 512, .inl v_tree_depths))]) [6, 7, 8, 9, 10, 11, 12, 13, 14] rfl
          have hDc := hD.sub (ws' := [(a_tree, .inr (9, [.ref a_tree_lengths, .ref a_tree_halves, .ref a_tree_leaves, .ref a_tree_sorted, .ref a_tree_starts, .ref a_tree_sums, .ref a_tree_above, .ref a_tree_depths, .int i_tree_known_4, .int i_tree_nextLeaf, .int i_tree_nextSum])), (a_tree_lengths, .inl (cI, 256, .inl v_tree_lengths)), (a_tree_halves, .inl (cI, 256, .inl v_tree_halves_5)), (a_tree_leaves, .inl (cI, 256, .inl v_tree_leaves)), (a_tree_sorted, .inl (cI, 256, .inl v_tree_sorted)), (a_tree_starts, .inl (cI, 257, .inl v_tree_starts)), (a_tree_sums, .inl (cI, 512, .inl v_tree_sums)), (a_tree_above, .inl (cI, 512, .inl v_tree_above)), (a_tree_depths, .inl (cI, 512, .inl v_tree_depths))]) [6, 7, 8, 9, 10, 11, 12, 13, 14] (by decide) rfl
          have hFc := va_free (wc := [(a_tree, .inr (9, [.ref a_tree_lengths, .ref a_tree_halves, .ref a_tree_leaves, .ref a_tree_sorted, .ref a_tree_starts, .ref a_tree_sums, .ref a_tree_above, .ref a_tree_depths, .int i_tree_known_4, .int i_tree_nextLeaf, .int i_tree_nextSum])), (a_tree_lengths, .inl (cI, 256, .inl v_tree_lengths)), (a_tree_halves, .inl (cI, 256, .inl v_tree_halves_5)), (a_tree_leaves, .inl (cI, 256, .inl v_tree_leaves)), (a_tree_sorted, .inl (cI, 256, .inl v_tree_sorted)), (a_tree_starts, .inl (cI, 257, .inl v_tree_starts)), (a_tree_sums, .inl (cI, 512, .inl v_tree_sums)), (a_tree_above, .inl (cI, 512, .inl v_tree_above)), (a_tree_depths, .inl (cI, 512, .inl v_tree_depths))]) hD hS hA [6, 7, 8, 9, 10, 11, 12, 13, 14] rfl
          refine va_callv (va_runV (As := [.int l1]) (rest := []) ⟨hx, hb, hml, hown, hts⟩ (c_Tree_grow l D cI cL cZ H.size N a_tree a_tree_lengths a_tree_halves a_tree_leaves a_tree_sorted a_tree_starts a_tree_sums a_tree_above a_tree_depths i_tree_known_4 i_tree_nextLeaf i_tree_nextSum v_tree_lengths v_tree_halves_5 v_tree_leaves v_tree_sorted v_tree_starts v_tree_sums v_tree_above v_tree_depths l1 i_tree_nextLeaf_9 i_tree_nextSum_10 v_tree_lengths_11 v_tree_halves_12 v_tree_leaves_13 v_tree_sorted_14 v_tree_starts_15 v_tree_sums_16 v_tree_above_17 v_tree_depths_18 hc_19) ⟨(my_cb 1 hts m_442 rfl rfl (hts _ m_69) (hts _ m_439) (by decide +kernel) ⟨Nat.le_of_ble_eq_true rfl, Nat.le_of_ble_eq_true rfl⟩), hts _ m_440, hts _ m_441⟩ ⟨fun a U g mk q => by obtain ⟨q0, q1, qP, qK, qD⟩ := q; exact ⟨q0, q1, qP, va_K.moved (u := U) (U := U.calling g mk a) (Vm.Alike.refl U.vm) qK, qD⟩, va_recv hK hPc (ci := 9) (q0 := 0) rfl rfl, fun U hU hW => ⟨rfl, by rw [hU], by rw [hU]; exact hPc, va_K.moved hW.alike hK, hDc.weaken (fun _ _ _ _ => trivial)⟩⟩ rfl rfl hl.1 rfl (lv_room (Nat.le_of_ble_eq_true rfl)) d_PM_lengths_45 ⟨Nat.zero_le _, Nat.zero_le _⟩) hS (fun q _ h => hFc q h) hFc (fun u t H1 locs ht hvm hw hB hz1 hk1 hS => ?_)
          obtain ⟨hP1, hK1, hD1⟩ := hB
          rw [ht] at hP1
          obtain ⟨hP, hD⟩ := va_join (wr := [(a_this, .inr (0, [.ref o_in, .ref o_out, .ref a_counts, .ref a_codes, .ref a_tree, .ref o_writer, .ref o_reader, .ref o_streams, .int i_place])), (a_counts, .inl (cI, 256, .inl v_counts)), (a_codes, .inr (2, [.ref a_codes_lengths, .ref a_codes_values, .ref a_codes_cells, .int i_codes_greatest, .int i_codes_known, .int i_codes_highest])), (a_codes_lengths, .inl (cI, 256, .inl v_codes_lengths)), (a_codes_values, .inl (cI, 256, .inl v_codes_values)), (a_codes_cells, .inl (cI, 2048, .inl v_codes_cells))]) (w1 := [(a_tree, .inr (9, [.ref a_tree_lengths, .ref a_tree_halves, .ref a_tree_leaves, .ref a_tree_sorted, .ref a_tree_starts, .ref a_tree_sums, .ref a_tree_above, .ref a_tree_depths, .int i_tree_known_4, .int i_tree_nextLeaf_9, .int i_tree_nextSum_10])), (a_tree_lengths, .inl (cI, 256, .inl v_tree_lengths_11)), (a_tree_halves, .inl (cI, 256, .inl v_tree_halves_12)), (a_tree_leaves, .inl (cI, 256, .inl v_tree_leaves_13)), (a_tree_sorted, .inl (cI, 256, .inl v_tree_sorted_14)), (a_tree_starts, .inl (cI, 257, .inl v_tree_starts_15)), (a_tree_sums, .inl (cI, 512, .inl v_tree_sums_16)), (a_tree_above, .inl (cI, 512, .inl v_tree_above_17)), (a_tree_depths, .inl (cI, 512, .inl v_tree_depths_18))]) hP hD [6, 7, 8, 9, 10, 11, 12, 13, 14] [0, 1, 2, 3, 4, 5] rfl rfl (by decide) (by decide) hk1 hFc hP1 hD1
          clear hPc hDc hFc hk1 hP1 hD1 hK1
          generalize H1 = H at hP hS ⊢
          have hP : va_P D classes [(a_this, .inr (0, [.ref o_in, .ref o_out, .ref a_counts, .ref a_codes, .ref a_tree, .ref o_writer, .ref o_reader, .ref o_streams, .int i_place])), (a_counts, .inl (cI, 256, .inl v_counts)), (a_codes, .inr (2, [.ref a_codes_lengths, .ref a_codes_values, .ref a_codes_cells, .int i_codes_greatest, .int i_codes_known, .int i_codes_highest])), (a_codes_lengths, .inl (cI, 256, .inl v_codes_lengths)), (a_codes_values, .inl (cI, 256, .inl v_codes_values)), (a_codes_cells, .inl (cI, 2048, .inl v_codes_cells)), (a_tree, .inr (9, [.ref a_tree_lengths, .ref a_tree_halves, .ref a_tree_leaves, .ref a_tree_sorted, .ref a_tree_starts, .ref a_tree_sums, .ref a_tree_above, .ref a_tree_depths, .int i_tree_known_4, .int i_tree_nextLeaf_9, .int i_tree_nextSum_10])), (a_tree_lengths, .inl (cI, 256, .inl v_tree_lengths_11)), (a_tree_halves, .inl (cI, 256, .inl v_tree_halves_12)), (a_tree_leaves, .inl (cI, 256, .inl v_tree_leaves_13)), (a_tree_sorted, .inl (cI, 256, .inl v_tree_sorted_14)), (a_tree_starts, .inl (cI, 257, .inl v_tree_starts_15)), (a_tree_sums, .inl (cI, 512, .inl v_tree_sums_16)), (a_tree_above, .inl (cI, 512, .inl v_tree_above_17)), (a_tree_depths, .inl (cI, 512, .inl v_tree_depths_18))] H := hP.sub [0, 1, 2, 3, 4, 5, 6, 7, 8, 9, 10, 11, 12, 13, 14] rfl
          have hD : va_D A [(a_this, .inr (0, [.ref o_in, .ref o_out, .ref a_counts, .ref a_codes, .ref a_tree, .ref o_writer, .ref o_reader, .ref o_streams, .int i_place])), (a_counts, .inl (cI, 256, .inl v_counts)), (a_codes, .inr (2, [.ref a_codes_lengths, .ref a_codes_values, .ref a_codes_cells, .int i_codes_greatest, .int i_codes_known, .int i_codes_highest])), (a_codes_lengths, .inl (cI, 256, .inl v_codes_lengths)), (a_codes_values, .inl (cI, 256, .inl v_codes_values)), (a_codes_cells, .inl (cI, 2048, .inl v_codes_cells)), (a_tree, .inr (9, [.ref a_tree_lengths, .ref a_tree_halves, .ref a_tree_leaves, .ref a_tree_sorted, .ref a_tree_starts, .ref a_tree_sums, .ref a_tree_above, .ref a_tree_depths, .int i_tree_known_4, .int i_tree_nextLeaf_9, .int i_tree_nextSum_10])), (a_tree_lengths, .inl (cI, 256, .inl v_tree_lengths_11)), (a_tree_halves, .inl (cI, 256, .inl v_tree_halves_12)), (a_tree_leaves, .inl (cI, 256, .inl v_tree_leaves_13)), (a_tree_sorted, .inl (cI, 256, .inl v_tree_sorted_14)), (a_tree_starts, .inl (cI, 257, .inl v_tree_starts_15)), (a_tree_sums, .inl (cI, 512, .inl v_tree_sums_16)), (a_tree_above, .inl (cI, 512, .inl v_tree_above_17)), (a_tree_depths, .inl (cI, 512, .inl v_tree_depths_18))] := hD.sub [0, 1, 2, 3, 4, 5, 6, 7, 8, 9, 10, 11, 12, 13, 14] (by decide) rfl
          refine lv_aload_n hx hb d_PM_lengths_48 rfl (lv_at hl 1 rfl) ?_
          refine va_get hx hb hts in_PM hown hK hP 0 rfl rfl 3 (by decide) (hts _ m_343) (fun _ h9 => h9) rfl d_PM_lengths_49 ?_
          refine lv_aload_n hx hb d_PM_lengths_52 rfl (lv_at hl 1 rfl) ?_
          refine va_get hx hb hts in_PM hown hK hP 0 rfl rfl 4 (by decide) (hts _ m_344) (fun _ h9 => h9) rfl d_PM_lengths_53 ?_
          refine va_getN hx hb hts in_Tree hown hK hP 6 rfl rfl 0 (by decide) (hts _ m_157) (fun _ h9 => h9) rfl d_PM_lengths_56 ?_
          obtain ⟨r_20, i_codes_greatest_21, i_codes_known_22, i_codes_highest_23, v_codes_lengths_24, v_codes_values_25, v_codes_cells_26, hc_27, h⟩ := bd7_s h
          have hPc := hP.sub (ws' := [(a_codes, .inr (2, [.ref a_codes_lengths, .ref a_codes_values, .ref a_codes_cells, .int i_codes_greatest, .int i_codes_known, .int i_codes_highest])), (a_codes_lengths, .inl (cI, 256, .inl v_codes_lengths)), (a_codes_values, .inl (cI, 256, .inl v_codes_values)), (a_codes_cells, .inl (cI, 2048, .inl v_codes_cells)), (a_tree_lengths, .inl (cI, 256, .inl v_tree_lengths_11))]) [2, 3, 4, 5, 7] rfl
          have hDc := hD.sub (ws' := [(a_codes, .inr (2, [.ref a_codes_lengths, .ref a_codes_values, .ref a_codes_cells, .int i_codes_greatest, .int i_codes_known, .int i_codes_highest])), (a_codes_lengths, .inl (cI, 256, .inl v_codes_lengths)), (a_codes_values, .inl (cI, 256, .inl v_codes_values)), (a_codes_cells, .inl (cI, 2048, .inl v_codes_cells)), (a_tree_lengths, .inl (cI, 256, .inl v_tree_lengths_11))]) [2, 3, 4, 5, 7] (by decide) rfl
          have hFc := va_free (wc := [(a_codes, .inr (2, [.ref a_codes_lengths, .ref a_codes_values, .ref a_codes_cells, .int i_codes_greatest, .int i_codes_known, .int i_codes_highest])), (a_codes_lengths, .inl (cI, 256, .inl v_codes_lengths)), (a_codes_values, .inl (cI, 256, .inl v_codes_values)), (a_codes_cells, .inl (cI, 2048, .inl v_codes_cells)), (a_tree_lengths, .inl (cI, 256, .inl v_tree_lengths_11))]) hD hS hA [2, 3, 4, 5, 7] rfl
          refine va_calli (va_runV (As := [.ref a_tree_lengths]) (rest := []) ⟨hx, hb, hml, hown, hts⟩ (c_Codes_become l D cI cL cZ H.size N a_codes a_codes_lengths a_codes_values a_codes_cells a_tree_lengths i_codes_greatest i_codes_known i_codes_highest v_codes_lengths v_codes_values v_codes_cells 256 v_tree_lengths_11 r_20 i_codes_greatest_21 i_codes_known_22 i_codes_highest_23 v_codes_lengths_24 v_codes_values_25 v_codes_cells_26 hc_27) ⟨(my_cb 1 hts m_477 rfl rfl (hts _ m_68) (hts _ m_474) (by decide +kernel) ⟨Nat.le_of_ble_eq_true rfl, Nat.le_of_ble_eq_true rfl⟩), hts _ m_475, hts _ m_476⟩ ⟨fun a U g mk q => by obtain ⟨q0, q1, qP, qK, qD⟩ := q; exact ⟨q0, q1, qP, va_K.moved (u := U) (U := U.calling g mk a) (Vm.Alike.refl U.vm) qK, qD⟩, va_recv hK hPc (ci := 2) (q0 := 0) rfl rfl, fun U hU hW => ⟨rfl, by rw [hU], by rw [hU]; exact hPc, va_K.moved hW.alike hK, hDc.weaken (fun _ _ _ _ => trivial)⟩⟩ rfl rfl hl.1 rfl (lv_room (Nat.le_of_ble_eq_true rfl)) d_PM_lengths_59 ⟨Nat.zero_le _, Nat.zero_le _⟩) hS (fun q _ h => hFc q h) hFc (fun rr u t H1 locs ht hvm hw hB hz1 hk1 hS => ?_)
          obtain ⟨hP1, hK1, hD1⟩ := hB
          rw [ht] at hP1
          subst hw
          obtain ⟨hP, hD⟩ := va_join (wr := [(a_this, .inr (0, [.ref o_in, .ref o_out, .ref a_counts, .ref a_codes, .ref a_tree, .ref o_writer, .ref o_reader, .ref o_streams, .int i_place])), (a_counts, .inl (cI, 256, .inl v_counts)), (a_tree, .inr (9, [.ref a_tree_lengths, .ref a_tree_halves, .ref a_tree_leaves, .ref a_tree_sorted, .ref a_tree_starts, .ref a_tree_sums, .ref a_tree_above, .ref a_tree_depths, .int i_tree_known_4, .int i_tree_nextLeaf_9, .int i_tree_nextSum_10])), (a_tree_halves, .inl (cI, 256, .inl v_tree_halves_12)), (a_tree_leaves, .inl (cI, 256, .inl v_tree_leaves_13)), (a_tree_sorted, .inl (cI, 256, .inl v_tree_sorted_14)), (a_tree_starts, .inl (cI, 257, .inl v_tree_starts_15)), (a_tree_sums, .inl (cI, 512, .inl v_tree_sums_16)), (a_tree_above, .inl (cI, 512, .inl v_tree_above_17)), (a_tree_depths, .inl (cI, 512, .inl v_tree_depths_18))]) (w1 := [(a_codes, .inr (2, [.ref a_codes_lengths, .ref a_codes_values, .ref a_codes_cells, .int i_codes_greatest_21, .int i_codes_known_22, .int i_codes_highest_23])), (a_codes_lengths, .inl (cI, 256, .inl v_codes_lengths_24)), (a_codes_values, .inl (cI, 256, .inl v_codes_values_25)), (a_codes_cells, .inl (cI, 2048, .inl v_codes_cells_26)), (a_tree_lengths, .inl (cI, 256, .inl v_tree_lengths_11))]) hP hD [2, 3, 4, 5, 7] [0, 1, 6, 8, 9, 10, 11, 12, 13, 14] rfl rfl (by decide) (by decide) hk1 hFc hP1 hD1
          clear hPc hDc hFc hk1 hP1 hD1 hK1
          generalize H1 = H at hP hS ⊢
          have hP : va_P D classes [(a_this, .inr (0, [.ref o_in, .ref o_out, .ref a_counts, .ref a_codes, .ref a_tree, .ref o_writer, .ref o_reader, .ref o_streams, .int i_place])), (a_counts, .inl (cI, 256, .inl v_counts)), (a_codes, .inr (2, [.ref a_codes_lengths, .ref a_codes_values, .ref a_codes_cells, .int i_codes_greatest_21, .int i_codes_known_22, .int i_codes_highest_23])), (a_codes_lengths, .inl (cI, 256, .inl v_codes_lengths_24)), (a_codes_values, .inl (cI, 256, .inl v_codes_values_25)), (a_codes_cells, .inl (cI, 2048, .inl v_codes_cells_26)), (a_tree, .inr (9, [.ref a_tree_lengths, .ref a_tree_halves, .ref a_tree_leaves, .ref a_tree_sorted, .ref a_tree_starts, .ref a_tree_sums, .ref a_tree_above, .ref a_tree_depths, .int i_tree_known_4, .int i_tree_nextLeaf_9, .int i_tree_nextSum_10])), (a_tree_lengths, .inl (cI, 256, .inl v_tree_lengths_11)), (a_tree_halves, .inl (cI, 256, .inl v_tree_halves_12)), (a_tree_leaves, .inl (cI, 256, .inl v_tree_leaves_13)), (a_tree_sorted, .inl (cI, 256, .inl v_tree_sorted_14)), (a_tree_starts, .inl (cI, 257, .inl v_tree_starts_15)), (a_tree_sums, .inl (cI, 512, .inl v_tree_sums_16)), (a_tree_above, .inl (cI, 512, .inl v_tree_above_17)), (a_tree_depths, .inl (cI, 512, .inl v_tree_depths_18))] H := hP.sub [0, 1, 10, 11, 12, 13, 2, 14, 3, 4, 5, 6, 7, 8, 9] rfl
          have hD : va_D A [(a_this, .inr (0, [.ref o_in, .ref o_out, .ref a_counts, .ref a_codes, .ref a_tree, .ref o_writer, .ref o_reader, .ref o_streams, .int i_place])), (a_counts, .inl (cI, 256, .inl v_counts)), (a_codes, .inr (2, [.ref a_codes_lengths, .ref a_codes_values, .ref a_codes_cells, .int i_codes_greatest_21, .int i_codes_known_22, .int i_codes_highest_23])), (a_codes_lengths, .inl (cI, 256, .inl v_codes_lengths_24)), (a_codes_values, .inl (cI, 256, .inl v_codes_values_25)), (a_codes_cells, .inl (cI, 2048, .inl v_codes_cells_26)), (a_tree, .inr (9, [.ref a_tree_lengths, .ref a_tree_halves, .ref a_tree_leaves, .ref a_tree_sorted, .ref a_tree_starts, .ref a_tree_sums, .ref a_tree_above, .ref a_tree_depths, .int i_tree_known_4, .int i_tree_nextLeaf_9, .int i_tree_nextSum_10])), (a_tree_lengths, .inl (cI, 256, .inl v_tree_lengths_11)), (a_tree_halves, .inl (cI, 256, .inl v_tree_halves_12)), (a_tree_leaves, .inl (cI, 256, .inl v_tree_leaves_13)), (a_tree_sorted, .inl (cI, 256, .inl v_tree_sorted_14)), (a_tree_starts, .inl (cI, 257, .inl v_tree_starts_15)), (a_tree_sums, .inl (cI, 512, .inl v_tree_sums_16)), (a_tree_above, .inl (cI, 512, .inl v_tree_above_17)), (a_tree_depths, .inl (cI, 512, .inl v_tree_depths_18))] := hD.sub [0, 1, 10, 11, 12, 13, 2, 14, 3, 4, 5, 6, 7, 8, 9] (by decide) rfl
          exact hret _ _ _ _ r_20 i_codes_greatest_21 i_codes_known_22 i_codes_highest_23 v_codes_lengths_24 v_codes_values_25 v_codes_cells_26 i_tree_known_4 i_tree_nextLeaf_9 i_tree_nextSum_10 v_tree_lengths_11 v_tree_halves_12 v_tree_leaves_13 v_tree_sorted_14 v_tree_starts_15 v_tree_sums_16 v_tree_above_17 v_tree_depths_18 h d_PM_lengths_62 hP hD hS
        · replace h := if_f h c_8
          exact w_PM_lengths_b37 ⟨hx, hb, hml, hown, hts, hK, hA⟩ hret  _ _ _ _ _ _ _ _ _ _ _ _ _ _ _ _ _ h H locs ls (lv_sub hl [] rfl) hP hD hS
    · replace h := if_f h c_2
      exact w_PM_lengths_b11 ⟨hx, hb, hml, hown, hts, hK, hA⟩ hret  _ _ _ _ _ _ _ _ _ _ _ _ _ _ _ _ _ h H locs ls (lv_sub hl [] rfl) hP hD hS
set_option maxHeartbeats 4000000 in
set_option maxRecDepth 100000 in
theorem c_PM_lengths (l : Launch) (D : va_G) (cI cL cZ : ClassId) (sz N : Nat) (a_this : Nat) (a_counts : Nat) (a_codes : Nat) (a_codes_lengths : Nat) (a_codes_values : Nat) (a_codes_cells : Nat) (a_tree : Nat) (a_tree_lengths : Nat) (a_tree_halves : Nat) (a_tree_leaves : Nat) (a_tree_sorted : Nat) (a_tree_starts : Nat) (a_tree_sums : Nat) (a_tree_above : Nat) (a_tree_depths : Nat) (o_in : Nat) (o_out : Nat) (o_writer : Nat) (o_reader : Nat) (o_streams : Nat) (i_place : Int32) (v_counts : Nat → Int32) (i_codes_greatest : Int32) (i_codes_known : Int32) (i_codes_highest : Int32) (v_codes_lengths : Nat → Int32) (v_codes_values : Nat → Int32) (v_codes_cells : Nat → Int32) (i_tree_known : Int32) (i_tree_nextLeaf : Int32) (i_tree_nextSum : Int32) (v_tree_lengths : Nat → Int32) (v_tree_halves : Nat → Int32) (v_tree_leaves : Nat → Int32) (v_tree_sorted : Nat → Int32) (v_tree_starts : Nat → Int32) (v_tree_sums : Nat → Int32) (v_tree_above : Nat → Int32) (v_tree_depths : Nat → Int32) (l1 : Int32) (rv : Int32) (i_codes_greatest' : Int32) (i_codes_known' : Int32) (i_codes_highest' : Int32) (v_codes_lengths' : Nat → Int32) (v_codes_values' : Nat → Int32) (v_codes_cells' : Nat → Int32) (i_tree_known' : Int32) (i_tree_nextLeaf' : Int32) (i_tree_nextSum' : Int32) (v_tree_lengths' : Nat → Int32) (v_tree_halves' : Nat → Int32) (v_tree_leaves' : Nat → Int32) (v_tree_sorted' : Nat → Int32) (v_tree_starts' : Nat → Int32) (v_tree_sums' : Nat → Int32) (v_tree_above' : Nat → Int32) (v_tree_depths' : Nat → Int32) (h : f_PM_lengths N v_counts l1 i_codes_greatest i_codes_known i_codes_highest v_codes_lengths v_codes_values v_codes_cells i_tree_known i_tree_nextLeaf i_tree_nextSum v_tree_lengths v_tree_halves v_tree_leaves v_tree_sorted v_tree_starts v_tree_sums v_tree_above v_tree_depths = some (rv, i_codes_greatest', i_codes_known', i_codes_highest', v_codes_lengths', v_codes_values', v_codes_cells', i_tree_known', i_tree_nextLeaf', i_tree_nextSum', v_tree_lengths', v_tree_halves', v_tree_leaves', v_tree_sorted', v_tree_starts', v_tree_sums', v_tree_above', v_tree_depths')) : Met l ({ cls := "PrefixMill", name := "lengths", desc := "(I)I" } : Jvm.MethodName) ws_PM_lengths R_PM_lengths (va_Pc [.ref a_this, .int l1] (fun U => U.heap.size = sz ∧ va_P D classes [(a_this, .inr (0, [.ref o_in, .ref o_out, .ref a_counts, .ref a_codes, .ref a_tree, .ref o_writer, .ref o_reader, .ref o_streams, .int i_place])), (a_counts, .inl (cI, 256, .inl v_counts)), (a_codes, .inr (2, [.ref a_codes_lengths, .ref a_codes_values, .ref a_codes_cells, .int i_codes_greatest, .int i_codes_known, .int i_codes_highest])), (a_codes_lengths, .inl (cI, 256, .inl v_codes_lengths)), (a_codes_values, .inl (cI, 256, .inl v_codes_values)), (a_codes_cells, .inl (cI, 2048, .inl v_codes_cells)), (a_tree, .inr (9, [.ref a_tree_lengths, .ref a_tree_halves, .ref a_tree_leaves, .ref a_tree_sorted, .ref a_tree_starts, .ref a_tree_sums, .ref a_tree_above, .ref a_tree_depths, .int i_tree_known, .int i_tree_nextLeaf, .int i_tree_nextSum])), (a_tree_lengths, .inl (cI, 256, .inl v_tree_lengths)), (a_tree_halves, .inl (cI, 256, .inl v_tree_halves)), (a_tree_leaves, .inl (cI, 256, .inl v_tree_leaves)), (a_tree_sorted, .inl (cI, 256, .inl v_tree_sorted)), (a_tree_starts, .inl (cI, 257, .inl v_tree_starts)), (a_tree_sums, .inl (cI, 512, .inl v_tree_sums)), (a_tree_above, .inl (cI, 512, .inl v_tree_above)), (a_tree_depths, .inl (cI, 512, .inl v_tree_depths))] U.heap ∧ va_K D classes [(cI, .int), (cL, .long), (cZ, .boolean)] U ∧ va_D (fun _ => True) [(a_this, .inr (0, [.ref o_in, .ref o_out, .ref a_counts, .ref a_codes, .ref a_tree, .ref o_writer, .ref o_reader, .ref o_streams, .int i_place])), (a_counts, .inl (cI, 256, .inl v_counts)), (a_codes, .inr (2, [.ref a_codes_lengths, .ref a_codes_values, .ref a_codes_cells, .int i_codes_greatest, .int i_codes_known, .int i_codes_highest])), (a_codes_lengths, .inl (cI, 256, .inl v_codes_lengths)), (a_codes_values, .inl (cI, 256, .inl v_codes_values)), (a_codes_cells, .inl (cI, 2048, .inl v_codes_cells)), (a_tree, .inr (9, [.ref a_tree_lengths, .ref a_tree_halves, .ref a_tree_leaves, .ref a_tree_sorted, .ref a_tree_starts, .ref a_tree_sums, .ref a_tree_above, .ref a_tree_depths, .int i_tree_known, .int i_tree_nextLeaf, .int i_tree_nextSum])), (a_tree_lengths, .inl (cI, 256, .inl v_tree_lengths)), (a_tree_halves, .inl (cI, 256, .inl v_tree_halves)), (a_tree_leaves, .inl (cI, 256, .inl v_tree_leaves)), (a_tree_sorted, .inl (cI, 256, .inl v_tree_sorted)), (a_tree_starts, .inl (cI, 257, .inl v_tree_starts)), (a_tree_sums, .inl (cI, 512, .inl v_tree_sums)), (a_tree_above, .inl (cI, 512, .inl v_tree_above)), (a_tree_depths, .inl (cI, 512, .inl v_tree_depths))])) (va_Qi (fun (r0 : Int32) (_ : Unit) => rv = r0) (fun _ t => va_P D classes [(a_this, .inr (0, [.ref o_in, .ref o_out, .ref a_counts, .ref a_codes, .ref a_tree, .ref o_writer, .ref o_reader, .ref o_streams, .int i_place])), (a_counts, .inl (cI, 256, .inl v_counts)), (a_codes, .inr (2, [.ref a_codes_lengths, .ref a_codes_values, .ref a_codes_cells, .int i_codes_greatest', .int i_codes_known', .int i_codes_highest'])), (a_codes_lengths, .inl (cI, 256, .inl v_codes_lengths')), (a_codes_values, .inl (cI, 256, .inl v_codes_values')), (a_codes_cells, .inl (cI, 2048, .inl v_codes_cells')), (a_tree, .inr (9, [.ref a_tree_lengths, .ref a_tree_halves, .ref a_tree_leaves, .ref a_tree_sorted, .ref a_tree_starts, .ref a_tree_sums, .ref a_tree_above, .ref a_tree_depths, .int i_tree_known', .int i_tree_nextLeaf', .int i_tree_nextSum'])), (a_tree_lengths, .inl (cI, 256, .inl v_tree_lengths')), (a_tree_halves, .inl (cI, 256, .inl v_tree_halves')), (a_tree_leaves, .inl (cI, 256, .inl v_tree_leaves')), (a_tree_sorted, .inl (cI, 256, .inl v_tree_sorted')), (a_tree_starts, .inl (cI, 257, .inl v_tree_starts')), (a_tree_sums, .inl (cI, 512, .inl v_tree_sums')), (a_tree_above, .inl (cI, 512, .inl v_tree_above')), (a_tree_depths, .inl (cI, 512, .inl v_tree_depths'))] t.heap ∧ va_K D classes [(cI, .int), (cL, .long), (cZ, .boolean)] t ∧ va_D (va_A [(a_this, .inr (0, [.ref o_in, .ref o_out, .ref a_counts, .ref a_codes, .ref a_tree, .ref o_writer, .ref o_reader, .ref o_streams, .int i_place])), (a_counts, .inl (cI, 256, .inl v_counts)), (a_codes, .inr (2, [.ref a_codes_lengths, .ref a_codes_values, .ref a_codes_cells, .int i_codes_greatest, .int i_codes_known, .int i_codes_highest])), (a_codes_lengths, .inl (cI, 256, .inl v_codes_lengths)), (a_codes_values, .inl (cI, 256, .inl v_codes_values)), (a_codes_cells, .inl (cI, 2048, .inl v_codes_cells)), (a_tree, .inr (9, [.ref a_tree_lengths, .ref a_tree_halves, .ref a_tree_leaves, .ref a_tree_sorted, .ref a_tree_starts, .ref a_tree_sums, .ref a_tree_above, .ref a_tree_depths, .int i_tree_known, .int i_tree_nextLeaf, .int i_tree_nextSum])), (a_tree_lengths, .inl (cI, 256, .inl v_tree_lengths)), (a_tree_halves, .inl (cI, 256, .inl v_tree_halves)), (a_tree_leaves, .inl (cI, 256, .inl v_tree_leaves)), (a_tree_sorted, .inl (cI, 256, .inl v_tree_sorted)), (a_tree_starts, .inl (cI, 257, .inl v_tree_starts)), (a_tree_sums, .inl (cI, 512, .inl v_tree_sums)), (a_tree_above, .inl (cI, 512, .inl v_tree_above)), (a_tree_depths, .inl (cI, 512, .inl v_tree_depths))] sz) [(a_this, .inr (0, [.ref o_in, .ref o_out, .ref a_counts, .ref a_codes, .ref a_tree, .ref o_writer, .ref o_reader, .ref o_streams, .int i_place])), (a_counts, .inl (cI, 256, .inl v_counts)), (a_codes, .inr (2, [.ref a_codes_lengths, .ref a_codes_values, .ref a_codes_cells, .int i_codes_greatest', .int i_codes_known', .int i_codes_highest'])), (a_codes_lengths, .inl (cI, 256, .inl v_codes_lengths')), (a_codes_values, .inl (cI, 256, .inl v_codes_values')), (a_codes_cells, .inl (cI, 2048, .inl v_codes_cells')), (a_tree, .inr (9, [.ref a_tree_lengths, .ref a_tree_halves, .ref a_tree_leaves, .ref a_tree_sorted, .ref a_tree_starts, .ref a_tree_sums, .ref a_tree_above, .ref a_tree_depths, .int i_tree_known', .int i_tree_nextLeaf', .int i_tree_nextSum'])), (a_tree_lengths, .inl (cI, 256, .inl v_tree_lengths')), (a_tree_halves, .inl (cI, 256, .inl v_tree_halves')), (a_tree_leaves, .inl (cI, 256, .inl v_tree_leaves')), (a_tree_sorted, .inl (cI, 256, .inl v_tree_sorted')), (a_tree_starts, .inl (cI, 257, .inl v_tree_starts')), (a_tree_sums, .inl (cI, 512, .inl v_tree_sums')), (a_tree_above, .inl (cI, 512, .inl v_tree_above')), (a_tree_depths, .inl (cI, 512, .inl v_tree_depths'))]) (va_A [(a_this, .inr (0, [.ref o_in, .ref o_out, .ref a_counts, .ref a_codes, .ref a_tree, .ref o_writer, .ref o_reader, .ref o_streams, .int i_place])), (a_counts, .inl (cI, 256, .inl v_counts)), (a_codes, .inr (2, [.ref a_codes_lengths, .ref a_codes_values, .ref a_codes_cells, .int i_codes_greatest, .int i_codes_known, .int i_codes_highest])), (a_codes_lengths, .inl (cI, 256, .inl v_codes_lengths)), (a_codes_values, .inl (cI, 256, .inl v_codes_values)), (a_codes_cells, .inl (cI, 2048, .inl v_codes_cells)), (a_tree, .inr (9, [.ref a_tree_lengths, .ref a_tree_halves, .ref a_tree_leaves, .ref a_tree_sorted, .ref a_tree_starts, .ref a_tree_sums, .ref a_tree_above, .ref a_tree_depths, .int i_tree_known, .int i_tree_nextLeaf, .int i_tree_nextSum])), (a_tree_lengths, .inl (cI, 256, .inl v_tree_lengths)), (a_tree_halves, .inl (cI, 256, .inl v_tree_halves)), (a_tree_leaves, .inl (cI, 256, .inl v_tree_leaves)), (a_tree_sorted, .inl (cI, 256, .inl v_tree_sorted)), (a_tree_starts, .inl (cI, 257, .inl v_tree_starts)), (a_tree_sums, .inl (cI, 512, .inl v_tree_sums)), (a_tree_above, .inl (cI, 512, .inl v_tree_above)), (a_tree_depths, .inl (cI, 512, .inl v_tree_depths))] sz)) 0 0 (va_A [(a_this, .inr (0, [.ref o_in, .ref o_out, .ref a_counts, .ref a_codes, .ref a_tree, .ref o_writer, .ref o_reader, .ref o_streams, .int i_place])), (a_counts, .inl (cI, 256, .inl v_counts)), (a_codes, .inr (2, [.ref a_codes_lengths, .ref a_codes_values, .ref a_codes_cells, .int i_codes_greatest, .int i_codes_known, .int i_codes_highest])), (a_codes_lengths, .inl (cI, 256, .inl v_codes_lengths)), (a_codes_values, .inl (cI, 256, .inl v_codes_values)), (a_codes_cells, .inl (cI, 2048, .inl v_codes_cells)), (a_tree, .inr (9, [.ref a_tree_lengths, .ref a_tree_halves, .ref a_tree_leaves, .ref a_tree_sorted, .ref a_tree_starts, .ref a_tree_sums, .ref a_tree_above, .ref a_tree_depths, .int i_tree_known, .int i_tree_nextLeaf, .int i_tree_nextSum])), (a_tree_lengths, .inl (cI, 256, .inl v_tree_lengths)), (a_tree_halves, .inl (cI, 256, .inl v_tree_halves)), (a_tree_leaves, .inl (cI, 256, .inl v_tree_leaves)), (a_tree_sorted, .inl (cI, 256, .inl v_tree_sorted)), (a_tree_starts, .inl (cI, 257, .inl v_tree_starts)), (a_tree_sums, .inl (cI, 512, .inl v_tree_sums)), (a_tree_above, .inl (cI, 512, .inl v_tree_above)), (a_tree_depths, .inl (cI, 512, .inl v_tree_depths))] sz) := by
  refine Met.ofW (cc := b_PM_lengths) (maxL := 3) (ret := (some .int)) (by decide) rfl ?_
  intro p e s m args below meth c s₁ B hml hv
  obtain ⟨rfl, hsz, hP, hK, hD0⟩ := hv
  have hx := B.exec
  have hb := B.bytes
  have hr := B.returns
  have hts0 := atoms_spec (ws := ws_PM_lengths) B.pre
  have hts := gd_tl hts0
  clear hts0
  have hown : s.vm.findClass "PrefixMill" = some m.cls := findClass_of_methodNamed B.named
  have hlocks := B.notSynchronized
  subst hsz
  have hD := hD0.self (sz := s.heap.size)
  generalize hAe : va_A [(a_this, .inr (0, [.ref o_in, .ref o_out, .ref a_counts, .ref a_codes, .ref a_tree, .ref o_writer, .ref o_reader, .ref o_streams, .int i_place])), (a_counts, .inl (cI, 256, .inl v_counts)), (a_codes, .inr (2, [.ref a_codes_lengths, .ref a_codes_values, .ref a_codes_cells, .int i_codes_greatest, .int i_codes_known, .int i_codes_highest])), (a_codes_lengths, .inl (cI, 256, .inl v_codes_lengths)), (a_codes_values, .inl (cI, 256, .inl v_codes_values)), (a_codes_cells, .inl (cI, 2048, .inl v_codes_cells)), (a_tree, .inr (9, [.ref a_tree_lengths, .ref a_tree_halves, .ref a_tree_leaves, .ref a_tree_sorted, .ref a_tree_starts, .ref a_tree_sums, .ref a_tree_above, .ref a_tree_depths, .int i_tree_known, .int i_tree_nextLeaf, .int i_tree_nextSum])), (a_tree_lengths, .inl (cI, 256, .inl v_tree_lengths)), (a_tree_halves, .inl (cI, 256, .inl v_tree_halves)), (a_tree_leaves, .inl (cI, 256, .inl v_tree_leaves)), (a_tree_sorted, .inl (cI, 256, .inl v_tree_sorted)), (a_tree_starts, .inl (cI, 257, .inl v_tree_starts)), (a_tree_sums, .inl (cI, 512, .inl v_tree_sums)), (a_tree_above, .inl (cI, 512, .inl v_tree_above)), (a_tree_depths, .inl (cI, 512, .inl v_tree_depths))] s.heap.size = A at hD ⊢
  have hA : ∀ q : Nat, s.heap.size ≤ q → A q := fun q h => by rw [← hAe]; exact Or.inr h
  have hS : va_S A s.heap s.heap [] := va_S.rf
  have hP : va_P D classes [(a_this, .inr (0, [.ref o_in, .ref o_out, .ref a_counts, .ref a_codes, .ref a_tree, .ref o_writer, .ref o_reader, .ref o_streams, .int i_place])), (a_counts, .inl (cI, 256, .inl v_counts)), (a_codes, .inr (2, [.ref a_codes_lengths, .ref a_codes_values, .ref a_codes_cells, .int i_codes_greatest, .int i_codes_known, .int i_codes_highest])), (a_codes_lengths, .inl (cI, 256, .inl v_codes_lengths)), (a_codes_values, .inl (cI, 256, .inl v_codes_values)), (a_codes_cells, .inl (cI, 2048, .inl v_codes_cells)), (a_tree, .inr (9, [.ref a_tree_lengths, .ref a_tree_halves, .ref a_tree_leaves, .ref a_tree_sorted, .ref a_tree_starts, .ref a_tree_sums, .ref a_tree_above, .ref a_tree_depths, .int i_tree_known, .int i_tree_nextLeaf, .int i_tree_nextSum])), (a_tree_lengths, .inl (cI, 256, .inl v_tree_lengths)), (a_tree_halves, .inl (cI, 256, .inl v_tree_halves)), (a_tree_leaves, .inl (cI, 256, .inl v_tree_leaves)), (a_tree_sorted, .inl (cI, 256, .inl v_tree_sorted)), (a_tree_starts, .inl (cI, 257, .inl v_tree_starts)), (a_tree_sums, .inl (cI, 512, .inl v_tree_sums)), (a_tree_above, .inl (cI, 512, .inl v_tree_above)), (a_tree_depths, .inl (cI, 512, .inl v_tree_depths))] s.heap := hP
  have hl := lv_entry ([.ref a_this, .int l1]) (n := 3) (Nat.le_of_ble_eq_true rfl)
  rw [lg_entry_eq]
  generalize (lg_sl ([.ref a_this, .int l1]) ++ List.replicate (3 - (lg_sl ([.ref a_this, .int l1])).length) Slot.unset).toArray = ls at hl ⊢
  have hl : lv_has ls 3 [(0, .ref a_this), (1, .int l1)] := hl
  have C : Cx p s m ([.ref a_this, .int l1] : List Value).toArray c b_PM_lengths 3 "PrefixMill" D [(cI, .int), (cL, .long), (cZ, .boolean)] A := ⟨hx, hb, hml, hown, hts, hK, hA⟩
  refine w_PM_lengths_b0 (res := (rv, i_codes_greatest', i_codes_known', i_codes_highest', v_codes_lengths', v_codes_values', v_codes_cells', i_tree_known', i_tree_nextLeaf', i_tree_nextSum', v_tree_lengths', v_tree_halves', v_tree_leaves', v_tree_sorted', v_tree_starts', v_tree_sums', v_tree_above', v_tree_depths')) C ?_ _ _ _ _ _ _ _ _ _ _ _ _ _ _ _ _ _ h s.heap [] ls hl hP hD hS
  intro pc9 H9 locs9 ls9 rv9 i_codes_greatest9 i_codes_known9 i_codes_highest9 v_codes_lengths9 v_codes_values9 v_codes_cells9 i_tree_known9 i_tree_nextLeaf9 i_tree_nextSum9 v_tree_lengths9 v_tree_halves9 v_tree_leaves9 v_tree_sorted9 v_tree_starts9 v_tree_sums9 v_tree_above9 v_tree_depths9 e9 d9 hP9 hD9 hS9
  cases e9
  exact W.iret (v := rv) hx hb hr (fun t ht hW => ⟨⟨rv, (), rfl, rfl, by rw [ht]; exact hP9, va_K.moved hW.alike hK, hD9⟩, hS9.F ht⟩) hS9.2.2 d9
abbrev b_PM_areLengths : ByteArray := prog_1_method_22_code
def ws_PM_areLengths : List Cond := .code ({ cls := "PrefixMill", name := "areLengths", desc := "([I)Z" } : Jvm.MethodName) b_PM_areLengths 4 (some .boolean) :: tt
theorem d_PM_areLengths_0 : decode b_PM_areLengths 0 = .ok (.aload_n 0, 1) := by decide +kernel
theorem d_PM_areLengths_1 : decode b_PM_areLengths 1 = .ok (.invokestatic 158, 3) := by decide +kernel
theorem d_PM_areLengths_4 : decode b_PM_areLengths 4 = .ok (.istore_n 1, 1) := by decide +kernel
theorem d_PM_areLengths_5 : decode b_PM_areLengths 5 = .ok (.iload_n 1, 1) := by decide +kernel
theorem d_PM_areLengths_6 : decode b_PM_areLengths 6 = .ok (.bipush 11, 2) := by decide +kernel
theorem d_PM_areLengths_8 : decode b_PM_areLengths 8 = .ok (.if_icmp .le 5, 3) := by decide +kernel
theorem d_PM_areLengths_11 : decode b_PM_areLengths 11 = .ok (.iconst 0, 1) := by decide +kernel
theorem d_PM_areLengths_12 : decode b_PM_areLengths 12 = .ok (.ireturn, 1) := by decide +kernel
theorem d_PM_areLengths_13 : decode b_PM_areLengths 13 = .ok (.iconst 0, 1) := by decide +kernel
theorem d_PM_areLengths_14 : decode b_PM_areLengths 14 = .ok (.istore_n 2, 1) := by decide +kernel
theorem d_PM_areLengths_15 : decode b_PM_areLengths 15 = .ok (.iconst 0, 1) := by decide +kernel
theorem d_PM_areLengths_16 : decode b_PM_areLengths 16 = .ok (.istore_n 3, 1) := by decide +kernel
theorem d_PM_areLengths_17 : decode b_PM_areLengths 17 = .ok (.iload_n 3, 1) := by decide +kernel
theorem d_PM_areLengths_18 : decode b_PM_areLengths 18 = .ok (.sipush 256, 3) := by decide +kernel
theorem d_PM_areLengths_21 : decode b_PM_areLengths 21 = .ok (.if_icmp .ge 25, 3) := by decide +kernel
theorem d_PM_areLengths_24 : decode b_PM_areLengths 24 = .ok (.aload_n 0, 1) := by decide +kernel
theorem d_PM_areLengths_25 : decode b_PM_areLengths 25 = .ok (.iload_n 3, 1) := by decide +kernel
theorem d_PM_areLengths_26 : decode b_PM_areLengths 26 = .ok (.iaload, 1) := by decide +kernel
theorem d_PM_areLengths_27 : decode b_PM_areLengths 27 = .ok (.ifCond .le 13, 3) := by decide +kernel
theorem d_PM_areLengths_30 : decode b_PM_areLengths 30 = .ok (.iload_n 2, 1) := by decide +kernel
theorem d_PM_areLengths_31 : decode b_PM_areLengths 31 = .ok (.iconst 1, 1) := by decide +kernel
theorem d_PM_areLengths_32 : decode b_PM_areLengths 32 = .ok (.iload_n 1, 1) := by decide +kernel
theorem d_PM_areLengths_33 : decode b_PM_areLengths 33 = .ok (.aload_n 0, 1) := by decide +kernel
theorem d_PM_areLengths_34 : decode b_PM_areLengths 34 = .ok (.iload_n 3, 1) := by decide +kernel
theorem d_PM_areLengths_35 : decode b_PM_areLengths 35 = .ok (.iaload, 1) := by decide +kernel
theorem d_PM_areLengths_36 : decode b_PM_areLengths 36 = .ok (.isub, 1) := by decide +kernel
theorem d_PM_areLengths_37 : decode b_PM_areLengths 37 = .ok (.ishl, 1) := by decide +kernel
theorem d_PM_areLengths_38 : decode b_PM_areLengths 38 = .ok (.iadd, 1) := by decide +kernel
theorem d_PM_areLengths_39 : decode b_PM_areLengths 39 = .ok (.istore_n 2, 1) := by decide +kernel
theorem d_PM_areLengths_40 : decode b_PM_areLengths 40 = .ok (.iinc 3 1, 3) := by decide +kernel
theorem d_PM_areLengths_43 : decode b_PM_areLengths 43 = .ok (.goto (-26), 3) := by decide +kernel
theorem d_PM_areLengths_46 : decode b_PM_areLengths 46 = .ok (.iload_n 2, 1) := by decide +kernel
theorem d_PM_areLengths_47 : decode b_PM_areLengths 47 = .ok (.iconst 1, 1) := by decide +kernel
theorem d_PM_areLengths_48 : decode b_PM_areLengths 48 = .ok (.iload_n 1, 1) := by decide +kernel
theorem d_PM_areLengths_49 : decode b_PM_areLengths 49 = .ok (.ishl, 1) := by decide +kernel
theorem d_PM_areLengths_50 : decode b_PM_areLengths 50 = .ok (.if_icmp .ne 7, 3) := by decide +kernel
theorem d_PM_areLengths_53 : decode b_PM_areLengths 53 = .ok (.iconst 1, 1) := by decide +kernel
theorem d_PM_areLengths_54 : decode b_PM_areLengths 54 = .ok (.goto 4, 3) := by decide +kernel
theorem d_PM_areLengths_57 : decode b_PM_areLengths 57 = .ok (.iconst 0, 1) := by decide +kernel
theorem d_PM_areLengths_58 : decode b_PM_areLengths 58 = .ok (.ireturn, 1) := by decide +kernel
def f_PM_areLengths_b40 (N : Nat) (n_p1 : Nat) (v_p1 : Nat → Int32) (k17 : Int32 → Int32 → Int32 → Option (Int32)) (l1 : Int32) (l2 : Int32) (l3 : Int32) : Option (Int32) :=
  nm (l3 + 1) fun l3_1 =>
  k17 l1 l2 l3_1
def f_PM_areLengths_b46 (N : Nat) (n_p1 : Nat) (v_p1 : Nat → Int32)  (l1 : Int32) (l2 : Int32) : Option (Int32) :=
  if l2 = (1 <<< (l1 &&& 31)) then
  some (1)
  else
  some (0)
def f_PM_areLengths_b17 (N : Nat) (n_p1 : Nat) (v_p1 : Nat → Int32)  : Nat → Int32 → Int32 → Int32 → Option (Int32)
  | 0, _, _, _ => none
  | z + 1, l1, l2, l3 =>
  if 256 ≤ l3 then
  f_PM_areLengths_b46 N n_p1 v_p1  l1 l2
  else
  ck (inb l3 n_p1) <|
  if (v_p1 (Int32.toNatClampNeg l3)) ≤ 0 then
  f_PM_areLengths_b40 N n_p1 v_p1 (f_PM_areLengths_b17 N n_p1 v_p1  z) l1 l2 l3
  else
  ck (inb l3 n_p1) <|
  nm (l2 + (1 <<< ((l1 - (v_p1 (Int32.toNatClampNeg l3))) &&& 31))) fun l2_5 =>
  f_PM_areLengths_b40 N n_p1 v_p1 (f_PM_areLengths_b17 N n_p1 v_p1  z) l1 l2_5 l3
def f_PM_areLengths (N : Nat) (n_p1 : Nat) (v_p1 : Nat → Int32)   : Option (Int32) :=
  bd1 (f_PM_greatestOf N n_p1 v_p1) fun r_1 =>
  if r_1 ≤ 11 then
  f_PM_areLengths_b17 N n_p1 v_p1  N r_1 0 0
  else
  some (0)
abbrev R_PM_areLengths : Room := ({ frames := 2, cells := 0, slots := 0, locals := 43 } : Room)
def E_PM_areLengths (p : Program) (l : Launch) (e : Env) (s : State) (m : MethodId) (args : Array Value) (below : List Frame) (meth : Method) (c : Code) (Q : State → Prop) (A : Nat → Prop) (D : va_G) (cI cL cZ : ClassId) (a_p1 : Nat) (n_p1 : Nat) (v_p1 : Nat → Int32) (res : Int32) : Prop := ∀ (pc : Nat) (H : Heap) (locs : List Loc) (ls : Array Slot) (rv : Int32), some (rv) = some res → narrow .boolean (.int rv) = .int rv → decode b_PM_areLengths pc = .ok (.ireturn, 1) → va_P D classes [(a_p1, .inl (cI, n_p1, .inl v_p1))] H → va_D A [(a_p1, .inl (cI, n_p1, .inl v_p1))] → va_S A s.heap H locs → W p l e R_PM_areLengths s m args below meth c H locs 0 0 Q (F0 m pc ls [.int rv])
def I_PM_areLengths_b40 (p : Program) (l : Launch) (e : Env) (s : State) (m : MethodId) (args : Array Value) (below : List Frame) (meth : Method) (c : Code) (Q : State → Prop) (A : Nat → Prop) (D : va_G) (cI cL cZ : ClassId) (a_p1 : Nat) (n_p1 : Nat) (v_p1 : Nat → Int32) (res : Int32) (kf : Int32 → Int32 → Int32 → Option (Int32)) : Prop := ∀ (l1 : Int32) (l2 : Int32) (l3 : Int32), kf l1 l2 l3 = some res → ∀ (H : Heap) (locs : List Loc) (ls : Array Slot), lv_has ls 4 [(0, .ref a_p1), (1, .int l1), (2, .int l2), (3, .int l3)] → va_P D classes [(a_p1, .inl (cI, n_p1, .inl v_p1))] H → va_D A [(a_p1, .inl (cI, n_p1, .inl v_p1))] → va_S A s.heap H locs → W p l e R_PM_areLengths s m args below meth c H locs 0 0 Q (F0 m 40 ls [])
def I_PM_areLengths_b46 (p : Program) (l : Launch) (e : Env) (s : State) (m : MethodId) (args : Array Value) (below : List Frame) (meth : Method) (c : Code) (Q : State → Prop) (A : Nat → Prop) (D : va_G) (cI cL cZ : ClassId) (a_p1 : Nat) (n_p1 : Nat) (v_p1 : Nat → Int32) (res : Int32) (kf : Int32 → Int32 → Option (Int32)) : Prop := ∀ (l1 : Int32) (l2 : Int32), kf l1 l2 = some res → ∀ (H : Heap) (locs : List Loc) (ls : Array Slot), lv_has ls 4 [(1, .int l1), (2, .int l2)] → va_P D classes [(a_p1, .inl (cI, n_p1, .inl v_p1))] H → va_D A [(a_p1, .inl (cI, n_p1, .inl v_p1))] → va_S A s.heap H locs → W p l e R_PM_areLengths s m args below meth c H locs 0 0 Q (F0 m 46 ls [])
def I_PM_areLengths_b17 (p : Program) (l : Launch) (e : Env) (s : State) (m : MethodId) (args : Array Value) (below : List Frame) (meth : Method) (c : Code) (Q : State → Prop) (A : Nat → Prop) (D : va_G) (cI cL cZ : ClassId) (a_p1 : Nat) (n_p1 : Nat) (v_p1 : Nat → Int32) (res : Int32) (kf : Int32 → Int32 → Int32 → Option (Int32)) : Prop := ∀ (l1 : Int32) (l2 : Int32) (l3 : Int32), kf l1 l2 l3 = some res → ∀ (H : Heap) (locs : List Loc) (ls : Array Slot), lv_has ls 4 [(0, .ref a_p1), (1, .int l1), (2, .int l2), (3, .int l3)] → va_P D classes [(a_p1, .inl (cI, n_p1, .inl v_p1))] H → va_D A [(a_p1, .inl (cI, n_p1, .inl v_p1))] → va_S A s.heap H locs → W p l e R_PM_areLengths s m args below meth c H locs 0 0 Q (F0 m 17 ls [])
def I_PM_areLengths_b0 (p : Program) (l : Launch) (e : Env) (s : State) (m : MethodId) (args : Array Value) (below : List Frame) (meth : Method) (c : Code) (Q : State → Prop) (A : Nat → Prop) (D : va_G) (cI cL cZ : ClassId) (a_p1 : Nat) (n_p1 : Nat) (v_p1 : Nat → Int32) (res : Int32) (kf : Option (Int32)) : Prop := ∀ (_ : Unit), kf  = some res → ∀ (H : Heap) (locs : List Loc) (ls : Array Slot), lv_has ls 4 [(0, .ref a_p1)] → va_P D classes [(a_p1, .inl (cI, n_p1, .inl v_p1))] H → va_D A [(a_p1, .inl (cI, n_p1, .inl v_p1))] → va_S A s.heap H locs → W p l e R_PM_areLengths s m args below meth c H locs 0 0 Q (F0 m 0 ls [])
set_option maxHeartbeats 4000000 in
set_option maxRecDepth 100000 in
theorem w_PM_areLengths_b40 {p : Program} {l : Launch} {e : Env} {s : State} {m : MethodId} {args : Array Value} {below : List Frame} {meth : Method} {c : Code} {Q : State → Prop} {A : Nat → Prop} {D : va_G} {cI cL cZ : ClassId} {a_p1 : Nat} {n_p1 : Nat} {v_p1 : Nat → Int32} {N : Nat} {res : Int32} {k17 : Int32 → Int32 → Int32 → Option (Int32)} (C : Cx p s m args c b_PM_areLengths 4 "PrefixMill" D [(cI, .int), (cL, .long), (cZ, .boolean)] A) (hret : E_PM_areLengths p l e s m args below meth c Q A D cI cL cZ a_p1 n_p1 v_p1 res) (hk17 : I_PM_areLengths_b17 p l e s m args below meth c Q A D cI cL cZ a_p1 n_p1 v_p1 res k17) : I_PM_areLengths_b40 p l e s m args below meth c Q A D cI cL cZ a_p1 n_p1 v_p1 res (f_PM_areLengths_b40 N n_p1 v_p1 k17) := by
  obtain ⟨hx, hb, hml, hown, hts, hK, hA⟩ := C
  intro l1 l2 l3 h H locs ls hl hP hD hS
  unfold f_PM_areLengths_b40 at h
  obtain ⟨l3_1, el3_1⟩ : ∃ y : Int32, y = l3 + 1 := ⟨_, rfl⟩
  replace h := nm_s h el3_1
  refine lv_iinc (v := l3_1) (lv' := [(3, .int l3_1), (0, .ref a_p1), (1, .int l1), (2, .int l2)]) hx hb d_PM_areLengths_40 hl (k := 3) rfl (by rw [el3_1]; rfl) (by decide) rfl (fun ls hl => ?_)
  refine lv_goto (tgt := 17) hx hb d_PM_areLengths_43 (by decide) ?_
  exact hk17 _ _ _ h H locs ls (lv_sub hl [1, 2, 3, 0] rfl) hP hD hS
set_option maxHeartbeats 4000000 in
set_option maxRecDepth 100000 in
theorem w_PM_areLengths_b46 {p : Program} {l : Launch} {e : Env} {s : State} {m : MethodId} {args : Array Value} {below : List Frame} {meth : Method} {c : Code} {Q : State → Prop} {A : Nat → Prop} {D : va_G} {cI cL cZ : ClassId} {a_p1 : Nat} {n_p1 : Nat} {v_p1 : Nat → Int32} {N : Nat} {res : Int32}  (C : Cx p s m args c b_PM_areLengths 4 "PrefixMill" D [(cI, .int), (cL, .long), (cZ, .boolean)] A) (hret : E_PM_areLengths p l e s m args below meth c Q A D cI cL cZ a_p1 n_p1 v_p1 res)  : I_PM_areLengths_b46 p l e s m args below meth c Q A D cI cL cZ a_p1 n_p1 v_p1 res (f_PM_areLengths_b46 N n_p1 v_p1 ) := by
  obtain ⟨hx, hb, hml, hown, hts, hK, hA⟩ := C
  intro l1 l2 h H locs ls hl hP hD hS
  unfold f_PM_areLengths_b46 at h
  refine lv_iload_n hx hb d_PM_areLengths_46 rfl (lv_at hl 1 rfl) ?_
  refine lv_iconst (v := 1) hx hb d_PM_areLengths_47 (by decide) ?_
  refine lv_iload_n hx hb d_PM_areLengths_48 rfl (lv_at hl 0 rfl) ?_
  refine lv_ishl hx hb d_PM_areLengths_49 ?_
  refine lv_icmp_ne (tgt := 57) hx hb d_PM_areLengths_50 (by decide) (fun c_1 => ?_) (fun c_1 => ?_)
  · replace h := if_f h c_1
    refine lv_iconst (v := 0) hx hb d_PM_areLengths_57 (by decide) ?_
    exact hret _ _ _ _ 0  h rfl d_PM_areLengths_58 hP hD hS
  · replace h := if_t h c_1
    refine lv_iconst (v := 1) hx hb d_PM_areLengths_53 (by decide) ?_
    refine lv_goto (tgt := 58) hx hb d_PM_areLengths_54 (by decide) ?_
    exact hret _ _ _ _ 1  h rfl d_PM_areLengths_58 hP hD hS
set_option maxHeartbeats 4000000 in
set_option maxRecDepth 100000 in
theorem w_PM_areLengths_b17 {p : Program} {l : Launch} {e : Env} {s : State} {m : MethodId} {args : Array Value} {below : List Frame} {meth : Method} {c : Code} {Q : State → Prop} {A : Nat → Prop} {D : va_G} {cI cL cZ : ClassId} {a_p1 : Nat} {n_p1 : Nat} {v_p1 : Nat → Int32} {N : Nat} {res : Int32}  (C : Cx p s m args c b_PM_areLengths 4 "PrefixMill" D [(cI, .int), (cL, .long), (cZ, .boolean)] A) (hret : E_PM_areLengths p l e s m args below meth c Q A D cI cL cZ a_p1 n_p1 v_p1 res)  : ∀ z : Nat, I_PM_areLengths_b17 p l e s m args below meth c Q A D cI cL cZ a_p1 n_p1 v_p1 res (f_PM_areLengths_b17 N n_p1 v_p1  z) := by
  obtain ⟨hx, hb, hml, hown, hts, hK, hA⟩ := C
  intro z
  induction z with
  | zero => intro l1 l2 l3 h; cases h
  | succ z ih =>
    intro l1 l2 l3 h H locs ls hl hP hD hS
    refine lv_iload_n hx hb d_PM_areLengths_17 rfl (lv_at hl 3 rfl) ?_
    refine lv_sipush (v := 256) hx hb d_PM_areLengths_18 (by decide) ?_
    refine lv_icmp_ge (tgt := 46) hx hb d_PM_areLengths_21 (by decide) (fun c_1 => ?_) (fun c_1 => ?_)
    · replace h := if_t h c_1
      exact w_PM_areLengths_b46 ⟨hx, hb, hml, hown, hts, hK, hA⟩ hret  _ _ h H locs ls (lv_sub hl [1, 2] rfl) hP hD hS
    · replace h := if_f h c_1
      refine lv_aload_n hx hb d_PM_areLengths_24 rfl (lv_at hl 0 rfl) ?_
      refine lv_iload_n hx hb d_PM_areLengths_25 rfl (lv_at hl 3 rfl) ?_
      obtain ⟨g_2, h⟩ := ck_s h
      refine va_iald hx hb hK hP 0 0 rfl rfl (inb_s g_2) d_PM_areLengths_26 ?_
      refine lv_if_le (tgt := 40) hx hb d_PM_areLengths_27 (by decide) (fun c_3 => ?_) (fun c_3 => ?_)
      · replace h := if_t h c_3
        exact w_PM_areLengths_b40 ⟨hx, hb, hml, hown, hts, hK, hA⟩ hret ih _ _ _ h H locs ls (lv_sub hl [0, 1, 2, 3] rfl) hP hD hS
      · replace h := if_f h c_3
        refine lv_iload_n hx hb d_PM_areLengths_30 rfl (lv_at hl 2 rfl) ?_
        refine lv_iconst (v := 1) hx hb d_PM_areLengths_31 (by decide) ?_
        refine lv_iload_n hx hb d_PM_areLengths_32 rfl (lv_at hl 1 rfl) ?_
        refine lv_aload_n hx hb d_PM_areLengths_33 rfl (lv_at hl 0 rfl) ?_
        refine lv_iload_n hx hb d_PM_areLengths_34 rfl (lv_at hl 3 rfl) ?_
        obtain ⟨g_4, h⟩ := ck_s h
        refine va_iald hx hb hK hP 0 0 rfl rfl (inb_s g_4) d_PM_areLengths_35 ?_
        refine lv_isub hx hb d_PM_areLengths_36 ?_
        refine lv_ishl hx hb d_PM_areLengths_37 ?_
        refine lv_iadd hx hb d_PM_areLengths_38 ?_
        refine lv_topi (fun l2_5 el2_5 => ?_)
        replace h := nm_s h el2_5
        refine lv_istore_n (lv' := [(2, .int l2_5), (0, .ref a_p1), (1, .int l1), (3, .int l3)]) hx hb d_PM_areLengths_39 rfl hl (by decide) rfl (fun ls hl => ?_)
        exact w_PM_areLengths_b40 ⟨hx, hb, hml, hown, hts, hK, hA⟩ hret ih _ _ _ h H locs ls (lv_sub hl [1, 2, 0, 3] rfl) hP hD hS
set_option maxHeartbeats 4000000 in
set_option maxRecDepth 100000 in
theorem w_PM_areLengths_b0 {p : Program} {l : Launch} {e : Env} {s : State} {m : MethodId} {args : Array Value} {below : List Frame} {meth : Method} {c : Code} {Q : State → Prop} {A : Nat → Prop} {D : va_G} {cI cL cZ : ClassId} {a_p1 : Nat} {n_p1 : Nat} {v_p1 : Nat → Int32} {N : Nat} {res : Int32}  (C : Cx p s m args c b_PM_areLengths 4 "PrefixMill" D [(cI, .int), (cL, .long), (cZ, .boolean)] A) (hret : E_PM_areLengths p l e s m args below meth c Q A D cI cL cZ a_p1 n_p1 v_p1 res)  : I_PM_areLengths_b0 p l e s m args below meth c Q A D cI cL cZ a_p1 n_p1 v_p1 res (f_PM_areLengths N n_p1 v_p1 ) := by
  obtain ⟨hx, hb, hml, hown, hts, hK, hA⟩ := C
  intro _ h H locs ls hl hP hD hS
  unfold f_PM_areLengths at h
  refine lv_aload_n hx hb d_PM_areLengths_0 rfl (lv_at hl 0 rfl) ?_
  obtain ⟨r_1, hc_2, h⟩ := bd1_s h
  have hPc := hP.sub (ws' := [(a_p1, .inl (cI, n_p1, .inl v_p1))]) [0] rfl
  have hDc := hD.sub (ws' := [(a_p1, .inl (cI, n_p1, .inl v_p1))]) [0] (by decide) rfl
  have hFc := va_free (wc := [(a_p1, .inl (cI, n_p1, .inl v_p1))]) hD hS hA [0] rfl
  refine va_calli (va_runS (As := [.ref a_p1]) (rest := []) ⟨hx, hb, hml, hown, hts⟩ (c_PM_greatestOf l D cI cL cZ H.size N a_p1 n_p1 v_p1 r_1 hc_2) ⟨(my_cb 1 hts m_466 rfl rfl (hts _ m_66) (hts _ m_495) (by decide +kernel) ⟨Nat.le_of_ble_eq_true rfl, Nat.le_of_ble_eq_true rfl⟩), hts _ m_465⟩ ⟨fun a U g mk q => by obtain ⟨q0, q1, qP, qK, qD⟩ := q; exact ⟨q0, q1, qP, va_K.moved (u := U) (U := U.calling g mk a) (Vm.Alike.refl U.vm) qK, qD⟩, fun U hU hW => ⟨rfl, by rw [hU], by rw [hU]; exact hPc, va_K.moved hW.alike hK, hDc.weaken (fun _ _ _ _ => trivial)⟩⟩ rfl rfl hl.1 rfl (lv_room (Nat.le_of_ble_eq_true rfl)) d_PM_areLengths_1 ⟨Nat.zero_le _, Nat.zero_le _⟩) hS (fun q _ h => hFc q h) hFc (fun rr u t H1 locs ht hvm hw hB hz1 hk1 hS => ?_)
  obtain ⟨hP1, hK1, hD1⟩ := hB
  rw [ht] at hP1
  subst hw
  obtain ⟨hP, hD⟩ := va_join (wr := []) (w1 := [(a_p1, .inl (cI, n_p1, .inl v_p1))]) hP hD [0] [] rfl rfl (by decide) (by decide) hk1 hFc hP1 hD1
  clear hPc hDc hFc hk1 hP1 hD1 hK1
  generalize H1 = H at hP hS ⊢
  have hP : va_P D classes [(a_p1, .inl (cI, n_p1, .inl v_p1))] H := hP.sub [0] rfl
  have hD : va_D A [(a_p1, .inl (cI, n_p1, .inl v_p1))] := hD.sub [0] (by decide) rfl
  refine lv_istore_n (lv' := [(1, .int r_1), (0, .ref a_p1)]) hx hb d_PM_areLengths_4 rfl hl (by decide) rfl (fun ls hl => ?_)
  refine lv_iload_n hx hb d_PM_areLengths_5 rfl (lv_at hl 0 rfl) ?_
  refine lv_bipush (v := 11) hx hb d_PM_areLengths_6 (by decide) ?_
  refine lv_icmp_le (tgt := 13) hx hb d_PM_areLengths_8 (by decide) (fun c_3 => ?_) (fun c_3 => ?_)
  · replace h := if_t h c_3
    refine lv_iconst (v := 0) hx hb d_PM_areLengths_13 (by decide) ?_
    refine lv_istore_n (lv' := [(2, .int 0), (1, .int r_1), (0, .ref a_p1)]) hx hb d_PM_areLengths_14 rfl hl (by decide) rfl (fun ls hl => ?_)
    refine lv_iconst (v := 0) hx hb d_PM_areLengths_15 (by decide) ?_
    refine lv_istore_n (lv' := [(3, .int 0), (2, .int 0), (1, .int r_1), (0, .ref a_p1)]) hx hb d_PM_areLengths_16 rfl hl (by decide) rfl (fun ls hl => ?_)
    exact w_PM_areLengths_b17 ⟨hx, hb, hml, hown, hts, hK, hA⟩ hret  N _ _ _ h H locs ls (lv_sub hl [3, 2, 1, 0] rfl) hP hD hS
  · replace h := if_f h c_3
    refine lv_iconst (v := 0) hx hb d_PM_areLengths_11 (by decide) ?_
    exact hret _ _ _ _ 0  h rfl d_PM_areLengths_12 hP hD hS
set_option maxHeartbeats 4000000 in
set_option maxRecDepth 100000 in
theorem c_PM_areLengths (l : Launch) (D : va_G) (cI cL cZ : ClassId) (sz N : Nat) (a_p1 : Nat) (n_p1 : Nat) (v_p1 : Nat → Int32) (rv : Int32) (h : f_PM_areLengths N n_p1 v_p1  = some (rv)) : Met l ({ cls := "PrefixMill", name := "areLengths", desc := "([I)Z" } : Jvm.MethodName) ws_PM_areLengths R_PM_areLengths (va_Pc [.ref a_p1] (fun U => U.heap.size = sz ∧ va_P D classes [(a_p1, .inl (cI, n_p1, .inl v_p1))] U.heap ∧ va_K D classes [(cI, .int), (cL, .long), (cZ, .boolean)] U ∧ va_D (fun _ => True) [(a_p1, .inl (cI, n_p1, .inl v_p1))])) (va_Qi (fun (r0 : Int32) (_ : Unit) => rv = r0) (fun _ t => va_P D classes [(a_p1, .inl (cI, n_p1, .inl v_p1))] t.heap ∧ va_K D classes [(cI, .int), (cL, .long), (cZ, .boolean)] t ∧ va_D (va_A [(a_p1, .inl (cI, n_p1, .inl v_p1))] sz) [(a_p1, .inl (cI, n_p1, .inl v_p1))]) (va_A [(a_p1, .inl (cI, n_p1, .inl v_p1))] sz)) 0 0 (va_A [(a_p1, .inl (cI, n_p1, .inl v_p1))] sz) := by
  refine Met.ofW (cc := b_PM_areLengths) (maxL := 4) (ret := (some .boolean)) (by decide) rfl ?_
  intro p e s m args below meth c s₁ B hml hv
  obtain ⟨rfl, hsz, hP, hK, hD0⟩ := hv
  have hx := B.exec
  have hb := B.bytes
  have hr := B.returns
  have hts0 := atoms_spec (ws := ws_PM_areLengths) B.pre
  have hts := gd_tl hts0
  clear hts0
  have hown : s.vm.findClass "PrefixMill" = some m.cls := findClass_of_methodNamed B.named
  have hlocks := B.notSynchronized
  subst hsz
  have hD := hD0.self (sz := s.heap.size)
  generalize hAe : va_A [(a_p1, .inl (cI, n_p1, .inl v_p1))] s.heap.size = A at hD ⊢
  have hA : ∀ q : Nat, s.heap.size ≤ q → A q := fun q h => by rw [← hAe]; exact Or.inr h
  have hS : va_S A s.heap s.heap [] := va_S.rf
  have hP : va_P D classes [(a_p1, .inl (cI, n_p1, .inl v_p1))] s.heap := hP
  have hl := lv_entry ([.ref a_p1]) (n := 4) (Nat.le_of_ble_eq_true rfl)
  rw [lg_entry_eq]
  generalize (lg_sl ([.ref a_p1]) ++ List.replicate (4 - (lg_sl ([.ref a_p1])).length) Slot.unset).toArray = ls at hl ⊢
  have hl : lv_has ls 4 [(0, .ref a_p1)] := hl
  have C : Cx p s m ([.ref a_p1] : List Value).toArray c b_PM_areLengths 4 "PrefixMill" D [(cI, .int), (cL, .long), (cZ, .boolean)] A := ⟨hx, hb, hml, hown, hts, hK, hA⟩
  refine w_PM_areLengths_b0 (res := (rv)) C ?_ () h s.heap [] ls hl hP hD hS
  intro pc9 H9 locs9 ls9 rv9 e9 z9 d9 hP9 hD9 hS9
  cases e9
  exact W.zret (v := rv) hx hb hr z9 (fun t ht hW => ⟨⟨rv, (), rfl, rfl, by rw [ht]; exact hP9, va_K.moved hW.alike hK, hD9⟩, hS9.F ht⟩) hS9.2.2 d9
abbrev b_PM_just : ByteArray := prog_1_method_11_code
def ws_PM_just : List Cond := .code ({ cls := "PrefixMill", name := "just", desc := "()I" } : Jvm.MethodName) b_PM_just 1 (some .int) :: tt
theorem d_PM_just_0 : decode b_PM_just 0 = .ok (.aload_n 0, 1) := by decide +kernel
theorem d_PM_just_1 : decode b_PM_just 1 = .ok (.getfield 21, 3) := by decide +kernel
theorem d_PM_just_4 : decode b_PM_just 4 = .ok (.invokestatic 105, 3) := by decide +kernel
theorem d_PM_just_7 : decode b_PM_just 7 = .ok (.ifCond .eq 17, 3) := by decide +kernel
theorem d_PM_just_10 : decode b_PM_just 10 = .ok (.aload_n 0, 1) := by decide +kernel
theorem d_PM_just_11 : decode b_PM_just 11 = .ok (.getfield 28, 3) := by decide +kernel
theorem d_PM_just_14 : decode b_PM_just 14 = .ok (.aload_n 0, 1) := by decide +kernel
theorem d_PM_just_15 : decode b_PM_just 15 = .ok (.getfield 21, 3) := by decide +kernel
theorem d_PM_just_18 : decode b_PM_just 18 = .ok (.invokevirtual 102, 3) := by decide +kernel
theorem d_PM_just_21 : decode b_PM_just 21 = .ok (.goto 4, 3) := by decide +kernel
theorem d_PM_just_24 : decode b_PM_just 24 = .ok (.iconst (-1), 1) := by decide +kernel
theorem d_PM_just_25 : decode b_PM_just 25 = .ok (.ireturn, 1) := by decide +kernel
def f_PM_just (N : Nat) (v_counts : Nat → Int32)  (i_codes_greatest : Int32) (i_codes_known : Int32) (i_codes_highest : Int32) (v_codes_lengths : Nat → Int32) (v_codes_values : Nat → Int32) (v_codes_cells : Nat → Int32) : Option (Int32 × Int32 × Int32 × Int32 × (Nat → Int32) × (Nat → Int32) × (Nat → Int32)) :=
  bd1 (f_PM_areLengths N 256 v_counts) fun r_1 =>
  if r_1 = 0 then
  some ((-1), i_codes_greatest, i_codes_known, i_codes_highest, v_codes_lengths, v_codes_values, v_codes_cells)
  else
  bd7 (f_Codes_become N 256 v_counts i_codes_greatest i_codes_known i_codes_highest v_codes_lengths v_codes_values v_codes_cells) fun r_4 i_codes_greatest_5 i_codes_known_6 i_codes_highest_7 v_codes_lengths_8 v_codes_values_9 v_codes_cells_10 =>
  some (r_4, i_codes_greatest_5, i_codes_known_6, i_codes_highest_7, v_codes_lengths_8, v_codes_values_9, v_codes_cells_10)
abbrev R_PM_just : Room := ({ frames := 4, cells := 0, slots := 0, locals := 91 } : Room)
def E_PM_just (p : Program) (l : Launch) (e : Env) (s : State) (m : MethodId) (args : Array Value) (below : List Frame) (meth : Method) (c : Code) (Q : State → Prop) (A : Nat → Prop) (D : va_G) (cI cL cZ : ClassId) (a_this : Nat) (a_counts : Nat) (a_codes : Nat) (a_codes_lengths : Nat) (a_codes_values : Nat) (a_codes_cells : Nat) (o_in : Nat) (o_out : Nat) (o_tree : Nat) (o_writer : Nat) (o_reader : Nat) (o_streams : Nat) (i_place : Int32) (v_counts : Nat → Int32) (res : Int32 × Int32 × Int32 × Int32 × (Nat → Int32) × (Nat → Int32) × (Nat → Int32)) : Prop := ∀ (pc : Nat) (H : Heap) (locs : List Loc) (ls : Array Slot) (rv : Int32) (i_codes_greatest : Int32) (i_codes_known : Int32) (i_codes_highest : Int32) (v_codes_lengths : Nat → Int32) (v_codes_values : Nat → Int32) (v_codes_cells : Nat → Int32), some (rv, i_codes_greatest, i_codes_known, i_codes_highest, v_codes_lengths, v_codes_values, v_codes_cells) = some res → decode b_PM_just pc = .ok (.ireturn, 1) → va_P D classes [(a_this, .inr (0, [.ref o_in, .ref o_out, .ref a_counts, .ref a_codes, .ref o_tree, .ref o_writer, .ref o_reader, .ref o_streams, .int i_place])), (a_counts, .inl (cI, 256, .inl v_counts)), (a_codes, .inr (2, [.ref a_codes_lengths, .ref a_codes_values, .ref a_codes_cells, .int i_codes_greatest, .int i_codes_known, .int i_codes_highest])), (a_codes_lengths, .inl (cI, 256, .inl v_codes_lengths)), (a_codes_values, .inl (cI, 256, .inl v_codes_values)), (a_codes_cells, .inl (cI, 2048, .inl v_codes_cells))] H → va_D A [(a_this, .inr (0, [.ref o_in, .ref o_out, .ref a_counts, .ref a_codes, .ref o_tree, .ref o_writer, .ref o_reader, .ref o_streams, .int i_place])), (a_counts, .inl (cI, 256, .inl v_counts)), (a_codes, .inr (2, [.ref a_codes_lengths, .ref a_codes_values, .ref a_codes_cells, .int i_codes_greatest, .int i_codes_known, .int i_codes_highest])), (a_codes_lengths, .inl (cI, 256, .inl v_codes_lengths)), (a_codes_values, .inl (cI, 256, .inl v_codes_values)), (a_codes_cells, .inl (cI, 2048, .inl v_codes_cells))] → va_S A s.heap H locs → W p l e R_PM_just s m args below meth c H locs 0 0 Q (F0 m pc ls [.int rv])
def I_PM_just_b0 (p : Program) (l : Launch) (e : Env) (s : State) (m : MethodId) (args : Array Value) (below : List Frame) (meth : Method) (c : Code) (Q : State → Prop) (A : Nat → Prop) (D : va_G) (cI cL cZ : ClassId) (a_this : Nat) (a_counts : Nat) (a_codes : Nat) (a_codes_lengths : Nat) (a_codes_values : Nat) (a_codes_cells : Nat) (o_in : Nat) (o_out : Nat) (o_tree : Nat) (o_writer : Nat) (o_reader : Nat) (o_streams : Nat) (i_place : Int32) (v_counts : Nat → Int32) (res : Int32 × Int32 × Int32 × Int32 × (Nat → Int32) × (Nat → Int32) × (Nat → Int32)) (kf : Int32 → Int32 → Int32 → (Nat → Int32) → (Nat → Int32) → (Nat → Int32) → Option (Int32 × Int32 × Int32 × Int32 × (Nat → Int32) × (Nat → Int32) × (Nat → Int32))) : Prop := ∀ (i_codes_greatest : Int32) (i_codes_known : Int32) (i_codes_highest : Int32) (v_codes_lengths : Nat → Int32) (v_codes_values : Nat → Int32) (v_codes_cells : Nat → Int32), kf i_codes_greatest i_codes_known i_codes_highest v_codes_lengths v_codes_values v_codes_cells = some res → ∀ (H : Heap) (locs : List Loc) (ls : Array Slot), lv_has ls 1 [(0, .ref a_this)] → va_P D classes [(a_this, .inr (0, [.ref o_in, .ref o_out, .ref a_counts, .ref a_codes, .ref o_tree, .ref o_writer, .ref o_reader, .ref o_streams, .int i_place])), (a_counts, .inl (cI, 256, .inl v_counts)), (a_codes, .inr (2, [.ref a_codes_lengths, .ref a_codes_values, .ref a_codes_cells, .int i_codes_greatest, .int i_codes_known, .int i_codes_highest])), (a_codes_lengths, .inl (cI, 256, .inl v_codes_lengths)), (a_codes_values, .inl (cI, 256, .inl v_codes_values)), (a_codes_cells, .inl (cI, 2048, .inl v_codes_cells))] H → va_D A [(a_this, .inr (0, [.ref o_in, .ref o_out, .ref a_counts, .ref a_codes, .ref o_tree, .ref o_writer, .ref o_reader, .ref o_streams, .int i_place])), (a_counts, .inl (cI, 256, .inl v_counts)), (a_codes, .inr (2, [.ref a_codes_lengths, .ref a_codes_values, .ref a_codes_cells, .int i_codes_greatest, .int i_codes_known, .int i_codes_highest])), (a_codes_lengths, .inl (cI, 256, .inl v_codes_lengths)), (a_codes_values, .inl (cI, 256, .inl v_codes_values)), (a_codes_cells, .inl (cI, 2048, .inl v_codes_cells))] → va_S A s.heap H locs → W p l e R_PM_just s m args below meth c H locs 0 0 Q (F0 m 0 ls [])
set_option maxHeartbeats 4000000 in
set_option maxRecDepth 100000 in
theorem w_PM_just_b0 {p : Program} {l : Launch} {e : Env} {s : State} {m : MethodId} {args : Array Value} {below : List Frame} {meth : Method} {c : Code} {Q : State → Prop} {A : Nat → Prop} {D : va_G} {cI cL cZ : ClassId} {a_this : Nat} {a_counts : Nat} {a_codes : Nat} {a_codes_lengths : Nat} {a_codes_values : Nat} {a_codes_cells : Nat} {o_in : Nat} {o_out : Nat} {o_tree : Nat} {o_writer : Nat} {o_reader : Nat} {o_streams : Nat} {i_place : Int32} {v_counts : Nat → Int32} {N : Nat} {res : Int32 × Int32 × Int32 × Int32 × (Nat → Int32) × (Nat → Int32) × (Nat → Int32)}  (C : Cx p s m args c b_PM_just 1 "PrefixMill" D [(cI, .int), (cL, .long), (cZ, .boolean)] A) (hret : E_PM_just p l e s m args below meth c Q A D cI cL cZ a_this a_counts a_codes a_codes_lengths a_codes_values a_codes_cells o_in o_out o_tree o_writer o_reader o_streams i_place v_counts res)  : I_PM_just_b0 p l e s m args below meth c Q A D cI cL cZ a_this a_counts a_codes a_codes_lengths a_codes_values a_codes_cells o_in o_out o_tree o_writer o_reader o_streams i_place v_counts res (f_PM_just N v_counts ) := by
  obtain ⟨hx, hb, hml, hown, hts, hK, hA⟩ := C
  intro i_codes_greatest i_codes_known i_codes_highest v_codes_lengths v_codes_values v_codes_cells h H locs ls hl hP hD hS
  unfold f_PM_just at h
  refine lv_aload_n hx hb d_PM_just_0 rfl (lv_at hl 0 rfl) ?_
  refine va_get hx hb hts in_PM hown hK hP 0 rfl rfl 2 (by decide) (hts _ m_342) (fun _ h9 => h9) rfl d_PM_just_1 ?_
  obtain ⟨r_1, hc_2, h⟩ := bd1_s h
  have hPc := hP.sub (ws' := [(a_counts, .inl (cI, 256, .inl v_counts))]) [1] rfl
  have hDc := hD.sub (ws' := [(a_counts, .inl (cI, 256, .inl v_counts))]) [1] (by decide) rfl
  have hFc := va_free (wc := [(a_counts, .inl (cI, 256, .inl v_counts))]) hD hS hA [1] rfl
  refine va_calli (va_runS (As := [.ref a_counts]) (rest := []) ⟨hx, hb, hml, hown, hts⟩ (c_PM_areLengths l D cI cL cZ H.size N a_counts 256 v_counts r_1 hc_2) ⟨(my_cb 1 hts m_494 rfl rfl (hts _ m_66) (hts _ m_492) (by decide +kernel) ⟨Nat.le_of_ble_eq_true rfl, Nat.le_of_ble_eq_true rfl⟩), hts _ m_493⟩ ⟨fun a U g mk q => by obtain ⟨q0, q1, qP, qK, qD⟩ := q; exact ⟨q0, q1, qP, va_K.moved (u := U) (U := U.calling g mk a) (Vm.Alike.refl U.vm) qK, qD⟩, fun U hU hW => ⟨rfl, by rw [hU], by rw [hU]; exact hPc, va_K.moved hW.alike hK, hDc.weaken (fun _ _ _ _ => trivial)⟩⟩ rfl rfl hl.1 rfl (lv_room (Nat.le_of_ble_eq_true rfl)) d_PM_just_4 ⟨Nat.zero_le _, Nat.zero_le _⟩) hS (fun q _ h => hFc q h) hFc (fun rr u t H1 locs ht hvm hw hB hz1 hk1 hS => ?_)
  obtain ⟨hP1, hK1, hD1⟩ := hB
  rw [ht] at hP1
  subst hw
  obtain ⟨hP, hD⟩ := va_join (wr := [(a_this, .inr (0, [.ref o_in, .ref o_out, .ref a_counts, .ref a_codes, .ref o_tree, .ref o_writer, .ref o_reader, .ref o_streams, .int i_place])), (a_codes, .inr (2, [.ref a_codes_lengths, .ref a_codes_values, .ref a_codes_cells, .int i_codes_greatest, .int i_codes_known, .int i_codes_highest])), (a_codes_lengths, .inl (cI, 256, .inl v_codes_lengths)), (a_codes_values, .inl (cI, 256, .inl v_codes_values)), (a_codes_cells, .inl (cI, 2048, .inl v_codes_cells))]) (w1 := [(a_counts, .inl (cI, 256, .inl v_counts))]) hP hD [1] [0, 2, 3, 4, 5] rfl rfl (by decide) (by decide) hk1 hFc hP1 hD1
  clear hPc hDc hFc hk1 hP1 hD1 hK1
  generalize H1 = H at hP hS ⊢
  have hP : va_P D classes [(a_this, .inr (0, [.ref o_in, .ref o_out, .ref a_counts, .ref a_codes, .ref o_tree, .ref o_writer, .ref o_reader, .ref o_streams, .int i_place])), (a_counts, .inl (cI, 256, .inl v_counts)), (a_codes, .inr (2, [.ref a_codes_lengths, .ref a_codes_values, .ref a_codes_cells, .int i_codes_greatest, .int i_codes_known, .int i_codes_highest])), (a_codes_lengths, .inl (cI, 256, .inl v_codes_lengths)), (a_codes_values, .inl (cI, 256, .inl v_codes_values)), (a_codes_cells, .inl (cI, 2048, .inl v_codes_cells))] H := hP.sub [0, 5, 1, 2, 3, 4] rfl
  have hD : va_D A [(a_this, .inr (0, [.ref o_in, .ref o_out, .ref a_counts, .ref a_codes, .ref o_tree, .ref o_writer, .ref o_reader, .ref o_streams, .int i_place])), (a_counts, .inl (cI, 256, .inl v_counts)), (a_codes, .inr (2, [.ref a_codes_lengths, .ref a_codes_values, .ref a_codes_cells, .int i_codes_greatest, .int i_codes_known, .int i_codes_highest])), (a_codes_lengths, .inl (cI, 256, .inl v_codes_lengths)), (a_codes_values, .inl (cI, 256, .inl v_codes_values)), (a_codes_cells, .inl (cI, 2048, .inl v_codes_cells))] := hD.sub [0, 5, 1, 2, 3, 4] (by decide) rfl
  refine lv_if_eq (tgt := 24) hx hb d_PM_just_7 (by decide) (fun c_3 => ?_) (fun c_3 => ?_)
  · replace h := if_t h c_3
    refine lv_iconst (v := (-1)) hx hb d_PM_just_24 (by decide) ?_
    exact hret _ _ _ _ (-1) i_codes_greatest i_codes_known i_codes_highest v_codes_lengths v_codes_values v_codes_cells h d_PM_just_25 hP hD hS
  · replace h := if_f h c_3
    refine lv_aload_n hx hb d_PM_just_10 rfl (lv_at hl 0 rfl) ?_
    refine va_get hx hb hts in_PM hown hK hP 0 rfl rfl 3 (by decide) (hts _ m_343) (fun _ h9 => h9) rfl d_PM_just_11 ?_
    refine lv_aload_n hx hb d_PM_just_14 rfl (lv_at hl 0 rfl) ?_
    refine va_get hx hb hts in_PM hown hK hP 0 rfl rfl 2 (by decide) (hts _ m_342) (fun _ h9 => h9) rfl d_PM_just_15 ?_
    obtain ⟨r_4, i_codes_greatest_5, i_codes_known_6, i_codes_highest_7, v_codes_lengths_8, v_codes_values_9, v_codes_cells_10, hc_11, h⟩ := bd7_s h
    have hPc := hP.sub (ws' := [(a_codes, .inr (2, [.ref a_codes_lengths, .ref a_codes_values, .ref a_codes_cells, .int i_codes_greatest, .int i_codes_known, .int i_codes_highest])), (a_codes_lengths, .inl (cI, 256, .inl v_codes_lengths)), (a_codes_values, .inl (cI, 256, .inl v_codes_values)), (a_codes_cells, .inl (cI, 2048, .inl v_codes_cells)), (a_counts, .inl (cI, 256, .inl v_counts))]) [2, 3, 4, 5, 1] rfl
    have hDc := hD.sub (ws' := [(a_codes, .inr (2, [.ref a_codes_lengths, .ref a_codes_values, .ref a_codes_cells, .int i_codes_greatest, .int i_codes_known, .int i_codes_highest])), (a_codes_lengths, .inl (cI, 256, .inl v_codes_lengths)), (a_codes_values, .inl (cI, 256, .inl v_codes_values)), (a_codes_cells, .inl (cI, 2048, .inl v_codes_cells)), (a_counts, .inl (cI, 256, .inl v_counts))]) [2, 3, 4, 5, 1] (by decide) rfl
    have hFc := va_free (wc := [(a_codes, .inr (2, [.ref a_codes_lengths, .ref a_codes_values, .ref a_codes_cells, .int i_codes_greatest, .int i_codes_known, .int i_codes_highest])), (a_codes_lengths, .inl (cI, 256, .inl v_codes_lengths)), (a_codes_values, .inl (cI, 256, .inl v_codes_values)), (a_codes_cells, .inl (cI, 2048, .inl v_codes_cells)), (a_counts, .inl (cI, 256, .inl v_counts))]) hD hS hA [2, 3, 4, 5, 1] rfl
    refine va_calli (va_runV (As := [.ref a_counts]) (rest := []) ⟨hx, hb, hml, hown, hts⟩ (c_Codes_become l D cI cL cZ H.size N a_codes a_codes_lengths a_codes_values a_codes_cells a_counts i_codes_greatest i_codes_known i_codes_highest v_codes_lengths v_codes_values v_codes_cells 256 v_counts r_4 i_codes_greatest_5 i_codes_known_6 i_codes_highest_7 v_codes_lengths_8 v_codes_values_9 v_codes_cells_10 hc_11) ⟨(my_cb 1 hts m_477 rfl rfl (hts _ m_68) (hts _ m_474) (by decide +kernel) ⟨Nat.le_of_ble_eq_true rfl, Nat.le_of_ble_eq_true rfl⟩), hts _ m_475, hts _ m_476⟩ ⟨fun a U g mk q => by obtain ⟨q0, q1, qP, qK, qD⟩ := q; exact ⟨q0, q1, qP, va_K.moved (u := U) (U := U.calling g mk a) (Vm.Alike.refl U.vm) qK, qD⟩, va_recv hK hPc (ci := 2) (q0 := 0) rfl rfl, fun U hU hW => ⟨rfl, by rw [hU], by rw [hU]; exact hPc, va_K.moved hW.alike hK, hDc.weaken (fun _ _ _ _ => trivial)⟩⟩ rfl rfl hl.1 rfl (lv_room (Nat.le_of_ble_eq_true rfl)) d_PM_just_18 ⟨Nat.zero_le _, Nat.zero_le _⟩) hS (fun q _ h => hFc q h) hFc (fun rr u t H1 locs ht hvm hw hB hz1 hk1 hS => ?_)
    obtain ⟨hP1, hK1, hD1⟩ := hB
    rw [ht] at hP1
    subst hw
    obtain ⟨hP, hD⟩ := va_join (wr := [(a_this, .inr (0, [.ref o_in, .ref o_out, .ref a_counts, .ref a_codes, .ref o_tree, .ref o_writer, .ref o_reader, .ref o_streams, .int i_place]))]) (w1 := [(a_codes, .inr (2, [.ref a_codes_lengths, .ref a_codes_values, .ref a_codes_cells, .int i_codes_greatest_5, .int i_codes_known_6, .int i_codes_highest_7])), (a_codes_lengths, .inl (cI, 256, .inl v_codes_lengths_8)), (a_codes_values, .inl (cI, 256, .inl v_codes_values_9)), (a_codes_cells, .inl (cI, 2048, .inl v_codes_cells_10)), (a_counts, .inl (cI, 256, .inl v_counts))]) hP hD [2, 3, 4, 5, 1] [0] rfl rfl (by decide) (by decide) hk1 hFc hP1 hD1
    clear hPc hDc hFc hk1 hP1 hD1 hK1
    generalize H1 = H at hP hS ⊢
    have hP : va_P D classes [(a_this, .inr (0, [.ref o_in, .ref o_out, .ref a_counts, .ref a_codes, .ref o_tree, .ref o_writer, .ref o_reader, .ref o_streams, .int i_place])), (a_counts, .inl (cI, 256, .inl v_counts)), (a_codes, .inr (2, [.ref a_codes_lengths, .ref a_codes_values, .ref a_codes_cells, .int i_codes_greatest_5, .int i_codes_known_6, .int i_codes_highest_7])), (a_codes_lengths, .inl (cI, 256, .inl v_codes_lengths_8)), (a_codes_values, .inl (cI, 256, .inl v_codes_values_9)), (a_codes_cells, .inl (cI, 2048, .inl v_codes_cells_10))] H := hP.sub [0, 5, 1, 2, 3, 4] rfl
    have hD : va_D A [(a_this, .inr (0, [.ref o_in, .ref o_out, .ref a_counts, .ref a_codes, .ref o_tree, .ref o_writer, .ref o_reader, .ref o_streams, .int i_place])), (a_counts, .inl (cI, 256, .inl v_counts)), (a_codes, .inr (2, [.ref a_codes_lengths, .ref a_codes_values, .ref a_codes_cells, .int i_codes_greatest_5, .int i_codes_known_6, .int i_codes_highest_7])), (a_codes_lengths, .inl (cI, 256, .inl v_codes_lengths_8)), (a_codes_values, .inl (cI, 256, .inl v_codes_values_9)), (a_codes_cells, .inl (cI, 2048, .inl v_codes_cells_10))] := hD.sub [0, 5, 1, 2, 3, 4] (by decide) rfl
    refine lv_goto (tgt := 25) hx hb d_PM_just_21 (by decide) ?_
    exact hret _ _ _ _ r_4 i_codes_greatest_5 i_codes_known_6 i_codes_highest_7 v_codes_lengths_8 v_codes_values_9 v_codes_cells_10 h d_PM_just_25 hP hD hS
set_option maxHeartbeats 4000000 in
set_option maxRecDepth 100000 in
theorem c_PM_just (l : Launch) (D : va_G) (cI cL cZ : ClassId) (sz N : Nat) (a_this : Nat) (a_counts : Nat) (a_codes : Nat) (a_codes_lengths : Nat) (a_codes_values : Nat) (a_codes_cells : Nat) (o_in : Nat) (o_out : Nat) (o_tree : Nat) (o_writer : Nat) (o_reader : Nat) (o_streams : Nat) (i_place : Int32) (v_counts : Nat → Int32) (i_codes_greatest : Int32) (i_codes_known : Int32) (i_codes_highest : Int32) (v_codes_lengths : Nat → Int32) (v_codes_values : Nat → Int32) (v_codes_cells : Nat → Int32) (rv : Int32) (i_codes_greatest' : Int32) (i_codes_known' : Int32) (i_codes_highest' : Int32) (v_codes_lengths' : Nat → Int32) (v_codes_values' : Nat → Int32) (v_codes_cells' : Nat → Int32) (h : f_PM_just N v_counts i_codes_greatest i_codes_known i_codes_highest v_codes_lengths v_codes_values v_codes_cells = some (rv, i_codes_greatest', i_codes_known', i_codes_highest', v_codes_lengths', v_codes_values', v_codes_cells')) : Met l ({ cls := "PrefixMill", name := "just", desc := "()I" } : Jvm.MethodName) ws_PM_just R_PM_just (va_Pc [.ref a_this] (fun U => U.heap.size = sz ∧ va_P D classes [(a_this, .inr (0, [.ref o_in, .ref o_out, .ref a_counts, .ref a_codes, .ref o_tree, .ref o_writer, .ref o_reader, .ref o_streams, .int i_place])), (a_counts, .inl (cI, 256, .inl v_counts)), (a_codes, .inr (2, [.ref a_codes_lengths, .ref a_codes_values, .ref a_codes_cells, .int i_codes_greatest, .int i_codes_known, .int i_codes_highest])), (a_codes_lengths, .inl (cI, 256, .inl v_codes_lengths)), (a_codes_values, .inl (cI, 256, .inl v_codes_values)), (a_codes_cells, .inl (cI, 2048, .inl v_codes_cells))] U.heap ∧ va_K D classes [(cI, .int), (cL, .long), (cZ, .boolean)] U ∧ va_D (fun _ => True) [(a_this, .inr (0, [.ref o_in, .ref o_out, .ref a_counts, .ref a_codes, .ref o_tree, .ref o_writer, .ref o_reader, .ref o_streams, .int i_place])), (a_counts, .inl (cI, 256, .inl v_counts)), (a_codes, .inr (2, [.ref a_codes_lengths, .ref a_codes_values, .ref a_codes_cells, .int i_codes_greatest, .int i_codes_known, .int i_codes_highest])), (a_codes_lengths, .inl (cI, 256, .inl v_codes_lengths)), (a_codes_values, .inl (cI, 256, .inl v_codes_values)), (a_codes_cells, .inl (cI, 2048, .inl v_codes_cells))])) (va_Qi (fun (r0 : Int32) (_ : Unit) => rv = r0) (fun _ t => va_P D classes [(a_this, .inr (0, [.ref o_in, .ref o_out, .ref a_counts, .ref a_codes, .ref o_tree, .ref o_writer, .ref o_reader, .ref o_streams, .int i_place])), (a_counts, .inl (cI, 256, .inl v_counts)), (a_codes, .inr (2, [.ref a_codes_lengths, .ref a_codes_values, .ref a_codes_cells, .int i_codes_greatest', .int i_codes_known', .int i_codes_highest'])), (a_codes_lengths, .inl (cI, 256, .inl v_codes_lengths')), (a_codes_values, .inl (cI, 256, .inl v_codes_values')), (a_codes_cells, .inl (cI, 2048, .inl v_codes_cells'))] t.heap ∧ va_K D classes [(cI, .int), (cL, .long), (cZ, .boolean)] t ∧ va_D (va_A [(a_this, .inr (0, [.ref o_in, .ref o_out, .ref a_counts, .ref a_codes, .ref o_tree, .ref o_writer, .ref o_reader, .ref o_streams, .int i_place])), (a_counts, .inl (cI, 256, .inl v_counts)), (a_codes, .inr (2, [.ref a_codes_lengths, .ref a_codes_values, .ref a_codes_cells, .int i_codes_greatest, .int i_codes_known, .int i_codes_highest])), (a_codes_lengths, .inl (cI, 256, .inl v_codes_lengths)), (a_codes_values, .inl (cI, 256, .inl v_codes_values)), (a_codes_cells, .inl (cI, 2048, .inl v_codes_cells))] sz) [(a_this, .inr (0, [.ref o_in, .ref o_out, .ref a_counts, .ref a_codes, .ref o_tree, .ref o_writer, .ref o_reader, .ref o_streams, .int i_place])), (a_counts, .inl (cI, 256, .inl v_counts)), (a_codes, .inr (2, [.ref a_codes_lengths, .ref a_codes_values, .ref a_codes_cells, .int i_codes_greatest', .int i_codes_known', .int i_codes_highest'])), (a_codes_lengths, .inl (cI, 256, .inl v_codes_lengths')), (a_codes_values, .inl (cI, 256, .inl v_codes_values')), (a_codes_cells, .inl (cI, 2048, .inl v_codes_cells'))]) (va_A [(a_this, .inr (0, [.ref o_in, .ref o_out, .ref a_counts, .ref a_codes, .ref o_tree, .ref o_writer, .ref o_reader, .ref o_streams, .int i_place])), (a_counts, .inl (cI, 256, .inl v_counts)), (a_codes, .inr (2, [.ref a_codes_lengths, .ref a_codes_values, .ref a_codes_cells, .int i_codes_greatest, .int i_codes_known, .int i_codes_highest])), (a_codes_lengths, .inl (cI, 256, .inl v_codes_lengths)), (a_codes_values, .inl (cI, 256, .inl v_codes_values)), (a_codes_cells, .inl (cI, 2048, .inl v_codes_cells))] sz)) 0 0 (va_A [(a_this, .inr (0, [.ref o_in, .ref o_out, .ref a_counts, .ref a_codes, .ref o_tree, .ref o_writer, .ref o_reader, .ref o_streams, .int i_place])), (a_counts, .inl (cI, 256, .inl v_counts)), (a_codes, .inr (2, [.ref a_codes_lengths, .ref a_codes_values, .ref a_codes_cells, .int i_codes_greatest, .int i_codes_known, .int i_codes_highest])), (a_codes_lengths, .inl (cI, 256, .inl v_codes_lengths)), (a_codes_values, .inl (cI, 256, .inl v_codes_values)), (a_codes_cells, .inl (cI, 2048, .inl v_codes_cells))] sz) := by
  refine Met.ofW (cc := b_PM_just) (maxL := 1) (ret := (some .int)) (by decide) rfl ?_
  intro p e s m args below meth c s₁ B hml hv
  obtain ⟨rfl, hsz, hP, hK, hD0⟩ := hv
  have hx := B.exec
  have hb := B.bytes
  have hr := B.returns
  have hts0 := atoms_spec (ws := ws_PM_just) B.pre
  have hts := gd_tl hts0
  clear hts0
  have hown : s.vm.findClass "PrefixMill" = some m.cls := findClass_of_methodNamed B.named
  have hlocks := B.notSynchronized
  subst hsz
  have hD := hD0.self (sz := s.heap.size)
  generalize hAe : va_A [(a_this, .inr (0, [.ref o_in, .ref o_out, .ref a_counts, .ref a_codes, .ref o_tree, .ref o_writer, .ref o_reader, .ref o_streams, .int i_place])), (a_counts, .inl (cI, 256, .inl v_counts)), (a_codes, .inr (2, [.ref a_codes_lengths, .ref a_codes_values, .ref a_codes_cells, .int i_codes_greatest, .int i_codes_known, .int i_codes_highest])), (a_codes_lengths, .inl (cI, 256, .inl v_codes_lengths)), (a_codes_values, .inl (cI, 256, .inl v_codes_values)), (a_codes_cells, .inl (cI, 2048, .inl v_codes_cells))] s.heap.size = A at hD ⊢
  have hA : ∀ q : Nat, s.heap.size ≤ q → A q := fun q h => by rw [← hAe]; exact Or.inr h
  have hS : va_S A s.heap s.heap [] := va_S.rf
  have hP : va_P D classes [(a_this, .inr (0, [.ref o_in, .ref o_out, .ref a_counts, .ref a_codes, .ref o_tree, .ref o_writer, .ref o_reader, .ref o_streams, .int i_place])), (a_counts, .inl (cI, 256, .inl v_counts)), (a_codes, .inr (2, [.ref a_codes_lengths, .ref a_codes_values, .ref a_codes_cells, .int i_codes_greatest, .int i_codes_known, .int i_codes_highest])), (a_codes_lengths, .inl (cI, 256, .inl v_codes_lengths)), (a_codes_values, .inl (cI, 256, .inl v_codes_values)), (a_codes_cells, .inl (cI, 2048, .inl v_codes_cells))] s.heap := hP
  have hl := lv_entry ([.ref a_this]) (n := 1) (Nat.le_of_ble_eq_true rfl)
  rw [lg_entry_eq]
  generalize (lg_sl ([.ref a_this]) ++ List.replicate (1 - (lg_sl ([.ref a_this])).length) Slot.unset).toArray = ls at hl ⊢
  have hl : lv_has ls 1 [(0, .ref a_this)] := hl
  have C : Cx p s m ([.ref a_this] : List Value).toArray c b_PM_just 1 "PrefixMill" D [(cI, .int), (cL, .long), (cZ, .boolean)] A := ⟨hx, hb, hml, hown, hts, hK, hA⟩
  refine w_PM_just_b0 (res := (rv, i_codes_greatest', i_codes_known', i_codes_highest', v_codes_lengths', v_codes_values', v_codes_cells')) C ?_ _ _ _ _ _ _ h s.heap [] ls hl hP hD hS
  intro pc9 H9 locs9 ls9 rv9 i_codes_greatest9 i_codes_known9 i_codes_highest9 v_codes_lengths9 v_codes_values9 v_codes_cells9 e9 d9 hP9 hD9 hS9
  cases e9
  exact W.iret (v := rv) hx hb hr (fun t ht hW => ⟨⟨rv, (), rfl, rfl, by rw [ht]; exact hP9, va_K.moved hW.alike hK, hD9⟩, hS9.F ht⟩) hS9.2.2 d9
abbrev b_Codes_areThere : ByteArray := prog_2_method_2_code
def ws_Codes_areThere : List Cond := .code ({ cls := "PrefixMill$Codes", name := "areThere", desc := "()Z" } : Jvm.MethodName) b_Codes_areThere 1 (some .boolean) :: tt
theorem d_Codes_areThere_0 : decode b_Codes_areThere 0 = .ok (.aload_n 0, 1) := by decide +kernel
theorem d_Codes_areThere_1 : decode b_Codes_areThere 1 = .ok (.getfield 21, 3) := by decide +kernel
theorem d_Codes_areThere_4 : decode b_Codes_areThere 4 = .ok (.ifCond .le 7, 3) := by decide +kernel
theorem d_Codes_areThere_7 : decode b_Codes_areThere 7 = .ok (.iconst 1, 1) := by decide +kernel
theorem d_Codes_areThere_8 : decode b_Codes_areThere 8 = .ok (.goto 4, 3) := by decide +kernel
theorem d_Codes_areThere_11 : decode b_Codes_areThere 11 = .ok (.iconst 0, 1) := by decide +kernel
theorem d_Codes_areThere_12 : decode b_Codes_areThere 12 = .ok (.ireturn, 1) := by decide +kernel
def f_Codes_areThere (N : Nat) (i_greatest : Int32)   : Option (Int32) :=
  if i_greatest ≤ 0 then
  some (0)
  else
  some (1)
abbrev R_Codes_areThere : Room := ({ frames := 0, cells := 0, slots := 0, locals := 0 } : Room)
def E_Codes_areThere (p : Program) (l : Launch) (e : Env) (s : State) (m : MethodId) (args : Array Value) (below : List Frame) (meth : Method) (c : Code) (Q : State → Prop) (A : Nat → Prop) (D : va_G) (cI cL cZ : ClassId) (a_this : Nat) (o_lengths : Nat) (o_values : Nat) (o_cells : Nat) (i_greatest : Int32) (i_known : Int32) (i_highest : Int32) (res : Int32) : Prop := ∀ (pc : Nat) (H : Heap) (locs : List Loc) (ls : Array Slot) (rv : Int32), some (rv) = some res → narrow .boolean (.int rv) = .int rv → decode b_Codes_areThere pc = .ok (.ireturn, 1) → va_P D classes [(a_this, .inr (2, [.ref o_lengths, .ref o_values, .ref o_cells, .int i_greatest, .int i_known, .int i_highest]))] H → va_D A [(a_this, .inr (2, [.ref o_lengths, .ref o_values, .ref o_cells, .int i_greatest, .int i_known, .int i_highest]))] → va_S A s.heap H locs → W p l e R_Codes_areThere s m args below meth c H locs 0 0 Q (F0 m pc ls [.int rv])
def I_Codes_areThere_b0 (p : Program) (l : Launch) (e : Env) (s : State) (m : MethodId) (args : Array Value) (below : List Frame) (meth : Method) (c : Code) (Q : State → Prop) (A : Nat → Prop) (D : va_G) (cI cL cZ : ClassId) (a_this : Nat) (o_lengths : Nat) (o_values : Nat) (o_cells : Nat) (i_greatest : Int32) (i_known : Int32) (i_highest : Int32) (res : Int32) (kf : Option (Int32)) : Prop := ∀ (_ : Unit), kf  = some res → ∀ (H : Heap) (locs : List Loc) (ls : Array Slot), lv_has ls 1 [(0, .ref a_this)] → va_P D classes [(a_this, .inr (2, [.ref o_lengths, .ref o_values, .ref o_cells, .int i_greatest, .int i_known, .int i_highest]))] H → va_D A [(a_this, .inr (2, [.ref o_lengths, .ref o_values, .ref o_cells, .int i_greatest, .int i_known, .int i_highest]))] → va_S A s.heap H locs → W p l e R_Codes_areThere s m args below meth c H locs 0 0 Q (F0 m 0 ls [])
set_option maxHeartbeats 4000000 in
set_option maxRecDepth 100000 in
theorem w_Codes_areThere_b0 {p : Program} {l : Launch} {e : Env} {s : State} {m : MethodId} {args : Array Value} {below : List Frame} {meth : Method} {c : Code} {Q : State → Prop} {A : Nat → Prop} {D : va_G} {cI cL cZ : ClassId} {a_this : Nat} {o_lengths : Nat} {o_values : Nat} {o_cells : Nat} {i_greatest : Int32} {i_known : Int32} {i_highest : Int32} {N : Nat} {res : Int32}  (C : Cx p s m args c b_Codes_areThere 1 "PrefixMill$Codes" D [(cI, .int), (cL, .long), (cZ, .boolean)] A) (hret : E_Codes_areThere p l e s m args below meth c Q A D cI cL cZ a_this o_lengths o_values o_cells i_greatest i_known i_highest res)  : I_Codes_areThere_b0 p l e s m args below meth c Q A D cI cL cZ a_this o_lengths o_values o_cells i_greatest i_known i_highest res (f_Codes_areThere N i_greatest ) := by
  obtain ⟨hx, hb, hml, hown, hts, hK, hA⟩ := C
  intro _ h H locs ls hl hP hD hS
  unfold f_Codes_areThere at h
  refine lv_aload_n hx hb d_Codes_areThere_0 rfl (lv_at hl 0 rfl) ?_
  refine va_get hx hb hts in_Codes hown hK hP 0 rfl rfl 3 (by decide) (hts _ m_129) (fun _ h9 => h9) rfl d_Codes_areThere_1 ?_
  refine lv_if_le (tgt := 11) hx hb d_Codes_areThere_4 (by decide) (fun c_1 => ?_) (fun c_1 => ?_)
  · replace h := if_t h c_1
    refine lv_iconst (v := 0) hx hb d_Codes_areThere_11 (by decide) ?_
    exact hret _ _ _ _ 0  h rfl d_Codes_areThere_12 hP hD hS
  · replace h := if_f h c_1
    refine lv_iconst (v := 1) hx hb d_Codes_areThere_7 (by decide) ?_
    refine lv_goto (tgt := 12) hx hb d_Codes_areThere_8 (by decide) ?_
    exact hret _ _ _ _ 1  h rfl d_Codes_areThere_12 hP hD hS
set_option maxHeartbeats 4000000 in
set_option maxRecDepth 100000 in
theorem c_Codes_areThere (l : Launch) (D : va_G) (cI cL cZ : ClassId) (sz N : Nat) (a_this : Nat) (o_lengths : Nat) (o_values : Nat) (o_cells : Nat) (i_greatest : Int32) (i_known : Int32) (i_highest : Int32) (rv : Int32) (h : f_Codes_areThere N i_greatest  = some (rv)) : Met l ({ cls := "PrefixMill$Codes", name := "areThere", desc := "()Z" } : Jvm.MethodName) ws_Codes_areThere R_Codes_areThere (va_Pc [.ref a_this] (fun U => U.heap.size = sz ∧ va_P D classes [(a_this, .inr (2, [.ref o_lengths, .ref o_values, .ref o_cells, .int i_greatest, .int i_known, .int i_highest]))] U.heap ∧ va_K D classes [(cI, .int), (cL, .long), (cZ, .boolean)] U ∧ va_D (fun _ => True) [(a_this, .inr (2, [.ref o_lengths, .ref o_values, .ref o_cells, .int i_greatest, .int i_known, .int i_highest]))])) (va_Qi (fun (r0 : Int32) (_ : Unit) => rv = r0) (fun _ t => va_P D classes [(a_this, .inr (2, [.ref o_lengths, .ref o_values, .ref o_cells, .int i_greatest, .int i_known, .int i_highest]))] t.heap ∧ va_K D classes [(cI, .int), (cL, .long), (cZ, .boolean)] t ∧ va_D (va_A [(a_this, .inr (2, [.ref o_lengths, .ref o_values, .ref o_cells, .int i_greatest, .int i_known, .int i_highest]))] sz) [(a_this, .inr (2, [.ref o_lengths, .ref o_values, .ref o_cells, .int i_greatest, .int i_known, .int i_highest]))]) (va_A [(a_this, .inr (2, [.ref o_lengths, .ref o_values, .ref o_cells, .int i_greatest, .int i_known, .int i_highest]))] sz)) 0 0 (va_A [(a_this, .inr (2, [.ref o_lengths, .ref o_values, .ref o_cells, .int i_greatest, .int i_known, .int i_highest]))] sz) := by
  refine Met.ofW (cc := b_Codes_areThere) (maxL := 1) (ret := (some .boolean)) (by decide) rfl ?_
  intro p e s m args below meth c s₁ B hml hv
  obtain ⟨rfl, hsz, hP, hK, hD0⟩ := hv
  have hx := B.exec
  have hb := B.bytes
  have hr := B.returns
  have hts0 := atoms_spec (ws := ws_Codes_areThere) B.pre
  have hts := gd_tl hts0
  clear hts0
  have hown : s.vm.findClass "PrefixMill$Codes" = some m.cls := findClass_of_methodNamed B.named
  have hlocks := B.notSynchronized
  subst hsz
  have hD := hD0.self (sz := s.heap.size)
  generalize hAe : va_A [(a_this, .inr (2, [.ref o_lengths, .ref o_values, .ref o_cells, .int i_greatest, .int i_known, .int i_highest]))] s.heap.size = A at hD ⊢
  have hA : ∀ q : Nat, s.heap.size ≤ q → A q := fun q h => by rw [← hAe]; exact Or.inr h
  have hS : va_S A s.heap s.heap [] := va_S.rf
  have hP : va_P D classes [(a_this, .inr (2, [.ref o_lengths, .ref o_values, .ref o_cells, .int i_greatest, .int i_known, .int i_highest]))] s.heap := hP
  have hl := lv_entry ([.ref a_this]) (n := 1) (Nat.le_of_ble_eq_true rfl)
  rw [lg_entry_eq]
  generalize (lg_sl ([.ref a_this]) ++ List.replicate (1 - (lg_sl ([.ref a_this])).length) Slot.unset).toArray = ls at hl ⊢
  have hl : lv_has ls 1 [(0, .ref a_this)] := hl
  have C : Cx p s m ([.ref a_this] : List Value).toArray c b_Codes_areThere 1 "PrefixMill$Codes" D [(cI, .int), (cL, .long), (cZ, .boolean)] A := ⟨hx, hb, hml, hown, hts, hK, hA⟩
  refine w_Codes_areThere_b0 (res := (rv)) C ?_ () h s.heap [] ls hl hP hD hS
  intro pc9 H9 locs9 ls9 rv9 e9 z9 d9 hP9 hD9 hS9
  cases e9
  exact W.zret (v := rv) hx hb hr z9 (fun t ht hW => ⟨⟨rv, (), rfl, rfl, by rw [ht]; exact hP9, va_K.moved hW.alike hK, hD9⟩, hS9.F ht⟩) hS9.2.2 d9
abbrev b_Codes_weightOf : ByteArray := prog_2_method_6_code
def ws_Codes_weightOf : List Cond := .code ({ cls := "PrefixMill$Codes", name := "weightOf", desc := "(I)I" } : Jvm.MethodName) b_Codes_weightOf 2 (some .int) :: tt
theorem d_Codes_weightOf_0 : decode b_Codes_weightOf 0 = .ok (.aload_n 0, 1) := by decide +kernel
theorem d_Codes_weightOf_1 : decode b_Codes_weightOf 1 = .ok (.getfield 9, 3) := by decide +kernel
theorem d_Codes_weightOf_4 : decode b_Codes_weightOf 4 = .ok (.iload_n 1, 1) := by decide +kernel
theorem d_Codes_weightOf_5 : decode b_Codes_weightOf 5 = .ok (.iaload, 1) := by decide +kernel
theorem d_Codes_weightOf_6 : decode b_Codes_weightOf 6 = .ok (.ifCond .ne 7, 3) := by decide +kernel
theorem d_Codes_weightOf_9 : decode b_Codes_weightOf 9 = .ok (.iconst 0, 1) := by decide +kernel
theorem d_Codes_weightOf_10 : decode b_Codes_weightOf 10 = .ok (.goto 16, 3) := by decide +kernel
theorem d_Codes_weightOf_13 : decode b_Codes_weightOf 13 = .ok (.aload_n 0, 1) := by decide +kernel
theorem d_Codes_weightOf_14 : decode b_Codes_weightOf 14 = .ok (.getfield 21, 3) := by decide +kernel
theorem d_Codes_weightOf_17 : decode b_Codes_weightOf 17 = .ok (.iconst 1, 1) := by decide +kernel
theorem d_Codes_weightOf_18 : decode b_Codes_weightOf 18 = .ok (.iadd, 1) := by decide +kernel
theorem d_Codes_weightOf_19 : decode b_Codes_weightOf 19 = .ok (.aload_n 0, 1) := by decide +kernel
theorem d_Codes_weightOf_20 : decode b_Codes_weightOf 20 = .ok (.getfield 9, 3) := by decide +kernel
theorem d_Codes_weightOf_23 : decode b_Codes_weightOf 23 = .ok (.iload_n 1, 1) := by decide +kernel
theorem d_Codes_weightOf_24 : decode b_Codes_weightOf 24 = .ok (.iaload, 1) := by decide +kernel
theorem d_Codes_weightOf_25 : decode b_Codes_weightOf 25 = .ok (.isub, 1) := by decide +kernel
theorem d_Codes_weightOf_26 : decode b_Codes_weightOf 26 = .ok (.ireturn, 1) := by decide +kernel
def f_Codes_weightOf (N : Nat) (i_greatest : Int32) (v_lengths : Nat → Int32) (l1 : Int32)   : Option (Int32) :=
  ck (inb l1 256) <|
  if (v_lengths (Int32.toNatClampNeg l1)) = 0 then
  some (0)
  else
  ck (inb l1 256) <|
  some (((i_greatest + 1) - (v_lengths (Int32.toNatClampNeg l1))))
abbrev R_Codes_weightOf : Room := ({ frames := 0, cells := 0, slots := 0, locals := 0 } : Room)
def E_Codes_weightOf (p : Program) (l : Launch) (e : Env) (s : State) (m : MethodId) (args : Array Value) (below : List Frame) (meth : Method) (c : Code) (Q : State → Prop) (A : Nat → Prop) (D : va_G) (cI cL cZ : ClassId) (a_this : Nat) (a_lengths : Nat) (o_values : Nat) (o_cells : Nat) (i_greatest : Int32) (i_known : Int32) (i_highest : Int32) (v_lengths : Nat → Int32) (l1 : Int32) (res : Int32) : Prop := ∀ (pc : Nat) (H : Heap) (locs : List Loc) (ls : Array Slot) (rv : Int32), some (rv) = some res → decode b_Codes_weightOf pc = .ok (.ireturn, 1) → va_P D classes [(a_this, .inr (2, [.ref a_lengths, .ref o_values, .ref o_cells, .int i_greatest, .int i_known, .int i_highest])), (a_lengths, .inl (cI, 256, .inl v_lengths))] H → va_D A [(a_this, .inr (2, [.ref a_lengths, .ref o_values, .ref o_cells, .int i_greatest, .int i_known, .int i_highest])), (a_lengths, .inl (cI, 256, .inl v_lengths))] → va_S A s.heap H locs → W p l e R_Codes_weightOf s m args below meth c H locs 0 0 Q (F0 m pc ls [.int rv])
def I_Codes_weightOf_b0 (p : Program) (l : Launch) (e : Env) (s : State) (m : MethodId) (args : Array Value) (below : List Frame) (meth : Method) (c : Code) (Q : State → Prop) (A : Nat → Prop) (D : va_G) (cI cL cZ : ClassId) (a_this : Nat) (a_lengths : Nat) (o_values : Nat) (o_cells : Nat) (i_greatest : Int32) (i_known : Int32) (i_highest : Int32) (v_lengths : Nat → Int32) (l1 : Int32) (res : Int32) (kf : Option (Int32)) : Prop := ∀ (_ : Unit), kf  = some res → ∀ (H : Heap) (locs : List Loc) (ls : Array Slot), lv_has ls 2 [(0, .ref a_this), (1, .int l1)] → va_P D classes [(a_this, .inr (2, [.ref a_lengths, .ref o_values, .ref o_cells, .int i_greatest, .int i_known, .int i_highest])), (a_lengths, .inl (cI, 256, .inl v_lengths))] H → va_D A [(a_this, .inr (2, [.ref a_lengths, .ref o_values, .ref o_cells, .int i_greatest, .int i_known, .int i_highest])), (a_lengths, .inl (cI, 256, .inl v_lengths))] → va_S A s.heap H locs → W p l e R_Codes_weightOf s m args below meth c H locs 0 0 Q (F0 m 0 ls [])
set_option maxHeartbeats 4000000 in
set_option maxRecDepth 100000 in
theorem w_Codes_weightOf_b0 {p : Program} {l : Launch} {e : Env} {s : State} {m : MethodId} {args : Array Value} {below : List Frame} {meth : Method} {c : Code} {Q : State → Prop} {A : Nat → Prop} {D : va_G} {cI cL cZ : ClassId} {a_this : Nat} {a_lengths : Nat} {o_values : Nat} {o_cells : Nat} {i_greatest : Int32} {i_known : Int32} {i_highest : Int32} {v_lengths : Nat → Int32} {l1 : Int32} {N : Nat} {res : Int32}  (C : Cx p s m args c b_Codes_weightOf 2 "PrefixMill$Codes" D [(cI, .int), (cL, .long), (cZ, .boolean)] A) (hret : E_Codes_weightOf p l e s m args below meth c Q A D cI cL cZ a_this a_lengths o_values o_cells i_greatest i_known i_highest v_lengths l1 res)  : I_Codes_weightOf_b0 p l e s m args below meth c Q A D cI cL cZ a_this a_lengths o_values o_cells i_greatest i_known i_highest v_lengths l1 res (f_Codes_weightOf N i_greatest v_lengths l1 ) := by
  obtain ⟨hx, hb, hml, hown, hts, hK, hA⟩ := C
  intro _ h H locs ls hl hP hD hS
  unfold f_Codes_weightOf at h
  refine lv_aload_n hx hb d_Codes_weightOf_0 rfl (lv_at hl 0 rfl) ?_
  refine va_get hx hb hts in_Codes hown hK hP 0 rfl rfl 0 (by decide) (hts _ m_121) (fun _ h9 => h9) rfl d_Codes_weightOf_1 ?_
  refine lv_iload_n hx hb d_Codes_weightOf_4 rfl (lv_at hl 1 rfl) ?_
  obtain ⟨g_1, h⟩ := ck_s h
  refine va_iald hx hb hK hP 1 0 rfl rfl (inb_s g_1) d_Codes_weightOf_5 ?_
  refine lv_if_ne (tgt := 13) hx hb d_Codes_weightOf_6 (by decide) (fun c_2 => ?_) (fun c_2 => ?_)
  · replace h := if_f h c_2
    refine lv_aload_n hx hb d_Codes_weightOf_13 rfl (lv_at hl 0 rfl) ?_
    refine va_get hx hb hts in_Codes hown hK hP 0 rfl rfl 3 (by decide) (hts _ m_129) (fun _ h9 => h9) rfl d_Codes_weightOf_14 ?_
    refine lv_iconst (v := 1) hx hb d_Codes_weightOf_17 (by decide) ?_
    refine lv_iadd hx hb d_Codes_weightOf_18 ?_
    refine lv_aload_n hx hb d_Codes_weightOf_19 rfl (lv_at hl 0 rfl) ?_
    refine va_get hx hb hts in_Codes hown hK hP 0 rfl rfl 0 (by decide) (hts _ m_121) (fun _ h9 => h9) rfl d_Codes_weightOf_20 ?_
    refine lv_iload_n hx hb d_Codes_weightOf_23 rfl (lv_at hl 1 rfl) ?_
    obtain ⟨g_3, h⟩ := ck_s h
    refine va_iald hx hb hK hP 1 0 rfl rfl (inb_s g_3) d_Codes_weightOf_24 ?_
    refine lv_isub hx hb d_Codes_weightOf_25 ?_
    exact hret _ _ _ _ ((i_greatest + 1) - (v_lengths (Int32.toNatClampNeg l1)))  h d_Codes_weightOf_26 hP hD hS
  · replace h := if_t h c_2
    refine lv_iconst (v := 0) hx hb d_Codes_weightOf_9 (by decide) ?_
    refine lv_goto (tgt := 26) hx hb d_Codes_weightOf_10 (by decide) ?_
    exact hret _ _ _ _ 0  h d_Codes_weightOf_26 hP hD hS
set_option maxHeartbeats 4000000 in
set_option maxRecDepth 100000 in
theorem c_Codes_weightOf (l : Launch) (D : va_G) (cI cL cZ : ClassId) (sz N : Nat) (a_this : Nat) (a_lengths : Nat) (o_values : Nat) (o_cells : Nat) (i_greatest : Int32) (i_known : Int32) (i_highest : Int32) (v_lengths : Nat → Int32) (l1 : Int32) (rv : Int32) (h : f_Codes_weightOf N i_greatest v_lengths l1  = some (rv)) : Met l ({ cls := "PrefixMill$Codes", name := "weightOf", desc := "(I)I" } : Jvm.MethodName) ws_Codes_weightOf R_Codes_weightOf (va_Pc [.ref a_this, .int l1] (fun U => U.heap.size = sz ∧ va_P D classes [(a_this, .inr (2, [.ref a_lengths, .ref o_values, .ref o_cells, .int i_greatest, .int i_known, .int i_highest])), (a_lengths, .inl (cI, 256, .inl v_lengths))] U.heap ∧ va_K D classes [(cI, .int), (cL, .long), (cZ, .boolean)] U ∧ va_D (fun _ => True) [(a_this, .inr (2, [.ref a_lengths, .ref o_values, .ref o_cells, .int i_greatest, .int i_known, .int i_highest])), (a_lengths, .inl (cI, 256, .inl v_lengths))])) (va_Qi (fun (r0 : Int32) (_ : Unit) => rv = r0) (fun _ t => va_P D classes [(a_this, .inr (2, [.ref a_lengths, .ref o_values, .ref o_cells, .int i_greatest, .int i_known, .int i_highest])), (a_lengths, .inl (cI, 256, .inl v_lengths))] t.heap ∧ va_K D classes [(cI, .int), (cL, .long), (cZ, .boolean)] t ∧ va_D (va_A [(a_this, .inr (2, [.ref a_lengths, .ref o_values, .ref o_cells, .int i_greatest, .int i_known, .int i_highest])), (a_lengths, .inl (cI, 256, .inl v_lengths))] sz) [(a_this, .inr (2, [.ref a_lengths, .ref o_values, .ref o_cells, .int i_greatest, .int i_known, .int i_highest])), (a_lengths, .inl (cI, 256, .inl v_lengths))]) (va_A [(a_this, .inr (2, [.ref a_lengths, .ref o_values, .ref o_cells, .int i_greatest, .int i_known, .int i_highest])), (a_lengths, .inl (cI, 256, .inl v_lengths))] sz)) 0 0 (va_A [(a_this, .inr (2, [.ref a_lengths, .ref o_values, .ref o_cells, .int i_greatest, .int i_known, .int i_highest])), (a_lengths, .inl (cI, 256, .inl v_lengths))] sz) := by
  refine Met.ofW (cc := b_Codes_weightOf) (maxL := 2) (ret := (some .int)) (by decide) rfl ?_
  intro p e s m args below meth c s₁ B hml hv
  obtain ⟨rfl, hsz, hP, hK, hD0⟩ := hv
  have hx := B.exec
  have hb := B.bytes
  have hr := B.returns
  have hts0 := atoms_spec (ws := ws_Codes_weightOf) B.pre
  have hts := gd_tl hts0
  clear hts0
  have hown : s.vm.findClass "PrefixMill$Codes" = some m.cls := findClass_of_methodNamed B.named
  have hlocks := B.notSynchronized
  subst hsz
  have hD := hD0.self (sz := s.heap.size)
  generalize hAe : va_A [(a_this, .inr (2, [.ref a_lengths, .ref o_values, .ref o_cells, .int i_greatest, .int i_known, .int i_highest])), (a_lengths, .inl (cI, 256, .inl v_lengths))] s.heap.size = A at hD ⊢
  have hA : ∀ q : Nat, s.heap.size ≤ q → A q := fun q h => by rw [← hAe]; exact Or.inr h
  have hS : va_S A s.heap s.heap [] := va_S.rf
  have hP : va_P D classes [(a_this, .inr (2, [.ref a_lengths, .ref o_values, .ref o_cells, .int i_greatest, .int i_known, .int i_highest])), (a_lengths, .inl (cI, 256, .inl v_lengths))] s.heap := hP
  have hl := lv_entry ([.ref a_this, .int l1]) (n := 2) (Nat.le_of_ble_eq_true rfl)
  rw [lg_entry_eq]
  generalize (lg_sl ([.ref a_this, .int l1]) ++ List.replicate (2 - (lg_sl ([.ref a_this, .int l1])).length) Slot.unset).toArray = ls at hl ⊢
  have hl : lv_has ls 2 [(0, .ref a_this), (1, .int l1)] := hl
  have C : Cx p s m ([.ref a_this, .int l1] : List Value).toArray c b_Codes_weightOf 2 "PrefixMill$Codes" D [(cI, .int), (cL, .long), (cZ, .boolean)] A := ⟨hx, hb, hml, hown, hts, hK, hA⟩
  refine w_Codes_weightOf_b0 (res := (rv)) C ?_ () h s.heap [] ls hl hP hD hS
  intro pc9 H9 locs9 ls9 rv9 e9 d9 hP9 hD9 hS9
  cases e9
  exact W.iret (v := rv) hx hb hr (fun t ht hW => ⟨⟨rv, (), rfl, rfl, by rw [ht]; exact hP9, va_K.moved hW.alike hK, hD9⟩, hS9.F ht⟩) hS9.2.2 d9
abbrev b_Writer_takeWeights : ByteArray := prog_10_method_3_code
def ws_Writer_takeWeights : List Cond := .code ({ cls := "PrefixMill$Writer", name := "takeWeights", desc := "(LPrefixMill$Codes;I)V" } : Jvm.MethodName) b_Writer_takeWeights 4 none :: tt
theorem d_Writer_takeWeights_0 : decode b_Writer_takeWeights 0 = .ok (.aload_n 0, 1) := by decide +kernel
theorem d_Writer_takeWeights_1 : decode b_Writer_takeWeights 1 = .ok (.getfield 27, 3) := by decide +kernel
theorem d_Writer_takeWeights_4 : decode b_Writer_takeWeights 4 = .ok (.iconst 0, 1) := by decide +kernel
theorem d_Writer_takeWeights_5 : decode b_Writer_takeWeights 5 = .ok (.invokestatic 64, 3) := by decide +kernel
theorem d_Writer_takeWeights_8 : decode b_Writer_takeWeights 8 = .ok (.iconst 0, 1) := by decide +kernel
theorem d_Writer_takeWeights_9 : decode b_Writer_takeWeights 9 = .ok (.istore_n 3, 1) := by decide +kernel
theorem d_Writer_takeWeights_10 : decode b_Writer_takeWeights 10 = .ok (.iload_n 3, 1) := by decide +kernel
theorem d_Writer_takeWeights_11 : decode b_Writer_takeWeights 11 = .ok (.iload_n 2, 1) := by decide +kernel
theorem d_Writer_takeWeights_12 : decode b_Writer_takeWeights 12 = .ok (.if_icmp .ge 35, 3) := by decide +kernel
theorem d_Writer_takeWeights_15 : decode b_Writer_takeWeights 15 = .ok (.aload_n 0, 1) := by decide +kernel
theorem d_Writer_takeWeights_16 : decode b_Writer_takeWeights 16 = .ok (.getfield 23, 3) := by decide +kernel
theorem d_Writer_takeWeights_19 : decode b_Writer_takeWeights 19 = .ok (.iload_n 3, 1) := by decide +kernel
theorem d_Writer_takeWeights_20 : decode b_Writer_takeWeights 20 = .ok (.aload_n 1, 1) := by decide +kernel
theorem d_Writer_takeWeights_21 : decode b_Writer_takeWeights 21 = .ok (.iload_n 3, 1) := by decide +kernel
theorem d_Writer_takeWeights_22 : decode b_Writer_takeWeights 22 = .ok (.invokevirtual 70, 3) := by decide +kernel
theorem d_Writer_takeWeights_25 : decode b_Writer_takeWeights 25 = .ok (.iastore, 1) := by decide +kernel
theorem d_Writer_takeWeights_26 : decode b_Writer_takeWeights 26 = .ok (.aload_n 0, 1) := by decide +kernel
theorem d_Writer_takeWeights_27 : decode b_Writer_takeWeights 27 = .ok (.getfield 27, 3) := by decide +kernel
theorem d_Writer_takeWeights_30 : decode b_Writer_takeWeights 30 = .ok (.aload_n 0, 1) := by decide +kernel
theorem d_Writer_takeWeights_31 : decode b_Writer_takeWeights 31 = .ok (.getfield 23, 3) := by decide +kernel
theorem d_Writer_takeWeights_34 : decode b_Writer_takeWeights 34 = .ok (.iload_n 3, 1) := by decide +kernel
theorem d_Writer_takeWeights_35 : decode b_Writer_takeWeights 35 = .ok (.iaload, 1) := by decide +kernel
theorem d_Writer_takeWeights_36 : decode b_Writer_takeWeights 36 = .ok (.dup2, 1) := by decide +kernel
theorem d_Writer_takeWeights_37 : decode b_Writer_takeWeights 37 = .ok (.iaload, 1) := by decide +kernel
theorem d_Writer_takeWeights_38 : decode b_Writer_takeWeights 38 = .ok (.iconst 1, 1) := by decide +kernel
theorem d_Writer_takeWeights_39 : decode b_Writer_takeWeights 39 = .ok (.iadd, 1) := by decide +kernel
theorem d_Writer_takeWeights_40 : decode b_Writer_takeWeights 40 = .ok (.iastore, 1) := by decide +kernel
theorem d_Writer_takeWeights_41 : decode b_Writer_takeWeights 41 = .ok (.iinc 3 1, 3) := by decide +kernel
theorem d_Writer_takeWeights_44 : decode b_Writer_takeWeights 44 = .ok (.goto (-34), 3) := by decide +kernel
theorem d_Writer_takeWeights_47 : decode b_Writer_takeWeights 47 = .ok (.return_, 1) := by decide +kernel
def f_Writer_takeWeights_b10 (N : Nat) (i_p1_greatest : Int32) (v_p1_lengths : Nat → Int32) (l2 : Int32)  : Nat → Int32 → (Nat → Int32) → (Nat → Int32) → Option ((Nat → Int32) × (Nat → Int32))
  | 0, _, _, _ => none
  | z + 1, l3, v_weights, v_counts =>
  if l2 ≤ l3 then
  some (v_weights, v_counts)
  else
  bd1 (f_Codes_weightOf N i_p1_greatest v_p1_lengths l3) fun r_2 =>
  ck (inb l3 256) <|
  nm (upd v_weights (Int32.toNatClampNeg l3) r_2) fun v_weights_5 =>
  ck (inb l3 256) <|
  ck (inb (v_weights_5 (Int32.toNatClampNeg l3)) 12) <|
  ck (inb (v_weights_5 (Int32.toNatClampNeg l3)) 12) <|
  nm (upd v_counts (Int32.toNatClampNeg (v_weights_5 (Int32.toNatClampNeg l3))) ((v_counts (Int32.toNatClampNeg (v_weights_5 (Int32.toNatClampNeg l3)))) + 1)) fun v_counts_9 =>
  nm (l3 + 1) fun l3_10 =>
  f_Writer_takeWeights_b10 N i_p1_greatest v_p1_lengths l2  z l3_10 v_weights_5 v_counts_9
def f_Writer_takeWeights (N : Nat) (i_p1_greatest : Int32) (v_p1_lengths : Nat → Int32) (l2 : Int32)  (v_weights : Nat → Int32) (v_counts : Nat → Int32) : Option ((Nat → Int32) × (Nat → Int32)) :=
  bd1 (f_JArr_fill N 12 0 v_counts) fun v_counts_1 =>
  f_Writer_takeWeights_b10 N i_p1_greatest v_p1_lengths l2  N 0 v_weights v_counts_1
abbrev R_Writer_takeWeights : Room := ({ frames := 1, cells := 0, slots := 0, locals := 23 } : Room)
def E_Writer_takeWeights (p : Program) (l : Launch) (e : Env) (s : State) (m : MethodId) (args : Array Value) (below : List Frame) (meth : Method) (c : Code) (Q : State → Prop) (A : Nat → Prop) (D : va_G) (cI cL cZ : ClassId) (a_this : Nat) (a_weights : Nat) (a_counts : Nat) (a_p1 : Nat) (a_p1_lengths : Nat) (o_five : Nat) (o_six : Nat) (o_p1_values : Nat) (o_p1_cells : Nat) (i_p1_greatest : Int32) (i_p1_known : Int32) (i_p1_highest : Int32) (v_p1_lengths : Nat → Int32) (l2 : Int32) (res : (Nat → Int32) × (Nat → Int32)) : Prop := ∀ (pc : Nat) (H : Heap) (locs : List Loc) (ls : Array Slot) (v_weights : Nat → Int32) (v_counts : Nat → Int32), some (v_weights, v_counts) = some res → decode b_Writer_takeWeights pc = .ok (.return_, 1) → va_P D classes [(a_this, .inr (10, [.ref o_five, .ref o_six, .ref a_weights, .ref a_counts])), (a_weights, .inl (cI, 256, .inl v_weights)), (a_counts, .inl (cI, 12, .inl v_counts)), (a_p1, .inr (2, [.ref a_p1_lengths, .ref o_p1_values, .ref o_p1_cells, .int i_p1_greatest, .int i_p1_known, .int i_p1_highest])), (a_p1_lengths, .inl (cI, 256, .inl v_p1_lengths))] H → va_D A [(a_this, .inr (10, [.ref o_five, .ref o_six, .ref a_weights, .ref a_counts])), (a_weights, .inl (cI, 256, .inl v_weights)), (a_counts, .inl (cI, 12, .inl v_counts)), (a_p1, .inr (2, [.ref a_p1_lengths, .ref o_p1_values, .ref o_p1_cells, .int i_p1_greatest, .int i_p1_known, .int i_p1_highest])), (a_p1_lengths, .inl (cI, 256, .inl v_p1_lengths))] → va_S A s.heap H locs → W p l e R_Writer_takeWeights s m args below meth c H locs 0 0 Q (F0 m pc ls [])
def I_Writer_takeWeights_b10 (p : Program) (l : Launch) (e : Env) (s : State) (m : MethodId) (args : Array Value) (below : List Frame) (meth : Method) (c : Code) (Q : State → Prop) (A : Nat → Prop) (D : va_G) (cI cL cZ : ClassId) (a_this : Nat) (a_weights : Nat) (a_counts : Nat) (a_p1 : Nat) (a_p1_lengths : Nat) (o_five : Nat) (o_six : Nat) (o_p1_values : Nat) (o_p1_cells : Nat) (i_p1_greatest : Int32) (i_p1_known : Int32) (i_p1_highest : Int32) (v_p1_lengths : Nat → Int32) (l2 : Int32) (res : (Nat → Int32) × (Nat → Int32)) (kf : Int32 → (Nat → Int32) → (Nat → Int32) → Option ((Nat → Int32) × (Nat → Int32))) : Prop := ∀ (l3 : Int32) (v_weights : Nat → Int32) (v_counts : Nat → Int32), kf l3 v_weights v_counts = some res → ∀ (H : Heap) (locs : List Loc) (ls : Array Slot), lv_has ls 4 [(0, .ref a_this), (1, .ref a_p1), (2, .int l2), (3, .int l3)] → va_P D classes [(a_this, .inr (10, [.ref o_five, .ref o_six, .ref a_weights, .ref a_counts])), (a_weights, .inl (cI, 256, .inl v_weights)), (a_counts, .inl (cI, 12, .inl v_counts)), (a_p1, .inr (2, [.ref a_p1_lengths, .ref o_p1_values, .ref o_p1_cells, .int i_p1_greatest, .int i_p1_known, .int i_p1_highest])), (a_p1_lengths, .inl (cI, 256, .inl v_p1_lengths))] H → va_D A [(a_this, .inr (10, [.ref o_five, .ref o_six, .ref a_weights, .ref a_counts])), (a_weights, .inl (cI, 256, .inl v_weights)), (a_counts, .inl (cI, 12, .inl v_counts)), (a_p1, .inr (2, [.ref a_p1_lengths, .ref o_p1_values, .ref o_p1_cells, .int i_p1_greatest, .int i_p1_known, .int i_p1_highest])), (a_p1_lengths, .inl (cI, 256, .inl v_p1_lengths))] → va_S A s.heap H locs → W p l e R_Writer_takeWeights s m args below meth c H locs 0 0 Q (F0 m 10 ls [])
def I_Writer_takeWeights_b0 (p : Program) (l : Launch) (e : Env) (s : State) (m : MethodId) (args : Array Value) (below : List Frame) (meth : Method) (c : Code) (Q : State → Prop) (A : Nat → Prop) (D : va_G) (cI cL cZ : ClassId) (a_this : Nat) (a_weights : Nat) (a_counts : Nat) (a_p1 : Nat) (a_p1_lengths : Nat) (o_five : Nat) (o_six : Nat) (o_p1_values : Nat) (o_p1_cells : Nat) (i_p1_greatest : Int32) (i_p1_known : Int32) (i_p1_highest : Int32) (v_p1_lengths : Nat → Int32) (l2 : Int32) (res : (Nat → Int32) × (Nat → Int32)) (kf : (Nat → Int32) → (Nat → Int32) → Option ((Nat → Int32) × (Nat → Int32))) : Prop := ∀ (v_weights : Nat → Int32) (v_counts : Nat → Int32), kf v_weights v_counts = some res → ∀ (H : Heap) (locs : List Loc) (ls : Array Slot), lv_has ls 4 [(0, .ref a_this), (1, .ref a_p1), (2, .int l2)] → va_P D classes [(a_this, .inr (10, [.ref o_five, .ref o_six, .ref a_weights, .ref a_counts])), (a_weights, .inl (cI, 256, .inl v_weights)), (a_counts, .inl (cI, 12, .inl v_counts)), (a_p1, .inr (2, [.ref a_p1_lengths, .ref o_p1_values, .ref o_p1_cells, .int i_p1_greatest, .int i_p1_known, .int i_p1_highest])), (a_p1_lengths, .inl (cI, 256, .inl v_p1_lengths))] H → va_D A [(a_this, .inr (10, [.ref o_five, .ref o_six, .ref a_weights, .ref a_counts])), (a_weights, .inl (cI, 256, .inl v_weights)), (a_counts, .inl (cI, 12, .inl v_counts)), (a_p1, .inr (2, [.ref a_p1_lengths, .ref o_p1_values, .ref o_p1_cells, .int i_p1_greatest, .int i_p1_known, .int i_p1_highest])), (a_p1_lengths, .inl (cI, 256, .inl v_p1_lengths))] → va_S A s.heap H locs → W p l e R_Writer_takeWeights s m args below meth c H locs 0 0 Q (F0 m 0 ls [])
set_option maxHeartbeats 4000000 in
set_option maxRecDepth 100000 in
theorem w_Writer_takeWeights_b10 {p : Program} {l : Launch} {e : Env} {s : State} {m : MethodId} {args : Array Value} {below : List Frame} {meth : Method} {c : Code} {Q : State → Prop} {A : Nat → Prop} {D : va_G} {cI cL cZ : ClassId} {a_this : Nat} {a_weights : Nat} {a_counts : Nat} {a_p1 : Nat} {a_p1_lengths : Nat} {o_five : Nat} {o_six : Nat} {o_p1_values : Nat} {o_p1_cells : Nat} {i_p1_greatest : Int32} {i_p1_known : Int32} {i_p1_highest : Int32} {v_p1_lengths : Nat → Int32} {l2 : Int32} {N : Nat} {res : (Nat → Int32) × (Nat → Int32)}  (C : Cx p s m args c b_Writer_takeWeights 4 "PrefixMill$Writer" D [(cI, .int), (cL, .long), (cZ, .boolean)] A) (hret : E_Writer_takeWeights p l e s m args below meth c Q A D cI cL cZ a_this a_weights a_counts a_p1 a_p1_lengths o_five o_six o_p1_values o_p1_cells i_p1_greatest i_p1_known i_p1_highest v_p1_lengths l2 res)  : ∀ z : Nat, I_Writer_takeWeights_b10 p l e s m args below meth c Q A D cI cL cZ a_this a_weights a_counts a_p1 a_p1_lengths o_five o_six o_p1_values o_p1_cells i_p1_greatest i_p1_known i_p1_highest v_p1_lengths l2 res (f_Writer_takeWeights_b10 N i_p1_greatest v_p1_lengths l2  z) := by
  obtain ⟨hx, hb, hml, hown, hts, hK, hA⟩ := C
  intro z
  induction z with
  | zero => intro l3 v_weights v_counts h; cases h
  | succ z ih =>
    intro l3 v_weights v_counts h H locs ls hl hP hD hS
    refine lv_iload_n hx hb d_Writer_takeWeights_10 rfl (lv_at hl 3 rfl) ?_
    refine lv_iload_n hx hb d_Writer_takeWeights_11 rfl (lv_at hl 2 rfl) ?_
    refine lv_icmp_ge (tgt := 47) hx hb d_Writer_takeWeights_12 (by decide) (fun c_1 => ?_) (fun c_1 => ?_)
    · replace h := if_t h c_1
      exact hret _ _ _ _ v_weights v_counts h d_Writer_takeWeights_47 hP hD hS
    · replace h := if_f h c_1
      refine lv_aload_n hx hb d_Writer_takeWeights_15 rfl (lv_at hl 0 rfl) ?_
      refine va_get hx hb hts in_Writer hown hK hP 0 rfl rfl 2 (by decide) (hts _ m_267) (fun _ h9 => h9) rfl d_Writer_takeWeights_16 ?_
      refine lv_iload_n hx hb d_Writer_takeWeights_19 rfl (lv_at hl 3 rfl) ?_
      refine lv_aload_n hx hb d_Writer_takeWeights_20 rfl (lv_at hl 1 rfl) ?_
      refine lv_iload_n hx hb d_Writer_takeWeights_21 rfl (lv_at hl 3 rfl) ?_
      obtain ⟨r_2, hc_3, h⟩ := bd1_s h
      have hPc := hP.sub (ws' := [(a_p1, .inr (2, [.ref a_p1_lengths, .ref o_p1_values, .ref o_p1_cells, .int i_p1_greatest, .int i_p1_known, .int i_p1_highest])), (a_p1_lengths, .inl (cI, 256, .inl v_p1_lengths))]) [3, 4] rfl
      have hDc := hD.sub (ws' := [(a_p1, .inr (2, [.ref a_p1_lengths, .ref o_p1_values, .ref o_p1_cells, .int i_p1_greatest, .int i_p1_known, .int i_p1_highest])), (a_p1_lengths, .inl (cI, 256, .inl v_p1_lengths))]) [3, 4] (by decide) rfl
      have hFc := va_free (wc := [(a_p1, .inr (2, [.ref a_p1_lengths, .ref o_p1_values, .ref o_p1_cells, .int i_p1_greatest, .int i_p1_known, .int i_p1_highest])), (a_p1_lengths, .inl (cI, 256, .inl v_p1_lengths))]) hD hS hA [3, 4] rfl
      refine va_calli (va_runV (As := [.int l3]) (rest := [.int l3, .ref a_weights]) ⟨hx, hb, hml, hown, hts⟩ (c_Codes_weightOf l D cI cL cZ H.size N a_p1 a_p1_lengths o_p1_values o_p1_cells i_p1_greatest i_p1_known i_p1_highest v_p1_lengths l3 r_2 hc_3) ⟨(my_cb 1 hts m_516 rfl rfl (hts _ m_68) (hts _ m_513) (by decide +kernel) ⟨Nat.le_of_ble_eq_true rfl, Nat.le_of_ble_eq_true rfl⟩), hts _ m_514, hts _ m_515⟩ ⟨fun a U g mk q => by obtain ⟨q0, q1, qP, qK, qD⟩ := q; exact ⟨q0, q1, qP, va_K.moved (u := U) (U := U.calling g mk a) (Vm.Alike.refl U.vm) qK, qD⟩, va_recv hK hPc (ci := 2) (q0 := 0) rfl rfl, fun U hU hW => ⟨rfl, by rw [hU], by rw [hU]; exact hPc, va_K.moved hW.alike hK, hDc.weaken (fun _ _ _ _ => trivial)⟩⟩ rfl rfl hl.1 rfl (lv_room (Nat.le_of_ble_eq_true rfl)) d_Writer_takeWeights_22 ⟨Nat.zero_le _, Nat.zero_le _⟩) hS (fun q _ h => hFc q h) hFc (fun rr u t H1 locs ht hvm hw hB hz1 hk1 hS => ?_)
      obtain ⟨hP1, hK1, hD1⟩ := hB
      rw [ht] at hP1
      subst hw
      obtain ⟨hP, hD⟩ := va_join (wr := [(a_this, .inr (10, [.ref o_five, .ref o_six, .ref a_weights, .ref a_counts])), (a_weights, .inl (cI, 256, .inl v_weights)), (a_counts, .inl (cI, 12, .inl v_counts))]) (w1 := [(a_p1, .inr (2, [.ref a_p1_lengths, .ref o_p1_values, .ref o_p1_cells, .int i_p1_greatest, .int i_p1_known, .int i_p1_highest])), (a_p1_lengths, .inl (cI, 256, .inl v_p1_lengths))]) hP hD [3, 4] [0, 1, 2] rfl rfl (by decide) (by decide) hk1 hFc hP1 hD1
      clear hPc hDc hFc hk1 hP1 hD1 hK1
      generalize H1 = H at hP hS ⊢
      have hP : va_P D classes [(a_this, .inr (10, [.ref o_five, .ref o_six, .ref a_weights, .ref a_counts])), (a_weights, .inl (cI, 256, .inl v_weights)), (a_counts, .inl (cI, 12, .inl v_counts)), (a_p1, .inr (2, [.ref a_p1_lengths, .ref o_p1_values, .ref o_p1_cells, .int i_p1_greatest, .int i_p1_known, .int i_p1_highest])), (a_p1_lengths, .inl (cI, 256, .inl v_p1_lengths))] H := hP.sub [0, 1, 2, 3, 4] rfl
      have hD : va_D A [(a_this, .inr (10, [.ref o_five, .ref o_six, .ref a_weights, .ref a_counts])), (a_weights, .inl (cI, 256, .inl v_weights)), (a_counts, .inl (cI, 12, .inl v_counts)), (a_p1, .inr (2, [.ref a_p1_lengths, .ref o_p1_values, .ref o_p1_cells, .int i_p1_greatest, .int i_p1_known, .int i_p1_highest])), (a_p1_lengths, .inl (cI, 256, .inl v_p1_lengths))] := hD.sub [0, 1, 2, 3, 4] (by decide) rfl
      obtain ⟨g_4, h⟩ := ck_s h
      refine va_iast hx hb hK hP hD hS 1 0 rfl rfl (inb_s g_4) d_Writer_takeWeights_25 (fun H locs hP hD hS => ?_)
      obtain ⟨v_weights_5, ev_weights_5⟩ : ∃ y, y = (upd v_weights (Int32.toNatClampNeg l3) r_2) := ⟨_, rfl⟩
      replace h := nm_s h ev_weights_5
      have hP : va_P D classes [(a_this, .inr (10, [.ref o_five, .ref o_six, .ref a_weights, .ref a_counts])), (a_weights, .inl (cI, 256, .inl v_weights_5)), (a_counts, .inl (cI, 12, .inl v_counts)), (a_p1, .inr (2, [.ref a_p1_lengths, .ref o_p1_values, .ref o_p1_cells, .int i_p1_greatest, .int i_p1_known, .int i_p1_highest])), (a_p1_lengths, .inl (cI, 256, .inl v_p1_lengths))] H := by rw [ev_weights_5]; exact hP
      have hD : va_D A [(a_this, .inr (10, [.ref o_five, .ref o_six, .ref a_weights, .ref a_counts])), (a_weights, .inl (cI, 256, .inl v_weights_5)), (a_counts, .inl (cI, 12, .inl v_counts)), (a_p1, .inr (2, [.ref a_p1_lengths, .ref o_p1_values, .ref o_p1_cells, .int i_p1_greatest, .int i_p1_known, .int i_p1_highest])), (a_p1_lengths, .inl (cI, 256, .inl v_p1_lengths))] := by rw [ev_weights_5]; exact hD
      refine lv_aload_n hx hb d_Writer_takeWeights_26 rfl (lv_at hl 0 rfl) ?_
      refine va_get hx hb hts in_Writer hown hK hP 0 rfl rfl 3 (by decide) (hts _ m_268) (fun _ h9 => h9) rfl d_Writer_takeWeights_27 ?_
      refine lv_aload_n hx hb d_Writer_takeWeights_30 rfl (lv_at hl 0 rfl) ?_
      refine va_get hx hb hts in_Writer hown hK hP 0 rfl rfl 2 (by decide) (hts _ m_267) (fun _ h9 => h9) rfl d_Writer_takeWeights_31 ?_
      refine lv_iload_n hx hb d_Writer_takeWeights_34 rfl (lv_at hl 3 rfl) ?_
      obtain ⟨g_6, h⟩ := ck_s h
      refine va_iald hx hb hK hP 1 0 rfl rfl (inb_s g_6) d_Writer_takeWeights_35 ?_
      refine lv_dup2_11 hx hb d_Writer_takeWeights_36 rfl rfl ?_
      obtain ⟨g_7, h⟩ := ck_s h
      refine va_iald hx hb hK hP 2 0 rfl rfl (inb_s g_7) d_Writer_takeWeights_37 ?_
      refine lv_iconst (v := 1) hx hb d_Writer_takeWeights_38 (by decide) ?_
      refine lv_iadd hx hb d_Writer_takeWeights_39 ?_
      obtain ⟨g_8, h⟩ := ck_s h
      refine va_iast hx hb hK hP hD hS 2 0 rfl rfl (inb_s g_8) d_Writer_takeWeights_40 (fun H locs hP hD hS => ?_)
      obtain ⟨v_counts_9, ev_counts_9⟩ : ∃ y, y = (upd v_counts (Int32.toNatClampNeg (v_weights_5 (Int32.toNatClampNeg l3))) ((v_counts (Int32.toNatClampNeg (v_weights_5 (Int32.toNatClampNeg l3)))) + 1)) := ⟨_, rfl⟩
      replace h := nm_s h ev_counts_9
      have hP : va_P D classes [(a_this, .inr (10, [.ref o_five, .ref o_six, .ref a_weights, .ref a_counts])), (a_weights, .inl (cI, 256, .inl v_weights_5)), (a_counts, .inl (cI, 12, .inl v_counts_9)), (a_p1, .inr (2, [.ref a_p1_lengths, .ref o_p1_values, .ref o_p1_cells, .int i_p1_greatest, .int i_p1_known, .int i_p1_highest])), (a_p1_lengths, .inl (cI, 256, .inl v_p1_lengths))] H := by rw [ev_counts_9]; exact hP
      have hD : va_D A [(a_this, .inr (10, [.ref o_five, .ref o_six, .ref a_weights, .ref a_counts])), (a_weights, .inl (cI, 256, .inl v_weights_5)), (a_counts, .inl (cI, 12, .inl v_counts_9)), (a_p1, .inr (2, [.ref a_p1_lengths, .ref o_p1_values, .ref o_p1_cells, .int i_p1_greatest, .int i_p1_known, .int i_p1_highest])), (a_p1_lengths, .inl (cI, 256, .inl v_p1_lengths))] := by rw [ev_counts_9]; exact hD
      obtain ⟨l3_10, el3_10⟩ : ∃ y : Int32, y = l3 + 1 := ⟨_, rfl⟩
      replace h := nm_s h el3_10
      refine lv_iinc (v := l3_10) (lv' := [(3, .int l3_10), (0, .ref a_this), (1, .ref a_p1), (2, .int l2)]) hx hb d_Writer_takeWeights_41 hl (k := 3) rfl (by rw [el3_10]; rfl) (by decide) rfl (fun ls hl => ?_)
      refine lv_goto (tgt := 10) hx hb d_Writer_takeWeights_44 (by decide) ?_
      exact ih _ _ _ h H locs ls (lv_sub hl [1, 2, 3, 0] rfl) hP hD hS
set_option maxHeartbeats 4000000 in
set_option maxRecDepth 100000 in
theorem w_Writer_takeWeights_b0 {p : Program} {l : Launch} {e : Env} {s : State} {m : MethodId} {args : Array Value} {below : List Frame} {meth : Method} {c : Code} {Q : State → Prop} {A : Nat → Prop} {D : va_G} {cI cL cZ : ClassId} {a_this : Nat} {a_weights : Nat} {a_counts : Nat} {a_p1 : Nat} {a_p1_lengths : Nat} {o_five : Nat} {o_six : Nat} {o_p1_values : Nat} {o_p1_cells : Nat} {i_p1_greatest : Int32} {i_p1_known : Int32} {i_p1_highest : Int32} {v_p1_lengths : Nat → Int32} {l2 : Int32} {N : Nat} {res : (Nat → Int32) × (Nat → Int32)}  (C : Cx p s m args c b_Writer_takeWeights 4 "PrefixMill$Writer" D [(cI, .int), (cL, .long), (cZ, .boolean)] A) (hret : E_Writer_takeWeights p l e s m args below meth c Q A D cI cL cZ a_this a_weights a_counts a_p1 a_p1_lengths o_five o_six o_p1_values o_p1_cells i_p1_greatest i_p1_known i_p1_highest v_p1_lengths l2 res)  : I_Writer_takeWeights_b0 p l e s m args below meth c Q A D cI cL cZ a_this a_weights a_counts a_p1 a_p1_lengths o_five o_six o_p1_values o_p1_cells i_p1_greatest i_p1_known i_p1_highest v_p1_lengths l2 res (f_Writer_takeWeights N i_p1_greatest v_p1_lengths l2 ) := by
  obtain ⟨hx, hb, hml, hown, hts, hK, hA⟩ := C
  intro v_weights v_counts h H locs ls hl hP hD hS
  unfold f_Writer_takeWeights at h
  refine lv_aload_n hx hb d_Writer_takeWeights_0 rfl (lv_at hl 0 rfl) ?_
  refine va_get hx hb hts in_Writer hown hK hP 0 rfl rfl 3 (by decide) (hts _ m_268) (fun _ h9 => h9) rfl d_Writer_takeWeights_1 ?_
  refine lv_iconst (v := 0) hx hb d_Writer_takeWeights_4 (by decide) ?_
  obtain ⟨v_counts_1, hc_2, h⟩ := bd1_s h
  have hPc := hP.sub (ws' := [(a_counts, .inl (cI, 12, .inl v_counts))]) [2] rfl
  have hDc := hD.sub (ws' := [(a_counts, .inl (cI, 12, .inl v_counts))]) [2] (by decide) rfl
  have hFc := va_free (wc := [(a_counts, .inl (cI, 12, .inl v_counts))]) hD hS hA [2] rfl
  refine va_callv (va_runS (As := [.ref a_counts, .int 0]) (rest := []) ⟨hx, hb, hml, hown, hts⟩ (c_JArr_fill l D cI cL cZ H.size N a_counts 12 v_counts 0 v_counts_1 hc_2) ⟨(my_cb 2 hts m_410 rfl rfl (hts _ m_79) (hts _ m_512) (by decide +kernel) ⟨Nat.le_of_ble_eq_true rfl, Nat.le_of_ble_eq_true rfl⟩), hts _ m_409⟩ ⟨fun a U g mk q => by obtain ⟨q0, q1, qP, qK, qD⟩ := q; exact ⟨q0, q1, qP, va_K.moved (u := U) (U := U.calling g mk a) (Vm.Alike.refl U.vm) qK, qD⟩, fun U hU hW => ⟨rfl, by rw [hU], by rw [hU]; exact hPc, va_K.moved hW.alike hK, hDc.weaken (fun _ _ _ _ => trivial)⟩⟩ rfl rfl hl.1 rfl (lv_room (Nat.le_of_ble_eq_true rfl)) d_Writer_takeWeights_5 ⟨Nat.zero_le _, Nat.zero_le _⟩) hS (fun q _ h => hFc q h) hFc (fun u t H1 locs ht hvm hw hB hz1 hk1 hS => ?_)
  obtain ⟨hP1, hK1, hD1⟩ := hB
  rw [ht] at hP1
  obtain ⟨hP, hD⟩ := va_join (wr := [(a_this, .inr (10, [.ref o_five, .ref o_six, .ref a_weights, .ref a_counts])), (a_weights, .inl (cI, 256, .inl v_weights)), (a_p1, .inr (2, [.ref a_p1_lengths, .ref o_p1_values, .ref o_p1_cells, .int i_p1_greatest, .int i_p1_known, .int i_p1_highest])), (a_p1_lengths, .inl (cI, 256, .inl v_p1_lengths))]) (w1 := [(a_counts, .inl (cI, 12, .inl v_counts_1))]) hP hD [2] [0, 1, 3, 4] rfl rfl (by decide) (by decide) hk1 hFc hP1 hD1
  clear hPc hDc hFc hk1 hP1 hD1 hK1
  generalize H1 = H at hP hS ⊢
  have hP : va_P D classes [(a_this, .inr (10, [.ref o_five, .ref o_six, .ref a_weights, .ref a_counts])), (a_weights, .inl (cI, 256, .inl v_weights)), (a_counts, .inl (cI, 12, .inl v_counts_1)), (a_p1, .inr (2, [.ref a_p1_lengths, .ref o_p1_values, .ref o_p1_cells, .int i_p1_greatest, .int i_p1_known, .int i_p1_highest])), (a_p1_lengths, .inl (cI, 256, .inl v_p1_lengths))] H := hP.sub [0, 1, 4, 2, 3] rfl
  have hD : va_D A [(a_this, .inr (10, [.ref o_five, .ref o_six, .ref a_weights, .ref a_counts])), (a_weights, .inl (cI, 256, .inl v_weights)), (a_counts, .inl (cI, 12, .inl v_counts_1)), (a_p1, .inr (2, [.ref a_p1_lengths, .ref o_p1_values, .ref o_p1_cells, .int i_p1_greatest, .int i_p1_known, .int i_p1_highest])), (a_p1_lengths, .inl (cI, 256, .inl v_p1_lengths))] := hD.sub [0, 1, 4, 2, 3] (by decide) rfl
  refine lv_iconst (v := 0) hx hb d_Writer_takeWeights_8 (by decide) ?_
  refine lv_istore_n (lv' := [(3, .int 0), (0, .ref a_this), (1, .ref a_p1), (2, .int l2)]) hx hb d_Writer_takeWeights_9 rfl hl (by decide) rfl (fun ls hl => ?_)
  exact w_Writer_takeWeights_b10 ⟨hx, hb, hml, hown, hts, hK, hA⟩ hret  N _ _ _ h H locs ls (lv_sub hl [1, 2, 3, 0] rfl) hP hD hS
set_option maxHeartbeats 4000000 in
set_option maxRecDepth 100000 in
theorem c_Writer_takeWeights (l : Launch) (D : va_G) (cI cL cZ : ClassId) (sz N : Nat) (a_this : Nat) (a_weights : Nat) (a_counts : Nat) (a_p1 : Nat) (a_p1_lengths : Nat) (o_five : Nat) (o_six : Nat) (o_p1_values : Nat) (o_p1_cells : Nat) (v_weights : Nat → Int32) (v_counts : Nat → Int32) (i_p1_greatest : Int32) (i_p1_known : Int32) (i_p1_highest : Int32) (v_p1_lengths : Nat → Int32) (l2 : Int32) (v_weights' : Nat → Int32) (v_counts' : Nat → Int32) (h : f_Writer_takeWeights N i_p1_greatest v_p1_lengths l2 v_weights v_counts = some (v_weights', v_counts')) : Met l ({ cls := "PrefixMill$Writer", name := "takeWeights", desc := "(LPrefixMill$Codes;I)V" } : Jvm.MethodName) ws_Writer_takeWeights R_Writer_takeWeights (va_Pc [.ref a_this, .ref a_p1, .int l2] (fun U => U.heap.size = sz ∧ va_P D classes [(a_this, .inr (10, [.ref o_five, .ref o_six, .ref a_weights, .ref a_counts])), (a_weights, .inl (cI, 256, .inl v_weights)), (a_counts, .inl (cI, 12, .inl v_counts)), (a_p1, .inr (2, [.ref a_p1_lengths, .ref o_p1_values, .ref o_p1_cells, .int i_p1_greatest, .int i_p1_known, .int i_p1_highest])), (a_p1_lengths, .inl (cI, 256, .inl v_p1_lengths))] U.heap ∧ va_K D classes [(cI, .int), (cL, .long), (cZ, .boolean)] U ∧ va_D (fun _ => True) [(a_this, .inr (10, [.ref o_five, .ref o_six, .ref a_weights, .ref a_counts])), (a_weights, .inl (cI, 256, .inl v_weights)), (a_counts, .inl (cI, 12, .inl v_counts)), (a_p1, .inr (2, [.ref a_p1_lengths, .ref o_p1_values, .ref o_p1_cells, .int i_p1_greatest, .int i_p1_known, .int i_p1_highest])), (a_p1_lengths, .inl (cI, 256, .inl v_p1_lengths))])) (va_Qv (fun _ : Unit => True) (fun _ t => va_P D classes [(a_this, .inr (10, [.ref o_five, .ref o_six, .ref a_weights, .ref a_counts])), (a_weights, .inl (cI, 256, .inl v_weights')), (a_counts, .inl (cI, 12, .inl v_counts')), (a_p1, .inr (2, [.ref a_p1_lengths, .ref o_p1_values, .ref o_p1_cells, .int i_p1_greatest, .int i_p1_known, .int i_p1_highest])), (a_p1_lengths, .inl (cI, 256, .inl v_p1_lengths))] t.heap ∧ va_K D classes [(cI, .int), (cL, .long), (cZ, .boolean)] t ∧ va_D (va_A [(a_this, .inr (10, [.ref o_five, .ref o_six, .ref a_weights, .ref a_counts])), (a_weights, .inl (cI, 256, .inl v_weights)), (a_counts, .inl (cI, 12, .inl v_counts)), (a_p1, .inr (2, [.ref a_p1_lengths, .ref o_p1_values, .ref o_p1_cells, .int i_p1_greatest, .int i_p1_known, .int i_p1_highest])), (a_p1_lengths, .inl (cI, 256, .inl v_p1_lengths))] sz) [(a_this, .inr (10, [.ref o_five, .ref o_six, .ref a_weights, .ref a_counts])), (a_weights, .inl (cI, 256, .inl v_weights')), (a_counts, .inl (cI, 12, .inl v_counts')), (a_p1, .inr (2, [.ref a_p1_lengths, .ref o_p1_values, .ref o_p1_cells, .int i_p1_greatest, .int i_p1_known, .int i_p1_highest])), (a_p1_lengths, .inl (cI, 256, .inl v_p1_lengths))]) (va_A [(a_this, .inr (10, [.ref o_five, .ref o_six, .ref a_weights, .ref a_counts])), (a_weights, .inl (cI, 256, .inl v_weights)), (a_counts, .inl (cI, 12, .inl v_counts)), (a_p1, .inr (2, [.ref a_p1_lengths, .ref o_p1_values, .ref o_p1_cells, .int i_p1_greatest, .int i_p1_known, .int i_p1_highest])), (a_p1_lengths, .inl (cI, 256, .inl v_p1_lengths))] sz)) 0 0 (va_A [(a_this, .inr (10, [.ref o_five, .ref o_six, .ref a_weights, .ref a_counts])), (a_weights, .inl (cI, 256, .inl v_weights)), (a_counts, .inl (cI, 12, .inl v_counts)), (a_p1, .inr (2, [.ref a_p1_lengths, .ref o_p1_values, .ref o_p1_cells, .int i_p1_greatest, .int i_p1_known, .int i_p1_highest])), (a_p1_lengths, .inl (cI, 256, .inl v_p1_lengths))] sz) := by
  refine Met.ofW (cc := b_Writer_takeWeights) (maxL := 4) (ret := none) (by decide) rfl ?_
  intro p e s m args below meth c s₁ B hml hv
  obtain ⟨rfl, hsz, hP, hK, hD0⟩ := hv
  have hx := B.exec
  have hb := B.bytes
  have hr := B.returns
  have hts0 := atoms_spec (ws := ws_Writer_takeWeights) B.pre
  have hts := gd_tl hts0
  clear hts0
  have hown : s.vm.findClass "PrefixMill$Writer" = some m.cls := findClass_of_methodNamed B.named
  have hlocks := B.notSynchronized
  subst hsz
  have hD := hD0.self (sz := s.heap.size)
  generalize hAe : va_A [(a_this, .inr (10, [.ref o_five, .ref o_six, .ref a_weights, .ref a_counts])), (a_weights, .inl (cI, 256, .inl v_weights)), (a_counts, .inl (cI, 12, .inl v_counts)), (a_p1, .inr (2, [.ref a_p1_lengths, .ref o_p1_values, .ref o_p1_cells, .int i_p1_greatest, .int i_p1_known, .int i_p1_highest])), (a_p1_lengths, .inl (cI, 256, .inl v_p1_lengths))] s.heap.size = A at hD ⊢
  have hA : ∀ q : Nat, s.heap.size ≤ q → A q := fun q h => by rw [← hAe]; exact Or.inr h
  have hS : va_S A s.heap s.heap [] := va_S.rf
  have hP : va_P D classes [(a_this, .inr (10, [.ref o_five, .ref o_six, .ref a_weights, .ref a_counts])), (a_weights, .inl (cI, 256, .inl v_weights)), (a_counts, .inl (cI, 12, .inl v_counts)), (a_p1, .inr (2, [.ref a_p1_lengths, .ref o_p1_values, .ref o_p1_cells, .int i_p1_greatest, .int i_p1_known, .int i_p1_highest])), (a_p1_lengths, .inl (cI, 256, .inl v_p1_lengths))] s.heap := hP
  have hl := lv_entry ([.ref a_this, .ref a_p1, .int l2]) (n := 4) (Nat.le_of_ble_eq_true rfl)
  rw [lg_entry_eq]
  generalize (lg_sl ([.ref a_this, .ref a_p1, .int l2]) ++ List.replicate (4 - (lg_sl ([.ref a_this, .ref a_p1, .int l2])).length) Slot.unset).toArray = ls at hl ⊢
  have hl : lv_has ls 4 [(0, .ref a_this), (1, .ref a_p1), (2, .int l2)] := hl
  have C : Cx p s m ([.ref a_this, .ref a_p1, .int l2] : List Value).toArray c b_Writer_takeWeights 4 "PrefixMill$Writer" D [(cI, .int), (cL, .long), (cZ, .boolean)] A := ⟨hx, hb, hml, hown, hts, hK, hA⟩
  refine w_Writer_takeWeights_b0 (res := (v_weights', v_counts')) C ?_ _ _ h s.heap [] ls hl hP hD hS
  intro pc9 H9 locs9 ls9 v_weights9 v_counts9 e9 d9 hP9 hD9 hS9
  cases e9
  exact W.vret hx hb hr (fun t ht hW => ⟨⟨(), rfl, trivial, by rw [ht]; exact hP9, va_K.moved hW.alike hK, hD9⟩, hS9.F ht⟩) hS9.2.2 d9
abbrev b_JMath_abs : ByteArray := prog_13_method_59_code
def ws_JMath_abs : List Cond := .code ({ cls := "java/lang/Math", name := "abs", desc := "(I)I" } : Jvm.MethodName) b_JMath_abs 1 (some .int) :: tt
theorem d_JMath_abs_0 : decode b_JMath_abs 0 = .ok (.iload_n 0, 1) := by decide +kernel
theorem d_JMath_abs_1 : decode b_JMath_abs 1 = .ok (.ifCond .ge 8, 3) := by decide +kernel
theorem d_JMath_abs_4 : decode b_JMath_abs 4 = .ok (.iload_n 0, 1) := by decide +kernel
theorem d_JMath_abs_5 : decode b_JMath_abs 5 = .ok (.ineg, 1) := by decide +kernel
theorem d_JMath_abs_6 : decode b_JMath_abs 6 = .ok (.goto 4, 3) := by decide +kernel
theorem d_JMath_abs_9 : decode b_JMath_abs 9 = .ok (.iload_n 0, 1) := by decide +kernel
theorem d_JMath_abs_10 : decode b_JMath_abs 10 = .ok (.ireturn, 1) := by decide +kernel
def f_JMath_abs (N : Nat) (l0 : Int32)   : Option (Int32) :=
  if 0 ≤ l0 then
  some (l0)
  else
  some ((-l0))
abbrev R_JMath_abs : Room := ({ frames := 0, cells := 0, slots := 0, locals := 0 } : Room)
def E_JMath_abs (p : Program) (l : Launch) (e : Env) (s : State) (m : MethodId) (args : Array Value) (below : List Frame) (meth : Method) (c : Code) (Q : State → Prop) (A : Nat → Prop) (D : va_G) (cI cL cZ : ClassId) (l0 : Int32) (res : Int32) : Prop := ∀ (pc : Nat) (H : Heap) (locs : List Loc) (ls : Array Slot) (rv : Int32), some (rv) = some res → decode b_JMath_abs pc = .ok (.ireturn, 1) → va_P D classes [] H → va_D A [] → va_S A s.heap H locs → W p l e R_JMath_abs s m args below meth c H locs 0 0 Q (F0 m pc ls [.int rv])
def I_JMath_abs_b0 (p : Program) (l : Launch) (e : Env) (s : State) (m : MethodId) (args : Array Value) (below : List Frame) (meth : Method) (c : Code) (Q : State → Prop) (A : Nat → Prop) (D : va_G) (cI cL cZ : ClassId) (l0 : Int32) (res : Int32) (kf : Option (Int32)) : Prop := ∀ (_ : Unit), kf  = some res → ∀ (H : Heap) (locs : List Loc) (ls : Array Slot), lv_has ls 1 [(0, .int l0)] → va_P D classes [] H → va_D A [] → va_S A s.heap H locs → W p l e R_JMath_abs s m args below meth c H locs 0 0 Q (F0 m 0 ls [])
set_option maxHeartbeats 4000000 in
set_option maxRecDepth 100000 in
theorem w_JMath_abs_b0 {p : Program} {l : Launch} {e : Env} {s : State} {m : MethodId} {args : Array Value} {below : List Frame} {meth : Method} {c : Code} {Q : State → Prop} {A : Nat → Prop} {D : va_G} {cI cL cZ : ClassId} {l0 : Int32} {N : Nat} {res : Int32}  (C : Cx p s m args c b_JMath_abs 1 "java/lang/Math" D [(cI, .int), (cL, .long), (cZ, .boolean)] A) (hret : E_JMath_abs p l e s m args below meth c Q A D cI cL cZ l0 res)  : I_JMath_abs_b0 p l e s m args below meth c Q A D cI cL cZ l0 res (f_JMath_abs N l0 ) := by
  obtain ⟨hx, hb, hml, hown, hts, hK, hA⟩ := C
  intro _ h H locs ls hl hP hD hS
  unfold f_JMath_abs at h
  refine lv_iload_n hx hb d_JMath_abs_0 rfl (lv_at hl 0 rfl) ?_
  refine lv_if_ge (tgt := 9) hx hb d_JMath_abs_1 (by decide) (fun c_1 => ?_) (fun c_1 => ?_)
  · replace h := if_t h c_1
    refine lv_iload_n hx hb d_JMath_abs_9 rfl (lv_at hl 0 rfl) ?_
    exact hret _ _ _ _ l0  h d_JMath_abs_10 hP hD hS
  · replace h := if_f h c_1
    refine lv_iload_n hx hb d_JMath_abs_4 rfl (lv_at hl 0 rfl) ?_
    refine lv_ineg hx hb d_JMath_abs_5 ?_
    refine lv_goto (tgt := 10) hx hb d_JMath_abs_6 (by decide) ?_
    exact hret _ _ _ _ (-l0)  h d_JMath_abs_10 hP hD hS
set_option maxHeartbeats 4000000 in
set_option maxRecDepth 100000 in
theorem c_JMath_abs (l : Launch) (D : va_G) (cI cL cZ : ClassId) (sz N : Nat) (l0 : Int32) (rv : Int32) (h : f_JMath_abs N l0  = some (rv)) : Met l ({ cls := "java/lang/Math", name := "abs", desc := "(I)I" } : Jvm.MethodName) ws_JMath_abs R_JMath_abs (va_Pc [.int l0] (fun U => U.heap.size = sz ∧ va_P D classes [] U.heap ∧ va_K D classes [(cI, .int), (cL, .long), (cZ, .boolean)] U ∧ va_D (fun _ => True) [])) (va_Qi (fun (r0 : Int32) (_ : Unit) => rv = r0) (fun _ t => va_P D classes [] t.heap ∧ va_K D classes [(cI, .int), (cL, .long), (cZ, .boolean)] t ∧ va_D (va_A [] sz) []) (va_A [] sz)) 0 0 (va_A [] sz) := by
  refine va_MetF (cc := b_JMath_abs) (maxL := 1) (ret := (some .int)) (by decide +kernel) rfl ?_
  intro p e s m args below meth c s₁ B hml hv
  obtain ⟨rfl, hsz, hP, hK, hD0⟩ := hv
  have hx := B.exec
  have hb := B.bytes
  have hr := B.returns
  have hts0 := atoms_spec (ws := ws_JMath_abs) B.pre
  have hts := gd_tl hts0
  clear hts0
  have hown : s.vm.findClass "java/lang/Math" = some m.cls := findClass_of_methodNamed B.named
  have hlocks := B.notSynchronized
  subst hsz
  have hD := hD0.self (sz := s.heap.size)
  generalize hAe : va_A [] s.heap.size = A at hD ⊢
  have hA : ∀ q : Nat, s.heap.size ≤ q → A q := fun q h => by rw [← hAe]; exact Or.inr h
  have hS : va_S A s.heap s.heap [] := va_S.rf
  have hP : va_P D classes [] s.heap := hP
  have hl := lv_entry ([.int l0]) (n := 1) (Nat.le_of_ble_eq_true rfl)
  rw [lg_entry_eq]
  generalize (lg_sl ([.int l0]) ++ List.replicate (1 - (lg_sl ([.int l0])).length) Slot.unset).toArray = ls at hl ⊢
  have hl : lv_has ls 1 [(0, .int l0)] := hl
  have C : Cx p s m ([.int l0] : List Value).toArray c b_JMath_abs 1 "java/lang/Math" D [(cI, .int), (cL, .long), (cZ, .boolean)] A := ⟨hx, hb, hml, hown, hts, hK, hA⟩
  refine w_JMath_abs_b0 (res := (rv)) C ?_ () h s.heap [] ls hl hP hD hS
  intro pc9 H9 locs9 ls9 rv9 e9 d9 hP9 hD9 hS9
  cases e9
  exact W.iret (v := rv) hx hb hr (fun t ht hW => ⟨⟨rv, (), rfl, rfl, by rw [ht]; exact hP9, va_K.moved hW.alike hK, hD9⟩, hS9.F ht⟩) hS9.2.2 d9
abbrev b_Share_massOf : ByteArray := prog_6_method_2_code
def ws_Share_massOf : List Cond := .code ({ cls := "PrefixMill$Share", name := "massOf", desc := "(I)I" } : Jvm.MethodName) b_Share_massOf 2 (some .int) :: tt
theorem d_Share_massOf_0 : decode b_Share_massOf 0 = .ok (.aload_n 0, 1) := by decide +kernel
theorem d_Share_massOf_1 : decode b_Share_massOf 1 = .ok (.getfield 9, 3) := by decide +kernel
theorem d_Share_massOf_4 : decode b_Share_massOf 4 = .ok (.iload_n 1, 1) := by decide +kernel
theorem d_Share_massOf_5 : decode b_Share_massOf 5 = .ok (.iaload, 1) := by decide +kernel
theorem d_Share_massOf_6 : decode b_Share_massOf 6 = .ok (.invokestatic 42, 3) := by decide +kernel
theorem d_Share_massOf_9 : decode b_Share_massOf 9 = .ok (.ireturn, 1) := by decide +kernel
def f_Share_massOf (N : Nat) (v_points : Nat → Int32) (l1 : Int32)   : Option (Int32) :=
  ck (inb l1 12) <|
  bd1 (f_JMath_abs N (v_points (Int32.toNatClampNeg l1))) fun r_2 =>
  some (r_2)
abbrev R_Share_massOf : Room := ({ frames := 1, cells := 0, slots := 0, locals := 20 } : Room)
def E_Share_massOf (p : Program) (l : Launch) (e : Env) (s : State) (m : MethodId) (args : Array Value) (below : List Frame) (meth : Method) (c : Code) (Q : State → Prop) (A : Nat → Prop) (D : va_G) (cI cL cZ : ClassId) (a_this : Nat) (a_points : Nat) (o_cuts : Nat) (o_queue : Nat) (o_owners : Nat) (o_takes : Nat) (o_bases : Nat) (o_ranked : Nat) (o_starts : Nat) (o_numbers : Nat) (o_walk : Nat) (i_order : Int32) (i_next : Int32) (v_points : Nat → Int32) (l1 : Int32) (res : Int32) : Prop := ∀ (pc : Nat) (H : Heap) (locs : List Loc) (ls : Array Slot) (rv : Int32), some (rv) = some res → decode b_Share_massOf pc = .ok (.ireturn, 1) → va_P D classes [(a_this, .inr (6, [.ref a_points, .ref o_cuts, .ref o_queue, .ref o_owners, .ref o_takes, .ref o_bases, .ref o_ranked, .ref o_starts, .ref o_numbers, .ref o_walk, .int i_order, .int i_next])), (a_points, .inl (cI, 12, .inl v_points))] H → va_D A [(a_this, .inr (6, [.ref a_points, .ref o_cuts, .ref o_queue, .ref o_owners, .ref o_takes, .ref o_bases, .ref o_ranked, .ref o_starts, .ref o_numbers, .ref o_walk, .int i_order, .int i_next])), (a_points, .inl (cI, 12, .inl v_points))] → va_S A s.heap H locs → W p l e R_Share_massOf s m args below meth c H locs 0 0 Q (F0 m pc ls [.int rv])
def I_Share_massOf_b0 (p : Program) (l : Launch) (e : Env) (s : State) (m : MethodId) (args : Array Value) (below : List Frame) (meth : Method) (c : Code) (Q : State → Prop) (A : Nat → Prop) (D : va_G) (cI cL cZ : ClassId) (a_this : Nat) (a_points : Nat) (o_cuts : Nat) (o_queue : Nat) (o_owners : Nat) (o_takes : Nat) (o_bases : Nat) (o_ranked : Nat) (o_starts : Nat) (o_numbers : Nat) (o_walk : Nat) (i_order : Int32) (i_next : Int32) (v_points : Nat → Int32) (l1 : Int32) (res : Int32) (kf : Option (Int32)) : Prop := ∀ (_ : Unit), kf  = some res → ∀ (H : Heap) (locs : List Loc) (ls : Array Slot), lv_has ls 2 [(0, .ref a_this), (1, .int l1)] → va_P D classes [(a_this, .inr (6, [.ref a_points, .ref o_cuts, .ref o_queue, .ref o_owners, .ref o_takes, .ref o_bases, .ref o_ranked, .ref o_starts, .ref o_numbers, .ref o_walk, .int i_order, .int i_next])), (a_points, .inl (cI, 12, .inl v_points))] H → va_D A [(a_this, .inr (6, [.ref a_points, .ref o_cuts, .ref o_queue, .ref o_owners, .ref o_takes, .ref o_bases, .ref o_ranked, .ref o_starts, .ref o_numbers, .ref o_walk, .int i_order, .int i_next])), (a_points, .inl (cI, 12, .inl v_points))] → va_S A s.heap H locs → W p l e R_Share_massOf s m args below meth c H locs 0 0 Q (F0 m 0 ls [])
set_option maxHeartbeats 4000000 in
set_option maxRecDepth 100000 in
theorem w_Share_massOf_b0 {p : Program} {l : Launch} {e : Env} {s : State} {m : MethodId} {args : Array Value} {below : List Frame} {meth : Method} {c : Code} {Q : State → Prop} {A : Nat → Prop} {D : va_G} {cI cL cZ : ClassId} {a_this : Nat} {a_points : Nat} {o_cuts : Nat} {o_queue : Nat} {o_owners : Nat} {o_takes : Nat} {o_bases : Nat} {o_ranked : Nat} {o_starts : Nat} {o_numbers : Nat} {o_walk : Nat} {i_order : Int32} {i_next : Int32} {v_points : Nat → Int32} {l1 : Int32} {N : Nat} {res : Int32}  (C : Cx p s m args c b_Share_massOf 2 "PrefixMill$Share" D [(cI, .int), (cL, .long), (cZ, .boolean)] A) (hret : E_Share_massOf p l e s m args below meth c Q A D cI cL cZ a_this a_points o_cuts o_queue o_owners o_takes o_bases o_ranked o_starts o_numbers o_walk i_order i_next v_points l1 res)  : I_Share_massOf_b0 p l e s m args below meth c Q A D cI cL cZ a_this a_points o_cuts o_queue o_owners o_takes o_bases o_ranked o_starts o_numbers o_walk i_order i_next v_points l1 res (f_Share_massOf N v_points l1 ) := by
  obtain ⟨hx, hb, hml, hown, hts, hK, hA⟩ := C
  intro _ h H locs ls hl hP hD hS
  unfold f_Share_massOf at h
  refine lv_aload_n hx hb d_Share_massOf_0 rfl (lv_at hl 0 rfl) ?_
  refine va_get hx hb hts in_Share hown hK hP 0 rfl rfl 0 (by decide) (hts _ m_211) (fun _ h9 => h9) rfl d_Share_massOf_1 ?_
  refine lv_iload_n hx hb d_Share_massOf_4 rfl (lv_at hl 1 rfl) ?_
  obtain ⟨g_1, h⟩ := ck_s h
  refine va_iald hx hb hK hP 1 0 rfl rfl (inb_s g_1) d_Share_massOf_5 ?_
  obtain ⟨r_2, hc_3, h⟩ := bd1_s h
  have hPc := hP.sub (ws' := []) [] rfl
  have hDc := hD.sub (ws' := []) [] (by decide) rfl
  have hFc := va_free (wc := []) hD hS hA [] rfl
  refine va_calli (va_runS (As := [.int (v_points (Int32.toNatClampNeg l1))]) (rest := []) ⟨hx, hb, hml, hown, hts⟩ (c_JMath_abs l D cI cL cZ H.size N (v_points (Int32.toNatClampNeg l1)) r_2 hc_3) ⟨(my_cb 1 hts m_537 rfl rfl (hts _ m_77) (hts _ m_535) (by decide +kernel) ⟨Nat.le_of_ble_eq_true rfl, Nat.le_of_ble_eq_true rfl⟩), hts _ m_536⟩ ⟨fun a U g mk q => by obtain ⟨q0, q1, qP, qK, qD⟩ := q; exact ⟨q0, q1, qP, va_K.moved (u := U) (U := U.calling g mk a) (Vm.Alike.refl U.vm) qK, qD⟩, fun U hU hW => ⟨rfl, by rw [hU], by rw [hU]; exact hPc, va_K.moved hW.alike hK, hDc.weaken (fun _ _ _ _ => trivial)⟩⟩ rfl rfl hl.1 rfl (lv_room (Nat.le_of_ble_eq_true rfl)) d_Share_massOf_6 ⟨Nat.zero_le _, Nat.zero_le _⟩) hS (fun q _ h => hFc q h) hFc (fun rr u t H1 locs ht hvm hw hB hz1 hk1 hS => ?_)
  obtain ⟨hP1, hK1, hD1⟩ := hB
  rw [ht] at hP1
  subst hw
  obtain ⟨hP, hD⟩ := va_join (wr := [(a_this, .inr (6, [.ref a_points, .ref o_cuts, .ref o_queue, .ref o_owners, .ref o_takes, .ref o_bases, .ref o_ranked, .ref o_starts, .ref o_numbers, .ref o_walk, .int i_order, .int i_next])), (a_points, .inl (cI, 12, .inl v_points))]) (w1 := []) hP hD [] [0, 1] rfl rfl (by decide) (by decide) hk1 hFc hP1 hD1
  clear hPc hDc hFc hk1 hP1 hD1 hK1
  generalize H1 = H at hP hS ⊢
  have hP : va_P D classes [(a_this, .inr (6, [.ref a_points, .ref o_cuts, .ref o_queue, .ref o_owners, .ref o_takes, .ref o_bases, .ref o_ranked, .ref o_starts, .ref o_numbers, .ref o_walk, .int i_order, .int i_next])), (a_points, .inl (cI, 12, .inl v_points))] H := hP.sub [0, 1] rfl
  have hD : va_D A [(a_this, .inr (6, [.ref a_points, .ref o_cuts, .ref o_queue, .ref o_owners, .ref o_takes, .ref o_bases, .ref o_ranked, .ref o_starts, .ref o_numbers, .ref o_walk, .int i_order, .int i_next])), (a_points, .inl (cI, 12, .inl v_points))] := hD.sub [0, 1] (by decide) rfl
  exact hret _ _ _ _ r_2  h d_Share_massOf_9 hP hD hS
set_option maxHeartbeats 4000000 in
set_option maxRecDepth 100000 in
theorem c_Share_massOf (l : Launch) (D : va_G) (cI cL cZ : ClassId) (sz N : Nat) (a_this : Nat) (a_points : Nat) (o_cuts : Nat) (o_queue : Nat) (o_owners : Nat) (o_takes : Nat) (o_bases : Nat) (o_ranked : Nat) (o_starts : Nat) (o_numbers : Nat) (o_walk : Nat) (i_order : Int32) (i_next : Int32) (v_points : Nat → Int32) (l1 : Int32) (rv : Int32) (h : f_Share_massOf N v_points l1  = some (rv)) : Met l ({ cls := "PrefixMill$Share", name := "massOf", desc := "(I)I" } : Jvm.MethodName) ws_Share_massOf R_Share_massOf (va_Pc [.ref a_this, .int l1] (fun U => U.heap.size = sz ∧ va_P D classes [(a_this, .inr (6, [.ref a_points, .ref o_cuts, .ref o_queue, .ref o_owners, .ref o_takes, .ref o_bases, .ref o_ranked, .ref o_starts, .ref o_numbers, .ref o_walk, .int i_order, .int i_next])), (a_points, .inl (cI, 12, .inl v_points))] U.heap ∧ va_K D classes [(cI, .int), (cL, .long), (cZ, .boolean)] U ∧ va_D (fun _ => True) [(a_this, .inr (6, [.ref a_points, .ref o_cuts, .ref o_queue, .ref o_owners, .ref o_takes, .ref o_bases, .ref o_ranked, .ref o_starts, .ref o_numbers, .ref o_walk, .int i_order, .int i_next])), (a_points, .inl (cI, 12, .inl v_points))])) (va_Qi (fun (r0 : Int32) (_ : Unit) => rv = r0) (fun _ t => va_P D classes [(a_this, .inr (6, [.ref a_points, .ref o_cuts, .ref o_queue, .ref o_owners, .ref o_takes, .ref o_bases, .ref o_ranked, .ref o_starts, .ref o_numbers, .ref o_walk, .int i_order, .int i_next])), (a_points, .inl (cI, 12, .inl v_points))] t.heap ∧ va_K D classes [(cI, .int), (cL, .long), (cZ, .boolean)] t ∧ va_D (va_A [(a_this, .inr (6, [.ref a_points, .ref o_cuts, .ref o_queue, .ref o_owners, .ref o_takes, .ref o_bases, .ref o_ranked, .ref o_starts, .ref o_numbers, .ref o_walk, .int i_order, .int i_next])), (a_points, .inl (cI, 12, .inl v_points))] sz) [(a_this, .inr (6, [.ref a_points, .ref o_cuts, .ref o_queue, .ref o_owners, .ref o_takes, .ref o_bases, .ref o_ranked, .ref o_starts, .ref o_numbers, .ref o_walk, .int i_order, .int i_next])), (a_points, .inl (cI, 12, .inl v_points))]) (va_A [(a_this, .inr (6, [.ref a_points, .ref o_cuts, .ref o_queue, .ref o_owners, .ref o_takes, .ref o_bases, .ref o_ranked, .ref o_starts, .ref o_numbers, .ref o_walk, .int i_order, .int i_next])), (a_points, .inl (cI, 12, .inl v_points))] sz)) 0 0 (va_A [(a_this, .inr (6, [.ref a_points, .ref o_cuts, .ref o_queue, .ref o_owners, .ref o_takes, .ref o_bases, .ref o_ranked, .ref o_starts, .ref o_numbers, .ref o_walk, .int i_order, .int i_next])), (a_points, .inl (cI, 12, .inl v_points))] sz) := by
  refine Met.ofW (cc := b_Share_massOf) (maxL := 2) (ret := (some .int)) (by decide) rfl ?_
  intro p e s m args below meth c s₁ B hml hv
  obtain ⟨rfl, hsz, hP, hK, hD0⟩ := hv
  have hx := B.exec
  have hb := B.bytes
  have hr := B.returns
  have hts0 := atoms_spec (ws := ws_Share_massOf) B.pre
  have hts := gd_tl hts0
  clear hts0
  have hown : s.vm.findClass "PrefixMill$Share" = some m.cls := findClass_of_methodNamed B.named
  have hlocks := B.notSynchronized
  subst hsz
  have hD := hD0.self (sz := s.heap.size)
  generalize hAe : va_A [(a_this, .inr (6, [.ref a_points, .ref o_cuts, .ref o_queue, .ref o_owners, .ref o_takes, .ref o_bases, .ref o_ranked, .ref o_starts, .ref o_numbers, .ref o_walk, .int i_order, .int i_next])), (a_points, .inl (cI, 12, .inl v_points))] s.heap.size = A at hD ⊢
  have hA : ∀ q : Nat, s.heap.size ≤ q → A q := fun q h => by rw [← hAe]; exact Or.inr h
  have hS : va_S A s.heap s.heap [] := va_S.rf
  have hP : va_P D classes [(a_this, .inr (6, [.ref a_points, .ref o_cuts, .ref o_queue, .ref o_owners, .ref o_takes, .ref o_bases, .ref o_ranked, .ref o_starts, .ref o_numbers, .ref o_walk, .int i_order, .int i_next])), (a_points, .inl (cI, 12, .inl v_points))] s.heap := hP
  have hl := lv_entry ([.ref a_this, .int l1]) (n := 2) (Nat.le_of_ble_eq_true rfl)
  rw [lg_entry_eq]
  generalize (lg_sl ([.ref a_this, .int l1]) ++ List.replicate (2 - (lg_sl ([.ref a_this, .int l1])).length) Slot.unset).toArray = ls at hl ⊢
  have hl : lv_has ls 2 [(0, .ref a_this), (1, .int l1)] := hl
  have C : Cx p s m ([.ref a_this, .int l1] : List Value).toArray c b_Share_massOf 2 "PrefixMill$Share" D [(cI, .int), (cL, .long), (cZ, .boolean)] A := ⟨hx, hb, hml, hown, hts, hK, hA⟩
  refine w_Share_massOf_b0 (res := (rv)) C ?_ () h s.heap [] ls hl hP hD hS
  intro pc9 H9 locs9 ls9 rv9 e9 d9 hP9 hD9 hS9
  cases e9
  exact W.iret (v := rv) hx hb hr (fun t ht hW => ⟨⟨rv, (), rfl, rfl, by rw [ht]; exact hP9, va_K.moved hW.alike hK, hD9⟩, hS9.F ht⟩) hS9.2.2 d9
abbrev b_Share_lacking : ByteArray := prog_6_method_3_code
def ws_Share_lacking : List Cond := .code ({ cls := "PrefixMill$Share", name := "lacking", desc := "()I" } : Jvm.MethodName) b_Share_lacking 3 (some .int) :: tt
theorem d_Share_lacking_0 : decode b_Share_lacking 0 = .ok (.iconst 1, 1) := by decide +kernel
theorem d_Share_lacking_1 : decode b_Share_lacking 1 = .ok (.aload_n 0, 1) := by decide +kernel
theorem d_Share_lacking_2 : decode b_Share_lacking 2 = .ok (.getfield 48, 3) := by decide +kernel
theorem d_Share_lacking_5 : decode b_Share_lacking 5 = .ok (.ishl, 1) := by decide +kernel
theorem d_Share_lacking_6 : decode b_Share_lacking 6 = .ok (.istore_n 1, 1) := by decide +kernel
theorem d_Share_lacking_7 : decode b_Share_lacking 7 = .ok (.iconst 0, 1) := by decide +kernel
theorem d_Share_lacking_8 : decode b_Share_lacking 8 = .ok (.istore_n 2, 1) := by decide +kernel
theorem d_Share_lacking_9 : decode b_Share_lacking 9 = .ok (.iload_n 2, 1) := by decide +kernel
theorem d_Share_lacking_10 : decode b_Share_lacking 10 = .ok (.bipush 12, 2) := by decide +kernel
theorem d_Share_lacking_12 : decode b_Share_lacking 12 = .ok (.if_icmp .ge 17, 3) := by decide +kernel
theorem d_Share_lacking_15 : decode b_Share_lacking 15 = .ok (.iload_n 1, 1) := by decide +kernel
theorem d_Share_lacking_16 : decode b_Share_lacking 16 = .ok (.aload_n 0, 1) := by decide +kernel
theorem d_Share_lacking_17 : decode b_Share_lacking 17 = .ok (.iload_n 2, 1) := by decide +kernel
theorem d_Share_lacking_18 : decode b_Share_lacking 18 = .ok (.invokevirtual 52, 3) := by decide +kernel
theorem d_Share_lacking_21 : decode b_Share_lacking 21 = .ok (.isub, 1) := by decide +kernel
theorem d_Share_lacking_22 : decode b_Share_lacking 22 = .ok (.istore_n 1, 1) := by decide +kernel
theorem d_Share_lacking_23 : decode b_Share_lacking 23 = .ok (.iinc 2 1, 3) := by decide +kernel
theorem d_Share_lacking_26 : decode b_Share_lacking 26 = .ok (.goto (-17), 3) := by decide +kernel
theorem d_Share_lacking_29 : decode b_Share_lacking 29 = .ok (.iload_n 1, 1) := by decide +kernel
theorem d_Share_lacking_30 : decode b_Share_lacking 30 = .ok (.ireturn, 1) := by decide +kernel
def f_Share_lacking_b29 (N : Nat) (i_order : Int32) (v_points : Nat → Int32)  (l1 : Int32) : Option (Int32) :=
  some (l1)
def f_Share_lacking_b9 (N : Nat) (i_order : Int32) (v_points : Nat → Int32)  : Nat → Int32 → Int32 → Option (Int32)
  | 0, _, _ => none
  | z + 1, l1, l2 =>
  if 12 ≤ l2 then
  f_Share_lacking_b29 N i_order v_points  l1
  else
  bd1 (f_Share_massOf N v_points l2) fun r_2 =>
  nm (l1 - r_2) fun l1_4 =>
  nm (l2 + 1) fun l2_5 =>
  f_Share_lacking_b9 N i_order v_points  z l1_4 l2_5
def f_Share_lacking (N : Nat) (i_order : Int32) (v_points : Nat → Int32)   : Option (Int32) :=
  nm (1 <<< (i_order &&& 31)) fun l1_1 =>
  f_Share_lacking_b9 N i_order v_points  N l1_1 0
abbrev R_Share_lacking : Room := ({ frames := 2, cells := 0, slots := 0, locals := 41 } : Room)
def E_Share_lacking (p : Program) (l : Launch) (e : Env) (s : State) (m : MethodId) (args : Array Value) (below : List Frame) (meth : Method) (c : Code) (Q : State → Prop) (A : Nat → Prop) (D : va_G) (cI cL cZ : ClassId) (a_this : Nat) (a_points : Nat) (o_cuts : Nat) (o_queue : Nat) (o_owners : Nat) (o_takes : Nat) (o_bases : Nat) (o_ranked : Nat) (o_starts : Nat) (o_numbers : Nat) (o_walk : Nat) (i_order : Int32) (i_next : Int32) (v_points : Nat → Int32) (res : Int32) : Prop := ∀ (pc : Nat) (H : Heap) (locs : List Loc) (ls : Array Slot) (rv : Int32), some (rv) = some res → decode b_Share_lacking pc = .ok (.ireturn, 1) → va_P D classes [(a_this, .inr (6, [.ref a_points, .ref o_cuts, .ref o_queue, .ref o_owners, .ref o_takes, .ref o_bases, .ref o_ranked, .ref o_starts, .ref o_numbers, .ref o_walk, .int i_order, .int i_next])), (a_points, .inl (cI, 12, .inl v_points))] H → va_D A [(a_this, .inr (6, [.ref a_points, .ref o_cuts, .ref o_queue, .ref o_owners, .ref o_takes, .ref o_bases, .ref o_ranked, .ref o_starts, .ref o_numbers, .ref o_walk, .int i_order, .int i_next])), (a_points, .inl (cI, 12, .inl v_points))] → va_S A s.heap H locs → W p l e R_Share_lacking s m args below meth c H locs 0 0 Q (F0 m pc ls [.int rv])
def I_Share_lacking_b29 (p : Program) (l : Launch) (e : Env) (s : State) (m : MethodId) (args : Array Value) (below : List Frame) (meth : Method) (c : Code) (Q : State → Prop) (A : Nat → Prop) (D : va_G) (cI cL cZ : ClassId) (a_this : Nat) (a_points : Nat) (o_cuts : Nat) (o_queue : Nat) (o_owners : Nat) (o_takes : Nat) (o_bases : Nat) (o_ranked : Nat) (o_starts : Nat) (o_numbers : Nat) (o_walk : Nat) (i_order : Int32) (i_next : Int32) (v_points : Nat → Int32) (res : Int32) (kf : Int32 → Option (Int32)) : Prop := ∀ (l1 : Int32), kf l1 = some res → ∀ (H : Heap) (locs : List Loc) (ls : Array Slot), lv_has ls 3 [(1, .int l1)] → va_P D classes [(a_this, .inr (6, [.ref a_points, .ref o_cuts, .ref o_queue, .ref o_owners, .ref o_takes, .ref o_bases, .ref o_ranked, .ref o_starts, .ref o_numbers, .ref o_walk, .int i_order, .int i_next])), (a_points, .inl (cI, 12, .inl v_points))] H → va_D A [(a_this, .inr (6, [.ref a_points, .ref o_cuts, .ref o_queue, .ref o_owners, .ref o_takes, .ref o_bases, .ref o_ranked, .ref o_starts, .ref o_numbers, .ref o_walk, .int i_order, .int i_next])), (a_points, .inl (cI, 12, .inl v_points))] → va_S A s.heap H locs → W p l e R_Share_lacking s m args below meth c H locs 0 0 Q (F0 m 29 ls [])
def I_Share_lacking_b9 (p : Program) (l : Launch) (e : Env) (s : State) (m : MethodId) (args : Array Value) (below : List Frame) (meth : Method) (c : Code) (Q : State → Prop) (A : Nat → Prop) (D : va_G) (cI cL cZ : ClassId) (a_this : Nat) (a_points : Nat) (o_cuts : Nat) (o_queue : Nat) (o_owners : Nat) (o_takes : Nat) (o_bases : Nat) (o_ranked : Nat) (o_starts : Nat) (o_numbers : Nat) (o_walk : Nat) (i_order : Int32) (i_next : Int32) (v_points : Nat → Int32) (res : Int32) (kf : Int32 → Int32 → Option (Int32)) : Prop := ∀ (l1 : Int32) (l2 : Int32), kf l1 l2 = some res → ∀ (H : Heap) (locs : List Loc) (ls : Array Slot), lv_has ls 3 [(0, .ref a_this), (1, .int l1), (2, .int l2)] → va_P D classes [(a_this, .inr (6, [.ref a_points, .ref o_cuts, .ref o_queue, .ref o_owners, .ref o_takes, .ref o_bases, .ref o_ranked, .ref o_starts, .ref o_numbers, .ref o_walk, .int i_order, .int i_next])), (a_points, .inl (cI, 12, .inl v_points))] H → va_D A [(a_this, .inr (6, [.ref a_points, .ref o_cuts, .ref o_queue, .ref o_owners, .ref o_takes, .ref o_bases, .ref o_ranked, .ref o_starts, .ref o_numbers, .ref o_walk, .int i_order, .int i_next])), (a_points, .inl (cI, 12, .inl v_points))] → va_S A s.heap H locs → W p l e R_Share_lacking s m args below meth c H locs 0 0 Q (F0 m 9 ls [])
def I_Share_lacking_b0 (p : Program) (l : Launch) (e : Env) (s : State) (m : MethodId) (args : Array Value) (below : List Frame) (meth : Method) (c : Code) (Q : State → Prop) (A : Nat → Prop) (D : va_G) (cI cL cZ : ClassId) (a_this : Nat) (a_points : Nat) (o_cuts : Nat) (o_queue : Nat) (o_owners : Nat) (o_takes : Nat) (o_bases : Nat) (o_ranked : Nat) (o_starts : Nat) (o_numbers : Nat) (o_walk : Nat) (i_order : Int32) (i_next : Int32) (v_points : Nat → Int32) (res : Int32) (kf : Option (Int32)) : Prop := ∀ (_ : Unit), kf  = some res → ∀ (H : Heap) (locs : List Loc) (ls : Array Slot), lv_has ls 3 [(0, .ref a_this)] → va_P D classes [(a_this, .inr (6, [.ref a_points, .ref o_cuts, .ref o_queue, .ref o_owners, .ref o_takes, .ref o_bases, .ref o_ranked, .ref o_starts, .ref o_numbers, .ref o_walk, .int i_order, .int i_next])), (a_points, .inl (cI, 12, .inl v_points))] H → va_D A [(a_this, .inr (6, [.ref a_points, .ref o_cuts, .ref o_queue, .ref o_owners, .ref o_takes, .ref o_bases, .ref o_ranked, .ref o_starts, .ref o_numbers, .ref o_walk, .int i_order, .int i_next])), (a_points, .inl (cI, 12, .inl v_points))] → va_S A s.heap H locs → W p l e R_Share_lacking s m args below meth c H locs 0 0 Q (F0 m 0 ls [])
set_option maxHeartbeats 4000000 in
set_option maxRecDepth 100000 in
theorem w_Share_lacking_b29 {p : Program} {l : Launch} {e : Env} {s : State} {m : MethodId} {args : Array Value} {below : List Frame} {meth : Method} {c : Code} {Q : State → Prop} {A : Nat → Prop} {D : va_G} {cI cL cZ : ClassId} {a_this : Nat} {a_points : Nat} {o_cuts : Nat} {o_queue : Nat} {o_owners : Nat} {o_takes : Nat} {o_bases : Nat} {o_ranked : Nat} {o_starts : Nat} {o_numbers : Nat} {o_walk : Nat} {i_order : Int32} {i_next : Int32} {v_points : Nat → Int32} {N : Nat} {res : Int32}  (C : Cx p s m args c b_Share_lacking 3 "PrefixMill$Share" D [(cI, .int), (cL, .long), (cZ, .boolean)] A) (hret : E_Share_lacking p l e s m args below meth c Q A D cI cL cZ a_this a_points o_cuts o_queue o_owners o_takes o_bases o_ranked o_starts o_numbers o_walk i_order i_next v_points res)  : I_Share_lacking_b29 p l e s m args below meth c Q A D cI cL cZ a_this a_points o_cuts o_queue o_owners o_takes o_bases o_ranked o_starts o_numbers o_walk i_order i_next v_points res (f_Share_lacking_b29 N i_order v_points ) := by
  obtain ⟨hx, hb, hml, hown, hts, hK, hA⟩ := C
  intro l1 h H locs ls hl hP hD hS
  unfold f_Share_lacking_b29 at h
  refine lv_iload_n hx hb d_Share_lacking_29 rfl (lv_at hl 0 rfl) ?_
  exact hret _ _ _ _ l1  h d_Share_lacking_30 hP hD hS
set_option maxHeartbeats 4000000 in
set_option maxRecDepth 100000 in
theorem w_Share_lacking_b9 {p : Program} {l : Launch} {e : Env} {s : State} {m : MethodId} {args : Array Value} {below : List Frame} {meth : Method} {c : Code} {Q : State → Prop} {A : Nat → Prop} {D : va_G} {cI cL cZ : ClassId} {a_this : Nat} {a_points : Nat} {o_cuts : Nat} {o_queue : Nat} {o_owners : Nat} {o_takes : Nat} {o_bases : Nat} {o_ranked : Nat} {o_starts : Nat} {o_numbers : Nat} {o_walk : Nat} {i_order : Int32} {i_next : Int32} {v_points : Nat → Int32} {N : Nat} {res : Int32}  (C : Cx p s m args c b_Share_lacking 3 "PrefixMill$Share" D [(cI, .int), (cL, .long), (cZ, .boolean)] A) (hret : E_Share_lacking p l e s m args below meth c Q A D cI cL cZ a_this a_points o_cuts o_queue o_owners o_takes o_bases o_ranked o_starts o_numbers o_walk i_order i_next v_points res)  : ∀ z : Nat, I_Share_lacking_b9 p l e s m args below meth c Q A D cI cL cZ a_this a_points o_cuts o_queue o_owners o_takes o_bases o_ranked o_starts o_numbers o_walk i_order i_next v_points res (f_Share_lacking_b9 N i_order v_points  z) := by
  obtain ⟨hx, hb, hml, hown, hts, hK, hA⟩ := C
  intro z
  induction z with
  | zero => intro l1 l2 h; cases h
  | succ z ih =>
    intro l1 l2 h H locs ls hl hP hD hS
    refine lv_iload_n hx hb d_Share_lacking_9 rfl (lv_at hl 2 rfl) ?_
    refine lv_bipush (v := 12) hx hb d_Share_lacking_10 (by decide) ?_
    refine lv_icmp_ge (tgt := 29) hx hb d_Share_lacking_12 (by decide) (fun c_1 => ?_) (fun c_1 => ?_)
    · replace h := if_t h c_1
      exact w_Share_lacking_b29 ⟨hx, hb, hml, hown, hts, hK, hA⟩ hret  _ h H locs ls (lv_sub hl [1] rfl) hP hD hS
    · replace h := if_f h c_1
      refine lv_iload_n hx hb d_Share_lacking_15 rfl (lv_at hl 1 rfl) ?_
      refine lv_aload_n hx hb d_Share_lacking_16 rfl (lv_at hl 0 rfl) ?_
      refine lv_iload_n hx hb d_Share_lacking_17 rfl (lv_at hl 2 rfl) ?_
      obtain ⟨r_2, hc_3, h⟩ := bd1_s h
      have hPc := hP.sub (ws' := [(a_this, .inr (6, [.ref a_points, .ref o_cuts, .ref o_queue, .ref o_owners, .ref o_takes, .ref o_bases, .ref o_ranked, .ref o_starts, .ref o_numbers, .ref o_walk, .int i_order, .int i_next])), (a_points, .inl (cI, 12, .inl v_points))]) [0, 1] rfl
      have hDc := hD.sub (ws' := [(a_this, .inr (6, [.ref a_points, .ref o_cuts, .ref o_queue, .ref o_owners, .ref o_takes, .ref o_bases, .ref o_ranked, .ref o_starts, .ref o_numbers, .ref o_walk, .int i_order, .int i_next])), (a_points, .inl (cI, 12, .inl v_points))]) [0, 1] (by decide) rfl
      have hFc := va_free (wc := [(a_this, .inr (6, [.ref a_points, .ref o_cuts, .ref o_queue, .ref o_owners, .ref o_takes, .ref o_bases, .ref o_ranked, .ref o_starts, .ref o_numbers, .ref o_walk, .int i_order, .int i_next])), (a_points, .inl (cI, 12, .inl v_points))]) hD hS hA [0, 1] rfl
      refine va_calli (va_runV (As := [.int l2]) (rest := [.int l1]) ⟨hx, hb, hml, hown, hts⟩ (c_Share_massOf l D cI cL cZ H.size N a_this a_points o_cuts o_queue o_owners o_takes o_bases o_ranked o_starts o_numbers o_walk i_order i_next v_points l2 r_2 hc_3) ⟨(my_cb 1 hts m_534 rfl rfl (hts _ m_72) (hts _ m_531) (by decide +kernel) ⟨Nat.le_of_ble_eq_true rfl, Nat.le_of_ble_eq_true rfl⟩), hts _ m_533, hts _ m_10⟩ ⟨fun a U g mk q => by obtain ⟨q0, q1, qP, qK, qD⟩ := q; exact ⟨q0, q1, qP, va_K.moved (u := U) (U := U.calling g mk a) (Vm.Alike.refl U.vm) qK, qD⟩, va_recv hK hPc (ci := 6) (q0 := 0) rfl rfl, fun U hU hW => ⟨rfl, by rw [hU], by rw [hU]; exact hPc, va_K.moved hW.alike hK, hDc.weaken (fun _ _ _ _ => trivial)⟩⟩ rfl rfl hl.1 rfl (lv_room (Nat.le_of_ble_eq_true rfl)) d_Share_lacking_18 ⟨Nat.zero_le _, Nat.zero_le _⟩) hS (fun q _ h => hFc q h) hFc (fun rr u t H1 locs ht hvm hw hB hz1 hk1 hS => ?_)
      obtain ⟨hP1, hK1, hD1⟩ := hB
      rw [ht] at hP1
      subst hw
      obtain ⟨hP, hD⟩ := va_join (wr := []) (w1 := [(a_this, .inr (6, [.ref a_points, .ref o_cuts, .ref o_queue, .ref o_owners, .ref o_takes, .ref o_bases, .ref o_ranked, .ref o_starts, .ref o_numbers, .ref o_walk, .int i_order, .int i_next])), (a_points, .inl (cI, 12, .inl v_points))]) hP hD [0, 1] [] rfl rfl (by decide) (by decide) hk1 hFc hP1 hD1
      clear hPc hDc hFc hk1 hP1 hD1 hK1
      generalize H1 = H at hP hS ⊢
      have hP : va_P D classes [(a_this, .inr (6, [.ref a_points, .ref o_cuts, .ref o_queue, .ref o_owners, .ref o_takes, .ref o_bases, .ref o_ranked, .ref o_starts, .ref o_numbers, .ref o_walk, .int i_order, .int i_next])), (a_points, .inl (cI, 12, .inl v_points))] H := hP.sub [0, 1] rfl
      have hD : va_D A [(a_this, .inr (6, [.ref a_points, .ref o_cuts, .ref o_queue, .ref o_owners, .ref o_takes, .ref o_bases, .ref o_ranked, .ref o_starts, .ref o_numbers, .ref o_walk, .int i_order, .int i_next])), (a_points, .inl (cI, 12, .inl v_points))] := hD.sub [0, 1] (by decide) rfl
      refine lv_isub hx hb d_Share_lacking_21 ?_
      refine lv_topi (fun l1_4 el1_4 => ?_)
      replace h := nm_s h el1_4
      refine lv_istore_n (lv' := [(1, .int l1_4), (0, .ref a_this), (2, .int l2)]) hx hb d_Share_lacking_22 rfl hl (by decide) rfl (fun ls hl => ?_)
      obtain ⟨l2_5, el2_5⟩ : ∃ y : Int32, y = l2 + 1 := ⟨_, rfl⟩
      replace h := nm_s h el2_5
      refine lv_iinc (v := l2_5) (lv' := [(2, .int l2_5), (1, .int l1_4), (0, .ref a_this)]) hx hb d_Share_lacking_23 hl (k := 2) rfl (by rw [el2_5]; rfl) (by decide) rfl (fun ls hl => ?_)
      refine lv_goto (tgt := 9) hx hb d_Share_lacking_26 (by decide) ?_
      exact ih _ _ h H locs ls (lv_sub hl [2, 1, 0] rfl) hP hD hS
set_option maxHeartbeats 4000000 in
set_option maxRecDepth 100000 in
theorem w_Share_lacking_b0 {p : Program} {l : Launch} {e : Env} {s : State} {m : MethodId} {args : Array Value} {below : List Frame} {meth : Method} {c : Code} {Q : State → Prop} {A : Nat → Prop} {D : va_G} {cI cL cZ : ClassId} {a_this : Nat} {a_points : Nat} {o_cuts : Nat} {o_queue : Nat} {o_owners : Nat} {o_takes : Nat} {o_bases : Nat} {o_ranked : Nat} {o_starts : Nat} {o_numbers : Nat} {o_walk : Nat} {i_order : Int32} {i_next : Int32} {v_points : Nat → Int32} {N : Nat} {res : Int32}  (C : Cx p s m args c b_Share_lacking 3 "PrefixMill$Share" D [(cI, .int), (cL, .long), (cZ, .boolean)] A) (hret : E_Share_lacking p l e s m args below meth c Q A D cI cL cZ a_this a_points o_cuts o_queue o_owners o_takes o_bases o_ranked o_starts o_numbers o_walk i_order i_next v_points res)  : I_Share_lacking_b0 p l e s m args below meth c Q A D cI cL cZ a_this a_points o_cuts o_queue o_owners o_takes o_bases o_ranked o_starts o_numbers o_walk i_order i_next v_points res (f_Share_lacking N i_order v_points ) := by
  obtain ⟨hx, hb, hml, hown, hts, hK, hA⟩ := C
  intro _ h H locs ls hl hP hD hS
  unfold f_Share_lacking at h
  refine lv_iconst (v := 1) hx hb d_Share_lacking_0 (by decide) ?_
  refine lv_aload_n hx hb d_Share_lacking_1 rfl (lv_at hl 0 rfl) ?_
  refine va_get hx hb hts in_Share hown hK hP 0 rfl rfl 10 (by decide) (hts _ m_226) (fun _ h9 => h9) rfl d_Share_lacking_2 ?_
  refine lv_ishl hx hb d_Share_lacking_5 ?_
  refine lv_topi (fun l1_1 el1_1 => ?_)
  replace h := nm_s h el1_1
  refine lv_istore_n (lv' := [(1, .int l1_1), (0, .ref a_this)]) hx hb d_Share_lacking_6 rfl hl (by decide) rfl (fun ls hl => ?_)
  refine lv_iconst (v := 0) hx hb d_Share_lacking_7 (by decide) ?_
  refine lv_istore_n (lv' := [(2, .int 0), (1, .int l1_1), (0, .ref a_this)]) hx hb d_Share_lacking_8 rfl hl (by decide) rfl (fun ls hl => ?_)
  exact w_Share_lacking_b9 ⟨hx, hb, hml, hown, hts, hK, hA⟩ hret  N _ _ h H locs ls (lv_sub hl [2, 1, 0] rfl) hP hD hS
set_option maxHeartbeats 4000000 in
set_option maxRecDepth 100000 in
theorem c_Share_lacking (l : Launch) (D : va_G) (cI cL cZ : ClassId) (sz N : Nat) (a_this : Nat) (a_points : Nat) (o_cuts : Nat) (o_queue : Nat) (o_owners : Nat) (o_takes : Nat) (o_bases : Nat) (o_ranked : Nat) (o_starts : Nat) (o_numbers : Nat) (o_walk : Nat) (i_order : Int32) (i_next : Int32) (v_points : Nat → Int32) (rv : Int32) (h : f_Share_lacking N i_order v_points  = some (rv)) : Met l ({ cls := "PrefixMill$Share", name := "lacking", desc := "()I" } : Jvm.MethodName) ws_Share_lacking R_Share_lacking (va_Pc [.ref a_this] (fun U => U.heap.size = sz ∧ va_P D classes [(a_this, .inr (6, [.ref a_points, .ref o_cuts, .ref o_queue, .ref o_owners, .ref o_takes, .ref o_bases, .ref o_ranked, .ref o_starts, .ref o_numbers, .ref o_walk, .int i_order, .int i_next])), (a_points, .inl (cI, 12, .inl v_points))] U.heap ∧ va_K D classes [(cI, .int), (cL, .long), (cZ, .boolean)] U ∧ va_D (fun _ => True) [(a_this, .inr (6, [.ref a_points, .ref o_cuts, .ref o_queue, .ref o_owners, .ref o_takes, .ref o_bases, .ref o_ranked, .ref o_starts, .ref o_numbers, .ref o_walk, .int i_order, .int i_next])), (a_points, .inl (cI, 12, .inl v_points))])) (va_Qi (fun (r0 : Int32) (_ : Unit) => rv = r0) (fun _ t => va_P D classes [(a_this, .inr (6, [.ref a_points, .ref o_cuts, .ref o_queue, .ref o_owners, .ref o_takes, .ref o_bases, .ref o_ranked, .ref o_starts, .ref o_numbers, .ref o_walk, .int i_order, .int i_next])), (a_points, .inl (cI, 12, .inl v_points))] t.heap ∧ va_K D classes [(cI, .int), (cL, .long), (cZ, .boolean)] t ∧ va_D (va_A [(a_this, .inr (6, [.ref a_points, .ref o_cuts, .ref o_queue, .ref o_owners, .ref o_takes, .ref o_bases, .ref o_ranked, .ref o_starts, .ref o_numbers, .ref o_walk, .int i_order, .int i_next])), (a_points, .inl (cI, 12, .inl v_points))] sz) [(a_this, .inr (6, [.ref a_points, .ref o_cuts, .ref o_queue, .ref o_owners, .ref o_takes, .ref o_bases, .ref o_ranked, .ref o_starts, .ref o_numbers, .ref o_walk, .int i_order, .int i_next])), (a_points, .inl (cI, 12, .inl v_points))]) (va_A [(a_this, .inr (6, [.ref a_points, .ref o_cuts, .ref o_queue, .ref o_owners, .ref o_takes, .ref o_bases, .ref o_ranked, .ref o_starts, .ref o_numbers, .ref o_walk, .int i_order, .int i_next])), (a_points, .inl (cI, 12, .inl v_points))] sz)) 0 0 (va_A [(a_this, .inr (6, [.ref a_points, .ref o_cuts, .ref o_queue, .ref o_owners, .ref o_takes, .ref o_bases, .ref o_ranked, .ref o_starts, .ref o_numbers, .ref o_walk, .int i_order, .int i_next])), (a_points, .inl (cI, 12, .inl v_points))] sz) := by
  refine Met.ofW (cc := b_Share_lacking) (maxL := 3) (ret := (some .int)) (by decide) rfl ?_
  intro p e s m args below meth c s₁ B hml hv
  obtain ⟨rfl, hsz, hP, hK, hD0⟩ := hv
  have hx := B.exec
  have hb := B.bytes
  have hr := B.returns
  have hts0 := atoms_spec (ws := ws_Share_lacking) B.pre
  have hts := gd_tl hts0
  clear hts0
  have hown : s.vm.findClass "PrefixMill$Share" = some m.cls := findClass_of_methodNamed B.named
  have hlocks := B.notSynchronized
  subst hsz
  have hD := hD0.self (sz := s.heap.size)
  generalize hAe : va_A [(a_this, .inr (6, [.ref a_points, .ref o_cuts, .ref o_queue, .ref o_owners, .ref o_takes, .ref o_bases, .ref o_ranked, .ref o_starts, .ref o_numbers, .ref o_walk, .int i_order, .int i_next])), (a_points, .inl (cI, 12, .inl v_points))] s.heap.size = A at hD ⊢
  have hA : ∀ q : Nat, s.heap.size ≤ q → A q := fun q h => by rw [← hAe]; exact Or.inr h
  have hS : va_S A s.heap s.heap [] := va_S.rf
  have hP : va_P D classes [(a_this, .inr (6, [.ref a_points, .ref o_cuts, .ref o_queue, .ref o_owners, .ref o_takes, .ref o_bases, .ref o_ranked, .ref o_starts, .ref o_numbers, .ref o_walk, .int i_order, .int i_next])), (a_points, .inl (cI, 12, .inl v_points))] s.heap := hP
  have hl := lv_entry ([.ref a_this]) (n := 3) (Nat.le_of_ble_eq_true rfl)
  rw [lg_entry_eq]
  generalize (lg_sl ([.ref a_this]) ++ List.replicate (3 - (lg_sl ([.ref a_this])).length) Slot.unset).toArray = ls at hl ⊢
  have hl : lv_has ls 3 [(0, .ref a_this)] := hl
  have C : Cx p s m ([.ref a_this] : List Value).toArray c b_Share_lacking 3 "PrefixMill$Share" D [(cI, .int), (cL, .long), (cZ, .boolean)] A := ⟨hx, hb, hml, hown, hts, hK, hA⟩
  refine w_Share_lacking_b0 (res := (rv)) C ?_ () h s.heap [] ls hl hP hD hS
  intro pc9 H9 locs9 ls9 rv9 e9 d9 hP9 hD9 hS9
  cases e9
  exact W.iret (v := rv) hx hb hr (fun t ht hW => ⟨⟨rv, (), rfl, rfl, by rw [ht]; exact hP9, va_K.moved hW.alike hK, hD9⟩, hS9.F ht⟩) hS9.2.2 d9
abbrev b_Share_queueByCuts : ByteArray := prog_6_method_6_code
def ws_Share_queueByCuts : List Cond := .code ({ cls := "PrefixMill$Share", name := "queueByCuts", desc := "()I" } : Jvm.MethodName) b_Share_queueByCuts 4 (some .int) :: tt
theorem d_Share_queueByCuts_0 : decode b_Share_queueByCuts 0 = .ok (.iconst 0, 1) := by decide +kernel
theorem d_Share_queueByCuts_1 : decode b_Share_queueByCuts 1 = .ok (.istore_n 1, 1) := by decide +kernel
theorem d_Share_queueByCuts_2 : decode b_Share_queueByCuts 2 = .ok (.iconst 0, 1) := by decide +kernel
theorem d_Share_queueByCuts_3 : decode b_Share_queueByCuts 3 = .ok (.istore_n 2, 1) := by decide +kernel
theorem d_Share_queueByCuts_4 : decode b_Share_queueByCuts 4 = .ok (.iload_n 2, 1) := by decide +kernel
theorem d_Share_queueByCuts_5 : decode b_Share_queueByCuts 5 = .ok (.bipush 12, 2) := by decide +kernel
theorem d_Share_queueByCuts_7 : decode b_Share_queueByCuts 7 = .ok (.if_icmp .ge 76, 3) := by decide +kernel
theorem d_Share_queueByCuts_10 : decode b_Share_queueByCuts 10 = .ok (.aload_n 0, 1) := by decide +kernel
theorem d_Share_queueByCuts_11 : decode b_Share_queueByCuts 11 = .ok (.getfield 9, 3) := by decide +kernel
theorem d_Share_queueByCuts_14 : decode b_Share_queueByCuts 14 = .ok (.iload_n 2, 1) := by decide +kernel
theorem d_Share_queueByCuts_15 : decode b_Share_queueByCuts 15 = .ok (.iaload, 1) := by decide +kernel
theorem d_Share_queueByCuts_16 : decode b_Share_queueByCuts 16 = .ok (.ifCond .le 61, 3) := by decide +kernel
theorem d_Share_queueByCuts_19 : decode b_Share_queueByCuts 19 = .ok (.iload_n 1, 1) := by decide +kernel
theorem d_Share_queueByCuts_20 : decode b_Share_queueByCuts 20 = .ok (.istore_n 3, 1) := by decide +kernel
theorem d_Share_queueByCuts_21 : decode b_Share_queueByCuts 21 = .ok (.iload_n 3, 1) := by decide +kernel
theorem d_Share_queueByCuts_22 : decode b_Share_queueByCuts 22 = .ok (.ifCond .le 45, 3) := by decide +kernel
theorem d_Share_queueByCuts_25 : decode b_Share_queueByCuts 25 = .ok (.aload_n 0, 1) := by decide +kernel
theorem d_Share_queueByCuts_26 : decode b_Share_queueByCuts 26 = .ok (.getfield 15, 3) := by decide +kernel
theorem d_Share_queueByCuts_29 : decode b_Share_queueByCuts 29 = .ok (.aload_n 0, 1) := by decide +kernel
theorem d_Share_queueByCuts_30 : decode b_Share_queueByCuts 30 = .ok (.getfield 18, 3) := by decide +kernel
theorem d_Share_queueByCuts_33 : decode b_Share_queueByCuts 33 = .ok (.iload_n 3, 1) := by decide +kernel
theorem d_Share_queueByCuts_34 : decode b_Share_queueByCuts 34 = .ok (.iconst 1, 1) := by decide +kernel
theorem d_Share_queueByCuts_35 : decode b_Share_queueByCuts 35 = .ok (.isub, 1) := by decide +kernel
theorem d_Share_queueByCuts_36 : decode b_Share_queueByCuts 36 = .ok (.iaload, 1) := by decide +kernel
theorem d_Share_queueByCuts_37 : decode b_Share_queueByCuts 37 = .ok (.iaload, 1) := by decide +kernel
theorem d_Share_queueByCuts_38 : decode b_Share_queueByCuts 38 = .ok (.aload_n 0, 1) := by decide +kernel
theorem d_Share_queueByCuts_39 : decode b_Share_queueByCuts 39 = .ok (.getfield 15, 3) := by decide +kernel
theorem d_Share_queueByCuts_42 : decode b_Share_queueByCuts 42 = .ok (.iload_n 2, 1) := by decide +kernel
theorem d_Share_queueByCuts_43 : decode b_Share_queueByCuts 43 = .ok (.iaload, 1) := by decide +kernel
theorem d_Share_queueByCuts_44 : decode b_Share_queueByCuts 44 = .ok (.if_icmp .ge 23, 3) := by decide +kernel
theorem d_Share_queueByCuts_47 : decode b_Share_queueByCuts 47 = .ok (.aload_n 0, 1) := by decide +kernel
theorem d_Share_queueByCuts_48 : decode b_Share_queueByCuts 48 = .ok (.getfield 18, 3) := by decide +kernel
theorem d_Share_queueByCuts_51 : decode b_Share_queueByCuts 51 = .ok (.iload_n 3, 1) := by decide +kernel
theorem d_Share_queueByCuts_52 : decode b_Share_queueByCuts 52 = .ok (.aload_n 0, 1) := by decide +kernel
theorem d_Share_queueByCuts_53 : decode b_Share_queueByCuts 53 = .ok (.getfield 18, 3) := by decide +kernel
theorem d_Share_queueByCuts_56 : decode b_Share_queueByCuts 56 = .ok (.iload_n 3, 1) := by decide +kernel
theorem d_Share_queueByCuts_57 : decode b_Share_queueByCuts 57 = .ok (.iconst 1, 1) := by decide +kernel
theorem d_Share_queueByCuts_58 : decode b_Share_queueByCuts 58 = .ok (.isub, 1) := by decide +kernel
theorem d_Share_queueByCuts_59 : decode b_Share_queueByCuts 59 = .ok (.iaload, 1) := by decide +kernel
theorem d_Share_queueByCuts_60 : decode b_Share_queueByCuts 60 = .ok (.iastore, 1) := by decide +kernel
theorem d_Share_queueByCuts_61 : decode b_Share_queueByCuts 61 = .ok (.iinc 3 (-1), 3) := by decide +kernel
theorem d_Share_queueByCuts_64 : decode b_Share_queueByCuts 64 = .ok (.goto (-43), 3) := by decide +kernel
theorem d_Share_queueByCuts_67 : decode b_Share_queueByCuts 67 = .ok (.aload_n 0, 1) := by decide +kernel
theorem d_Share_queueByCuts_68 : decode b_Share_queueByCuts 68 = .ok (.getfield 18, 3) := by decide +kernel
theorem d_Share_queueByCuts_71 : decode b_Share_queueByCuts 71 = .ok (.iload_n 3, 1) := by decide +kernel
theorem d_Share_queueByCuts_72 : decode b_Share_queueByCuts 72 = .ok (.iload_n 2, 1) := by decide +kernel
theorem d_Share_queueByCuts_73 : decode b_Share_queueByCuts 73 = .ok (.iastore, 1) := by decide +kernel
theorem d_Share_queueByCuts_74 : decode b_Share_queueByCuts 74 = .ok (.iinc 1 1, 3) := by decide +kernel
theorem d_Share_queueByCuts_77 : decode b_Share_queueByCuts 77 = .ok (.iinc 2 1, 3) := by decide +kernel
theorem d_Share_queueByCuts_80 : decode b_Share_queueByCuts 80 = .ok (.goto (-76), 3) := by decide +kernel
theorem d_Share_queueByCuts_83 : decode b_Share_queueByCuts 83 = .ok (.iload_n 1, 1) := by decide +kernel
theorem d_Share_queueByCuts_84 : decode b_Share_queueByCuts 84 = .ok (.ireturn, 1) := by decide +kernel
def f_Share_queueByCuts_b77 (N : Nat) (v_points : Nat → Int32) (v_cuts : Nat → Int32) (k4 : Int32 → Int32 → (Nat → Int32) → Option (Int32 × (Nat → Int32))) (l1 : Int32) (l2 : Int32) (v_queue : Nat → Int32) : Option (Int32 × (Nat → Int32)) :=
  nm (l2 + 1) fun l2_1 =>
  k4 l1 l2_1 v_queue
def f_Share_queueByCuts_b67 (N : Nat) (v_points : Nat → Int32) (v_cuts : Nat → Int32) (k4 : Int32 → Int32 → (Nat → Int32) → Option (Int32 × (Nat → Int32))) (l1 : Int32) (l2 : Int32) (l3 : Int32) (v_queue : Nat → Int32) : Option (Int32 × (Nat → Int32)) :=
  ck (inb l3 12) <|
  nm (upd v_queue (Int32.toNatClampNeg l3) l2) fun v_queue_2 =>
  nm (l1 + 1) fun l1_3 =>
  f_Share_queueByCuts_b77 N v_points v_cuts k4 l1_3 l2 v_queue_2
def f_Share_queueByCuts_b21 (N : Nat) (v_points : Nat → Int32) (v_cuts : Nat → Int32) (k4 : Int32 → Int32 → (Nat → Int32) → Option (Int32 × (Nat → Int32))) : Nat → Int32 → Int32 → Int32 → (Nat → Int32) → Option (Int32 × (Nat → Int32))
  | 0, _, _, _, _ => none
  | z + 1, l1, l2, l3, v_queue =>
  if l3 ≤ 0 then
  f_Share_queueByCuts_b67 N v_points v_cuts k4 l1 l2 l3 v_queue
  else
  ck (inb (l3 - 1) 12) <|
  ck (inb (v_queue (Int32.toNatClampNeg (l3 - 1))) 12) <|
  ck (inb l2 12) <|
  if (v_cuts (Int32.toNatClampNeg l2)) ≤ (v_cuts (Int32.toNatClampNeg (v_queue (Int32.toNatClampNeg (l3 - 1))))) then
  f_Share_queueByCuts_b67 N v_points v_cuts k4 l1 l2 l3 v_queue
  else
  ck (inb (l3 - 1) 12) <|
  ck (inb l3 12) <|
  nm (upd v_queue (Int32.toNatClampNeg l3) (v_queue (Int32.toNatClampNeg (l3 - 1)))) fun v_queue_8 =>
  nm (l3 + (-1)) fun l3_9 =>
  f_Share_queueByCuts_b21 N v_points v_cuts k4 z l1 l2 l3_9 v_queue_8
def f_Share_queueByCuts_b83 (N : Nat) (v_points : Nat → Int32) (v_cuts : Nat → Int32)  (l1 : Int32) (v_queue : Nat → Int32) : Option (Int32 × (Nat → Int32)) :=
  some (l1, v_queue)
def f_Share_queueByCuts_b4 (N : Nat) (v_points : Nat → Int32) (v_cuts : Nat → Int32)  : Nat → Int32 → Int32 → (Nat → Int32) → Option (Int32 × (Nat → Int32))
  | 0, _, _, _ => none
  | z + 1, l1, l2, v_queue =>
  if 12 ≤ l2 then
  f_Share_queueByCuts_b83 N v_points v_cuts  l1 v_queue
  else
  ck (inb l2 12) <|
  if (v_points (Int32.toNatClampNeg l2)) ≤ 0 then
  f_Share_queueByCuts_b77 N v_points v_cuts (f_Share_queueByCuts_b4 N v_points v_cuts  z) l1 l2 v_queue
  else
  f_Share_queueByCuts_b21 N v_points v_cuts (f_Share_queueByCuts_b4 N v_points v_cuts  z) N l1 l2 l1 v_queue
def f_Share_queueByCuts (N : Nat) (v_points : Nat → Int32) (v_cuts : Nat → Int32)  (v_queue : Nat → Int32) : Option (Int32 × (Nat → Int32)) :=
  f_Share_queueByCuts_b4 N v_points v_cuts  N 0 0 v_queue
abbrev R_Share_queueByCuts : Room := ({ frames := 0, cells := 0, slots := 0, locals := 0 } : Room)
def E_Share_queueByCuts (p : Program) (l : Launch) (e : Env) (s : State) (m : MethodId) (args : Array Value) (below : List Frame) (meth : Method) (c : Code) (Q : State → Prop) (A : Nat → Prop) (D : va_G) (cI cL cZ : ClassId) (a_this : Nat) (a_points : Nat) (a_cuts : Nat) (a_queue : Nat) (o_owners : Nat) (o_takes : Nat) (o_bases : Nat) (o_ranked : Nat) (o_starts : Nat) (o_numbers : Nat) (o_walk : Nat) (i_order : Int32) (i_next : Int32) (v_points : Nat → Int32) (v_cuts : Nat → Int32) (res : Int32 × (Nat → Int32)) : Prop := ∀ (pc : Nat) (H : Heap) (locs : List Loc) (ls : Array Slot) (rv : Int32) (v_queue : Nat → Int32), some (rv, v_queue) = some res → decode b_Share_queueByCuts pc = .ok (.ireturn, 1) → va_P D classes [(a_this, .inr (6, [.ref a_points, .ref a_cuts, .ref a_queue, .ref o_owners, .ref o_takes, .ref o_bases, .ref o_ranked, .ref o_starts, .ref o_numbers, .ref o_walk, .int i_order, .int i_next])), (a_points, .inl (cI, 12, .inl v_points)), (a_cuts, .inl (cI, 12, .inl v_cuts)), (a_queue, .inl (cI, 12, .inl v_queue))] H → va_D A [(a_this, .inr (6, [.ref a_points, .ref a_cuts, .ref a_queue, .ref o_owners, .ref o_takes, .ref o_bases, .ref o_ranked, .ref o_starts, .ref o_numbers, .ref o_walk, .int i_order, .int i_next])), (a_points, .inl (cI, 12, .inl v_points)), (a_cuts, .inl (cI, 12, .inl v_cuts)), (a_queue, .inl (cI, 12, .inl v_queue))] → va_S A s.heap H locs → W p l e R_Share_queueByCuts s m args below meth c H locs 0 0 Q (F0 m pc ls [.int rv])
def I_Share_queueByCuts_b77 (p : Program) (l : Launch) (e : Env) (s : State) (m : MethodId) (args : Array Value) (below : List Frame) (meth : Method) (c : Code) (Q : State → Prop) (A : Nat → Prop) (D : va_G) (cI cL cZ : ClassId) (a_this : Nat) (a_points : Nat) (a_cuts : Nat) (a_queue : Nat) (o_owners : Nat) (o_takes : Nat) (o_bases : Nat) (o_ranked : Nat) (o_starts : Nat) (o_numbers : Nat) (o_walk : Nat) (i_order : Int32) (i_next : Int32) (v_points : Nat → Int32) (v_cuts : Nat → Int32) (res : Int32 × (Nat → Int32)) (kf : Int32 → Int32 → (Nat → Int32) → Option (Int32 × (Nat → Int32))) : Prop := ∀ (l1 : Int32) (l2 : Int32) (v_queue : Nat → Int32), kf l1 l2 v_queue = some res → ∀ (H : Heap) (locs : List Loc) (ls : Array Slot), lv_has ls 4 [(0, .ref a_this), (1, .int l1), (2, .int l2)] → va_P D classes [(a_this, .inr (6, [.ref a_points, .ref a_cuts, .ref a_queue, .ref o_owners, .ref o_takes, .ref o_bases, .ref o_ranked, .ref o_starts, .ref o_numbers, .ref o_walk, .int i_order, .int i_next])), (a_points, .inl (cI, 12, .inl v_points)), (a_cuts, .inl (cI, 12, .inl v_cuts)), (a_queue, .inl (cI, 12, .inl v_queue))] H → va_D A [(a_this, .inr (6, [.ref a_points, .ref a_cuts, .ref a_queue, .ref o_owners, .ref o_takes, .ref o_bases, .ref o_ranked, .ref o_starts, .ref o_numbers, .ref o_walk, .int i_order, .int i_next])), (a_points, .inl (cI, 12, .inl v_points)), (a_cuts, .inl (cI, 12, .inl v_cuts)), (a_queue, .inl (cI, 12, .inl v_queue))] → va_S A s.heap H locs → W p l e R_Share_queueByCuts s m args below meth c H locs 0 0 Q (F0 m 77 ls [])
def I_Share_queueByCuts_b67 (p : Program) (l : Launch) (e : Env) (s : State) (m : MethodId) (args : Array Value) (below : List Frame) (meth : Method) (c : Code) (Q : State → Prop) (A : Nat → Prop) (D : va_G) (cI cL cZ : ClassId) (a_this : Nat) (a_points : Nat) (a_cuts : Nat) (a_queue : Nat) (o_owners : Nat) (o_takes : Nat) (o_bases : Nat) (o_ranked : Nat) (o_starts : Nat) (o_numbers : Nat) (o_walk : Nat) (i_order : Int32) (i_next : Int32) (v_points : Nat → Int32) (v_cuts : Nat → Int32) (res : Int32 × (Nat → Int32)) (kf : Int32 → Int32 → Int32 → (Nat → Int32) → Option (Int32 × (Nat → Int32))) : Prop := ∀ (l1 : Int32) (l2 : Int32) (l3 : Int32) (v_queue : Nat → Int32), kf l1 l2 l3 v_queue = some res → ∀ (H : Heap) (locs : List Loc) (ls : Array Slot), lv_has ls 4 [(0, .ref a_this), (1, .int l1), (2, .int l2), (3, .int l3)] → va_P D classes [(a_this, .inr (6, [.ref a_points, .ref a_cuts, .ref a_queue, .ref o_owners, .ref o_takes, .ref o_bases, .ref o_ranked, .ref o_starts, .ref o_numbers, .ref o_walk, .int i_order, .int i_next])), (a_points, .inl (cI, 12, .inl v_points)), (a_cuts, .inl (cI, 12, .inl v_cuts)), (a_queue, .inl (cI, 12, .inl v_queue))] H → va_D A [(a_this, .inr (6, [.ref a_points, .ref a_cuts, .ref a_queue, .ref o_owners, .ref o_takes, .ref o_bases, .ref o_ranked, .ref o_starts, .ref o_numbers, .ref o_walk, .int i_order, .int i_next])), (a_points, .inl (cI, 12, .inl v_points)), (a_cuts, .inl (cI, 12, .inl v_cuts)), (a_queue, .inl (cI, 12, .inl v_queue))] → va_S A s.heap H locs → W p l e R_Share_queueByCuts s m args below meth c H locs 0 0 Q (F0 m 67 ls [])
def I_Share_queueByCuts_b21 (p : Program) (l : Launch) (e : Env) (s : State) (m : MethodId) (args : Array Value) (below : List Frame) (meth : Method) (c : Code) (Q : State → Prop) (A : Nat → Prop) (D : va_G) (cI cL cZ : ClassId) (a_this : Nat) (a_points : Nat) (a_cuts : Nat) (a_queue : Nat) (o_owners : Nat) (o_takes : Nat) (o_bases : Nat) (o_ranked : Nat) (o_starts : Nat) (o_numbers : Nat) (o_walk : Nat) (i_order : Int32) (i_next : Int32) (v_points : Nat → Int32) (v_cuts : Nat → Int32) (res : Int32 × (Nat → Int32)) (kf : Int32 → Int32 → Int32 → (Nat → Int32) → Option (Int32 × (Nat → Int32))) : Prop := ∀ (l1 : Int32) (l2 : Int32) (l3 : Int32) (v_queue : Nat → Int32), kf l1 l2 l3 v_queue = some res → ∀ (H : Heap) (locs : List Loc) (ls : Array Slot), lv_has ls 4 [(0, .ref a_this), (1, .int l1), (2, .int l2), (3, .int l3)] → va_P D classes [(a_this, .inr (6, [.ref a_points, .ref a_cuts, .ref a_queue, .ref o_owners, .ref o_takes, .ref o_bases, .ref o_ranked, .ref o_starts, .ref o_numbers, .ref o_walk, .int i_order, .int i_next])), (a_points, .inl (cI, 12, .inl v_points)), (a_cuts, .inl (cI, 12, .inl v_cuts)), (a_queue, .inl (cI, 12, .inl v_queue))] H → va_D A [(a_this, .inr (6, [.ref a_points, .ref a_cuts, .ref a_queue, .ref o_owners, .ref o_takes, .ref o_bases, .ref o_ranked, .ref o_starts, .ref o_numbers, .ref o_walk, .int i_order, .int i_next])), (a_points, .inl (cI, 12, .inl v_points)), (a_cuts, .inl (cI, 12, .inl v_cuts)), (a_queue, .inl (cI, 12, .inl v_queue))] → va_S A s.heap H locs → W p l e R_Share_queueByCuts s m args below meth c H locs 0 0 Q (F0 m 21 ls [])
def I_Share_queueByCuts_b83 (p : Program) (l : Launch) (e : Env) (s : State) (m : MethodId) (args : Array Value) (below : List Frame) (meth : Method) (c : Code) (Q : State → Prop) (A : Nat → Prop) (D : va_G) (cI cL cZ : ClassId) (a_this : Nat) (a_points : Nat) (a_cuts : Nat) (a_queue : Nat) (o_owners : Nat) (o_takes : Nat) (o_bases : Nat) (o_ranked : Nat) (o_starts : Nat) (o_numbers : Nat) (o_walk : Nat) (i_order : Int32) (i_next : Int32) (v_points : Nat → Int32) (v_cuts : Nat → Int32) (res : Int32 × (Nat → Int32)) (kf : Int32 → (Nat → Int32) → Option (Int32 × (Nat → Int32))) : Prop := ∀ (l1 : Int32) (v_queue : Nat → Int32), kf l1 v_queue = some res → ∀ (H : Heap) (locs : List Loc) (ls : Array Slot), lv_has ls 4 [(1, .int l1)] → va_P D classes [(a_this, .inr (6, [.ref a_points, .ref a_cuts, .ref a_queue, .ref o_owners, .ref o_takes, .ref o_bases, .ref o_ranked, .ref o_starts, .ref o_numbers, .ref o_walk, .int i_order, .int i_next])), (a_points, .inl (cI, 12, .inl v_points)), (a_cuts, .inl (cI, 12, .inl v_cuts)), (a_queue, .inl (cI, 12, .inl v_queue))] H → va_D A [(a_this, .inr (6, [.ref a_points, .ref a_cuts, .ref a_queue, .ref o_owners, .ref o_takes, .ref o_bases, .ref o_ranked, .ref o_starts, .ref o_numbers, .ref o_walk, .int i_order, .int i_next])), (a_points, .inl (cI, 12, .inl v_points)), (a_cuts, .inl (cI, 12, .inl v_cuts)), (a_queue, .inl (cI, 12, .inl v_queue))] → va_S A s.heap H locs → W p l e R_Share_queueByCuts s m args below meth c H locs 0 0 Q (F0 m 83 ls [])
def I_Share_queueByCuts_b4 (p : Program) (l : Launch) (e : Env) (s : State) (m : MethodId) (args : Array Value) (below : List Frame) (meth : Method) (c : Code) (Q : State → Prop) (A : Nat → Prop) (D : va_G) (cI cL cZ : ClassId) (a_this : Nat) (a_points : Nat) (a_cuts : Nat) (a_queue : Nat) (o_owners : Nat) (o_takes : Nat) (o_bases : Nat) (o_ranked : Nat) (o_starts : Nat) (o_numbers : Nat) (o_walk : Nat) (i_order : Int32) (i_next : Int32) (v_points : Nat → Int32) (v_cuts : Nat → Int32) (res : Int32 × (Nat → Int32)) (kf : Int32 → Int32 → (Nat → Int32) → Option (Int32 × (Nat → Int32))) : Prop := ∀ (l1 : Int32) (l2 : Int32) (v_queue : Nat → Int32), kf l1 l2 v_queue = some res → ∀ (H : Heap) (locs : List Loc) (ls : Array Slot), lv_has ls 4 [(0, .ref a_this), (1, .int l1), (2, .int l2)] → va_P D classes [(a_this, .inr (6, [.ref a_points, .ref a_cuts, .ref a_queue, .ref o_owners, .ref o_takes, .ref o_bases, .ref o_ranked, .ref o_starts, .ref o_numbers, .ref o_walk, .int i_order, .int i_next])), (a_points, .inl (cI, 12, .inl v_points)), (a_cuts, .inl (cI, 12, .inl v_cuts)), (a_queue, .inl (cI, 12, .inl v_queue))] H → va_D A [(a_this, .inr (6, [.ref a_points, .ref a_cuts, .ref a_queue, .ref o_owners, .ref o_takes, .ref o_bases, .ref o_ranked, .ref o_starts, .ref o_numbers, .ref o_walk, .int i_order, .int i_next])), (a_points, .inl (cI, 12, .inl v_points)), (a_cuts, .inl (cI, 12, .inl v_cuts)), (a_queue, .inl (cI, 12, .inl v_queue))] → va_S A s.heap H locs → W p l e R_Share_queueByCuts s m args below meth c H locs 0 0 Q (F0 m 4 ls [])
def I_Share_queueByCuts_b0 (p : Program) (l : Launch) (e : Env) (s : State) (m : MethodId) (args : Array Value) (below : List Frame) (meth : Method) (c : Code) (Q : State → Prop) (A : Nat → Prop) (D : va_G) (cI cL cZ : ClassId) (a_this : Nat) (a_points : Nat) (a_cuts : Nat) (a_queue : Nat) (o_owners : Nat) (o_takes : Nat) (o_bases : Nat) (o_ranked : Nat) (o_starts : Nat) (o_numbers : Nat) (o_walk : Nat) (i_order : Int32) (i_next : Int32) (v_points : Nat → Int32) (v_cuts : Nat → Int32) (res : Int32 × (Nat → Int32)) (kf : (Nat → Int32) → Option (Int32 × (Nat → Int32))) : Prop := ∀ (v_queue : Nat → Int32), kf v_queue = some res → ∀ (H : Heap) (locs : List Loc) (ls : Array Slot), lv_has ls 4 [(0, .ref a_this)] → va_P D classes [(a_this, .inr (6, [.ref a_points, .ref a_cuts, .ref a_queue, .ref o_owners, .ref o_takes, .ref o_bases, .ref o_ranked, .ref o_starts, .ref o_numbers, .ref o_walk, .int i_order, .int i_next])), (a_points, .inl (cI, 12, .inl v_points)), (a_cuts, .inl (cI, 12, .inl v_cuts)), (a_queue, .inl (cI, 12, .inl v_queue))] H → va_D A [(a_this, .inr (6, [.ref a_points, .ref a_cuts, .ref a_queue, .ref o_owners, .ref o_takes, .ref o_bases, .ref o_ranked, .ref o_starts, .ref o_numbers, .ref o_walk, .int i_order, .int i_next])), (a_points, .inl (cI, 12, .inl v_points)), (a_cuts, .inl (cI, 12, .inl v_cuts)), (a_queue, .inl (cI, 12, .inl v_queue))] → va_S A s.heap H locs → W p l e R_Share_queueByCuts s m args below meth c H locs 0 0 Q (F0 m 0 ls [])
set_option maxHeartbeats 4000000 in
set_option maxRecDepth 100000 in
theorem w_Share_queueByCuts_b77 {p : Program} {l : Launch} {e : Env} {s : State} {m : MethodId} {args : Array Value} {below : List Frame} {meth : Method} {c : Code} {Q : State → Prop} {A : Nat → Prop} {D : va_G} {cI cL cZ : ClassId} {a_this : Nat} {a_points : Nat} {a_cuts : Nat} {a_queue : Nat} {o_owners : Nat} {o_takes : Nat} {o_bases : Nat} {o_ranked : Nat} {o_starts : Nat} {o_numbers : Nat} {o_walk : Nat} {i_order : Int32} {i_next : Int32} {v_points : Nat → Int32} {v_cuts : Nat → Int32} {N : Nat} {res : Int32 × (Nat → Int32)} {k4 : Int32 → Int32 → (Nat → Int32) → Option (Int32 × (Nat → Int32))} (C : Cx p s m args c b_Share_queueByCuts 4 "PrefixMill$Share" D [(cI, .int), (cL, .long), (cZ, .boolean)] A) (hret : E_Share_queueByCuts p l e s m args below meth c Q A D cI cL cZ a_this a_points a_cuts a_queue o_owners o_takes o_bases o_ranked o_starts o_numbers o_walk i_order i_next v_points v_cuts res) (hk4 : I_Share_queueByCuts_b4 p l e s m args below meth c Q A D cI cL cZ a_this a_points a_cuts a_queue o_owners o_takes o_bases o_ranked o_starts o_numbers o_walk i_order i_next v_points v_cuts res k4) : I_Share_queueByCuts_b77 p l e s m args below meth c Q A D cI cL cZ a_this a_points a_cuts a_queue o_owners o_takes o_bases o_ranked o_starts o_numbers o_walk i_order i_next v_points v_cuts res (f_Share_queueByCuts_b77 N v_points v_cuts k4) := by
  obtain ⟨hx, hb, hml, hown, hts, hK, hA⟩ := C
  intro l1 l2 v_queue h H locs ls hl hP hD hS
  unfold f_Share_queueByCuts_b77 at h
  obtain ⟨l2_1, el2_1⟩ : ∃ y : Int32, y = l2 + 1 := ⟨_, rfl⟩
  replace h := nm_s h el2_1
  refine lv_iinc (v := l2_1) (lv' := [(2, .int l2_1), (0, .ref a_this), (1, .int l1)]) hx hb d_Share_queueByCuts_77 hl (k := 2) rfl (by rw [el2_1]; rfl) (by decide) rfl (fun ls hl => ?_)
  refine lv_goto (tgt := 4) hx hb d_Share_queueByCuts_80 (by decide) ?_
  exact hk4 _ _ _ h H locs ls (lv_sub hl [1, 2, 0] rfl) hP hD hS
set_option maxHeartbeats 4000000 in
set_option maxRecDepth 100000 in
theorem w_Share_queueByCuts_b67 {p : Program} {l : Launch} {e : Env} {s : State} {m : MethodId} {args : Array Value} {below : List Frame} {meth : Method} {c : Code} {Q : State → Prop} {A : Nat → Prop} {D : va_G} {cI cL cZ : ClassId} {a_this : Nat} {a_points : Nat} {a_cuts : Nat} {a_queue : Nat} {o_owners : Nat} {o_takes : Nat} {o_bases : Nat} {o_ranked : Nat} {o_starts : Nat} {o_numbers : Nat} {o_walk : Nat} {i_order : Int32} {i_next : Int32} {v_points : Nat → Int32} {v_cuts : Nat → Int32} {N : Nat} {res : Int32 × (Nat → Int32)} {k4 : Int32 → Int32 → (Nat → Int32) → Option (Int32 × (Nat → Int32))} (C : Cx p s m args c b_Share_queueByCuts 4 "PrefixMill$Share" D [(cI, .int), (cL, .long), (cZ, .boolean)] A) (hret : E_Share_queueByCuts p l e s m args below meth c Q A D cI cL cZ a_this a_points a_cuts a_queue o_owners o_takes o_bases o_ranked o_starts o_numbers o_walk i_order i_next v_points v_cuts res) (hk4 : I_Share_queueByCuts_b4 p l e s m args below meth c Q A D cI cL cZ a_this a_points a_cuts a_queue o_owners o_takes o_bases o_ranked o_starts o_numbers o_walk i_order i_next v_points v_cuts res k4) : I_Share_queueByCuts_b67 p l e s m args below meth c Q A D cI cL cZ a_this a_points a_cuts a_queue o_owners o_takes o_bases o_ranked o_starts o_numbers o_walk i_order i_next v_points v_cuts res (f_Share_queueByCuts_b67 N v_points v_cuts k4) := by
  obtain ⟨hx, hb, hml, hown, hts, hK, hA⟩ := C
  intro l1 l2 l3 v_queue h H locs ls hl hP hD hS
  unfold f_Share_queueByCuts_b67 at h
  refine lv_aload_n hx hb d_Share_queueByCuts_67 rfl (lv_at hl 0 rfl) ?_
  refine va_get hx hb hts in_Share hown hK hP 0 rfl rfl 2 (by decide) (hts _ m_213) (fun _ h9 => h9) rfl d_Share_queueByCuts_68 ?_
  refine lv_iload_n hx hb d_Share_queueByCuts_71 rfl (lv_at hl 3 rfl) ?_
  refine lv_iload_n hx hb d_Share_queueByCuts_72 rfl (lv_at hl 2 rfl) ?_
  obtain ⟨g_1, h⟩ := ck_s h
  refine va_iast hx hb hK hP hD hS 3 0 rfl rfl (inb_s g_1) d_Share_queueByCuts_73 (fun H locs hP hD hS => ?_)
  obtain ⟨v_queue_2, ev_queue_2⟩ : ∃ y, y = (upd v_queue (Int32.toNatClampNeg l3) l2) := ⟨_, rfl⟩
  replace h := nm_s h ev_queue_2
  have hP : va_P D classes [(a_this, .inr (6, [.ref a_points, .ref a_cuts, .ref a_queue, .ref o_owners, .ref o_takes, .ref o_bases, .ref o_ranked, .ref o_starts, .ref o_numbers, .ref o_walk, .int i_order, .int i_next])), (a_points, .inl (cI, 12, .inl v_points)), (a_cuts, .inl (cI, 12, .inl v_cuts)), (a_queue, .inl (cI, 12, .inl v_queue_2))] H := by rw [ev_queue_2]; exact hP
  have hD : va_D A [(a_this, .inr (6, [.ref a_points, .ref a_cuts, .ref a_queue, .ref o_owners, .ref o_takes, .ref o_bases, .ref o_ranked, .ref o_starts, .ref o_numbers, .ref o_walk, .int i_order, .int i_next])), (a_points, .inl (cI, 12, .inl v_points)), (a_cuts, .inl (cI, 12, .inl v_cuts)), (a_queue, .inl (cI, 12, .inl v_queue_2))] := by rw [ev_queue_2]; exact hD
  obtain ⟨l1_3, el1_3⟩ : ∃ y : Int32, y = l1 + 1 := ⟨_, rfl⟩
  replace h := nm_s h el1_3
  refine lv_iinc (v := l1_3) (lv' := [(1, .int l1_3), (0, .ref a_this), (2, .int l2), (3, .int l3)]) hx hb d_Share_queueByCuts_74 hl (k := 1) rfl (by rw [el1_3]; rfl) (by decide) rfl (fun ls hl => ?_)
  exact w_Share_queueByCuts_b77 ⟨hx, hb, hml, hown, hts, hK, hA⟩ hret hk4 _ _ _ h H locs ls (lv_sub hl [1, 0, 2] rfl) hP hD hS
set_option maxHeartbeats 4000000 in
set_option maxRecDepth 100000 in
theorem w_Share_queueByCuts_b21 {p : Program} {l : Launch} {e : Env} {s : State} {m : MethodId} {args : Array Value} {below : List Frame} {meth : Method} {c : Code} {Q : State → Prop} {A : Nat → Prop} {D : va_G} {cI cL cZ : ClassId} {a_this : Nat} {a_points : Nat} {a_cuts : Nat} {a_queue : Nat} {o_owners : Nat} {o_takes : Nat} {o_bases : Nat} {o_ranked : Nat} {o_starts : Nat} {o_numbers : Nat} {o_walk : Nat} {i_order : Int32} {i_next : Int32} {v_points : Nat → Int32} {v_cuts : Nat → Int32} {N : Nat} {res : Int32 × (Nat → Int32)} {k4 : Int32 → Int32 → (Nat → Int32) → Option (Int32 × (Nat → Int32))} (C : Cx p s m args c b_Share_queueByCuts 4 "PrefixMill$Share" D [(cI, .int), (cL, .long), (cZ, .boolean)] A) (hret : E_Share_queueByCuts p l e s m args below meth c Q A D cI cL cZ a_this a_points a_cuts a_queue o_owners o_takes o_bases o_ranked o_starts o_numbers o_walk i_order i_next v_points v_cuts res) (hk4 : I_Share_queueByCuts_b4 p l e s m args below meth c Q A D cI cL cZ a_this a_points a_cuts a_queue o_owners o_takes o_bases o_ranked o_starts o_numbers o_walk i_order i_next v_points v_cuts res k4) : ∀ z : Nat, I_Share_queueByCuts_b21 p l e s m args below meth c Q A D cI cL cZ a_this a_points a_cuts a_queue o_owners o_takes o_bases o_ranked o_starts o_numbers o_walk i_order i_next v_points v_cuts res (f_Share_queueByCuts_b21 N v_points v_cuts k4 z) := by
  obtain ⟨hx, hb, hml, hown, hts, hK, hA⟩ := C
  intro z
  induction z with
  | zero => intro l1 l2 l3 v_queue h; cases h
  | succ z ih =>
    intro l1 l2 l3 v_queue h H locs ls hl hP hD hS
    refine lv_iload_n hx hb d_Share_queueByCuts_21 rfl (lv_at hl 3 rfl) ?_
    refine lv_if_le (tgt := 67) hx hb d_Share_queueByCuts_22 (by decide) (fun c_1 => ?_) (fun c_1 => ?_)
    · replace h := if_t h c_1
      exact w_Share_queueByCuts_b67 ⟨hx, hb, hml, hown, hts, hK, hA⟩ hret hk4 _ _ _ _ h H locs ls (lv_sub hl [0, 1, 2, 3] rfl) hP hD hS
    · replace h := if_f h c_1
      refine lv_aload_n hx hb d_Share_queueByCuts_25 rfl (lv_at hl 0 rfl) ?_
      refine va_get hx hb hts in_Share hown hK hP 0 rfl rfl 1 (by decide) (hts _ m_212) (fun _ h9 => h9) rfl d_Share_queueByCuts_26 ?_
      refine lv_aload_n hx hb d_Share_queueByCuts_29 rfl (lv_at hl 0 rfl) ?_
      refine va_get hx hb hts in_Share hown hK hP 0 rfl rfl 2 (by decide) (hts _ m_213) (fun _ h9 => h9) rfl d_Share_queueByCuts_30 ?_
      refine lv_iload_n hx hb d_Share_queueByCuts_33 rfl (lv_at hl 3 rfl) ?_
      refine lv_iconst (v := 1) hx hb d_Share_queueByCuts_34 (by decide) ?_
      refine lv_isub hx hb d_Share_queueByCuts_35 ?_
      obtain ⟨g_2, h⟩ := ck_s h
      refine va_iald hx hb hK hP 3 0 rfl rfl (inb_s g_2) d_Share_queueByCuts_36 ?_
      obtain ⟨g_3, h⟩ := ck_s h
      refine va_iald hx hb hK hP 2 0 rfl rfl (inb_s g_3) d_Share_queueByCuts_37 ?_
      refine lv_aload_n hx hb d_Share_queueByCuts_38 rfl (lv_at hl 0 rfl) ?_
      refine va_get hx hb hts in_Share hown hK hP 0 rfl rfl 1 (by decide) (hts _ m_212) (fun _ h9 => h9) rfl d_Share_queueByCuts_39 ?_
      refine lv_iload_n hx hb d_Share_queueByCuts_42 rfl (lv_at hl 2 rfl) ?_
      obtain ⟨g_4, h⟩ := ck_s h
      refine va_iald hx hb hK hP 2 0 rfl rfl (inb_s g_4) d_Share_queueByCuts_43 ?_
      refine lv_icmp_ge (tgt := 67) hx hb d_Share_queueByCuts_44 (by decide) (fun c_5 => ?_) (fun c_5 => ?_)
      · replace h := if_t h c_5
        exact w_Share_queueByCuts_b67 ⟨hx, hb, hml, hown, hts, hK, hA⟩ hret hk4 _ _ _ _ h H locs ls (lv_sub hl [0, 1, 2, 3] rfl) hP hD hS
      · replace h := if_f h c_5
        refine lv_aload_n hx hb d_Share_queueByCuts_47 rfl (lv_at hl 0 rfl) ?_
        refine va_get hx hb hts in_Share hown hK hP 0 rfl rfl 2 (by decide) (hts _ m_213) (fun _ h9 => h9) rfl d_Share_queueByCuts_48 ?_
        refine lv_iload_n hx hb d_Share_queueByCuts_51 rfl (lv_at hl 3 rfl) ?_
        refine lv_aload_n hx hb d_Share_queueByCuts_52 rfl (lv_at hl 0 rfl) ?_
        refine va_get hx hb hts in_Share hown hK hP 0 rfl rfl 2 (by decide) (hts _ m_213) (fun _ h9 => h9) rfl d_Share_queueByCuts_53 ?_
        refine lv_iload_n hx hb d_Share_queueByCuts_56 rfl (lv_at hl 3 rfl) ?_
        refine lv_iconst (v := 1) hx hb d_Share_queueByCuts_57 (by decide) ?_
        refine lv_isub hx hb d_Share_queueByCuts_58 ?_
        obtain ⟨g_6, h⟩ := ck_s h
        refine va_iald hx hb hK hP 3 0 rfl rfl (inb_s g_6) d_Share_queueByCuts_59 ?_
        obtain ⟨g_7, h⟩ := ck_s h
        refine va_iast hx hb hK hP hD hS 3 0 rfl rfl (inb_s g_7) d_Share_queueByCuts_60 (fun H locs hP hD hS => ?_)
        obtain ⟨v_queue_8, ev_queue_8⟩ : ∃ y, y = (upd v_queue (Int32.toNatClampNeg l3) (v_queue (Int32.toNatClampNeg (l3 - 1)))) := ⟨_, rfl⟩
        replace h := nm_s h ev_queue_8
        have hP : va_P D classes [(a_this, .inr (6, [.ref a_points, .ref a_cuts, .ref a_queue, .ref o_owners, .ref o_takes, .ref o_bases, .ref o_ranked, .ref o_starts, .ref o_numbers, .ref o_walk, .int i_order, .int i_next])), (a_points, .inl (cI, 12, .inl v_points)), (a_cuts, .inl (cI, 12, .inl v_cuts)), (a_queue, .inl (cI, 12, .inl v_queue_8))] H := by rw [ev_queue_8]; exact hP
        have hD : va_D A [(a_this, .inr (6, [.ref a_points, .ref a_cuts, .ref a_queue, .ref o_owners, .ref o_takes, .ref o_bases, .ref o_ranked, .ref o_starts, .ref o_numbers, .ref o_walk, .int i_order, .int i_next])), (a_points, .inl (cI, 12, .inl v_points)), (a_cuts, .inl (cI, 12, .inl v_cuts)), (a_queue, .inl (cI, 12, .inl v_queue_8))] := by rw [ev_queue_8]; exact hD
        obtain ⟨l3_9, el3_9⟩ : ∃ y : Int32, y = l3 + (-1) := ⟨_, rfl⟩
        replace h := nm_s h el3_9
        refine lv_iinc (v := l3_9) (lv' := [(3, .int l3_9), (0, .ref a_this), (1, .int l1), (2, .int l2)]) hx hb d_Share_queueByCuts_61 hl (k := 3) rfl (by rw [el3_9]; rfl) (by decide) rfl (fun ls hl => ?_)
        refine lv_goto (tgt := 21) hx hb d_Share_queueByCuts_64 (by decide) ?_
        exact ih _ _ _ _ h H locs ls (lv_sub hl [1, 2, 3, 0] rfl) hP hD hS
set_option maxHeartbeats 4000000 in
set_option maxRecDepth 100000 in
theorem w_Share_queueByCuts_b83 {p : Program} {l : Launch} {e : Env} {s : State} {m : MethodId} {args : Array Value} {below : List Frame} {meth : Method} {c : Code} {Q : State → Prop} {A : Nat → Prop} {D : va_G} {cI cL cZ : ClassId} {a_this : Nat} {a_points : Nat} {a_cuts : Nat} {a_queue : Nat} {o_owners : Nat} {o_takes : Nat} {o_bases : Nat} {o_ranked : Nat} {o_starts : Nat} {o_numbers : Nat} {o_walk : Nat} {i_order : Int32} {i_next : Int32} {v_points : Nat → Int32} {v_cuts : Nat → Int32} {N : Nat} {res : Int32 × (Nat → Int32)}  (C : Cx p s m args c b_Share_queueByCuts 4 "PrefixMill$Share" D [(cI, .int), (cL, .long), (cZ, .boolean)] A) (hret : E_Share_queueByCuts p l e s m args below meth c Q A D cI cL cZ a_this a_points a_cuts a_queue o_owners o_takes o_bases o_ranked o_starts o_numbers o_walk i_order i_next v_points v_cuts res)  : I_Share_queueByCuts_b83 p l e s m args below meth c Q A D cI cL cZ a_this a_points a_cuts a_queue o_owners o_takes o_bases o_ranked o_starts o_numbers o_walk i_order i_next v_points v_cuts res (f_Share_queueByCuts_b83 N v_points v_cuts ) := by
  obtain ⟨hx, hb, hml, hown, hts, hK, hA⟩ := C
  intro l1 v_queue h H locs ls hl hP hD hS
  unfold f_Share_queueByCuts_b83 at h
  refine lv_iload_n hx hb d_Share_queueByCuts_83 rfl (lv_at hl 0 rfl) ?_
  exact hret _ _ _ _ l1 v_queue h d_Share_queueByCuts_84 hP hD hS
set_option maxHeartbeats 4000000 in
set_option maxRecDepth 100000 in
theorem w_Share_queueByCuts_b4 {p : Program} {l : Launch} {e : Env} {s : State} {m : MethodId} {args : Array Value} {below : List Frame} {meth : Method} {c : Code} {Q : State → Prop} {A : Nat → Prop} {D : va_G} {cI cL cZ : ClassId} {a_this : Nat} {a_points : Nat} {a_cuts : Nat} {a_queue : Nat} {o_owners : Nat} {o_takes : Nat} {o_bases : Nat} {o_ranked : Nat} {o_starts : Nat} {o_numbers : Nat} {o_walk : Nat} {i_order : Int32} {i_next : Int32} {v_points : Nat → Int32} {v_cuts : Nat → Int32} {N : Nat} {res : Int32 × (Nat → Int32)}  (C : Cx p s m args c b_Share_queueByCuts 4 "PrefixMill$Share" D [(cI, .int), (cL, .long), (cZ, .boolean)] A) (hret : E_Share_queueByCuts p l e s m args below meth c Q A D cI cL cZ a_this a_points a_cuts a_queue o_owners o_takes o_bases o_ranked o_starts o_numbers o_walk i_order i_next v_points v_cuts res)  : ∀ z : Nat, I_Share_queueByCuts_b4 p l e s m args below meth c Q A D cI cL cZ a_this a_points a_cuts a_queue o_owners o_takes o_bases o_ranked o_starts o_numbers o_walk i_order i_next v_points v_cuts res (f_Share_queueByCuts_b4 N v_points v_cuts  z) := by
  obtain ⟨hx, hb, hml, hown, hts, hK, hA⟩ := C
  intro z
  induction z with
  | zero => intro l1 l2 v_queue h; cases h
  | succ z ih =>
    intro l1 l2 v_queue h H locs ls hl hP hD hS
    refine lv_iload_n hx hb d_Share_queueByCuts_4 rfl (lv_at hl 2 rfl) ?_
    refine lv_bipush (v := 12) hx hb d_Share_queueByCuts_5 (by decide) ?_
    refine lv_icmp_ge (tgt := 83) hx hb d_Share_queueByCuts_7 (by decide) (fun c_1 => ?_) (fun c_1 => ?_)
    · replace h := if_t h c_1
      exact w_Share_queueByCuts_b83 ⟨hx, hb, hml, hown, hts, hK, hA⟩ hret  _ _ h H locs ls (lv_sub hl [1] rfl) hP hD hS
    · replace h := if_f h c_1
      refine lv_aload_n hx hb d_Share_queueByCuts_10 rfl (lv_at hl 0 rfl) ?_
      refine va_get hx hb hts in_Share hown hK hP 0 rfl rfl 0 (by decide) (hts _ m_211) (fun _ h9 => h9) rfl d_Share_queueByCuts_11 ?_
      refine lv_iload_n hx hb d_Share_queueByCuts_14 rfl (lv_at hl 2 rfl) ?_
      obtain ⟨g_2, h⟩ := ck_s h
      refine va_iald hx hb hK hP 1 0 rfl rfl (inb_s g_2) d_Share_queueByCuts_15 ?_
      refine lv_if_le (tgt := 77) hx hb d_Share_queueByCuts_16 (by decide) (fun c_3 => ?_) (fun c_3 => ?_)
      · replace h := if_t h c_3
        exact w_Share_queueByCuts_b77 ⟨hx, hb, hml, hown, hts, hK, hA⟩ hret ih _ _ _ h H locs ls (lv_sub hl [0, 1, 2] rfl) hP hD hS
      · replace h := if_f h c_3
        refine lv_iload_n hx hb d_Share_queueByCuts_19 rfl (lv_at hl 1 rfl) ?_
        refine lv_istore_n (lv' := [(3, .int l1), (0, .ref a_this), (1, .int l1), (2, .int l2)]) hx hb d_Share_queueByCuts_20 rfl hl (by decide) rfl (fun ls hl => ?_)
        exact w_Share_queueByCuts_b21 ⟨hx, hb, hml, hown, hts, hK, hA⟩ hret ih N _ _ _ _ h H locs ls (lv_sub hl [1, 2, 3, 0] rfl) hP hD hS
set_option maxHeartbeats 4000000 in
set_option maxRecDepth 100000 in
theorem w_Share_queueByCuts_b0 {p : Program} {l : Launch} {e : Env} {s : State} {m : MethodId} {args : Array Value} {below : List Frame} {meth : Method} {c : Code} {Q : State → Prop} {A : Nat → Prop} {D : va_G} {cI cL cZ : ClassId} {a_this : Nat} {a_points : Nat} {a_cuts : Nat} {a_queue : Nat} {o_owners : Nat} {o_takes : Nat} {o_bases : Nat} {o_ranked : Nat} {o_starts : Nat} {o_numbers : Nat} {o_walk : Nat} {i_order : Int32} {i_next : Int32} {v_points : Nat → Int32} {v_cuts : Nat → Int32} {N : Nat} {res : Int32 × (Nat → Int32)}  (C : Cx p s m args c b_Share_queueByCuts 4 "PrefixMill$Share" D [(cI, .int), (cL, .long), (cZ, .boolean)] A) (hret : E_Share_queueByCuts p l e s m args below meth c Q A D cI cL cZ a_this a_points a_cuts a_queue o_owners o_takes o_bases o_ranked o_starts o_numbers o_walk i_order i_next v_points v_cuts res)  : I_Share_queueByCuts_b0 p l e s m args below meth c Q A D cI cL cZ a_this a_points a_cuts a_queue o_owners o_takes o_bases o_ranked o_starts o_numbers o_walk i_order i_next v_points v_cuts res (f_Share_queueByCuts N v_points v_cuts ) := by
  obtain ⟨hx, hb, hml, hown, hts, hK, hA⟩ := C
  intro v_queue h H locs ls hl hP hD hS
  unfold f_Share_queueByCuts at h
  refine lv_iconst (v := 0) hx hb d_Share_queueByCuts_0 (by decide) ?_
  refine lv_istore_n (lv' := [(1, .int 0), (0, .ref a_this)]) hx hb d_Share_queueByCuts_1 rfl hl (by decide) rfl (fun ls hl => ?_)
  refine lv_iconst (v := 0) hx hb d_Share_queueByCuts_2 (by decide) ?_
  refine lv_istore_n (lv' := [(2, .int 0), (1, .int 0), (0, .ref a_this)]) hx hb d_Share_queueByCuts_3 rfl hl (by decide) rfl (fun ls hl => ?_)
  exact w_Share_queueByCuts_b4 ⟨hx, hb, hml, hown, hts, hK, hA⟩ hret  N _ _ _ h H locs ls (lv_sub hl [2, 1, 0] rfl) hP hD hS
set_option maxHeartbeats 4000000 in
set_option maxRecDepth 100000 in
theorem c_Share_queueByCuts (l : Launch) (D : va_G) (cI cL cZ : ClassId) (sz N : Nat) (a_this : Nat) (a_points : Nat) (a_cuts : Nat) (a_queue : Nat) (o_owners : Nat) (o_takes : Nat) (o_bases : Nat) (o_ranked : Nat) (o_starts : Nat) (o_numbers : Nat) (o_walk : Nat) (i_order : Int32) (i_next : Int32) (v_points : Nat → Int32) (v_cuts : Nat → Int32) (v_queue : Nat → Int32) (rv : Int32) (v_queue' : Nat → Int32) (h : f_Share_queueByCuts N v_points v_cuts v_queue = some (rv, v_queue')) : Met l ({ cls := "PrefixMill$Share", name := "queueByCuts", desc := "()I" } : Jvm.MethodName) ws_Share_queueByCuts R_Share_queueByCuts (va_Pc [.ref a_this] (fun U => U.heap.size = sz ∧ va_P D classes [(a_this, .inr (6, [.ref a_points, .ref a_cuts, .ref a_queue, .ref o_owners, .ref o_takes, .ref o_bases, .ref o_ranked, .ref o_starts, .ref o_numbers, .ref o_walk, .int i_order, .int i_next])), (a_points, .inl (cI, 12, .inl v_points)), (a_cuts, .inl (cI, 12, .inl v_cuts)), (a_queue, .inl (cI, 12, .inl v_queue))] U.heap ∧ va_K D classes [(cI, .int), (cL, .long), (cZ, .boolean)] U ∧ va_D (fun _ => True) [(a_this, .inr (6, [.ref a_points, .ref a_cuts, .ref a_queue, .ref o_owners, .ref o_takes, .ref o_bases, .ref o_ranked, .ref o_starts, .ref o_numbers, .ref o_walk, .int i_order, .int i_next])), (a_points, .inl (cI, 12, .inl v_points)), (a_cuts, .inl (cI, 12, .inl v_cuts)), (a_queue, .inl (cI, 12, .inl v_queue))])) (va_Qi (fun (r0 : Int32) (_ : Unit) => rv = r0) (fun _ t => va_P D classes [(a_this, .inr (6, [.ref a_points, .ref a_cuts, .ref a_queue, .ref o_owners, .ref o_takes, .ref o_bases, .ref o_ranked, .ref o_starts, .ref o_numbers, .ref o_walk, .int i_order, .int i_next])), (a_points, .inl (cI, 12, .inl v_points)), (a_cuts, .inl (cI, 12, .inl v_cuts)), (a_queue, .inl (cI, 12, .inl v_queue'))] t.heap ∧ va_K D classes [(cI, .int), (cL, .long), (cZ, .boolean)] t ∧ va_D (va_A [(a_this, .inr (6, [.ref a_points, .ref a_cuts, .ref a_queue, .ref o_owners, .ref o_takes, .ref o_bases, .ref o_ranked, .ref o_starts, .ref o_numbers, .ref o_walk, .int i_order, .int i_next])), (a_points, .inl (cI, 12, .inl v_points)), (a_cuts, .inl (cI, 12, .inl v_cuts)), (a_queue, .inl (cI, 12, .inl v_queue))] sz) [(a_this, .inr (6, [.ref a_points, .ref a_cuts, .ref a_queue, .ref o_owners, .ref o_takes, .ref o_bases, .ref o_ranked, .ref o_starts, .ref o_numbers, .ref o_walk, .int i_order, .int i_next])), (a_points, .inl (cI, 12, .inl v_points)), (a_cuts, .inl (cI, 12, .inl v_cuts)), (a_queue, .inl (cI, 12, .inl v_queue'))]) (va_A [(a_this, .inr (6, [.ref a_points, .ref a_cuts, .ref a_queue, .ref o_owners, .ref o_takes, .ref o_bases, .ref o_ranked, .ref o_starts, .ref o_numbers, .ref o_walk, .int i_order, .int i_next])), (a_points, .inl (cI, 12, .inl v_points)), (a_cuts, .inl (cI, 12, .inl v_cuts)), (a_queue, .inl (cI, 12, .inl v_queue))] sz)) 0 0 (va_A [(a_this, .inr (6, [.ref a_points, .ref a_cuts, .ref a_queue, .ref o_owners, .ref o_takes, .ref o_bases, .ref o_ranked, .ref o_starts, .ref o_numbers, .ref o_walk, .int i_order, .int i_next])), (a_points, .inl (cI, 12, .inl v_points)), (a_cuts, .inl (cI, 12, .inl v_cuts)), (a_queue, .inl (cI, 12, .inl v_queue))] sz) := by
  refine Met.ofW (cc := b_Share_queueByCuts) (maxL := 4) (ret := (some .int)) (by decide) rfl ?_
  intro p e s m args below meth c s₁ B hml hv
  obtain ⟨rfl, hsz, hP, hK, hD0⟩ := hv
  have hx := B.exec
  have hb := B.bytes
  have hr := B.returns
  have hts0 := atoms_spec (ws := ws_Share_queueByCuts) B.pre
  have hts := gd_tl hts0
  clear hts0
  have hown : s.vm.findClass "PrefixMill$Share" = some m.cls := findClass_of_methodNamed B.named
  have hlocks := B.notSynchronized
  subst hsz
  have hD := hD0.self (sz := s.heap.size)
  generalize hAe : va_A [(a_this, .inr (6, [.ref a_points, .ref a_cuts, .ref a_queue, .ref o_owners, .ref o_takes, .ref o_bases, .ref o_ranked, .ref o_starts, .ref o_numbers, .ref o_walk, .int i_order, .int i_next])), (a_points, .inl (cI, 12, .inl v_points)), (a_cuts, .inl (cI, 12, .inl v_cuts)), (a_queue, .inl (cI, 12, .inl v_queue))] s.heap.size = A at hD ⊢
  have hA : ∀ q : Nat, s.heap.size ≤ q → A q := fun q h => by rw [← hAe]; exact Or.inr h
  have hS : va_S A s.heap s.heap [] := va_S.rf
  have hP : va_P D classes [(a_this, .inr (6, [.ref a_points, .ref a_cuts, .ref a_queue, .ref o_owners, .ref o_takes, .ref o_bases, .ref o_ranked, .ref o_starts, .ref o_numbers, .ref o_walk, .int i_order, .int i_next])), (a_points, .inl (cI, 12, .inl v_points)), (a_cuts, .inl (cI, 12, .inl v_cuts)), (a_queue, .inl (cI, 12, .inl v_queue))] s.heap := hP
  have hl := lv_entry ([.ref a_this]) (n := 4) (Nat.le_of_ble_eq_true rfl)
  rw [lg_entry_eq]
  generalize (lg_sl ([.ref a_this]) ++ List.replicate (4 - (lg_sl ([.ref a_this])).length) Slot.unset).toArray = ls at hl ⊢
  have hl : lv_has ls 4 [(0, .ref a_this)] := hl
  have C : Cx p s m ([.ref a_this] : List Value).toArray c b_Share_queueByCuts 4 "PrefixMill$Share" D [(cI, .int), (cL, .long), (cZ, .boolean)] A := ⟨hx, hb, hml, hown, hts, hK, hA⟩
  refine w_Share_queueByCuts_b0 (res := (rv, v_queue')) C ?_ _ h s.heap [] ls hl hP hD hS
  intro pc9 H9 locs9 ls9 rv9 v_queue9 e9 d9 hP9 hD9 hS9
  cases e9
  exact W.iret (v := rv) hx hb hr (fun t ht hW => ⟨⟨rv, (), rfl, rfl, by rw [ht]; exact hP9, va_K.moved hW.alike hK, hD9⟩, hS9.F ht⟩) hS9.2.2 d9
