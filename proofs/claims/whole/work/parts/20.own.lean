abbrev b_Reader_takeRow : ByteArray := prog_4_method_4_code
def ws_Reader_takeRow : List Cond := .code ({ cls := "PrefixMill$Reader", name := "takeRow", desc := "(LPrefixMill$Row;I)Z" } : Jvm.MethodName) b_Reader_takeRow 6 (some .boolean) :: tt
theorem d_Reader_takeRow_0 : decode b_Reader_takeRow 0 = .ok (.aload_n 0, 1) := by decide +kernel
theorem d_Reader_takeRow_1 : decode b_Reader_takeRow 1 = .ok (.getfield 12, 3) := by decide +kernel
theorem d_Reader_takeRow_4 : decode b_Reader_takeRow 4 = .ok (.aload_n 1, 1) := by decide +kernel
theorem d_Reader_takeRow_5 : decode b_Reader_takeRow 5 = .ok (.iload_n 2, 1) := by decide +kernel
theorem d_Reader_takeRow_6 : decode b_Reader_takeRow 6 = .ok (.aload_n 0, 1) := by decide +kernel
theorem d_Reader_takeRow_7 : decode b_Reader_takeRow 7 = .ok (.getfield 38, 3) := by decide +kernel
theorem d_Reader_takeRow_10 : decode b_Reader_takeRow 10 = .ok (.invokevirtual 64, 3) := by decide +kernel
theorem d_Reader_takeRow_13 : decode b_Reader_takeRow 13 = .ok (.ifCond .eq 22, 3) := by decide +kernel
theorem d_Reader_takeRow_16 : decode b_Reader_takeRow 16 = .ok (.aload_n 0, 1) := by decide +kernel
theorem d_Reader_takeRow_17 : decode b_Reader_takeRow 17 = .ok (.getfield 12, 3) := by decide +kernel
theorem d_Reader_takeRow_20 : decode b_Reader_takeRow 20 = .ok (.getfield 68, 3) := by decide +kernel
theorem d_Reader_takeRow_23 : decode b_Reader_takeRow 23 = .ok (.iconst 2, 1) := by decide +kernel
theorem d_Reader_takeRow_24 : decode b_Reader_takeRow 24 = .ok (.aload_n 0, 1) := by decide +kernel
theorem d_Reader_takeRow_25 : decode b_Reader_takeRow 25 = .ok (.getfield 21, 3) := by decide +kernel
theorem d_Reader_takeRow_28 : decode b_Reader_takeRow 28 = .ok (.getfield 71, 3) := by decide +kernel
theorem d_Reader_takeRow_31 : decode b_Reader_takeRow 31 = .ok (.imul, 1) := by decide +kernel
theorem d_Reader_takeRow_32 : decode b_Reader_takeRow 32 = .ok (.if_icmp .ge 5, 3) := by decide +kernel
theorem d_Reader_takeRow_35 : decode b_Reader_takeRow 35 = .ok (.iconst 0, 1) := by decide +kernel
theorem d_Reader_takeRow_36 : decode b_Reader_takeRow 36 = .ok (.ireturn, 1) := by decide +kernel
theorem d_Reader_takeRow_37 : decode b_Reader_takeRow 37 = .ok (.aload_n 0, 1) := by decide +kernel
theorem d_Reader_takeRow_38 : decode b_Reader_takeRow 38 = .ok (.getfield 12, 3) := by decide +kernel
theorem d_Reader_takeRow_41 : decode b_Reader_takeRow 41 = .ok (.aload_n 1, 1) := by decide +kernel
theorem d_Reader_takeRow_42 : decode b_Reader_takeRow 42 = .ok (.aload_n 0, 1) := by decide +kernel
theorem d_Reader_takeRow_43 : decode b_Reader_takeRow 43 = .ok (.getfield 21, 3) := by decide +kernel
theorem d_Reader_takeRow_46 : decode b_Reader_takeRow 46 = .ok (.getfield 71, 3) := by decide +kernel
theorem d_Reader_takeRow_49 : decode b_Reader_takeRow 49 = .ok (.invokevirtual 74, 3) := by decide +kernel
theorem d_Reader_takeRow_52 : decode b_Reader_takeRow 52 = .ok (.istore_n 3, 1) := by decide +kernel
theorem d_Reader_takeRow_53 : decode b_Reader_takeRow 53 = .ok (.aload_n 0, 1) := by decide +kernel
theorem d_Reader_takeRow_54 : decode b_Reader_takeRow 54 = .ok (.getfield 12, 3) := by decide +kernel
theorem d_Reader_takeRow_57 : decode b_Reader_takeRow 57 = .ok (.aload_n 1, 1) := by decide +kernel
theorem d_Reader_takeRow_58 : decode b_Reader_takeRow 58 = .ok (.aload_n 0, 1) := by decide +kernel
theorem d_Reader_takeRow_59 : decode b_Reader_takeRow 59 = .ok (.getfield 21, 3) := by decide +kernel
theorem d_Reader_takeRow_62 : decode b_Reader_takeRow 62 = .ok (.getfield 71, 3) := by decide +kernel
theorem d_Reader_takeRow_65 : decode b_Reader_takeRow 65 = .ok (.invokevirtual 74, 3) := by decide +kernel
theorem d_Reader_takeRow_68 : decode b_Reader_takeRow 68 = .ok (.istore 4, 2) := by decide +kernel
theorem d_Reader_takeRow_70 : decode b_Reader_takeRow 70 = .ok (.aload_n 0, 1) := by decide +kernel
theorem d_Reader_takeRow_71 : decode b_Reader_takeRow 71 = .ok (.iconst 1, 1) := by decide +kernel
theorem d_Reader_takeRow_72 : decode b_Reader_takeRow 72 = .ok (.putfield 61, 3) := by decide +kernel
theorem d_Reader_takeRow_75 : decode b_Reader_takeRow 75 = .ok (.aload_n 0, 1) := by decide +kernel
theorem d_Reader_takeRow_76 : decode b_Reader_takeRow 76 = .ok (.getfield 61, 3) := by decide +kernel
theorem d_Reader_takeRow_79 : decode b_Reader_takeRow 79 = .ok (.sipush 255, 3) := by decide +kernel
theorem d_Reader_takeRow_82 : decode b_Reader_takeRow 82 = .ok (.if_icmp .ge 122, 3) := by decide +kernel
theorem d_Reader_takeRow_85 : decode b_Reader_takeRow 85 = .ok (.aload_n 0, 1) := by decide +kernel
theorem d_Reader_takeRow_86 : decode b_Reader_takeRow 86 = .ok (.getfield 25, 3) := by decide +kernel
theorem d_Reader_takeRow_89 : decode b_Reader_takeRow 89 = .ok (.aload_n 0, 1) := by decide +kernel
theorem d_Reader_takeRow_90 : decode b_Reader_takeRow 90 = .ok (.getfield 61, 3) := by decide +kernel
theorem d_Reader_takeRow_93 : decode b_Reader_takeRow 93 = .ok (.iconst 1, 1) := by decide +kernel
theorem d_Reader_takeRow_94 : decode b_Reader_takeRow 94 = .ok (.isub, 1) := by decide +kernel
theorem d_Reader_takeRow_95 : decode b_Reader_takeRow 95 = .ok (.aload_n 0, 1) := by decide +kernel
theorem d_Reader_takeRow_96 : decode b_Reader_takeRow 96 = .ok (.getfield 21, 3) := by decide +kernel
theorem d_Reader_takeRow_99 : decode b_Reader_takeRow 99 = .ok (.getfield 77, 3) := by decide +kernel
theorem d_Reader_takeRow_102 : decode b_Reader_takeRow 102 = .ok (.iload_n 3, 1) := by decide +kernel
theorem d_Reader_takeRow_103 : decode b_Reader_takeRow 103 = .ok (.iaload, 1) := by decide +kernel
theorem d_Reader_takeRow_104 : decode b_Reader_takeRow 104 = .ok (.iastore, 1) := by decide +kernel
theorem d_Reader_takeRow_105 : decode b_Reader_takeRow 105 = .ok (.aload_n 0, 1) := by decide +kernel
theorem d_Reader_takeRow_106 : decode b_Reader_takeRow 106 = .ok (.getfield 12, 3) := by decide +kernel
theorem d_Reader_takeRow_109 : decode b_Reader_takeRow 109 = .ok (.getfield 68, 3) := by decide +kernel
theorem d_Reader_takeRow_112 : decode b_Reader_takeRow 112 = .ok (.aload_n 0, 1) := by decide +kernel
theorem d_Reader_takeRow_113 : decode b_Reader_takeRow 113 = .ok (.getfield 21, 3) := by decide +kernel
theorem d_Reader_takeRow_116 : decode b_Reader_takeRow 116 = .ok (.getfield 80, 3) := by decide +kernel
theorem d_Reader_takeRow_119 : decode b_Reader_takeRow 119 = .ok (.iload_n 3, 1) := by decide +kernel
theorem d_Reader_takeRow_120 : decode b_Reader_takeRow 120 = .ok (.iaload, 1) := by decide +kernel
theorem d_Reader_takeRow_121 : decode b_Reader_takeRow 121 = .ok (.if_icmp .ge 34, 3) := by decide +kernel
theorem d_Reader_takeRow_124 : decode b_Reader_takeRow 124 = .ok (.aload_n 0, 1) := by decide +kernel
theorem d_Reader_takeRow_125 : decode b_Reader_takeRow 125 = .ok (.getfield 25, 3) := by decide +kernel
theorem d_Reader_takeRow_128 : decode b_Reader_takeRow 128 = .ok (.aload_n 0, 1) := by decide +kernel
theorem d_Reader_takeRow_129 : decode b_Reader_takeRow 129 = .ok (.getfield 61, 3) := by decide +kernel
theorem d_Reader_takeRow_132 : decode b_Reader_takeRow 132 = .ok (.aload_n 0, 1) := by decide +kernel
theorem d_Reader_takeRow_133 : decode b_Reader_takeRow 133 = .ok (.getfield 21, 3) := by decide +kernel
theorem d_Reader_takeRow_136 : decode b_Reader_takeRow 136 = .ok (.getfield 77, 3) := by decide +kernel
theorem d_Reader_takeRow_139 : decode b_Reader_takeRow 139 = .ok (.iload 4, 2) := by decide +kernel
theorem d_Reader_takeRow_141 : decode b_Reader_takeRow 141 = .ok (.iaload, 1) := by decide +kernel
theorem d_Reader_takeRow_142 : decode b_Reader_takeRow 142 = .ok (.iastore, 1) := by decide +kernel
theorem d_Reader_takeRow_143 : decode b_Reader_takeRow 143 = .ok (.aload_n 0, 1) := by decide +kernel
theorem d_Reader_takeRow_144 : decode b_Reader_takeRow 144 = .ok (.dup, 1) := by decide +kernel
theorem d_Reader_takeRow_145 : decode b_Reader_takeRow 145 = .ok (.getfield 61, 3) := by decide +kernel
theorem d_Reader_takeRow_148 : decode b_Reader_takeRow 148 = .ok (.iconst 1, 1) := by decide +kernel
theorem d_Reader_takeRow_149 : decode b_Reader_takeRow 149 = .ok (.iadd, 1) := by decide +kernel
theorem d_Reader_takeRow_150 : decode b_Reader_takeRow 150 = .ok (.putfield 61, 3) := by decide +kernel
theorem d_Reader_takeRow_153 : decode b_Reader_takeRow 153 = .ok (.iconst 1, 1) := by decide +kernel
theorem d_Reader_takeRow_154 : decode b_Reader_takeRow 154 = .ok (.ireturn, 1) := by decide +kernel
theorem d_Reader_takeRow_155 : decode b_Reader_takeRow 155 = .ok (.aload_n 0, 1) := by decide +kernel
theorem d_Reader_takeRow_156 : decode b_Reader_takeRow 156 = .ok (.getfield 21, 3) := by decide +kernel
theorem d_Reader_takeRow_159 : decode b_Reader_takeRow 159 = .ok (.getfield 83, 3) := by decide +kernel
theorem d_Reader_takeRow_162 : decode b_Reader_takeRow 162 = .ok (.iload_n 3, 1) := by decide +kernel
theorem d_Reader_takeRow_163 : decode b_Reader_takeRow 163 = .ok (.iaload, 1) := by decide +kernel
theorem d_Reader_takeRow_164 : decode b_Reader_takeRow 164 = .ok (.aload_n 0, 1) := by decide +kernel
theorem d_Reader_takeRow_165 : decode b_Reader_takeRow 165 = .ok (.getfield 12, 3) := by decide +kernel
theorem d_Reader_takeRow_168 : decode b_Reader_takeRow 168 = .ok (.aload_n 1, 1) := by decide +kernel
theorem d_Reader_takeRow_169 : decode b_Reader_takeRow 169 = .ok (.aload_n 0, 1) := by decide +kernel
theorem d_Reader_takeRow_170 : decode b_Reader_takeRow 170 = .ok (.getfield 21, 3) := by decide +kernel
theorem d_Reader_takeRow_173 : decode b_Reader_takeRow 173 = .ok (.getfield 80, 3) := by decide +kernel
theorem d_Reader_takeRow_176 : decode b_Reader_takeRow 176 = .ok (.iload_n 3, 1) := by decide +kernel
theorem d_Reader_takeRow_177 : decode b_Reader_takeRow 177 = .ok (.iaload, 1) := by decide +kernel
theorem d_Reader_takeRow_178 : decode b_Reader_takeRow 178 = .ok (.invokevirtual 74, 3) := by decide +kernel
theorem d_Reader_takeRow_181 : decode b_Reader_takeRow 181 = .ok (.iadd, 1) := by decide +kernel
theorem d_Reader_takeRow_182 : decode b_Reader_takeRow 182 = .ok (.istore 5, 2) := by decide +kernel
theorem d_Reader_takeRow_184 : decode b_Reader_takeRow 184 = .ok (.iload 4, 2) := by decide +kernel
theorem d_Reader_takeRow_186 : decode b_Reader_takeRow 186 = .ok (.istore_n 3, 1) := by decide +kernel
theorem d_Reader_takeRow_187 : decode b_Reader_takeRow 187 = .ok (.iload 5, 2) := by decide +kernel
theorem d_Reader_takeRow_189 : decode b_Reader_takeRow 189 = .ok (.istore 4, 2) := by decide +kernel
theorem d_Reader_takeRow_191 : decode b_Reader_takeRow 191 = .ok (.aload_n 0, 1) := by decide +kernel
theorem d_Reader_takeRow_192 : decode b_Reader_takeRow 192 = .ok (.dup, 1) := by decide +kernel
theorem d_Reader_takeRow_193 : decode b_Reader_takeRow 193 = .ok (.getfield 61, 3) := by decide +kernel
theorem d_Reader_takeRow_196 : decode b_Reader_takeRow 196 = .ok (.iconst 1, 1) := by decide +kernel
theorem d_Reader_takeRow_197 : decode b_Reader_takeRow 197 = .ok (.iadd, 1) := by decide +kernel
theorem d_Reader_takeRow_198 : decode b_Reader_takeRow 198 = .ok (.putfield 61, 3) := by decide +kernel
theorem d_Reader_takeRow_201 : decode b_Reader_takeRow 201 = .ok (.goto (-126), 3) := by decide +kernel
theorem d_Reader_takeRow_204 : decode b_Reader_takeRow 204 = .ok (.iconst 0, 1) := by decide +kernel
theorem d_Reader_takeRow_205 : decode b_Reader_takeRow 205 = .ok (.ireturn, 1) := by decide +kernel
def f_Reader_takeRow_b35 (N : Nat) (i_end : Int32) (i_share_order : Int32) (v_share_owners : Nat → Int32) (v_share_takes : Nat → Int32) (v_share_bases : Nat → Int32) (i_p1_used : Int32) (n_p1_words : Nat) (v_p1_words : Nat → Int64) (l2 : Int32)  (i_known : Int32) (i_tail_first : Int32) (i_tail_left : Int32) (v_weights : Nat → Int32) : Option (Int32 × Int32 × Int32 × Int32 × (Nat → Int32)) :=
  some (0, i_known, i_tail_first, i_tail_left, v_weights)
def f_Reader_takeRow_b124 (N : Nat) (i_end : Int32) (i_share_order : Int32) (v_share_owners : Nat → Int32) (v_share_takes : Nat → Int32) (v_share_bases : Nat → Int32) (i_p1_used : Int32) (n_p1_words : Nat) (v_p1_words : Nat → Int64) (l2 : Int32)  (l4 : Int32) (i_known : Int32) (i_tail_first : Int32) (i_tail_left : Int32) (v_weights : Nat → Int32) : Option (Int32 × Int32 × Int32 × Int32 × (Nat → Int32)) :=
  ck (inb l4 64) <|
  ck (inb i_known 256) <|
  nm (upd v_weights (Int32.toNatClampNeg i_known) (v_share_owners (Int32.toNatClampNeg l4))) fun v_weights_3 =>
  nm (i_known + 1) fun i_known_4 =>
  some (1, i_known_4, i_tail_first, i_tail_left, v_weights_3)
def f_Reader_takeRow_b204 (N : Nat) (i_end : Int32) (i_share_order : Int32) (v_share_owners : Nat → Int32) (v_share_takes : Nat → Int32) (v_share_bases : Nat → Int32) (i_p1_used : Int32) (n_p1_words : Nat) (v_p1_words : Nat → Int64) (l2 : Int32)  (i_known : Int32) (i_tail_first : Int32) (i_tail_left : Int32) (v_weights : Nat → Int32) : Option (Int32 × Int32 × Int32 × Int32 × (Nat → Int32)) :=
  some (0, i_known, i_tail_first, i_tail_left, v_weights)
def f_Reader_takeRow_b75 (N : Nat) (i_end : Int32) (i_share_order : Int32) (v_share_owners : Nat → Int32) (v_share_takes : Nat → Int32) (v_share_bases : Nat → Int32) (i_p1_used : Int32) (n_p1_words : Nat) (v_p1_words : Nat → Int64) (l2 : Int32)  : Nat → Int32 → Int32 → Int32 → Int32 → Int32 → (Nat → Int32) → Option (Int32 × Int32 × Int32 × Int32 × (Nat → Int32))
  | 0, _, _, _, _, _, _ => none
  | z + 1, l3, l4, i_known, i_tail_first, i_tail_left, v_weights =>
  if 255 ≤ i_known then
  f_Reader_takeRow_b204 N i_end i_share_order v_share_owners v_share_takes v_share_bases i_p1_used n_p1_words v_p1_words l2  i_known i_tail_first i_tail_left v_weights
  else
  ck (inb l3 64) <|
  ck (inb (i_known - 1) 256) <|
  nm (upd v_weights (Int32.toNatClampNeg (i_known - 1)) (v_share_owners (Int32.toNatClampNeg l3))) fun v_weights_4 =>
  ck (inb l3 64) <|
  if (v_share_takes (Int32.toNatClampNeg l3)) ≤ i_tail_left then
  ck (inb l3 64) <|
  ck (inb l3 64) <|
  bd2 (f_Tail_take N i_tail_first i_p1_used n_p1_words v_p1_words (v_share_takes (Int32.toNatClampNeg l3)) i_tail_left) fun r_9 i_tail_left_10 =>
  nm ((v_share_bases (Int32.toNatClampNeg l3)) + r_9) fun l5_12 =>
  nm (i_known + 1) fun i_known_13 =>
  f_Reader_takeRow_b75 N i_end i_share_order v_share_owners v_share_takes v_share_bases i_p1_used n_p1_words v_p1_words l2  z l4 l5_12 i_known_13 i_tail_first i_tail_left_10 v_weights_4
  else
  f_Reader_takeRow_b124 N i_end i_share_order v_share_owners v_share_takes v_share_bases i_p1_used n_p1_words v_p1_words l2  l4 i_known i_tail_first i_tail_left v_weights_4
def f_Reader_takeRow (N : Nat) (i_end : Int32) (i_share_order : Int32) (v_share_owners : Nat → Int32) (v_share_takes : Nat → Int32) (v_share_bases : Nat → Int32) (i_p1_used : Int32) (n_p1_words : Nat) (v_p1_words : Nat → Int64) (l2 : Int32)  (i_known : Int32) (i_tail_first : Int32) (i_tail_left : Int32) (v_weights : Nat → Int32) : Option (Int32 × Int32 × Int32 × Int32 × (Nat → Int32)) :=
  bd3 (f_Tail_open N i_p1_used n_p1_words v_p1_words l2 i_end i_tail_first i_tail_left) fun r_1 i_tail_first_2 i_tail_left_3 =>
  if r_1 = 0 then
  f_Reader_takeRow_b35 N i_end i_share_order v_share_owners v_share_takes v_share_bases i_p1_used n_p1_words v_p1_words l2  i_known i_tail_first_2 i_tail_left_3 v_weights
  else
  if (2 * i_share_order) ≤ i_tail_left_3 then
  bd2 (f_Tail_take N i_tail_first_2 i_p1_used n_p1_words v_p1_words i_share_order i_tail_left_3) fun r_7 i_tail_left_8 =>
  bd2 (f_Tail_take N i_tail_first_2 i_p1_used n_p1_words v_p1_words i_share_order i_tail_left_8) fun r_10 i_tail_left_11 =>
  f_Reader_takeRow_b75 N i_end i_share_order v_share_owners v_share_takes v_share_bases i_p1_used n_p1_words v_p1_words l2  N r_7 r_10 1 i_tail_first_2 i_tail_left_11 v_weights
  else
  f_Reader_takeRow_b35 N i_end i_share_order v_share_owners v_share_takes v_share_bases i_p1_used n_p1_words v_p1_words l2  i_known i_tail_first_2 i_tail_left_3 v_weights
abbrev R_Reader_takeRow : Room := ({ frames := 4, cells := 0, slots := 0, locals := 90 } : Room)
def E_Reader_takeRow (p : Program) (l : Launch) (e : Env) (s : State) (m : MethodId) (args : Array Value) (below : List Frame) (meth : Method) (c : Code) (Q : State → Prop) (A : Nat → Prop) (D : va_G) (cI cL cZ : ClassId) (a_this : Nat) (a_tail : Nat) (a_share : Nat) (a_share_owners : Nat) (a_share_takes : Nat) (a_share_bases : Nat) (a_weights : Nat) (a_p1 : Nat) (a_p1_words : Nat) (o_lengths : Nat) (o_share_points : Nat) (o_share_cuts : Nat) (o_share_queue : Nat) (o_share_ranked : Nat) (o_share_starts : Nat) (o_share_numbers : Nat) (o_share_walk : Nat) (i_end : Int32) (i_share_order : Int32) (i_share_next : Int32) (v_share_owners : Nat → Int32) (v_share_takes : Nat → Int32) (v_share_bases : Nat → Int32) (i_p1_room : Int32) (i_p1_used : Int32) (i_p1_held : Int32) (i_p1_many : Int32) (n_p1_words : Nat) (v_p1_words : Nat → Int64) (l2 : Int32) (res : Int32 × Int32 × Int32 × Int32 × (Nat → Int32)) : Prop := ∀ (pc : Nat) (H : Heap) (locs : List Loc) (ls : Array Slot) (rv : Int32) (i_known : Int32) (i_tail_first : Int32) (i_tail_left : Int32) (v_weights : Nat → Int32), some (rv, i_known, i_tail_first, i_tail_left, v_weights) = some res → narrow .boolean (.int rv) = .int rv → decode b_Reader_takeRow pc = .ok (.ireturn, 1) → va_P D classes [(a_this, .inr (4, [.ref a_tail, .ref a_share, .ref a_weights, .ref o_lengths, .int i_known, .int i_end])), (a_tail, .inr (8, [.int i_tail_first, .int i_tail_left])), (a_share, .inr (6, [.ref o_share_points, .ref o_share_cuts, .ref o_share_queue, .ref a_share_owners, .ref a_share_takes, .ref a_share_bases, .ref o_share_ranked, .ref o_share_starts, .ref o_share_numbers, .ref o_share_walk, .int i_share_order, .int i_share_next])), (a_share_owners, .inl (cI, 64, .inl v_share_owners)), (a_share_takes, .inl (cI, 64, .inl v_share_takes)), (a_share_bases, .inl (cI, 64, .inl v_share_bases)), (a_weights, .inl (cI, 256, .inl v_weights)), (a_p1, .inr (5, [.ref a_p1_words, .int i_p1_room, .int i_p1_used, .int i_p1_held, .int i_p1_many])), (a_p1_words, .inl (cL, n_p1_words, .inr (.inl v_p1_words)))] H → va_D A [(a_this, .inr (4, [.ref a_tail, .ref a_share, .ref a_weights, .ref o_lengths, .int i_known, .int i_end])), (a_tail, .inr (8, [.int i_tail_first, .int i_tail_left])), (a_share, .inr (6, [.ref o_share_points, .ref o_share_cuts, .ref o_share_queue, .ref a_share_owners, .ref a_share_takes, .ref a_share_bases, .ref o_share_ranked, .ref o_share_starts, .ref o_share_numbers, .ref o_share_walk, .int i_share_order, .int i_share_next])), (a_share_owners, .inl (cI, 64, .inl v_share_owners)), (a_share_takes, .inl (cI, 64, .inl v_share_takes)), (a_share_bases, .inl (cI, 64, .inl v_share_bases)), (a_weights, .inl (cI, 256, .inl v_weights)), (a_p1, .inr (5, [.ref a_p1_words, .int i_p1_room, .int i_p1_used, .int i_p1_held, .int i_p1_many])), (a_p1_words, .inl (cL, n_p1_words, .inr (.inl v_p1_words)))] → va_S A s.heap H locs → W p l e R_Reader_takeRow s m args below meth c H locs 0 0 Q (F0 m pc ls [.int rv])
def I_Reader_takeRow_b35 (p : Program) (l : Launch) (e : Env) (s : State) (m : MethodId) (args : Array Value) (below : List Frame) (meth : Method) (c : Code) (Q : State → Prop) (A : Nat → Prop) (D : va_G) (cI cL cZ : ClassId) (a_this : Nat) (a_tail : Nat) (a_share : Nat) (a_share_owners : Nat) (a_share_takes : Nat) (a_share_bases : Nat) (a_weights : Nat) (a_p1 : Nat) (a_p1_words : Nat) (o_lengths : Nat) (o_share_points : Nat) (o_share_cuts : Nat) (o_share_queue : Nat) (o_share_ranked : Nat) (o_share_starts : Nat) (o_share_numbers : Nat) (o_share_walk : Nat) (i_end : Int32) (i_share_order : Int32) (i_share_next : Int32) (v_share_owners : Nat → Int32) (v_share_takes : Nat → Int32) (v_share_bases : Nat → Int32) (i_p1_room : Int32) (i_p1_used : Int32) (i_p1_held : Int32) (i_p1_many : Int32) (n_p1_words : Nat) (v_p1_words : Nat → Int64) (l2 : Int32) (res : Int32 × Int32 × Int32 × Int32 × (Nat → Int32)) (kf : Int32 → Int32 → Int32 → (Nat → Int32) → Option (Int32 × Int32 × Int32 × Int32 × (Nat → Int32))) : Prop := ∀ (i_known : Int32) (i_tail_first : Int32) (i_tail_left : Int32) (v_weights : Nat → Int32), kf i_known i_tail_first i_tail_left v_weights = some res → ∀ (H : Heap) (locs : List Loc) (ls : Array Slot), lv_has ls 6 [] → va_P D classes [(a_this, .inr (4, [.ref a_tail, .ref a_share, .ref a_weights, .ref o_lengths, .int i_known, .int i_end])), (a_tail, .inr (8, [.int i_tail_first, .int i_tail_left])), (a_share, .inr (6, [.ref o_share_points, .ref o_share_cuts, .ref o_share_queue, .ref a_share_owners, .ref a_share_takes, .ref a_share_bases, .ref o_share_ranked, .ref o_share_starts, .ref o_share_numbers, .ref o_share_walk, .int i_share_order, .int i_share_next])), (a_share_owners, .inl (cI, 64, .inl v_share_owners)), (a_share_takes, .inl (cI, 64, .inl v_share_takes)), (a_share_bases, .inl (cI, 64, .inl v_share_bases)), (a_weights, .inl (cI, 256, .inl v_weights)), (a_p1, .inr (5, [.ref a_p1_words, .int i_p1_room, .int i_p1_used, .int i_p1_held, .int i_p1_many])), (a_p1_words, .inl (cL, n_p1_words, .inr (.inl v_p1_words)))] H → va_D A [(a_this, .inr (4, [.ref a_tail, .ref a_share, .ref a_weights, .ref o_lengths, .int i_known, .int i_end])), (a_tail, .inr (8, [.int i_tail_first, .int i_tail_left])), (a_share, .inr (6, [.ref o_share_points, .ref o_share_cuts, .ref o_share_queue, .ref a_share_owners, .ref a_share_takes, .ref a_share_bases, .ref o_share_ranked, .ref o_share_starts, .ref o_share_numbers, .ref o_share_walk, .int i_share_order, .int i_share_next])), (a_share_owners, .inl (cI, 64, .inl v_share_owners)), (a_share_takes, .inl (cI, 64, .inl v_share_takes)), (a_share_bases, .inl (cI, 64, .inl v_share_bases)), (a_weights, .inl (cI, 256, .inl v_weights)), (a_p1, .inr (5, [.ref a_p1_words, .int i_p1_room, .int i_p1_used, .int i_p1_held, .int i_p1_many])), (a_p1_words, .inl (cL, n_p1_words, .inr (.inl v_p1_words)))] → va_S A s.heap H locs → W p l e R_Reader_takeRow s m args below meth c H locs 0 0 Q (F0 m 35 ls [])
def I_Reader_takeRow_b124 (p : Program) (l : Launch) (e : Env) (s : State) (m : MethodId) (args : Array Value) (below : List Frame) (meth : Method) (c : Code) (Q : State → Prop) (A : Nat → Prop) (D : va_G) (cI cL cZ : ClassId) (a_this : Nat) (a_tail : Nat) (a_share : Nat) (a_share_owners : Nat) (a_share_takes : Nat) (a_share_bases : Nat) (a_weights : Nat) (a_p1 : Nat) (a_p1_words : Nat) (o_lengths : Nat) (o_share_points : Nat) (o_share_cuts : Nat) (o_share_queue : Nat) (o_share_ranked : Nat) (o_share_starts : Nat) (o_share_numbers : Nat) (o_share_walk : Nat) (i_end : Int32) (i_share_order : Int32) (i_share_next : Int32) (v_share_owners : Nat → Int32) (v_share_takes : Nat → Int32) (v_share_bases : Nat → Int32) (i_p1_room : Int32) (i_p1_used : Int32) (i_p1_held : Int32) (i_p1_many : Int32) (n_p1_words : Nat) (v_p1_words : Nat → Int64) (l2 : Int32) (res : Int32 × Int32 × Int32 × Int32 × (Nat → Int32)) (kf : Int32 → Int32 → Int32 → Int32 → (Nat → Int32) → Option (Int32 × Int32 × Int32 × Int32 × (Nat → Int32))) : Prop := ∀ (l4 : Int32) (i_known : Int32) (i_tail_first : Int32) (i_tail_left : Int32) (v_weights : Nat → Int32), kf l4 i_known i_tail_first i_tail_left v_weights = some res → ∀ (H : Heap) (locs : List Loc) (ls : Array Slot), lv_has ls 6 [(0, .ref a_this), (4, .int l4)] → va_P D classes [(a_this, .inr (4, [.ref a_tail, .ref a_share, .ref a_weights, .ref o_lengths, .int i_known, .int i_end])), (a_tail, .inr (8, [.int i_tail_first, .int i_tail_left])), (a_share, .inr (6, [.ref o_share_points, .ref o_share_cuts, .ref o_share_queue, .ref a_share_owners, .ref a_share_takes, .ref a_share_bases, .ref o_share_ranked, .ref o_share_starts, .ref o_share_numbers, .ref o_share_walk, .int i_share_order, .int i_share_next])), (a_share_owners, .inl (cI, 64, .inl v_share_owners)), (a_share_takes, .inl (cI, 64, .inl v_share_takes)), (a_share_bases, .inl (cI, 64, .inl v_share_bases)), (a_weights, .inl (cI, 256, .inl v_weights)), (a_p1, .inr (5, [.ref a_p1_words, .int i_p1_room, .int i_p1_used, .int i_p1_held, .int i_p1_many])), (a_p1_words, .inl (cL, n_p1_words, .inr (.inl v_p1_words)))] H → va_D A [(a_this, .inr (4, [.ref a_tail, .ref a_share, .ref a_weights, .ref o_lengths, .int i_known, .int i_end])), (a_tail, .inr (8, [.int i_tail_first, .int i_tail_left])), (a_share, .inr (6, [.ref o_share_points, .ref o_share_cuts, .ref o_share_queue, .ref a_share_owners, .ref a_share_takes, .ref a_share_bases, .ref o_share_ranked, .ref o_share_starts, .ref o_share_numbers, .ref o_share_walk, .int i_share_order, .int i_share_next])), (a_share_owners, .inl (cI, 64, .inl v_share_owners)), (a_share_takes, .inl (cI, 64, .inl v_share_takes)), (a_share_bases, .inl (cI, 64, .inl v_share_bases)), (a_weights, .inl (cI, 256, .inl v_weights)), (a_p1, .inr (5, [.ref a_p1_words, .int i_p1_room, .int i_p1_used, .int i_p1_held, .int i_p1_many])), (a_p1_words, .inl (cL, n_p1_words, .inr (.inl v_p1_words)))] → va_S A s.heap H locs → W p l e R_Reader_takeRow s m args below meth c H locs 0 0 Q (F0 m 124 ls [])
def I_Reader_takeRow_b204 (p : Program) (l : Launch) (e : Env) (s : State) (m : MethodId) (args : Array Value) (below : List Frame) (meth : Method) (c : Code) (Q : State → Prop) (A : Nat → Prop) (D : va_G) (cI cL cZ : ClassId) (a_this : Nat) (a_tail : Nat) (a_share : Nat) (a_share_owners : Nat) (a_share_takes : Nat) (a_share_bases : Nat) (a_weights : Nat) (a_p1 : Nat) (a_p1_words : Nat) (o_lengths : Nat) (o_share_points : Nat) (o_share_cuts : Nat) (o_share_queue : Nat) (o_share_ranked : Nat) (o_share_starts : Nat) (o_share_numbers : Nat) (o_share_walk : Nat) (i_end : Int32) (i_share_order : Int32) (i_share_next : Int32) (v_share_owners : Nat → Int32) (v_share_takes : Nat → Int32) (v_share_bases : Nat → Int32) (i_p1_room : Int32) (i_p1_used : Int32) (i_p1_held : Int32) (i_p1_many : Int32) (n_p1_words : Nat) (v_p1_words : Nat → Int64) (l2 : Int32) (res : Int32 × Int32 × Int32 × Int32 × (Nat → Int32)) (kf : Int32 → Int32 → Int32 → (Nat → Int32) → Option (Int32 × Int32 × Int32 × Int32 × (Nat → Int32))) : Prop := ∀ (i_known : Int32) (i_tail_first : Int32) (i_tail_left : Int32) (v_weights : Nat → Int32), kf i_known i_tail_first i_tail_left v_weights = some res → ∀ (H : Heap) (locs : List Loc) (ls : Array Slot), lv_has ls 6 [] → va_P D classes [(a_this, .inr (4, [.ref a_tail, .ref a_share, .ref a_weights, .ref o_lengths, .int i_known, .int i_end])), (a_tail, .inr (8, [.int i_tail_first, .int i_tail_left])), (a_share, .inr (6, [.ref o_share_points, .ref o_share_cuts, .ref o_share_queue, .ref a_share_owners, .ref a_share_takes, .ref a_share_bases, .ref o_share_ranked, .ref o_share_starts, .ref o_share_numbers, .ref o_share_walk, .int i_share_order, .int i_share_next])), (a_share_owners, .inl (cI, 64, .inl v_share_owners)), (a_share_takes, .inl (cI, 64, .inl v_share_takes)), (a_share_bases, .inl (cI, 64, .inl v_share_bases)), (a_weights, .inl (cI, 256, .inl v_weights)), (a_p1, .inr (5, [.ref a_p1_words, .int i_p1_room, .int i_p1_used, .int i_p1_held, .int i_p1_many])), (a_p1_words, .inl (cL, n_p1_words, .inr (.inl v_p1_words)))] H → va_D A [(a_this, .inr (4, [.ref a_tail, .ref a_share, .ref a_weights, .ref o_lengths, .int i_known, .int i_end])), (a_tail, .inr (8, [.int i_tail_first, .int i_tail_left])), (a_share, .inr (6, [.ref o_share_points, .ref o_share_cuts, .ref o_share_queue, .ref a_share_owners, .ref a_share_takes, .ref a_share_bases, .ref o_share_ranked, .ref o_share_starts, .ref o_share_numbers, .ref o_share_walk, .int i_share_order, .int i_share_next])), (a_share_owners, .inl (cI, 64, .inl v_share_owners)), (a_share_takes, .inl (cI, 64, .inl v_share_takes)), (a_share_bases, .inl (cI, 64, .inl v_share_bases)), (a_weights, .inl (cI, 256, .inl v_weights)), (a_p1, .inr (5, [.ref a_p1_words, .int i_p1_room, .int i_p1_used, .int i_p1_held, .int i_p1_many])), (a_p1_words, .inl (cL, n_p1_words, .inr (.inl v_p1_words)))] → va_S A s.heap H locs → W p l e R_Reader_takeRow s m args below meth c H locs 0 0 Q (F0 m 204 ls [])
def I_Reader_takeRow_b75 (p : Program) (l : Launch) (e : Env) (s : State) (m : MethodId) (args : Array Value) (below : List Frame) (meth : Method) (c : Code) (Q : State → Prop) (A : Nat → Prop) (D : va_G) (cI cL cZ : ClassId) (a_this : Nat) (a_tail : Nat) (a_share : Nat) (a_share_owners : Nat) (a_share_takes : Nat) (a_share_bases : Nat) (a_weights : Nat) (a_p1 : Nat) (a_p1_words : Nat) (o_lengths : Nat) (o_share_points : Nat) (o_share_cuts : Nat) (o_share_queue : Nat) (o_share_ranked : Nat) (o_share_starts : Nat) (o_share_numbers : Nat) (o_share_walk : Nat) (i_end : Int32) (i_share_order : Int32) (i_share_next : Int32) (v_share_owners : Nat → Int32) (v_share_takes : Nat → Int32) (v_share_bases : Nat → Int32) (i_p1_room : Int32) (i_p1_used : Int32) (i_p1_held : Int32) (i_p1_many : Int32) (n_p1_words : Nat) (v_p1_words : Nat → Int64) (l2 : Int32) (res : Int32 × Int32 × Int32 × Int32 × (Nat → Int32)) (kf : Int32 → Int32 → Int32 → Int32 → Int32 → (Nat → Int32) → Option (Int32 × Int32 × Int32 × Int32 × (Nat → Int32))) : Prop := ∀ (l3 : Int32) (l4 : Int32) (i_known : Int32) (i_tail_first : Int32) (i_tail_left : Int32) (v_weights : Nat → Int32), kf l3 l4 i_known i_tail_first i_tail_left v_weights = some res → ∀ (H : Heap) (locs : List Loc) (ls : Array Slot), lv_has ls 6 [(0, .ref a_this), (1, .ref a_p1), (3, .int l3), (4, .int l4)] → va_P D classes [(a_this, .inr (4, [.ref a_tail, .ref a_share, .ref a_weights, .ref o_lengths, .int i_known, .int i_end])), (a_tail, .inr (8, [.int i_tail_first, .int i_tail_left])), (a_share, .inr (6, [.ref o_share_points, .ref o_share_cuts, .ref o_share_queue, .ref a_share_owners, .ref a_share_takes, .ref a_share_bases, .ref o_share_ranked, .ref o_share_starts, .ref o_share_numbers, .ref o_share_walk, .int i_share_order, .int i_share_next])), (a_share_owners, .inl (cI, 64, .inl v_share_owners)), (a_share_takes, .inl (cI, 64, .inl v_share_takes)), (a_share_bases, .inl (cI, 64, .inl v_share_bases)), (a_weights, .inl (cI, 256, .inl v_weights)), (a_p1, .inr (5, [.ref a_p1_words, .int i_p1_room, .int i_p1_used, .int i_p1_held, .int i_p1_many])), (a_p1_words, .inl (cL, n_p1_words, .inr (.inl v_p1_words)))] H → va_D A [(a_this, .inr (4, [.ref a_tail, .ref a_share, .ref a_weights, .ref o_lengths, .int i_known, .int i_end])), (a_tail, .inr (8, [.int i_tail_first, .int i_tail_left])), (a_share, .inr (6, [.ref o_share_points, .ref o_share_cuts, .ref o_share_queue, .ref a_share_owners, .ref a_share_takes, .ref a_share_bases, .ref o_share_ranked, .ref o_share_starts, .ref o_share_numbers, .ref o_share_walk, .int i_share_order, .int i_share_next])), (a_share_owners, .inl (cI, 64, .inl v_share_owners)), (a_share_takes, .inl (cI, 64, .inl v_share_takes)), (a_share_bases, .inl (cI, 64, .inl v_share_bases)), (a_weights, .inl (cI, 256, .inl v_weights)), (a_p1, .inr (5, [.ref a_p1_words, .int i_p1_room, .int i_p1_used, .int i_p1_held, .int i_p1_many])), (a_p1_words, .inl (cL, n_p1_words, .inr (.inl v_p1_words)))] → va_S A s.heap H locs → W p l e R_Reader_takeRow s m args below meth c H locs 0 0 Q (F0 m 75 ls [])
def I_Reader_takeRow_b0 (p : Program) (l : Launch) (e : Env) (s : State) (m : MethodId) (args : Array Value) (below : List Frame) (meth : Method) (c : Code) (Q : State → Prop) (A : Nat → Prop) (D : va_G) (cI cL cZ : ClassId) (a_this : Nat) (a_tail : Nat) (a_share : Nat) (a_share_owners : Nat) (a_share_takes : Nat) (a_share_bases : Nat) (a_weights : Nat) (a_p1 : Nat) (a_p1_words : Nat) (o_lengths : Nat) (o_share_points : Nat) (o_share_cuts : Nat) (o_share_queue : Nat) (o_share_ranked : Nat) (o_share_starts : Nat) (o_share_numbers : Nat) (o_share_walk : Nat) (i_end : Int32) (i_share_order : Int32) (i_share_next : Int32) (v_share_owners : Nat → Int32) (v_share_takes : Nat → Int32) (v_share_bases : Nat → Int32) (i_p1_room : Int32) (i_p1_used : Int32) (i_p1_held : Int32) (i_p1_many : Int32) (n_p1_words : Nat) (v_p1_words : Nat → Int64) (l2 : Int32) (res : Int32 × Int32 × Int32 × Int32 × (Nat → Int32)) (kf : Int32 → Int32 → Int32 → (Nat → Int32) → Option (Int32 × Int32 × Int32 × Int32 × (Nat → Int32))) : Prop := ∀ (i_known : Int32) (i_tail_first : Int32) (i_tail_left : Int32) (v_weights : Nat → Int32), kf i_known i_tail_first i_tail_left v_weights = some res → ∀ (H : Heap) (locs : List Loc) (ls : Array Slot), lv_has ls 6 [(0, .ref a_this), (1, .ref a_p1), (2, .int l2)] → va_P D classes [(a_this, .inr (4, [.ref a_tail, .ref a_share, .ref a_weights, .ref o_lengths, .int i_known, .int i_end])), (a_tail, .inr (8, [.int i_tail_first, .int i_tail_left])), (a_share, .inr (6, [.ref o_share_points, .ref o_share_cuts, .ref o_share_queue, .ref a_share_owners, .ref a_share_takes, .ref a_share_bases, .ref o_share_ranked, .ref o_share_starts, .ref o_share_numbers, .ref o_share_walk, .int i_share_order, .int i_share_next])), (a_share_owners, .inl (cI, 64, .inl v_share_owners)), (a_share_takes, .inl (cI, 64, .inl v_share_takes)), (a_share_bases, .inl (cI, 64, .inl v_share_bases)), (a_weights, .inl (cI, 256, .inl v_weights)), (a_p1, .inr (5, [.ref a_p1_words, .int i_p1_room, .int i_p1_used, .int i_p1_held, .int i_p1_many])), (a_p1_words, .inl (cL, n_p1_words, .inr (.inl v_p1_words)))] H → va_D A [(a_this, .inr (4, [.ref a_tail, .ref a_share, .ref a_weights, .ref o_lengths, .int i_known, .int i_end])), (a_tail, .inr (8, [.int i_tail_first, .int i_tail_left])), (a_share, .inr (6, [.ref o_share_points, .ref o_share_cuts, .ref o_share_queue, .ref a_share_owners, .ref a_share_takes, .ref a_share_bases, .ref o_share_ranked, .ref o_share_starts, .ref o_share_numbers, .ref o_share_walk, .int i_share_order, .int i_share_next])), (a_share_owners, .inl (cI, 64, .inl v_share_owners)), (a_share_takes, .inl (cI, 64, .inl v_share_takes)), (a_share_bases, .inl (cI, 64, .inl v_share_bases)), (a_weights, .inl (cI, 256, .inl v_weights)), (a_p1, .inr (5, [.ref a_p1_words, .int i_p1_room, .int i_p1_used, .int i_p1_held, .int i_p1_many])), (a_p1_words, .inl (cL, n_p1_words, .inr (.inl v_p1_words)))] → va_S A s.heap H locs → W p l e R_Reader_takeRow s m args below meth c H locs 0 0 Q (F0 m 0 ls [])
set_option maxHeartbeats 4000000 in
set_option maxRecDepth 100000 in
theorem w_Reader_takeRow_b35 {p : Program} {l : Launch} {e : Env} {s : State} {m : MethodId} {args : Array Value} {below : List Frame} {meth : Method} {c : Code} {Q : State → Prop} {A : Nat → Prop} {D : va_G} {cI cL cZ : ClassId} {a_this : Nat} {a_tail : Nat} {a_share : Nat} {a_share_owners : Nat} {a_share_takes : Nat} {a_share_bases : Nat} {a_weights : Nat} {a_p1 : Nat} {a_p1_words : Nat} {o_lengths : Nat} {o_share_points : Nat} {o_share_cuts : Nat} {o_share_queue : Nat} {o_share_ranked : Nat} {o_share_starts : Nat} {o_share_numbers : Nat} {o_share_walk : Nat} {i_end : Int32} {i_share_order : Int32} {i_share_next : Int32} {v_share_owners : Nat → Int32} {v_share_takes : Nat → Int32} {v_share_bases : Nat → Int32} {i_p1_room : Int32} {i_p1_used : Int32} {i_p1_held : Int32} {i_p1_many : Int32} {n_p1_words : Nat} {v_p1_words : Nat → Int64} {l2 : Int32} {N : Nat} {res : Int32 × Int32 × Int32 × Int32 × (Nat → Int32)}  (C : Cx p s m args c b_Reader_takeRow 6 "PrefixMill$Reader" D [(cI, .int), (cL, .long), (cZ, .boolean)] A) (hret : E_Reader_takeRow p l e s m args below meth c Q A D cI cL cZ a_this a_tail a_share a_share_owners a_share_takes a_share_bases a_weights a_p1 a_p1_words o_lengths o_share_points o_share_cuts o_share_queue o_share_ranked o_share_starts o_share_numbers o_share_walk i_end i_share_order i_share_next v_share_owners v_share_takes v_share_bases i_p1_room i_p1_used i_p1_held i_p1_many n_p1_words v_p1_words l2 res)  : I_Reader_takeRow_b35 p l e s m args below meth c Q A D cI cL cZ a_this a_tail a_share a_share_owners a_share_takes a_share_bases a_weights a_p1 a_p1_words o_lengths o_share_points o_share_cuts o_share_queue o_share_ranked o_share_starts o_share_numbers o_share_walk i_end i_share_order i_share_next v_share_owners v_share_takes v_share_bases i_p1_room i_p1_used i_p1_held i_p1_many n_p1_words v_p1_words l2 res (f_Reader_takeRow_b35 N i_end i_share_order v_share_owners v_share_takes v_share_bases i_p1_used n_p1_words v_p1_words l2 ) := by
  obtain ⟨hx, hb, hml, hown, hts, hK, hA⟩ := C
  intro i_known i_tail_first i_tail_left v_weights h H locs ls hl hP hD hS
  unfold f_Reader_takeRow_b35 at h
  refine lv_iconst (v := 0) hx hb d_Reader_takeRow_35 (by decide) ?_
  exact hret _ _ _ _ 0 i_known i_tail_first i_tail_left v_weights h rfl d_Reader_takeRow_36 hP hD hS
set_option maxHeartbeats 4000000 in
set_option maxRecDepth 100000 in
theorem w_Reader_takeRow_b124 {p : Program} {l : Launch} {e : Env} {s : State} {m : MethodId} {args : Array Value} {below : List Frame} {meth : Method} {c : Code} {Q : State → Prop} {A : Nat → Prop} {D : va_G} {cI cL cZ : ClassId} {a_this : Nat} {a_tail : Nat} {a_share : Nat} {a_share_owners : Nat} {a_share_takes : Nat} {a_share_bases : Nat} {a_weights : Nat} {a_p1 : Nat} {a_p1_words : Nat} {o_lengths : Nat} {o_share_points : Nat} {o_share_cuts : Nat} {o_share_queue : Nat} {o_share_ranked : Nat} {o_share_starts : Nat} {o_share_numbers : Nat} {o_share_walk : Nat} {i_end : Int32} {i_share_order : Int32} {i_share_next : Int32} {v_share_owners : Nat → Int32} {v_share_takes : Nat → Int32} {v_share_bases : Nat → Int32} {i_p1_room : Int32} {i_p1_used : Int32} {i_p1_held : Int32} {i_p1_many : Int32} {n_p1_words : Nat} {v_p1_words : Nat → Int64} {l2 : Int32} {N : Nat} {res : Int32 × Int32 × Int32 × Int32 × (Nat → Int32)}  (C : Cx p s m args c b_Reader_takeRow 6 "PrefixMill$Reader" D [(cI, .int), (cL, .long), (cZ, .boolean)] A) (hret : E_Reader_takeRow p l e s m args below meth c Q A D cI cL cZ a_this a_tail a_share a_share_owners a_share_takes a_share_bases a_weights a_p1 a_p1_words o_lengths o_share_points o_share_cuts o_share_queue o_share_ranked o_share_starts o_share_numbers o_share_walk i_end i_share_order i_share_next v_share_owners v_share_takes v_share_bases i_p1_room i_p1_used i_p1_held i_p1_many n_p1_words v_p1_words l2 res)  : I_Reader_takeRow_b124 p l e s m args below meth c Q A D cI cL cZ a_this a_tail a_share a_share_owners a_share_takes a_share_bases a_weights a_p1 a_p1_words o_lengths o_share_points o_share_cuts o_share_queue o_share_ranked o_share_starts o_share_numbers o_share_walk i_end i_share_order i_share_next v_share_owners v_share_takes v_share_bases i_p1_room i_p1_used i_p1_held i_p1_many n_p1_words v_p1_words l2 res (f_Reader_takeRow_b124 N i_end i_share_order v_share_owners v_share_takes v_share_bases i_p1_used n_p1_words v_p1_words l2 ) := by
  obtain ⟨hx, hb, hml, hown, hts, hK, hA⟩ := C
  intro l4 i_known i_tail_first i_tail_left v_weights h H locs ls hl hP hD hS
  unfold f_Reader_takeRow_b124 at h
  refine lv_aload_n hx hb d_Reader_takeRow_124 rfl (lv_at hl 0 rfl) ?_
  refine va_get hx hb hts in_Reader hown hK hP 0 rfl rfl 2 (by decide) (hts _ m_303) (fun _ h9 => h9) rfl d_Reader_takeRow_125 ?_
  refine lv_aload_n hx hb d_Reader_takeRow_128 rfl (lv_at hl 0 rfl) ?_
  refine va_get hx hb hts in_Reader hown hK hP 0 rfl rfl 4 (by decide) (hts _ m_306) (fun _ h9 => h9) rfl d_Reader_takeRow_129 ?_
  refine lv_aload_n hx hb d_Reader_takeRow_132 rfl (lv_at hl 0 rfl) ?_
  refine va_get hx hb hts in_Reader hown hK hP 0 rfl rfl 1 (by decide) (hts _ m_302) (fun _ h9 => h9) rfl d_Reader_takeRow_133 ?_
  refine va_getN hx hb hts in_Share hown hK hP 2 rfl rfl 3 (by decide) (hts _ m_215) (fun _ h9 => h9) rfl d_Reader_takeRow_136 ?_
  refine lv_iload hx hb d_Reader_takeRow_139 (lv_at hl 1 rfl) ?_
  obtain ⟨g_1, h⟩ := ck_s h
  refine va_iald hx hb hK hP 3 0 rfl rfl (inb_s g_1) d_Reader_takeRow_141 ?_
  obtain ⟨g_2, h⟩ := ck_s h
  refine va_iast hx hb hK hP hD hS 6 0 rfl rfl (inb_s g_2) d_Reader_takeRow_142 (fun H locs hP hD hS => ?_)
  obtain ⟨v_weights_3, ev_weights_3⟩ : ∃ y, y = (upd v_weights (Int32.toNatClampNeg i_known) (v_share_owners (Int32.toNatClampNeg l4))) := ⟨_, rfl⟩
  replace h := nm_s h ev_weights_3
  have hP : va_P D classes [(a_this, .inr (4, [.ref a_tail, .ref a_share, .ref a_weights, .ref o_lengths, .int i_known, .int i_end])), (a_tail, .inr (8, [.int i_tail_first, .int i_tail_left])), (a_share, .inr (6, [.ref o_share_points, .ref o_share_cuts, .ref o_share_queue, .ref a_share_owners, .ref a_share_takes, .ref a_share_bases, .ref o_share_ranked, .ref o_share_starts, .ref o_share_numbers, .ref o_share_walk, .int i_share_order, .int i_share_next])), (a_share_owners, .inl (cI, 64, .inl v_share_owners)), (a_share_takes, .inl (cI, 64, .inl v_share_takes)), (a_share_bases, .inl (cI, 64, .inl v_share_bases)), (a_weights, .inl (cI, 256, .inl v_weights_3)), (a_p1, .inr (5, [.ref a_p1_words, .int i_p1_room, .int i_p1_used, .int i_p1_held, .int i_p1_many])), (a_p1_words, .inl (cL, n_p1_words, .inr (.inl v_p1_words)))] H := by rw [ev_weights_3]; exact hP
  have hD : va_D A [(a_this, .inr (4, [.ref a_tail, .ref a_share, .ref a_weights, .ref o_lengths, .int i_known, .int i_end])), (a_tail, .inr (8, [.int i_tail_first, .int i_tail_left])), (a_share, .inr (6, [.ref o_share_points, .ref o_share_cuts, .ref o_share_queue, .ref a_share_owners, .ref a_share_takes, .ref a_share_bases, .ref o_share_ranked, .ref o_share_starts, .ref o_share_numbers, .ref o_share_walk, .int i_share_order, .int i_share_next])), (a_share_owners, .inl (cI, 64, .inl v_share_owners)), (a_share_takes, .inl (cI, 64, .inl v_share_takes)), (a_share_bases, .inl (cI, 64, .inl v_share_bases)), (a_weights, .inl (cI, 256, .inl v_weights_3)), (a_p1, .inr (5, [.ref a_p1_words, .int i_p1_room, .int i_p1_used, .int i_p1_held, .int i_p1_many])), (a_p1_words, .inl (cL, n_p1_words, .inr (.inl v_p1_words)))] := by rw [ev_weights_3]; exact hD
  refine lv_aload_n hx hb d_Reader_takeRow_143 rfl (lv_at hl 0 rfl) ?_
  refine lv_dup hx hb d_Reader_takeRow_144 rfl ?_
  refine va_get hx hb hts in_Reader hown hK hP 0 rfl rfl 4 (by decide) (hts _ m_306) (fun _ h9 => h9) rfl d_Reader_takeRow_145 ?_
  refine lv_iconst (v := 1) hx hb d_Reader_takeRow_148 (by decide) ?_
  refine lv_iadd hx hb d_Reader_takeRow_149 ?_
  refine lv_topi (fun i_known_4 ei_known_4 => ?_)
  replace h := nm_s h ei_known_4
  refine va_put (v := .int i_known_4) (ty := .int) hx hb hts in_Reader t_Reader t_Reader_ok n_Reader hown hK hP hD hS 0 rfl rfl 4 (by decide) (hts _ m_306) (fun _ h9 => h9) rfl (by decide +kernel) rfl rfl (Nat.le_of_ble_eq_true rfl) d_Reader_takeRow_150 (fun H locs hP hD hS => ?_)
  have hP : va_P D classes [(a_this, .inr (4, [.ref a_tail, .ref a_share, .ref a_weights, .ref o_lengths, .int i_known_4, .int i_end])), (a_tail, .inr (8, [.int i_tail_first, .int i_tail_left])), (a_share, .inr (6, [.ref o_share_points, .ref o_share_cuts, .ref o_share_queue, .ref a_share_owners, .ref a_share_takes, .ref a_share_bases, .ref o_share_ranked, .ref o_share_starts, .ref o_share_numbers, .ref o_share_walk, .int i_share_order, .int i_share_next])), (a_share_owners, .inl (cI, 64, .inl v_share_owners)), (a_share_takes, .inl (cI, 64, .inl v_share_takes)), (a_share_bases, .inl (cI, 64, .inl v_share_bases)), (a_weights, .inl (cI, 256, .inl v_weights_3)), (a_p1, .inr (5, [.ref a_p1_words, .int i_p1_room, .int i_p1_used, .int i_p1_held, .int i_p1_many])), (a_p1_words, .inl (cL, n_p1_words, .inr (.inl v_p1_words)))] H := by exact hP
  have hD : va_D A [(a_this, .inr (4, [.ref a_tail, .ref a_share, .ref a_weights, .ref o_lengths, .int i_known_4, .int i_end])), (a_tail, .inr (8, [.int i_tail_first, .int i_tail_left])), (a_share, .inr (6, [.ref o_share_points, .ref o_share_cuts, .ref o_share_queue, .ref a_share_owners, .ref a_share_takes, .ref a_share_bases, .ref o_share_ranked, .ref o_share_starts, .ref o_share_numbers, .ref o_share_walk, .int i_share_order, .int i_share_next])), (a_share_owners, .inl (cI, 64, .inl v_share_owners)), (a_share_takes, .inl (cI, 64, .inl v_share_takes)), (a_share_bases, .inl (cI, 64, .inl v_share_bases)), (a_weights, .inl (cI, 256, .inl v_weights_3)), (a_p1, .inr (5, [.ref a_p1_words, .int i_p1_room, .int i_p1_used, .int i_p1_held, .int i_p1_many])), (a_p1_words, .inl (cL, n_p1_words, .inr (.inl v_p1_words)))] := by exact hD
  refine lv_iconst (v := 1) hx hb d_Reader_takeRow_153 (by decide) ?_
  exact hret _ _ _ _ 1 i_known_4 i_tail_first i_tail_left v_weights_3 h rfl d_Reader_takeRow_154 hP hD hS
set_option maxHeartbeats 4000000 in
set_option maxRecDepth 100000 in
theorem w_Reader_takeRow_b204 {p : Program} {l : Launch} {e : Env} {s : State} {m : MethodId} {args : Array Value} {below : List Frame} {meth : Method} {c : Code} {Q : State → Prop} {A : Nat → Prop} {D : va_G} {cI cL cZ : ClassId} {a_this : Nat} {a_tail : Nat} {a_share : Nat} {a_share_owners : Nat} {a_share_takes : Nat} {a_share_bases : Nat} {a_weights : Nat} {a_p1 : Nat} {a_p1_words : Nat} {o_lengths : Nat} {o_share_points : Nat} {o_share_cuts : Nat} {o_share_queue : Nat} {o_share_ranked : Nat} {o_share_starts : Nat} {o_share_numbers : Nat} {o_share_walk : Nat} {i_end : Int32} {i_share_order : Int32} {i_share_next : Int32} {v_share_owners : Nat → Int32} {v_share_takes : Nat → Int32} {v_share_bases : Nat → Int32} {i_p1_room : Int32} {i_p1_used : Int32} {i_p1_held : Int32} {i_p1_many : Int32} {n_p1_words : Nat} {v_p1_words : Nat → Int64} {l2 : Int32} {N : Nat} {res : Int32 × Int32 × Int32 × Int32 × (Nat → Int32)}  (C : Cx p s m args c b_Reader_takeRow 6 "PrefixMill$Reader" D [(cI, .int), (cL, .long), (cZ, .boolean)] A) (hret : E_Reader_takeRow p l e s m args below meth c Q A D cI cL cZ a_this a_tail a_share a_share_owners a_share_takes a_share_bases a_weights a_p1 a_p1_words o_lengths o_share_points o_share_cuts o_share_queue o_share_ranked o_share_starts o_share_numbers o_share_walk i_end i_share_order i_share_next v_share_owners v_share_takes v_share_bases i_p1_room i_p1_used i_p1_held i_p1_many n_p1_words v_p1_words l2 res)  : I_Reader_takeRow_b204 p l e s m args below meth c Q A D cI cL cZ a_this a_tail a_share a_share_owners a_share_takes a_share_bases a_weights a_p1 a_p1_words o_lengths o_share_points o_share_cuts o_share_queue o_share_ranked o_share_starts o_share_numbers o_share_walk i_end i_share_order i_share_next v_share_owners v_share_takes v_share_bases i_p1_room i_p1_used i_p1_held i_p1_many n_p1_words v_p1_words l2 res (f_Reader_takeRow_b204 N i_end i_share_order v_share_owners v_share_takes v_share_bases i_p1_used n_p1_words v_p1_words l2 ) := by
  obtain ⟨hx, hb, hml, hown, hts, hK, hA⟩ := C
  intro i_known i_tail_first i_tail_left v_weights h H locs ls hl hP hD hS
  unfold f_Reader_takeRow_b204 at h
  refine lv_iconst (v := 0) hx hb d_Reader_takeRow_204 (by decide) ?_
  exact hret _ _ _ _ 0 i_known i_tail_first i_tail_left v_weights h rfl d_Reader_takeRow_205 hP hD hS
set_option maxHeartbeats 4000000 in
set_option maxRecDepth 100000 in
theorem w_Reader_takeRow_b75 {p : Program} {l : Launch} {e : Env} {s : State} {m : MethodId} {args : Array Value} {below : List Frame} {meth : Method} {c : Code} {Q : State → Prop} {A : Nat → Prop} {D : va_G} {cI cL cZ : ClassId} {a_this : Nat} {a_tail : Nat} {a_share : Nat} {a_share_owners : Nat} {a_share_takes : Nat} {a_share_bases : Nat} {a_weights : Nat} {a_p1 : Nat} {a_p1_words : Nat} {o_lengths : Nat} {o_share_points : Nat} {o_share_cuts : Nat} {o_share_queue : Nat} {o_share_ranked : Nat} {o_share_starts : Nat} {o_share_numbers : Nat} {o_share_walk : Nat} {i_end : Int32} {i_share_order : Int32} {i_share_next : Int32} {v_share_owners : Nat → Int32} {v_share_takes : Nat → Int32} {v_share_bases : Nat → Int32} {i_p1_room : Int32} {i_p1_used : Int32} {i_p1_held : Int32} {i_p1_many : Int32} {n_p1_words : Nat} {v_p1_words : Nat → Int64} {l2 : Int32} {N : Nat} {res : Int32 × Int32 × Int32 × Int32 × (Nat → Int32)}  (C : Cx p s m args c b_Reader_takeRow 6 "PrefixMill$Reader" D [(cI, .int), (cL, .long), (cZ, .boolean)] A) (hret : E_Reader_takeRow p l e s m args below meth c Q A D cI cL cZ a_this a_tail a_share a_share_owners a_share_takes a_share_bases a_weights a_p1 a_p1_words o_lengths o_share_points o_share_cuts o_share_queue o_share_ranked o_share_starts o_share_numbers o_share_walk i_end i_share_order i_share_next v_share_owners v_share_takes v_share_bases i_p1_room i_p1_used i_p1_held i_p1_many n_p1_words v_p1_words l2 res)  : ∀ z : Nat, I_Reader_takeRow_b75 p l e s m args below meth c Q A D cI cL cZ a_this a_tail a_share a_share_owners a_share_takes a_share_bases a_weights a_p1 a_p1_words o_lengths o_share_points o_share_cuts o_share_queue o_share_ranked o_share_starts o_share_numbers o_share_walk i_end i_share_order i_share_next v_share_owners v_share_takes v_share_bases i_p1_room i_p1_used i_p1_held i_p1_many n_p1_words v_p1_words l2 res (f_Reader_takeRow_b75 N i_end i_share_order v_share_owners v_share_takes v_share_bases i_p1_used n_p1_words v_p1_words l2  z) := by
  obtain ⟨hx, hb, hml, hown, hts, hK, hA⟩ := C
  intro z
  induction z with
  | zero => intro l3 l4 i_known i_tail_first i_tail_left v_weights h; cases h
  | succ z ih =>
    intro l3 l4 i_known i_tail_first i_tail_left v_weights h H locs ls hl hP hD hS
    refine lv_aload_n hx hb d_Reader_takeRow_75 rfl (lv_at hl 0 rfl) ?_
    refine va_get hx hb hts in_Reader hown hK hP 0 rfl rfl 4 (by decide) (hts _ m_306) (fun _ h9 => h9) rfl d_Reader_takeRow_76 ?_
    refine lv_sipush (v := 255) hx hb d_Reader_takeRow_79 (by decide) ?_
    refine lv_icmp_ge (tgt := 204) hx hb d_Reader_takeRow_82 (by decide) (fun c_1 => ?_) (fun c_1 => ?_)
    · replace h := if_t h c_1
      exact w_Reader_takeRow_b204 ⟨hx, hb, hml, hown, hts, hK, hA⟩ hret  _ _ _ _ h H locs ls (lv_sub hl [] rfl) hP hD hS
    · replace h := if_f h c_1
      refine lv_aload_n hx hb d_Reader_takeRow_85 rfl (lv_at hl 0 rfl) ?_
      refine va_get hx hb hts in_Reader hown hK hP 0 rfl rfl 2 (by decide) (hts _ m_303) (fun _ h9 => h9) rfl d_Reader_takeRow_86 ?_
      refine lv_aload_n hx hb d_Reader_takeRow_89 rfl (lv_at hl 0 rfl) ?_
      refine va_get hx hb hts in_Reader hown hK hP 0 rfl rfl 4 (by decide) (hts _ m_306) (fun _ h9 => h9) rfl d_Reader_takeRow_90 ?_
      refine lv_iconst (v := 1) hx hb d_Reader_takeRow_93 (by decide) ?_
      refine lv_isub hx hb d_Reader_takeRow_94 ?_
      refine lv_aload_n hx hb d_Reader_takeRow_95 rfl (lv_at hl 0 rfl) ?_
      refine va_get hx hb hts in_Reader hown hK hP 0 rfl rfl 1 (by decide) (hts _ m_302) (fun _ h9 => h9) rfl d_Reader_takeRow_96 ?_
      refine va_getN hx hb hts in_Share hown hK hP 2 rfl rfl 3 (by decide) (hts _ m_215) (fun _ h9 => h9) rfl d_Reader_takeRow_99 ?_
      refine lv_iload_n hx hb d_Reader_takeRow_102 rfl (lv_at hl 2 rfl) ?_
      obtain ⟨g_2, h⟩ := ck_s h
      refine va_iald hx hb hK hP 3 0 rfl rfl (inb_s g_2) d_Reader_takeRow_103 ?_
      obtain ⟨g_3, h⟩ := ck_s h
      refine va_iast hx hb hK hP hD hS 6 0 rfl rfl (inb_s g_3) d_Reader_takeRow_104 (fun H locs hP hD hS => ?_)
      obtain ⟨v_weights_4, ev_weights_4⟩ : ∃ y, y = (upd v_weights (Int32.toNatClampNeg (i_known - 1)) (v_share_owners (Int32.toNatClampNeg l3))) := ⟨_, rfl⟩
      replace h := nm_s h ev_weights_4
      have hP : va_P D classes [(a_this, .inr (4, [.ref a_tail, .ref a_share, .ref a_weights, .ref o_lengths, .int i_known, .int i_end])), (a_tail, .inr (8, [.int i_tail_first, .int i_tail_left])), (a_share, .inr (6, [.ref o_share_points, .ref o_share_cuts, .ref o_share_queue, .ref a_share_owners, .ref a_share_takes, .ref a_share_bases, .ref o_share_ranked, .ref o_share_starts, .ref o_share_numbers, .ref o_share_walk, .int i_share_order, .int i_share_next])), (a_share_owners, .inl (cI, 64, .inl v_share_owners)), (a_share_takes, .inl (cI, 64, .inl v_share_takes)), (a_share_bases, .inl (cI, 64, .inl v_share_bases)), (a_weights, .inl (cI, 256, .inl v_weights_4)), (a_p1, .inr (5, [.ref a_p1_words, .int i_p1_room, .int i_p1_used, .int i_p1_held, .int i_p1_many])), (a_p1_words, .inl (cL, n_p1_words, .inr (.inl v_p1_words)))] H := by rw [ev_weights_4]; exact hP
      have hD : va_D A [(a_this, .inr (4, [.ref a_tail, .ref a_share, .ref a_weights, .ref o_lengths, .int i_known, .int i_end])), (a_tail, .inr (8, [.int i_tail_first, .int i_tail_left])), (a_share, .inr (6, [.ref o_share_points, .ref o_share_cuts, .ref o_share_queue, .ref a_share_owners, .ref a_share_takes, .ref a_share_bases, .ref o_share_ranked, .ref o_share_starts, .ref o_share_numbers, .ref o_share_walk, .int i_share_order, .int i_share_next])), (a_share_owners, .inl (cI, 64, .inl v_share_owners)), (a_share_takes, .inl (cI, 64, .inl v_share_takes)), (a_share_bases, .inl (cI, 64, .inl v_share_bases)), (a_weights, .inl (cI, 256, .inl v_weights_4)), (a_p1, .inr (5, [.ref a_p1_words, .int i_p1_room, .int i_p1_used, .int i_p1_held, .int i_p1_many])), (a_p1_words, .inl (cL, n_p1_words, .inr (.inl v_p1_words)))] := by rw [ev_weights_4]; exact hD
      refine lv_aload_n hx hb d_Reader_takeRow_105 rfl (lv_at hl 0 rfl) ?_
      refine va_get hx hb hts in_Reader hown hK hP 0 rfl rfl 0 (by decide) (hts _ m_301) (fun _ h9 => h9) rfl d_Reader_takeRow_106 ?_
      refine va_getN hx hb hts in_Tail hown hK hP 1 rfl rfl 1 (by decide) (hts _ m_292) (fun _ h9 => h9) rfl d_Reader_takeRow_109 ?_
      refine lv_aload_n hx hb d_Reader_takeRow_112 rfl (lv_at hl 0 rfl) ?_
      refine va_get hx hb hts in_Reader hown hK hP 0 rfl rfl 1 (by decide) (hts _ m_302) (fun _ h9 => h9) rfl d_Reader_takeRow_113 ?_
      refine va_getN hx hb hts in_Share hown hK hP 2 rfl rfl 4 (by decide) (hts _ m_218) (fun _ h9 => h9) rfl d_Reader_takeRow_116 ?_
      refine lv_iload_n hx hb d_Reader_takeRow_119 rfl (lv_at hl 2 rfl) ?_
      obtain ⟨g_5, h⟩ := ck_s h
      refine va_iald hx hb hK hP 4 0 rfl rfl (inb_s g_5) d_Reader_takeRow_120 ?_
      refine lv_icmp_ge (tgt := 155) hx hb d_Reader_takeRow_121 (by decide) (fun c_6 => ?_) (fun c_6 => ?_)
      · replace h := if_t h c_6
        refine lv_aload_n hx hb d_Reader_takeRow_155 rfl (lv_at hl 0 rfl) ?_
        refine va_get hx hb hts in_Reader hown hK hP 0 rfl rfl 1 (by decide) (hts _ m_302) (fun _ h9 => h9) rfl d_Reader_takeRow_156 ?_
        refine va_getN hx hb hts in_Share hown hK hP 2 rfl rfl 5 (by decide) (hts _ m_221) (fun _ h9 => h9) rfl d_Reader_takeRow_159 ?_
        refine lv_iload_n hx hb d_Reader_takeRow_162 rfl (lv_at hl 2 rfl) ?_
        obtain ⟨g_7, h⟩ := ck_s h
        refine va_iald hx hb hK hP 5 0 rfl rfl (inb_s g_7) d_Reader_takeRow_163 ?_
        refine lv_aload_n hx hb d_Reader_takeRow_164 rfl (lv_at hl 0 rfl) ?_
        refine va_get hx hb hts in_Reader hown hK hP 0 rfl rfl 0 (by decide) (hts _ m_301) (fun _ h9 => h9) rfl d_Reader_takeRow_165 ?_
        refine lv_aload_n hx hb d_Reader_takeRow_168 rfl (lv_at hl 1 rfl) ?_
        refine lv_aload_n hx hb d_Reader_takeRow_169 rfl (lv_at hl 0 rfl) ?_
        refine va_get hx hb hts in_Reader hown hK hP 0 rfl rfl 1 (by decide) (hts _ m_302) (fun _ h9 => h9) rfl d_Reader_takeRow_170 ?_
        refine va_getN hx hb hts in_Share hown hK hP 2 rfl rfl 4 (by decide) (hts _ m_218) (fun _ h9 => h9) rfl d_Reader_takeRow_173 ?_
        refine lv_iload_n hx hb d_Reader_takeRow_176 rfl (lv_at hl 2 rfl) ?_
        obtain ⟨g_8, h⟩ := ck_s h
        refine va_iald hx hb hK hP 4 0 rfl rfl (inb_s g_8) d_Reader_takeRow_177 ?_
        obtain ⟨r_9, i_tail_left_10, hc_11, h⟩ := bd2_s h
        have hPc := hP.sub (ws' := [(a_tail, .inr (8, [.int i_tail_first, .int i_tail_left])), (a_p1, .inr (5, [.ref a_p1_words, .int i_p1_room, .int i_p1_used, .int i_p1_held, .int i_p1_many])), (a_p1_words, .inl (cL, n_p1_words, .inr (.inl v_p1_words)))]) [1, 7, 8] rfl
        have hDc := hD.sub (ws' := [(a_tail, .inr (8, [.int i_tail_first, .int i_tail_left])), (a_p1, .inr (5, [.ref a_p1_words, .int i_p1_room, .int i_p1_used, .int i_p1_held, .int i_p1_many])), (a_p1_words, .inl (cL, n_p1_words, .inr (.inl v_p1_words)))]) [1, 7, 8] (by decide) rfl
        have hFc := va_free (wc := [(a_tail, .inr (8, [.int i_tail_first, .int i_tail_left])), (a_p1, .inr (5, [.ref a_p1_words, .int i_p1_room, .int i_p1_used, .int i_p1_held, .int i_p1_many])), (a_p1_words, .inl (cL, n_p1_words, .inr (.inl v_p1_words)))]) hD hS hA [1, 7, 8] rfl
        refine va_calli (va_runV (As := [.ref a_p1, .int (v_share_takes (Int32.toNatClampNeg l3))]) (rest := [.int (v_share_bases (Int32.toNatClampNeg l3))]) ⟨hx, hb, hml, hown, hts⟩ (c_Tail_take l D cI cL cZ H.size N a_tail a_p1 a_p1_words i_tail_first i_tail_left i_p1_room i_p1_used i_p1_held i_p1_many n_p1_words v_p1_words (v_share_takes (Int32.toNatClampNeg l3)) r_9 i_tail_left_10 hc_11) ⟨(my_cb 2 hts m_663 rfl rfl (hts _ m_74) (hts _ m_660) (by decide +kernel) ⟨Nat.le_of_ble_eq_true rfl, Nat.le_of_ble_eq_true rfl⟩), hts _ m_661, hts _ m_662⟩ ⟨fun a U g mk q => by obtain ⟨q0, q1, qP, qK, qD⟩ := q; exact ⟨q0, q1, qP, va_K.moved (u := U) (U := U.calling g mk a) (Vm.Alike.refl U.vm) qK, qD⟩, va_recv hK hPc (ci := 8) (q0 := 0) rfl rfl, fun U hU hW => ⟨rfl, by rw [hU], by rw [hU]; exact hPc, va_K.moved hW.alike hK, hDc.weaken (fun _ _ _ _ => trivial)⟩⟩ rfl rfl hl.1 rfl (lv_room (Nat.le_of_ble_eq_true rfl)) d_Reader_takeRow_178 ⟨Nat.zero_le _, Nat.zero_le _⟩) hS (fun q _ h => hFc q h) hFc (fun rr u t H1 locs ht hvm hw hB hz1 hk1 hS => ?_)
        obtain ⟨hP1, hK1, hD1⟩ := hB
        rw [ht] at hP1
        subst hw
        obtain ⟨hP, hD⟩ := va_join (wr := [(a_this, .inr (4, [.ref a_tail, .ref a_share, .ref a_weights, .ref o_lengths, .int i_known, .int i_end])), (a_share, .inr (6, [.ref o_share_points, .ref o_share_cuts, .ref o_share_queue, .ref a_share_owners, .ref a_share_takes, .ref a_share_bases, .ref o_share_ranked, .ref o_share_starts, .ref o_share_numbers, .ref o_share_walk, .int i_share_order, .int i_share_next])), (a_share_owners, .inl (cI, 64, .inl v_share_owners)), (a_share_takes, .inl (cI, 64, .inl v_share_takes)), (a_share_bases, .inl (cI, 64, .inl v_share_bases)), (a_weights, .inl (cI, 256, .inl v_weights_4))]) (w1 := [(a_tail, .inr (8, [.int i_tail_first, .int i_tail_left_10])), (a_p1, .inr (5, [.ref a_p1_words, .int i_p1_room, .int i_p1_used, .int i_p1_held, .int i_p1_many])), (a_p1_words, .inl (cL, n_p1_words, .inr (.inl v_p1_words)))]) hP hD [1, 7, 8] [0, 2, 3, 4, 5, 6] rfl rfl (by decide) (by decide) hk1 hFc hP1 hD1
        clear hPc hDc hFc hk1 hP1 hD1 hK1
        generalize H1 = H at hP hS ⊢
        have hP : va_P D classes [(a_this, .inr (4, [.ref a_tail, .ref a_share, .ref a_weights, .ref o_lengths, .int i_known, .int i_end])), (a_tail, .inr (8, [.int i_tail_first, .int i_tail_left_10])), (a_share, .inr (6, [.ref o_share_points, .ref o_share_cuts, .ref o_share_queue, .ref a_share_owners, .ref a_share_takes, .ref a_share_bases, .ref o_share_ranked, .ref o_share_starts, .ref o_share_numbers, .ref o_share_walk, .int i_share_order, .int i_share_next])), (a_share_owners, .inl (cI, 64, .inl v_share_owners)), (a_share_takes, .inl (cI, 64, .inl v_share_takes)), (a_share_bases, .inl (cI, 64, .inl v_share_bases)), (a_weights, .inl (cI, 256, .inl v_weights_4)), (a_p1, .inr (5, [.ref a_p1_words, .int i_p1_room, .int i_p1_used, .int i_p1_held, .int i_p1_many])), (a_p1_words, .inl (cL, n_p1_words, .inr (.inl v_p1_words)))] H := hP.sub [0, 6, 1, 2, 3, 4, 5, 7, 8] rfl
        have hD : va_D A [(a_this, .inr (4, [.ref a_tail, .ref a_share, .ref a_weights, .ref o_lengths, .int i_known, .int i_end])), (a_tail, .inr (8, [.int i_tail_first, .int i_tail_left_10])), (a_share, .inr (6, [.ref o_share_points, .ref o_share_cuts, .ref o_share_queue, .ref a_share_owners, .ref a_share_takes, .ref a_share_bases, .ref o_share_ranked, .ref o_share_starts, .ref o_share_numbers, .ref o_share_walk, .int i_share_order, .int i_share_next])), (a_share_owners, .inl (cI, 64, .inl v_share_owners)), (a_share_takes, .inl (cI, 64, .inl v_share_takes)), (a_share_bases, .inl (cI, 64, .inl v_share_bases)), (a_weights, .inl (cI, 256, .inl v_weights_4)), (a_p1, .inr (5, [.ref a_p1_words, .int i_p1_room, .int i_p1_used, .int i_p1_held, .int i_p1_many])), (a_p1_words, .inl (cL, n_p1_words, .inr (.inl v_p1_words)))] := hD.sub [0, 6, 1, 2, 3, 4, 5, 7, 8] (by decide) rfl
        refine lv_iadd hx hb d_Reader_takeRow_181 ?_
        refine lv_topi (fun l5_12 el5_12 => ?_)
        replace h := nm_s h el5_12
        refine lv_istore (lv' := [(5, .int l5_12), (0, .ref a_this), (1, .ref a_p1), (3, .int l3), (4, .int l4)]) hx hb d_Reader_takeRow_182 hl (by decide) rfl (fun ls hl => ?_)
        refine lv_iload hx hb d_Reader_takeRow_184 (lv_at hl 4 rfl) ?_
        refine lv_istore_n (lv' := [(3, .int l4), (5, .int l5_12), (0, .ref a_this), (1, .ref a_p1), (4, .int l4)]) hx hb d_Reader_takeRow_186 rfl hl (by decide) rfl (fun ls hl => ?_)
        refine lv_iload hx hb d_Reader_takeRow_187 (lv_at hl 1 rfl) ?_
        refine lv_istore (lv' := [(4, .int l5_12), (3, .int l4), (5, .int l5_12), (0, .ref a_this), (1, .ref a_p1)]) hx hb d_Reader_takeRow_189 hl (by decide) rfl (fun ls hl => ?_)
        refine lv_aload_n hx hb d_Reader_takeRow_191 rfl (lv_at hl 3 rfl) ?_
        refine lv_dup hx hb d_Reader_takeRow_192 rfl ?_
        refine va_get hx hb hts in_Reader hown hK hP 0 rfl rfl 4 (by decide) (hts _ m_306) (fun _ h9 => h9) rfl d_Reader_takeRow_193 ?_
        refine lv_iconst (v := 1) hx hb d_Reader_takeRow_196 (by decide) ?_
        refine lv_iadd hx hb d_Reader_takeRow_197 ?_
        refine lv_topi (fun i_known_13 ei_known_13 => ?_)
        replace h := nm_s h ei_known_13
        refine va_put (v := .int i_known_13) (ty := .int) hx hb hts in_Reader t_Reader t_Reader_ok n_Reader hown hK hP hD hS 0 rfl rfl 4 (by decide) (hts _ m_306) (fun _ h9 => h9) rfl (by decide +kernel) rfl rfl (Nat.le_of_ble_eq_true rfl) d_Reader_takeRow_198 (fun H locs hP hD hS => ?_)
        have hP : va_P D classes [(a_this, .inr (4, [.ref a_tail, .ref a_share, .ref a_weights, .ref o_lengths, .int i_known_13, .int i_end])), (a_tail, .inr (8, [.int i_tail_first, .int i_tail_left_10])), (a_share, .inr (6, [.ref o_share_points, .ref o_share_cuts, .ref o_share_queue, .ref a_share_owners, .ref a_share_takes, .ref a_share_bases, .ref o_share_ranked, .ref o_share_starts, .ref o_share_numbers, .ref o_share_walk, .int i_share_order, .int i_share_next])), (a_share_owners, .inl (cI, 64, .inl v_share_owners)), (a_share_takes, .inl (cI, 64, .inl v_share_takes)), (a_share_bases, .inl (cI, 64, .inl v_share_bases)), (a_weights, .inl (cI, 256, .inl v_weights_4)), (a_p1, .inr (5, [.ref a_p1_words, .int i_p1_room, .int i_p1_used, .int i_p1_held, .int i_p1_many])), (a_p1_words, .inl (cL, n_p1_words, .inr (.inl v_p1_words)))] H := by exact hP
        have hD : va_D A [(a_this, .inr (4, [.ref a_tail, .ref a_share, .ref a_weights, .ref o_lengths, .int i_known_13, .int i_end])), (a_tail, .inr (8, [.int i_tail_first, .int i_tail_left_10])), (a_share, .inr (6, [.ref o_share_points, .ref o_share_cuts, .ref o_share_queue, .ref a_share_owners, .ref a_share_takes, .ref a_share_bases, .ref o_share_ranked, .ref o_share_starts, .ref o_share_numbers, .ref o_share_walk, .int i_share_order, .int i_share_next])), (a_share_owners, .inl (cI, 64, .inl v_share_owners)), (a_share_takes, .inl (cI, 64, .inl v_share_takes)), (a_share_bases, .inl (cI, 64, .inl v_share_bases)), (a_weights, .inl (cI, 256, .inl v_weights_4)), (a_p1, .inr (5, [.ref a_p1_words, .int i_p1_room, .int i_p1_used, .int i_p1_held, .int i_p1_many])), (a_p1_words, .inl (cL, n_p1_words, .inr (.inl v_p1_words)))] := by exact hD
        refine lv_goto (tgt := 75) hx hb d_Reader_takeRow_201 (by decide) ?_
        exact ih _ _ _ _ _ _ h H locs ls (lv_sub hl [3, 4, 1, 0] rfl) hP hD hS
      · replace h := if_f h c_6
        exact w_Reader_takeRow_b124 ⟨hx, hb, hml, hown, hts, hK, hA⟩ hret  _ _ _ _ _ h H locs ls (lv_sub hl [0, 3] rfl) hP hD hS
set_option maxHeartbeats 4000000 in
set_option maxRecDepth 100000 in
theorem w_Reader_takeRow_b0 {p : Program} {l : Launch} {e : Env} {s : State} {m : MethodId} {args : Array Value} {below : List Frame} {meth : Method} {c : Code} {Q : State → Prop} {A : Nat → Prop} {D : va_G} {cI cL cZ : ClassId} {a_this : Nat} {a_tail : Nat} {a_share : Nat} {a_share_owners : Nat} {a_share_takes : Nat} {a_share_bases : Nat} {a_weights : Nat} {a_p1 : Nat} {a_p1_words : Nat} {o_lengths : Nat} {o_share_points : Nat} {o_share_cuts : Nat} {o_share_queue : Nat} {o_share_ranked : Nat} {o_share_starts : Nat} {o_share_numbers : Nat} {o_share_walk : Nat} {i_end : Int32} {i_share_order : Int32} {i_share_next : Int32} {v_share_owners : Nat → Int32} {v_share_takes : Nat → Int32} {v_share_bases : Nat → Int32} {i_p1_room : Int32} {i_p1_used : Int32} {i_p1_held : Int32} {i_p1_many : Int32} {n_p1_words : Nat} {v_p1_words : Nat → Int64} {l2 : Int32} {N : Nat} {res : Int32 × Int32 × Int32 × Int32 × (Nat → Int32)}  (C : Cx p s m args c b_Reader_takeRow 6 "PrefixMill$Reader" D [(cI, .int), (cL, .long), (cZ, .boolean)] A) (hret : E_Reader_takeRow p l e s m args below meth c Q A D cI cL cZ a_this a_tail a_share a_share_owners a_share_takes a_share_bases a_weights a_p1 a_p1_words o_lengths o_share_points o_share_cuts o_share_queue o_share_ranked o_share_starts o_share_numbers o_share_walk i_end i_share_order i_share_next v_share_owners v_share_takes v_share_bases i_p1_room i_p1_used i_p1_held i_p1_many n_p1_words v_p1_words l2 res)  : I_Reader_takeRow_b0 p l e s m args below meth c Q A D cI cL cZ a_this a_tail a_share a_share_owners a_share_takes a_share_bases a_weights a_p1 a_p1_words o_lengths o_share_points o_share_cuts o_share_queue o_share_ranked o_share_starts o_share_numbers o_share_walk i_end i_share_order i_share_next v_share_owners v_share_takes v_share_bases i_p1_room i_p1_used i_p1_held i_p1_many n_p1_words v_p1_words l2 res (f_Reader_takeRow N i_end i_share_order v_share_owners v_share_takes v_share_bases i_p1_used n_p1_words v_p1_words l2 ) := by
  obtain ⟨hx, hb, hml, hown, hts, hK, hA⟩ := C
  intro i_known i_tail_first i_tail_left v_weights h H locs ls hl hP hD hS
  unfold f_Reader_takeRow at h
  refine lv_aload_n hx hb d_Reader_takeRow_0 rfl (lv_at hl 0 rfl) ?_
  refine va_get hx hb hts in_Reader hown hK hP 0 rfl rfl 0 (by decide) (hts _ m_301) (fun _ h9 => h9) rfl d_Reader_takeRow_1 ?_
  refine lv_aload_n hx hb d_Reader_takeRow_4 rfl (lv_at hl 1 rfl) ?_
  refine lv_iload_n hx hb d_Reader_takeRow_5 rfl (lv_at hl 2 rfl) ?_
  refine lv_aload_n hx hb d_Reader_takeRow_6 rfl (lv_at hl 0 rfl) ?_
  refine va_get hx hb hts in_Reader hown hK hP 0 rfl rfl 5 (by decide) (hts _ m_307) (fun _ h9 => h9) rfl d_Reader_takeRow_7 ?_
  obtain ⟨r_1, i_tail_first_2, i_tail_left_3, hc_4, h⟩ := bd3_s h
  have hPc := hP.sub (ws' := [(a_tail, .inr (8, [.int i_tail_first, .int i_tail_left])), (a_p1, .inr (5, [.ref a_p1_words, .int i_p1_room, .int i_p1_used, .int i_p1_held, .int i_p1_many])), (a_p1_words, .inl (cL, n_p1_words, .inr (.inl v_p1_words)))]) [1, 7, 8] rfl
  have hDc := hD.sub (ws' := [(a_tail, .inr (8, [.int i_tail_first, .int i_tail_left])), (a_p1, .inr (5, [.ref a_p1_words, .int i_p1_room, .int i_p1_used, .int i_p1_held, .int i_p1_many])), (a_p1_words, .inl (cL, n_p1_words, .inr (.inl v_p1_words)))]) [1, 7, 8] (by decide) rfl
  have hFc := va_free (wc := [(a_tail, .inr (8, [.int i_tail_first, .int i_tail_left])), (a_p1, .inr (5, [.ref a_p1_words, .int i_p1_room, .int i_p1_used, .int i_p1_held, .int i_p1_many])), (a_p1_words, .inl (cL, n_p1_words, .inr (.inl v_p1_words)))]) hD hS hA [1, 7, 8] rfl
  refine va_calli (va_runV (As := [.ref a_p1, .int l2, .int i_end]) (rest := []) ⟨hx, hb, hml, hown, hts⟩ (c_Tail_open l D cI cL cZ H.size N a_tail a_p1 a_p1_words i_tail_first i_tail_left i_p1_room i_p1_used i_p1_held i_p1_many n_p1_words v_p1_words l2 i_end r_1 i_tail_first_2 i_tail_left_3 hc_4) ⟨(my_cb 3 hts m_657 rfl rfl (hts _ m_74) (hts _ m_654) (by decide +kernel) ⟨Nat.le_of_ble_eq_true rfl, Nat.le_of_ble_eq_true rfl⟩), hts _ m_655, hts _ m_656⟩ ⟨fun a U g mk q => by obtain ⟨q0, q1, qP, qK, qD⟩ := q; exact ⟨q0, q1, qP, va_K.moved (u := U) (U := U.calling g mk a) (Vm.Alike.refl U.vm) qK, qD⟩, va_recv hK hPc (ci := 8) (q0 := 0) rfl rfl, fun U hU hW => ⟨rfl, by rw [hU], by rw [hU]; exact hPc, va_K.moved hW.alike hK, hDc.weaken (fun _ _ _ _ => trivial)⟩⟩ rfl rfl hl.1 rfl (lv_room (Nat.le_of_ble_eq_true rfl)) d_Reader_takeRow_10 ⟨Nat.zero_le _, Nat.zero_le _⟩) hS (fun q _ h => hFc q h) hFc (fun rr u t H1 locs ht hvm hw hB hz1 hk1 hS => ?_)
  obtain ⟨hP1, hK1, hD1⟩ := hB
  rw [ht] at hP1
  subst hw
  obtain ⟨hP, hD⟩ := va_join (wr := [(a_this, .inr (4, [.ref a_tail, .ref a_share, .ref a_weights, .ref o_lengths, .int i_known, .int i_end])), (a_share, .inr (6, [.ref o_share_points, .ref o_share_cuts, .ref o_share_queue, .ref a_share_owners, .ref a_share_takes, .ref a_share_bases, .ref o_share_ranked, .ref o_share_starts, .ref o_share_numbers, .ref o_share_walk, .int i_share_order, .int i_share_next])), (a_share_owners, .inl (cI, 64, .inl v_share_owners)), (a_share_takes, .inl (cI, 64, .inl v_share_takes)), (a_share_bases, .inl (cI, 64, .inl v_share_bases)), (a_weights, .inl (cI, 256, .inl v_weights))]) (w1 := [(a_tail, .inr (8, [.int i_tail_first_2, .int i_tail_left_3])), (a_p1, .inr (5, [.ref a_p1_words, .int i_p1_room, .int i_p1_used, .int i_p1_held, .int i_p1_many])), (a_p1_words, .inl (cL, n_p1_words, .inr (.inl v_p1_words)))]) hP hD [1, 7, 8] [0, 2, 3, 4, 5, 6] rfl rfl (by decide) (by decide) hk1 hFc hP1 hD1
  clear hPc hDc hFc hk1 hP1 hD1 hK1
  generalize H1 = H at hP hS ⊢
  have hP : va_P D classes [(a_this, .inr (4, [.ref a_tail, .ref a_share, .ref a_weights, .ref o_lengths, .int i_known, .int i_end])), (a_tail, .inr (8, [.int i_tail_first_2, .int i_tail_left_3])), (a_share, .inr (6, [.ref o_share_points, .ref o_share_cuts, .ref o_share_queue, .ref a_share_owners, .ref a_share_takes, .ref a_share_bases, .ref o_share_ranked, .ref o_share_starts, .ref o_share_numbers, .ref o_share_walk, .int i_share_order, .int i_share_next])), (a_share_owners, .inl (cI, 64, .inl v_share_owners)), (a_share_takes, .inl (cI, 64, .inl v_share_takes)), (a_share_bases, .inl (cI, 64, .inl v_share_bases)), (a_weights, .inl (cI, 256, .inl v_weights)), (a_p1, .inr (5, [.ref a_p1_words, .int i_p1_room, .int i_p1_used, .int i_p1_held, .int i_p1_many])), (a_p1_words, .inl (cL, n_p1_words, .inr (.inl v_p1_words)))] H := hP.sub [0, 6, 1, 2, 3, 4, 5, 7, 8] rfl
  have hD : va_D A [(a_this, .inr (4, [.ref a_tail, .ref a_share, .ref a_weights, .ref o_lengths, .int i_known, .int i_end])), (a_tail, .inr (8, [.int i_tail_first_2, .int i_tail_left_3])), (a_share, .inr (6, [.ref o_share_points, .ref o_share_cuts, .ref o_share_queue, .ref a_share_owners, .ref a_share_takes, .ref a_share_bases, .ref o_share_ranked, .ref o_share_starts, .ref o_share_numbers, .ref o_share_walk, .int i_share_order, .int i_share_next])), (a_share_owners, .inl (cI, 64, .inl v_share_owners)), (a_share_takes, .inl (cI, 64, .inl v_share_takes)), (a_share_bases, .inl (cI, 64, .inl v_share_bases)), (a_weights, .inl (cI, 256, .inl v_weights)), (a_p1, .inr (5, [.ref a_p1_words, .int i_p1_room, .int i_p1_used, .int i_p1_held, .int i_p1_many])), (a_p1_words, .inl (cL, n_p1_words, .inr (.inl v_p1_words)))] := hD.sub [0, 6, 1, 2, 3, 4, 5, 7, 8] (by decide) rfl
  refine lv_if_eq (tgt := 35) hx hb d_Reader_takeRow_13 (by decide) (fun c_5 => ?_) (fun c_5 => ?_)
  · replace h := if_t h c_5
    exact w_Reader_takeRow_b35 ⟨hx, hb, hml, hown, hts, hK, hA⟩ hret  _ _ _ _ h H locs ls (lv_sub hl [] rfl) hP hD hS
  · replace h := if_f h c_5
    refine lv_aload_n hx hb d_Reader_takeRow_16 rfl (lv_at hl 0 rfl) ?_
    refine va_get hx hb hts in_Reader hown hK hP 0 rfl rfl 0 (by decide) (hts _ m_301) (fun _ h9 => h9) rfl d_Reader_takeRow_17 ?_
    refine va_getN hx hb hts in_Tail hown hK hP 1 rfl rfl 1 (by decide) (hts _ m_292) (fun _ h9 => h9) rfl d_Reader_takeRow_20 ?_
    refine lv_iconst (v := 2) hx hb d_Reader_takeRow_23 (by decide) ?_
    refine lv_aload_n hx hb d_Reader_takeRow_24 rfl (lv_at hl 0 rfl) ?_
    refine va_get hx hb hts in_Reader hown hK hP 0 rfl rfl 1 (by decide) (hts _ m_302) (fun _ h9 => h9) rfl d_Reader_takeRow_25 ?_
    refine va_getN hx hb hts in_Share hown hK hP 2 rfl rfl 10 (by decide) (hts _ m_227) (fun _ h9 => h9) rfl d_Reader_takeRow_28 ?_
    refine lv_imul hx hb d_Reader_takeRow_31 ?_
    refine lv_icmp_ge (tgt := 37) hx hb d_Reader_takeRow_32 (by decide) (fun c_6 => ?_) (fun c_6 => ?_)
    · replace h := if_t h c_6
      refine lv_aload_n hx hb d_Reader_takeRow_37 rfl (lv_at hl 0 rfl) ?_
      refine va_get hx hb hts in_Reader hown hK hP 0 rfl rfl 0 (by decide) (hts _ m_301) (fun _ h9 => h9) rfl d_Reader_takeRow_38 ?_
      refine lv_aload_n hx hb d_Reader_takeRow_41 rfl (lv_at hl 1 rfl) ?_
      refine lv_aload_n hx hb d_Reader_takeRow_42 rfl (lv_at hl 0 rfl) ?_
      refine va_get hx hb hts in_Reader hown hK hP 0 rfl rfl 1 (by decide) (hts _ m_302) (fun _ h9 => h9) rfl d_Reader_takeRow_43 ?_
      refine va_getN hx hb hts in_Share hown hK hP 2 rfl rfl 10 (by decide) (hts _ m_227) (fun _ h9 => h9) rfl d_Reader_takeRow_46 ?_
      obtain ⟨r_7, i_tail_left_8, hc_9, h⟩ := bd2_s h
      have hPc := hP.sub (ws' := [(a_tail, .inr (8, [.int i_tail_first_2, .int i_tail_left_3])), (a_p1, .inr (5, [.ref a_p1_words, .int i_p1_room, .int i_p1_used, .int i_p1_held, .int i_p1_many])), (a_p1_words, .inl (cL, n_p1_words, .inr (.inl v_p1_words)))]) [1, 7, 8] rfl
      have hDc := hD.sub (ws' := [(a_tail, .inr (8, [.int i_tail_first_2, .int i_tail_left_3])), (a_p1, .inr (5, [.ref a_p1_words, .int i_p1_room, .int i_p1_used, .int i_p1_held, .int i_p1_many])), (a_p1_words, .inl (cL, n_p1_words, .inr (.inl v_p1_words)))]) [1, 7, 8] (by decide) rfl
      have hFc := va_free (wc := [(a_tail, .inr (8, [.int i_tail_first_2, .int i_tail_left_3])), (a_p1, .inr (5, [.ref a_p1_words, .int i_p1_room, .int i_p1_used, .int i_p1_held, .int i_p1_many])), (a_p1_words, .inl (cL, n_p1_words, .inr (.inl v_p1_words)))]) hD hS hA [1, 7, 8] rfl
      refine va_calli (va_runV (As := [.ref a_p1, .int i_share_order]) (rest := []) ⟨hx, hb, hml, hown, hts⟩ (c_Tail_take l D cI cL cZ H.size N a_tail a_p1 a_p1_words i_tail_first_2 i_tail_left_3 i_p1_room i_p1_used i_p1_held i_p1_many n_p1_words v_p1_words i_share_order r_7 i_tail_left_8 hc_9) ⟨(my_cb 2 hts m_663 rfl rfl (hts _ m_74) (hts _ m_660) (by decide +kernel) ⟨Nat.le_of_ble_eq_true rfl, Nat.le_of_ble_eq_true rfl⟩), hts _ m_661, hts _ m_662⟩ ⟨fun a U g mk q => by obtain ⟨q0, q1, qP, qK, qD⟩ := q; exact ⟨q0, q1, qP, va_K.moved (u := U) (U := U.calling g mk a) (Vm.Alike.refl U.vm) qK, qD⟩, va_recv hK hPc (ci := 8) (q0 := 0) rfl rfl, fun U hU hW => ⟨rfl, by rw [hU], by rw [hU]; exact hPc, va_K.moved hW.alike hK, hDc.weaken (fun _ _ _ _ => trivial)⟩⟩ rfl rfl hl.1 rfl (lv_room (Nat.le_of_ble_eq_true rfl)) d_Reader_takeRow_49 ⟨Nat.zero_le _, Nat.zero_le _⟩) hS (fun q _ h => hFc q h) hFc (fun rr u t H1 locs ht hvm hw hB hz1 hk1 hS => ?_)
      obtain ⟨hP1, hK1, hD1⟩ := hB
      rw [ht] at hP1
      subst hw
      obtain ⟨hP, hD⟩ := va_join (wr := [(a_this, .inr (4, [.ref a_tail, .ref a_share, .ref a_weights, .ref o_lengths, .int i_known, .int i_end])), (a_share, .inr (6, [.ref o_share_points, .ref o_share_cuts, .ref o_share_queue, .ref a_share_owners, .ref a_share_takes, .ref a_share_bases, .ref o_share_ranked, .ref o_share_starts, .ref o_share_numbers, .ref o_share_walk, .int i_share_order, .int i_share_next])), (a_share_owners, .inl (cI, 64, .inl v_share_owners)), (a_share_takes, .inl (cI, 64, .inl v_share_takes)), (a_share_bases, .inl (cI, 64, .inl v_share_bases)), (a_weights, .inl (cI, 256, .inl v_weights))]) (w1 := [(a_tail, .inr (8, [.int i_tail_first_2, .int i_tail_left_8])), (a_p1, .inr (5, [.ref a_p1_words, .int i_p1_room, .int i_p1_used, .int i_p1_held, .int i_p1_many])), (a_p1_words, .inl (cL, n_p1_words, .inr (.inl v_p1_words)))]) hP hD [1, 7, 8] [0, 2, 3, 4, 5, 6] rfl rfl (by decide) (by decide) hk1 hFc hP1 hD1
      clear hPc hDc hFc hk1 hP1 hD1 hK1
      generalize H1 = H at hP hS ⊢
      have hP : va_P D classes [(a_this, .inr (4, [.ref a_tail, .ref a_share, .ref a_weights, .ref o_lengths, .int i_known, .int i_end])), (a_tail, .inr (8, [.int i_tail_first_2, .int i_tail_left_8])), (a_share, .inr (6, [.ref o_share_points, .ref o_share_cuts, .ref o_share_queue, .ref a_share_owners, .ref a_share_takes, .ref a_share_bases, .ref o_share_ranked, .ref o_share_starts, .ref o_share_numbers, .ref o_share_walk, .int i_share_order, .int i_share_next])), (a_share_owners, .inl (cI, 64, .inl v_share_owners)), (a_share_takes, .inl (cI, 64, .inl v_share_takes)), (a_share_bases, .inl (cI, 64, .inl v_share_bases)), (a_weights, .inl (cI, 256, .inl v_weights)), (a_p1, .inr (5, [.ref a_p1_words, .int i_p1_room, .int i_p1_used, .int i_p1_held, .int i_p1_many])), (a_p1_words, .inl (cL, n_p1_words, .inr (.inl v_p1_words)))] H := hP.sub [0, 6, 1, 2, 3, 4, 5, 7, 8] rfl
      have hD : va_D A [(a_this, .inr (4, [.ref a_tail, .ref a_share, .ref a_weights, .ref o_lengths, .int i_known, .int i_end])), (a_tail, .inr (8, [.int i_tail_first_2, .int i_tail_left_8])), (a_share, .inr (6, [.ref o_share_points, .ref o_share_cuts, .ref o_share_queue, .ref a_share_owners, .ref a_share_takes, .ref a_share_bases, .ref o_share_ranked, .ref o_share_starts, .ref o_share_numbers, .ref o_share_walk, .int i_share_order, .int i_share_next])), (a_share_owners, .inl (cI, 64, .inl v_share_owners)), (a_share_takes, .inl (cI, 64, .inl v_share_takes)), (a_share_bases, .inl (cI, 64, .inl v_share_bases)), (a_weights, .inl (cI, 256, .inl v_weights)), (a_p1, .inr (5, [.ref a_p1_words, .int i_p1_room, .int i_p1_used, .int i_p1_held, .int i_p1_many])), (a_p1_words, .inl (cL, n_p1_words, .inr (.inl v_p1_words)))] := hD.sub [0, 6, 1, 2, 3, 4, 5, 7, 8] (by decide) rfl
      refine lv_istore_n (lv' := [(3, .int r_7), (0, .ref a_this), (1, .ref a_p1), (2, .int l2)]) hx hb d_Reader_takeRow_52 rfl hl (by decide) rfl (fun ls hl => ?_)
      refine lv_aload_n hx hb d_Reader_takeRow_53 rfl (lv_at hl 1 rfl) ?_
      refine va_get hx hb hts in_Reader hown hK hP 0 rfl rfl 0 (by decide) (hts _ m_301) (fun _ h9 => h9) rfl d_Reader_takeRow_54 ?_
      refine lv_aload_n hx hb d_Reader_takeRow_57 rfl (lv_at hl 2 rfl) ?_
      refine lv_aload_n hx hb d_Reader_takeRow_58 rfl (lv_at hl 1 rfl) ?_
      refine va_get hx hb hts in_Reader hown hK hP 0 rfl rfl 1 (by decide) (hts _ m_302) (fun _ h9 => h9) rfl d_Reader_takeRow_59 ?_
      refine va_getN hx hb hts in_Share hown hK hP 2 rfl rfl 10 (by decide) (hts _ m_227) (fun _ h9 => h9) rfl d_Reader_takeRow_62 ?_
      obtain ⟨r_10, i_tail_left_11, hc_12, h⟩ := bd2_s h
      have hPc := hP.sub (ws' := [(a_tail, .inr (8, [.int i_tail_first_2, .int i_tail_left_8])), (a_p1, .inr (5, [.ref a_p1_words, .int i_p1_room, .int i_p1_used, .int i_p1_held, .int i_p1_many])), (a_p1_words, .inl (cL, n_p1_words, .inr (.inl v_p1_words)))]) [1, 7, 8] rfl
      have hDc := hD.sub (ws' := [(a_tail, .inr (8, [.int i_tail_first_2, .int i_tail_left_8])), (a_p1, .inr (5, [.ref a_p1_words, .int i_p1_room, .int i_p1_used, .int i_p1_held, .int i_p1_many])), (a_p1_words, .inl (cL, n_p1_words, .inr (.inl v_p1_words)))]) [1, 7, 8] (by decide) rfl
      have hFc := va_free (wc := [(a_tail, .inr (8, [.int i_tail_first_2, .int i_tail_left_8])), (a_p1, .inr (5, [.ref a_p1_words, .int i_p1_room, .int i_p1_used, .int i_p1_held, .int i_p1_many])), (a_p1_words, .inl (cL, n_p1_words, .inr (.inl v_p1_words)))]) hD hS hA [1, 7, 8] rfl
      refine va_calli (va_runV (As := [.ref a_p1, .int i_share_order]) (rest := []) ⟨hx, hb, hml, hown, hts⟩ (c_Tail_take l D cI cL cZ H.size N a_tail a_p1 a_p1_words i_tail_first_2 i_tail_left_8 i_p1_room i_p1_used i_p1_held i_p1_many n_p1_words v_p1_words i_share_order r_10 i_tail_left_11 hc_12) ⟨(my_cb 2 hts m_663 rfl rfl (hts _ m_74) (hts _ m_660) (by decide +kernel) ⟨Nat.le_of_ble_eq_true rfl, Nat.le_of_ble_eq_true rfl⟩), hts _ m_661, hts _ m_662⟩ ⟨fun a U g mk q => by obtain ⟨q0, q1, qP, qK, qD⟩ := q; exact ⟨q0, q1, qP, va_K.moved (u := U) (U := U.calling g mk a) (Vm.Alike.refl U.vm) qK, qD⟩, va_recv hK hPc (ci := 8) (q0 := 0) rfl rfl, fun U hU hW => ⟨rfl, by rw [hU], by rw [hU]; exact hPc, va_K.moved hW.alike hK, hDc.weaken (fun _ _ _ _ => trivial)⟩⟩ rfl rfl hl.1 rfl (lv_room (Nat.le_of_ble_eq_true rfl)) d_Reader_takeRow_65 ⟨Nat.zero_le _, Nat.zero_le _⟩) hS (fun q _ h => hFc q h) hFc (fun rr u t H1 locs ht hvm hw hB hz1 hk1 hS => ?_)
      obtain ⟨hP1, hK1, hD1⟩ := hB
      rw [ht] at hP1
      subst hw
      obtain ⟨hP, hD⟩ := va_join (wr := [(a_this, .inr (4, [.ref a_tail, .ref a_share, .ref a_weights, .ref o_lengths, .int i_known, .int i_end])), (a_share, .inr (6, [.ref o_share_points, .ref o_share_cuts, .ref o_share_queue, .ref a_share_owners, .ref a_share_takes, .ref a_share_bases, .ref o_share_ranked, .ref o_share_starts, .ref o_share_numbers, .ref o_share_walk, .int i_share_order, .int i_share_next])), (a_share_owners, .inl (cI, 64, .inl v_share_owners)), (a_share_takes, .inl (cI, 64, .inl v_share_takes)), (a_share_bases, .inl (cI, 64, .inl v_share_bases)), (a_weights, .inl (cI, 256, .inl v_weights))]) (w1 := [(a_tail, .inr (8, [.int i_tail_first_2, .int i_tail_left_11])), (a_p1, .inr (5, [.ref a_p1_words, .int i_p1_room, .int i_p1_used, .int i_p1_held, .int i_p1_many])), (a_p1_words, .inl (cL, n_p1_words, .inr (.inl v_p1_words)))]) hP hD [1, 7, 8] [0, 2, 3, 4, 5, 6] rfl rfl (by decide) (by decide) hk1 hFc hP1 hD1
      clear hPc hDc hFc hk1 hP1 hD1 hK1
      generalize H1 = H at hP hS ⊢
      have hP : va_P D classes [(a_this, .inr (4, [.ref a_tail, .ref a_share, .ref a_weights, .ref o_lengths, .int i_known, .int i_end])), (a_tail, .inr (8, [.int i_tail_first_2, .int i_tail_left_11])), (a_share, .inr (6, [.ref o_share_points, .ref o_share_cuts, .ref o_share_queue, .ref a_share_owners, .ref a_share_takes, .ref a_share_bases, .ref o_share_ranked, .ref o_share_starts, .ref o_share_numbers, .ref o_share_walk, .int i_share_order, .int i_share_next])), (a_share_owners, .inl (cI, 64, .inl v_share_owners)), (a_share_takes, .inl (cI, 64, .inl v_share_takes)), (a_share_bases, .inl (cI, 64, .inl v_share_bases)), (a_weights, .inl (cI, 256, .inl v_weights)), (a_p1, .inr (5, [.ref a_p1_words, .int i_p1_room, .int i_p1_used, .int i_p1_held, .int i_p1_many])), (a_p1_words, .inl (cL, n_p1_words, .inr (.inl v_p1_words)))] H := hP.sub [0, 6, 1, 2, 3, 4, 5, 7, 8] rfl
      have hD : va_D A [(a_this, .inr (4, [.ref a_tail, .ref a_share, .ref a_weights, .ref o_lengths, .int i_known, .int i_end])), (a_tail, .inr (8, [.int i_tail_first_2, .int i_tail_left_11])), (a_share, .inr (6, [.ref o_share_points, .ref o_share_cuts, .ref o_share_queue, .ref a_share_owners, .ref a_share_takes, .ref a_share_bases, .ref o_share_ranked, .ref o_share_starts, .ref o_share_numbers, .ref o_share_walk, .int i_share_order, .int i_share_next])), (a_share_owners, .inl (cI, 64, .inl v_share_owners)), (a_share_takes, .inl (cI, 64, .inl v_share_takes)), (a_share_bases, .inl (cI, 64, .inl v_share_bases)), (a_weights, .inl (cI, 256, .inl v_weights)), (a_p1, .inr (5, [.ref a_p1_words, .int i_p1_room, .int i_p1_used, .int i_p1_held, .int i_p1_many])), (a_p1_words, .inl (cL, n_p1_words, .inr (.inl v_p1_words)))] := hD.sub [0, 6, 1, 2, 3, 4, 5, 7, 8] (by decide) rfl
      refine lv_istore (lv' := [(4, .int r_10), (3, .int r_7), (0, .ref a_this), (1, .ref a_p1), (2, .int l2)]) hx hb d_Reader_takeRow_68 hl (by decide) rfl (fun ls hl => ?_)
      refine lv_aload_n hx hb d_Reader_takeRow_70 rfl (lv_at hl 2 rfl) ?_
      refine lv_iconst (v := 1) hx hb d_Reader_takeRow_71 (by decide) ?_
      refine va_put (v := .int 1) (ty := .int) hx hb hts in_Reader t_Reader t_Reader_ok n_Reader hown hK hP hD hS 0 rfl rfl 4 (by decide) (hts _ m_306) (fun _ h9 => h9) rfl (by decide +kernel) rfl rfl (Nat.le_of_ble_eq_true rfl) d_Reader_takeRow_72 (fun H locs hP hD hS => ?_)
      have hP : va_P D classes [(a_this, .inr (4, [.ref a_tail, .ref a_share, .ref a_weights, .ref o_lengths, .int 1, .int i_end])), (a_tail, .inr (8, [.int i_tail_first_2, .int i_tail_left_11])), (a_share, .inr (6, [.ref o_share_points, .ref o_share_cuts, .ref o_share_queue, .ref a_share_owners, .ref a_share_takes, .ref a_share_bases, .ref o_share_ranked, .ref o_share_starts, .ref o_share_numbers, .ref o_share_walk, .int i_share_order, .int i_share_next])), (a_share_owners, .inl (cI, 64, .inl v_share_owners)), (a_share_takes, .inl (cI, 64, .inl v_share_takes)), (a_share_bases, .inl (cI, 64, .inl v_share_bases)), (a_weights, .inl (cI, 256, .inl v_weights)), (a_p1, .inr (5, [.ref a_p1_words, .int i_p1_room, .int i_p1_used, .int i_p1_held, .int i_p1_many])), (a_p1_words, .inl (cL, n_p1_words, .inr (.inl v_p1_words)))] H := by exact hP
      have hD : va_D A [(a_this, .inr (4, [.ref a_tail, .ref a_share, .ref a_weights, .ref o_lengths, .int 1, .int i_end])), (a_tail, .inr (8, [.int i_tail_first_2, .int i_tail_left_11])), (a_share, .inr (6, [.ref o_share_points, .ref o_share_cuts, .ref o_share_queue, .ref a_share_owners, .ref a_share_takes, .ref a_share_bases, .ref o_share_ranked, .ref o_share_starts, .ref o_share_numbers, .ref o_share_walk, .int i_share_order, .int i_share_next])), (a_share_owners, .inl (cI, 64, .inl v_share_owners)), (a_share_takes, .inl (cI, 64, .inl v_share_takes)), (a_share_bases, .inl (cI, 64, .inl v_share_bases)), (a_weights, .inl (cI, 256, .inl v_weights)), (a_p1, .inr (5, [.ref a_p1_words, .int i_p1_room, .int i_p1_used, .int i_p1_held, .int i_p1_many])), (a_p1_words, .inl (cL, n_p1_words, .inr (.inl v_p1_words)))] := by exact hD
      exact w_Reader_takeRow_b75 ⟨hx, hb, hml, hown, hts, hK, hA⟩ hret  N _ _ _ _ _ _ h H locs ls (lv_sub hl [2, 3, 1, 0] rfl) hP hD hS
    · replace h := if_f h c_6
      exact w_Reader_takeRow_b35 ⟨hx, hb, hml, hown, hts, hK, hA⟩ hret  _ _ _ _ h H locs ls (lv_sub hl [] rfl) hP hD hS
set_option maxHeartbeats 4000000 in
set_option maxRecDepth 100000 in
theorem c_Reader_takeRow (l : Launch) (D : va_G) (cI cL cZ : ClassId) (sz N : Nat) (a_this : Nat) (a_tail : Nat) (a_share : Nat) (a_share_owners : Nat) (a_share_takes : Nat) (a_share_bases : Nat) (a_weights : Nat) (a_p1 : Nat) (a_p1_words : Nat) (o_lengths : Nat) (o_share_points : Nat) (o_share_cuts : Nat) (o_share_queue : Nat) (o_share_ranked : Nat) (o_share_starts : Nat) (o_share_numbers : Nat) (o_share_walk : Nat) (i_known : Int32) (i_end : Int32) (i_tail_first : Int32) (i_tail_left : Int32) (i_share_order : Int32) (i_share_next : Int32) (v_share_owners : Nat → Int32) (v_share_takes : Nat → Int32) (v_share_bases : Nat → Int32) (v_weights : Nat → Int32) (i_p1_room : Int32) (i_p1_used : Int32) (i_p1_held : Int32) (i_p1_many : Int32) (n_p1_words : Nat) (v_p1_words : Nat → Int64) (l2 : Int32) (rv : Int32) (i_known' : Int32) (i_tail_first' : Int32) (i_tail_left' : Int32) (v_weights' : Nat → Int32) (h : f_Reader_takeRow N i_end i_share_order v_share_owners v_share_takes v_share_bases i_p1_used n_p1_words v_p1_words l2 i_known i_tail_first i_tail_left v_weights = some (rv, i_known', i_tail_first', i_tail_left', v_weights')) : Met l ({ cls := "PrefixMill$Reader", name := "takeRow", desc := "(LPrefixMill$Row;I)Z" } : Jvm.MethodName) ws_Reader_takeRow R_Reader_takeRow (va_Pc [.ref a_this, .ref a_p1, .int l2] (fun U => U.heap.size = sz ∧ va_P D classes [(a_this, .inr (4, [.ref a_tail, .ref a_share, .ref a_weights, .ref o_lengths, .int i_known, .int i_end])), (a_tail, .inr (8, [.int i_tail_first, .int i_tail_left])), (a_share, .inr (6, [.ref o_share_points, .ref o_share_cuts, .ref o_share_queue, .ref a_share_owners, .ref a_share_takes, .ref a_share_bases, .ref o_share_ranked, .ref o_share_starts, .ref o_share_numbers, .ref o_share_walk, .int i_share_order, .int i_share_next])), (a_share_owners, .inl (cI, 64, .inl v_share_owners)), (a_share_takes, .inl (cI, 64, .inl v_share_takes)), (a_share_bases, .inl (cI, 64, .inl v_share_bases)), (a_weights, .inl (cI, 256, .inl v_weights)), (a_p1, .inr (5, [.ref a_p1_words, .int i_p1_room, .int i_p1_used, .int i_p1_held, .int i_p1_many])), (a_p1_words, .inl (cL, n_p1_words, .inr (.inl v_p1_words)))] U.heap ∧ va_K D classes [(cI, .int), (cL, .long), (cZ, .boolean)] U ∧ va_D (fun _ => True) [(a_this, .inr (4, [.ref a_tail, .ref a_share, .ref a_weights, .ref o_lengths, .int i_known, .int i_end])), (a_tail, .inr (8, [.int i_tail_first, .int i_tail_left])), (a_share, .inr (6, [.ref o_share_points, .ref o_share_cuts, .ref o_share_queue, .ref a_share_owners, .ref a_share_takes, .ref a_share_bases, .ref o_share_ranked, .ref o_share_starts, .ref o_share_numbers, .ref o_share_walk, .int i_share_order, .int i_share_next])), (a_share_owners, .inl (cI, 64, .inl v_share_owners)), (a_share_takes, .inl (cI, 64, .inl v_share_takes)), (a_share_bases, .inl (cI, 64, .inl v_share_bases)), (a_weights, .inl (cI, 256, .inl v_weights)), (a_p1, .inr (5, [.ref a_p1_words, .int i_p1_room, .int i_p1_used, .int i_p1_held, .int i_p1_many])), (a_p1_words, .inl (cL, n_p1_words, .inr (.inl v_p1_words)))])) (va_Qi (fun (r0 : Int32) (_ : Unit) => rv = r0) (fun _ t => va_P D classes [(a_this, .inr (4, [.ref a_tail, .ref a_share, .ref a_weights, .ref o_lengths, .int i_known', .int i_end])), (a_tail, .inr (8, [.int i_tail_first', .int i_tail_left'])), (a_share, .inr (6, [.ref o_share_points, .ref o_share_cuts, .ref o_share_queue, .ref a_share_owners, .ref a_share_takes, .ref a_share_bases, .ref o_share_ranked, .ref o_share_starts, .ref o_share_numbers, .ref o_share_walk, .int i_share_order, .int i_share_next])), (a_share_owners, .inl (cI, 64, .inl v_share_owners)), (a_share_takes, .inl (cI, 64, .inl v_share_takes)), (a_share_bases, .inl (cI, 64, .inl v_share_bases)), (a_weights, .inl (cI, 256, .inl v_weights')), (a_p1, .inr (5, [.ref a_p1_words, .int i_p1_room, .int i_p1_used, .int i_p1_held, .int i_p1_many])), (a_p1_words, .inl (cL, n_p1_words, .inr (.inl v_p1_words)))] t.heap ∧ va_K D classes [(cI, .int), (cL, .long), (cZ, .boolean)] t ∧ va_D (va_A [(a_this, .inr (4, [.ref a_tail, .ref a_share, .ref a_weights, .ref o_lengths, .int i_known, .int i_end])), (a_tail, .inr (8, [.int i_tail_first, .int i_tail_left])), (a_share, .inr (6, [.ref o_share_points, .ref o_share_cuts, .ref o_share_queue, .ref a_share_owners, .ref a_share_takes, .ref a_share_bases, .ref o_share_ranked, .ref o_share_starts, .ref o_share_numbers, .ref o_share_walk, .int i_share_order, .int i_share_next])), (a_share_owners, .inl (cI, 64, .inl v_share_owners)), (a_share_takes, .inl (cI, 64, .inl v_share_takes)), (a_share_bases, .inl (cI, 64, .inl v_share_bases)), (a_weights, .inl (cI, 256, .inl v_weights)), (a_p1, .inr (5, [.ref a_p1_words, .int i_p1_room, .int i_p1_used, .int i_p1_held, .int i_p1_many])), (a_p1_words, .inl (cL, n_p1_words, .inr (.inl v_p1_words)))] sz) [(a_this, .inr (4, [.ref a_tail, .ref a_share, .ref a_weights, .ref o_lengths, .int i_known', .int i_end])), (a_tail, .inr (8, [.int i_tail_first', .int i_tail_left'])), (a_share, .inr (6, [.ref o_share_points, .ref o_share_cuts, .ref o_share_queue, .ref a_share_owners, .ref a_share_takes, .ref a_share_bases, .ref o_share_ranked, .ref o_share_starts, .ref o_share_numbers, .ref o_share_walk, .int i_share_order, .int i_share_next])), (a_share_owners, .inl (cI, 64, .inl v_share_owners)), (a_share_takes, .inl (cI, 64, .inl v_share_takes)), (a_share_bases, .inl (cI, 64, .inl v_share_bases)), (a_weights, .inl (cI, 256, .inl v_weights')), (a_p1, .inr (5, [.ref a_p1_words, .int i_p1_room, .int i_p1_used, .int i_p1_held, .int i_p1_many])), (a_p1_words, .inl (cL, n_p1_words, .inr (.inl v_p1_words)))]) (va_A [(a_this, .inr (4, [.ref a_tail, .ref a_share, .ref a_weights, .ref o_lengths, .int i_known, .int i_end])), (a_tail, .inr (8, [.int i_tail_first, .int i_tail_left])), (a_share, .inr (6, [.ref o_share_points, .ref o_share_cuts, .ref o_share_queue, .ref a_share_owners, .ref a_share_takes, .ref a_share_bases, .ref o_share_ranked, .ref o_share_starts, .ref o_share_numbers, .ref o_share_walk, .int i_share_order, .int i_share_next])), (a_share_owners, .inl (cI, 64, .inl v_share_owners)), (a_share_takes, .inl (cI, 64, .inl v_share_takes)), (a_share_bases, .inl (cI, 64, .inl v_share_bases)), (a_weights, .inl (cI, 256, .inl v_weights)), (a_p1, .inr (5, [.ref a_p1_words, .int i_p1_room, .int i_p1_used, .int i_p1_held, .int i_p1_many])), (a_p1_words, .inl (cL, n_p1_words, .inr (.inl v_p1_words)))] sz)) 0 0 (va_A [(a_this, .inr (4, [.ref a_tail, .ref a_share, .ref a_weights, .ref o_lengths, .int i_known, .int i_end])), (a_tail, .inr (8, [.int i_tail_first, .int i_tail_left])), (a_share, .inr (6, [.ref o_share_points, .ref o_share_cuts, .ref o_share_queue, .ref a_share_owners, .ref a_share_takes, .ref a_share_bases, .ref o_share_ranked, .ref o_share_starts, .ref o_share_numbers, .ref o_share_walk, .int i_share_order, .int i_share_next])), (a_share_owners, .inl (cI, 64, .inl v_share_owners)), (a_share_takes, .inl (cI, 64, .inl v_share_takes)), (a_share_bases, .inl (cI, 64, .inl v_share_bases)), (a_weights, .inl (cI, 256, .inl v_weights)), (a_p1, .inr (5, [.ref a_p1_words, .int i_p1_room, .int i_p1_used, .int i_p1_held, .int i_p1_many])), (a_p1_words, .inl (cL, n_p1_words, .inr (.inl v_p1_words)))] sz) := by
  refine Met.ofW (cc := b_Reader_takeRow) (maxL := 6) (ret := (some .boolean)) (by decide) rfl ?_
  intro p e s m args below meth c s₁ B hml hv
  obtain ⟨rfl, hsz, hP, hK, hD0⟩ := hv
  have hx := B.exec
  have hb := B.bytes
  have hr := B.returns
  have hts0 := atoms_spec (ws := ws_Reader_takeRow) B.pre
  have hts := gd_tl hts0
  clear hts0
  have hown : s.vm.findClass "PrefixMill$Reader" = some m.cls := findClass_of_methodNamed B.named
  have hlocks := B.notSynchronized
  subst hsz
  have hD := hD0.self (sz := s.heap.size)
  generalize hAe : va_A [(a_this, .inr (4, [.ref a_tail, .ref a_share, .ref a_weights, .ref o_lengths, .int i_known, .int i_end])), (a_tail, .inr (8, [.int i_tail_first, .int i_tail_left])), (a_share, .inr (6, [.ref o_share_points, .ref o_share_cuts, .ref o_share_queue, .ref a_share_owners, .ref a_share_takes, .ref a_share_bases, .ref o_share_ranked, .ref o_share_starts, .ref o_share_numbers, .ref o_share_walk, .int i_share_order, .int i_share_next])), (a_share_owners, .inl (cI, 64, .inl v_share_owners)), (a_share_takes, .inl (cI, 64, .inl v_share_takes)), (a_share_bases, .inl (cI, 64, .inl v_share_bases)), (a_weights, .inl (cI, 256, .inl v_weights)), (a_p1, .inr (5, [.ref a_p1_words, .int i_p1_room, .int i_p1_used, .int i_p1_held, .int i_p1_many])), (a_p1_words, .inl (cL, n_p1_words, .inr (.inl v_p1_words)))] s.heap.size = A at hD ⊢
  have hA : ∀ q : Nat, s.heap.size ≤ q → A q := fun q h => by rw [← hAe]; exact Or.inr h
  have hS : va_S A s.heap s.heap [] := va_S.rf
  have hP : va_P D classes [(a_this, .inr (4, [.ref a_tail, .ref a_share, .ref a_weights, .ref o_lengths, .int i_known, .int i_end])), (a_tail, .inr (8, [.int i_tail_first, .int i_tail_left])), (a_share, .inr (6, [.ref o_share_points, .ref o_share_cuts, .ref o_share_queue, .ref a_share_owners, .ref a_share_takes, .ref a_share_bases, .ref o_share_ranked, .ref o_share_starts, .ref o_share_numbers, .ref o_share_walk, .int i_share_order, .int i_share_next])), (a_share_owners, .inl (cI, 64, .inl v_share_owners)), (a_share_takes, .inl (cI, 64, .inl v_share_takes)), (a_share_bases, .inl (cI, 64, .inl v_share_bases)), (a_weights, .inl (cI, 256, .inl v_weights)), (a_p1, .inr (5, [.ref a_p1_words, .int i_p1_room, .int i_p1_used, .int i_p1_held, .int i_p1_many])), (a_p1_words, .inl (cL, n_p1_words, .inr (.inl v_p1_words)))] s.heap := hP
  have hl := lv_entry ([.ref a_this, .ref a_p1, .int l2]) (n := 6) (Nat.le_of_ble_eq_true rfl)
  rw [lg_entry_eq]
  generalize (lg_sl ([.ref a_this, .ref a_p1, .int l2]) ++ List.replicate (6 - (lg_sl ([.ref a_this, .ref a_p1, .int l2])).length) Slot.unset).toArray = ls at hl ⊢
  have hl : lv_has ls 6 [(0, .ref a_this), (1, .ref a_p1), (2, .int l2)] := hl
  have C : Cx p s m ([.ref a_this, .ref a_p1, .int l2] : List Value).toArray c b_Reader_takeRow 6 "PrefixMill$Reader" D [(cI, .int), (cL, .long), (cZ, .boolean)] A := ⟨hx, hb, hml, hown, hts, hK, hA⟩
  refine w_Reader_takeRow_b0 (res := (rv, i_known', i_tail_first', i_tail_left', v_weights')) C ?_ _ _ _ _ h s.heap [] ls hl hP hD hS
  intro pc9 H9 locs9 ls9 rv9 i_known9 i_tail_first9 i_tail_left9 v_weights9 e9 z9 d9 hP9 hD9 hS9
  cases e9
  exact W.zret (v := rv) hx hb hr z9 (fun t ht hW => ⟨⟨rv, (), rfl, rfl, by rw [ht]; exact hP9, va_K.moved hW.alike hK, hD9⟩, hS9.F ht⟩) hS9.2.2 d9
abbrev b_Reader_takeLengths : ByteArray := prog_4_method_5_code
def ws_Reader_takeLengths : List Cond := .code ({ cls := "PrefixMill$Reader", name := "takeLengths", desc := "()Z" } : Jvm.MethodName) b_Reader_takeLengths 6 (some .boolean) :: tt
theorem d_Reader_takeLengths_0 : decode b_Reader_takeLengths 0 = .ok (.iconst 0, 1) := by decide +kernel
theorem d_Reader_takeLengths_1 : decode b_Reader_takeLengths 1 = .ok (.istore_n 1, 1) := by decide +kernel
theorem d_Reader_takeLengths_2 : decode b_Reader_takeLengths 2 = .ok (.iconst 0, 1) := by decide +kernel
theorem d_Reader_takeLengths_3 : decode b_Reader_takeLengths 3 = .ok (.istore_n 2, 1) := by decide +kernel
theorem d_Reader_takeLengths_4 : decode b_Reader_takeLengths 4 = .ok (.iload_n 2, 1) := by decide +kernel
theorem d_Reader_takeLengths_5 : decode b_Reader_takeLengths 5 = .ok (.aload_n 0, 1) := by decide +kernel
theorem d_Reader_takeLengths_6 : decode b_Reader_takeLengths 6 = .ok (.getfield 61, 3) := by decide +kernel
theorem d_Reader_takeLengths_9 : decode b_Reader_takeLengths 9 = .ok (.if_icmp .ge 35, 3) := by decide +kernel
theorem d_Reader_takeLengths_12 : decode b_Reader_takeLengths 12 = .ok (.iload_n 1, 1) := by decide +kernel
theorem d_Reader_takeLengths_13 : decode b_Reader_takeLengths 13 = .ok (.aload_n 0, 1) := by decide +kernel
theorem d_Reader_takeLengths_14 : decode b_Reader_takeLengths 14 = .ok (.getfield 25, 3) := by decide +kernel
theorem d_Reader_takeLengths_17 : decode b_Reader_takeLengths 17 = .ok (.iload_n 2, 1) := by decide +kernel
theorem d_Reader_takeLengths_18 : decode b_Reader_takeLengths 18 = .ok (.iaload, 1) := by decide +kernel
theorem d_Reader_takeLengths_19 : decode b_Reader_takeLengths 19 = .ok (.ifCond .le 16, 3) := by decide +kernel
theorem d_Reader_takeLengths_22 : decode b_Reader_takeLengths 22 = .ok (.iconst 1, 1) := by decide +kernel
theorem d_Reader_takeLengths_23 : decode b_Reader_takeLengths 23 = .ok (.aload_n 0, 1) := by decide +kernel
theorem d_Reader_takeLengths_24 : decode b_Reader_takeLengths 24 = .ok (.getfield 25, 3) := by decide +kernel
theorem d_Reader_takeLengths_27 : decode b_Reader_takeLengths 27 = .ok (.iload_n 2, 1) := by decide +kernel
theorem d_Reader_takeLengths_28 : decode b_Reader_takeLengths 28 = .ok (.iaload, 1) := by decide +kernel
theorem d_Reader_takeLengths_29 : decode b_Reader_takeLengths 29 = .ok (.iconst 1, 1) := by decide +kernel
theorem d_Reader_takeLengths_30 : decode b_Reader_takeLengths 30 = .ok (.isub, 1) := by decide +kernel
theorem d_Reader_takeLengths_31 : decode b_Reader_takeLengths 31 = .ok (.ishl, 1) := by decide +kernel
theorem d_Reader_takeLengths_32 : decode b_Reader_takeLengths 32 = .ok (.goto 4, 3) := by decide +kernel
theorem d_Reader_takeLengths_35 : decode b_Reader_takeLengths 35 = .ok (.iconst 0, 1) := by decide +kernel
theorem d_Reader_takeLengths_36 : decode b_Reader_takeLengths 36 = .ok (.iadd, 1) := by decide +kernel
theorem d_Reader_takeLengths_37 : decode b_Reader_takeLengths 37 = .ok (.istore_n 1, 1) := by decide +kernel
theorem d_Reader_takeLengths_38 : decode b_Reader_takeLengths 38 = .ok (.iinc 2 1, 3) := by decide +kernel
theorem d_Reader_takeLengths_41 : decode b_Reader_takeLengths 41 = .ok (.goto (-37), 3) := by decide +kernel
theorem d_Reader_takeLengths_44 : decode b_Reader_takeLengths 44 = .ok (.iload_n 1, 1) := by decide +kernel
theorem d_Reader_takeLengths_45 : decode b_Reader_takeLengths 45 = .ok (.invokestatic 86, 3) := by decide +kernel
theorem d_Reader_takeLengths_48 : decode b_Reader_takeLengths 48 = .ok (.iconst 1, 1) := by decide +kernel
theorem d_Reader_takeLengths_49 : decode b_Reader_takeLengths 49 = .ok (.iadd, 1) := by decide +kernel
theorem d_Reader_takeLengths_50 : decode b_Reader_takeLengths 50 = .ok (.istore_n 2, 1) := by decide +kernel
theorem d_Reader_takeLengths_51 : decode b_Reader_takeLengths 51 = .ok (.iconst 1, 1) := by decide +kernel
theorem d_Reader_takeLengths_52 : decode b_Reader_takeLengths 52 = .ok (.iload_n 2, 1) := by decide +kernel
theorem d_Reader_takeLengths_53 : decode b_Reader_takeLengths 53 = .ok (.ishl, 1) := by decide +kernel
theorem d_Reader_takeLengths_54 : decode b_Reader_takeLengths 54 = .ok (.iload_n 1, 1) := by decide +kernel
theorem d_Reader_takeLengths_55 : decode b_Reader_takeLengths 55 = .ok (.isub, 1) := by decide +kernel
theorem d_Reader_takeLengths_56 : decode b_Reader_takeLengths 56 = .ok (.istore_n 3, 1) := by decide +kernel
theorem d_Reader_takeLengths_57 : decode b_Reader_takeLengths 57 = .ok (.iload_n 1, 1) := by decide +kernel
theorem d_Reader_takeLengths_58 : decode b_Reader_takeLengths 58 = .ok (.ifCond .eq 17, 3) := by decide +kernel
theorem d_Reader_takeLengths_61 : decode b_Reader_takeLengths 61 = .ok (.iload_n 2, 1) := by decide +kernel
theorem d_Reader_takeLengths_62 : decode b_Reader_takeLengths 62 = .ok (.bipush 11, 2) := by decide +kernel
theorem d_Reader_takeLengths_64 : decode b_Reader_takeLengths 64 = .ok (.if_icmp .gt 11, 3) := by decide +kernel
theorem d_Reader_takeLengths_67 : decode b_Reader_takeLengths 67 = .ok (.iload_n 3, 1) := by decide +kernel
theorem d_Reader_takeLengths_68 : decode b_Reader_takeLengths 68 = .ok (.iload_n 3, 1) := by decide +kernel
theorem d_Reader_takeLengths_69 : decode b_Reader_takeLengths 69 = .ok (.iconst 1, 1) := by decide +kernel
theorem d_Reader_takeLengths_70 : decode b_Reader_takeLengths 70 = .ok (.isub, 1) := by decide +kernel
theorem d_Reader_takeLengths_71 : decode b_Reader_takeLengths 71 = .ok (.iand, 1) := by decide +kernel
theorem d_Reader_takeLengths_72 : decode b_Reader_takeLengths 72 = .ok (.ifCond .eq 5, 3) := by decide +kernel
theorem d_Reader_takeLengths_75 : decode b_Reader_takeLengths 75 = .ok (.iconst 0, 1) := by decide +kernel
theorem d_Reader_takeLengths_76 : decode b_Reader_takeLengths 76 = .ok (.ireturn, 1) := by decide +kernel
theorem d_Reader_takeLengths_77 : decode b_Reader_takeLengths 77 = .ok (.aload_n 0, 1) := by decide +kernel
theorem d_Reader_takeLengths_78 : decode b_Reader_takeLengths 78 = .ok (.getfield 25, 3) := by decide +kernel
theorem d_Reader_takeLengths_81 : decode b_Reader_takeLengths 81 = .ok (.aload_n 0, 1) := by decide +kernel
theorem d_Reader_takeLengths_82 : decode b_Reader_takeLengths 82 = .ok (.getfield 61, 3) := by decide +kernel
theorem d_Reader_takeLengths_85 : decode b_Reader_takeLengths 85 = .ok (.iload_n 3, 1) := by decide +kernel
theorem d_Reader_takeLengths_86 : decode b_Reader_takeLengths 86 = .ok (.invokestatic 86, 3) := by decide +kernel
theorem d_Reader_takeLengths_89 : decode b_Reader_takeLengths 89 = .ok (.iconst 1, 1) := by decide +kernel
theorem d_Reader_takeLengths_90 : decode b_Reader_takeLengths 90 = .ok (.iadd, 1) := by decide +kernel
theorem d_Reader_takeLengths_91 : decode b_Reader_takeLengths 91 = .ok (.iastore, 1) := by decide +kernel
theorem d_Reader_takeLengths_92 : decode b_Reader_takeLengths 92 = .ok (.iconst 0, 1) := by decide +kernel
theorem d_Reader_takeLengths_93 : decode b_Reader_takeLengths 93 = .ok (.istore 4, 2) := by decide +kernel
theorem d_Reader_takeLengths_95 : decode b_Reader_takeLengths 95 = .ok (.aload_n 0, 1) := by decide +kernel
theorem d_Reader_takeLengths_96 : decode b_Reader_takeLengths 96 = .ok (.getfield 29, 3) := by decide +kernel
theorem d_Reader_takeLengths_99 : decode b_Reader_takeLengths 99 = .ok (.iconst 0, 1) := by decide +kernel
theorem d_Reader_takeLengths_100 : decode b_Reader_takeLengths 100 = .ok (.invokestatic 89, 3) := by decide +kernel
theorem d_Reader_takeLengths_103 : decode b_Reader_takeLengths 103 = .ok (.iconst 0, 1) := by decide +kernel
theorem d_Reader_takeLengths_104 : decode b_Reader_takeLengths 104 = .ok (.istore 5, 2) := by decide +kernel
theorem d_Reader_takeLengths_106 : decode b_Reader_takeLengths 106 = .ok (.iload 5, 2) := by decide +kernel
theorem d_Reader_takeLengths_108 : decode b_Reader_takeLengths 108 = .ok (.aload_n 0, 1) := by decide +kernel
theorem d_Reader_takeLengths_109 : decode b_Reader_takeLengths 109 = .ok (.getfield 61, 3) := by decide +kernel
theorem d_Reader_takeLengths_112 : decode b_Reader_takeLengths 112 = .ok (.if_icmp .gt 62, 3) := by decide +kernel
theorem d_Reader_takeLengths_115 : decode b_Reader_takeLengths 115 = .ok (.aload_n 0, 1) := by decide +kernel
theorem d_Reader_takeLengths_116 : decode b_Reader_takeLengths 116 = .ok (.getfield 29, 3) := by decide +kernel
theorem d_Reader_takeLengths_119 : decode b_Reader_takeLengths 119 = .ok (.iload 5, 2) := by decide +kernel
theorem d_Reader_takeLengths_121 : decode b_Reader_takeLengths 121 = .ok (.aload_n 0, 1) := by decide +kernel
theorem d_Reader_takeLengths_122 : decode b_Reader_takeLengths 122 = .ok (.getfield 25, 3) := by decide +kernel
theorem d_Reader_takeLengths_125 : decode b_Reader_takeLengths 125 = .ok (.iload 5, 2) := by decide +kernel
theorem d_Reader_takeLengths_127 : decode b_Reader_takeLengths 127 = .ok (.iaload, 1) := by decide +kernel
theorem d_Reader_takeLengths_128 : decode b_Reader_takeLengths 128 = .ok (.ifCond .le 17, 3) := by decide +kernel
theorem d_Reader_takeLengths_131 : decode b_Reader_takeLengths 131 = .ok (.iload_n 2, 1) := by decide +kernel
theorem d_Reader_takeLengths_132 : decode b_Reader_takeLengths 132 = .ok (.iconst 1, 1) := by decide +kernel
theorem d_Reader_takeLengths_133 : decode b_Reader_takeLengths 133 = .ok (.iadd, 1) := by decide +kernel
theorem d_Reader_takeLengths_134 : decode b_Reader_takeLengths 134 = .ok (.aload_n 0, 1) := by decide +kernel
theorem d_Reader_takeLengths_135 : decode b_Reader_takeLengths 135 = .ok (.getfield 25, 3) := by decide +kernel
theorem d_Reader_takeLengths_138 : decode b_Reader_takeLengths 138 = .ok (.iload 5, 2) := by decide +kernel
theorem d_Reader_takeLengths_140 : decode b_Reader_takeLengths 140 = .ok (.iaload, 1) := by decide +kernel
theorem d_Reader_takeLengths_141 : decode b_Reader_takeLengths 141 = .ok (.isub, 1) := by decide +kernel
theorem d_Reader_takeLengths_142 : decode b_Reader_takeLengths 142 = .ok (.goto 4, 3) := by decide +kernel
theorem d_Reader_takeLengths_145 : decode b_Reader_takeLengths 145 = .ok (.iconst 0, 1) := by decide +kernel
theorem d_Reader_takeLengths_146 : decode b_Reader_takeLengths 146 = .ok (.iastore, 1) := by decide +kernel
theorem d_Reader_takeLengths_147 : decode b_Reader_takeLengths 147 = .ok (.iload 4, 2) := by decide +kernel
theorem d_Reader_takeLengths_149 : decode b_Reader_takeLengths 149 = .ok (.aload_n 0, 1) := by decide +kernel
theorem d_Reader_takeLengths_150 : decode b_Reader_takeLengths 150 = .ok (.getfield 25, 3) := by decide +kernel
theorem d_Reader_takeLengths_153 : decode b_Reader_takeLengths 153 = .ok (.iload 5, 2) := by decide +kernel
theorem d_Reader_takeLengths_155 : decode b_Reader_takeLengths 155 = .ok (.iaload, 1) := by decide +kernel
theorem d_Reader_takeLengths_156 : decode b_Reader_takeLengths 156 = .ok (.iconst 1, 1) := by decide +kernel
theorem d_Reader_takeLengths_157 : decode b_Reader_takeLengths 157 = .ok (.if_icmp .ne 7, 3) := by decide +kernel
theorem d_Reader_takeLengths_160 : decode b_Reader_takeLengths 160 = .ok (.iconst 1, 1) := by decide +kernel
theorem d_Reader_takeLengths_161 : decode b_Reader_takeLengths 161 = .ok (.goto 4, 3) := by decide +kernel
theorem d_Reader_takeLengths_164 : decode b_Reader_takeLengths 164 = .ok (.iconst 0, 1) := by decide +kernel
theorem d_Reader_takeLengths_165 : decode b_Reader_takeLengths 165 = .ok (.iadd, 1) := by decide +kernel
theorem d_Reader_takeLengths_166 : decode b_Reader_takeLengths 166 = .ok (.istore 4, 2) := by decide +kernel
theorem d_Reader_takeLengths_168 : decode b_Reader_takeLengths 168 = .ok (.iinc 5 1, 3) := by decide +kernel
theorem d_Reader_takeLengths_171 : decode b_Reader_takeLengths 171 = .ok (.goto (-65), 3) := by decide +kernel
theorem d_Reader_takeLengths_174 : decode b_Reader_takeLengths 174 = .ok (.iload 4, 2) := by decide +kernel
theorem d_Reader_takeLengths_176 : decode b_Reader_takeLengths 176 = .ok (.iconst 2, 1) := by decide +kernel
theorem d_Reader_takeLengths_177 : decode b_Reader_takeLengths 177 = .ok (.if_icmp .lt 7, 3) := by decide +kernel
theorem d_Reader_takeLengths_180 : decode b_Reader_takeLengths 180 = .ok (.iconst 1, 1) := by decide +kernel
theorem d_Reader_takeLengths_181 : decode b_Reader_takeLengths 181 = .ok (.goto 4, 3) := by decide +kernel
theorem d_Reader_takeLengths_184 : decode b_Reader_takeLengths 184 = .ok (.iconst 0, 1) := by decide +kernel
theorem d_Reader_takeLengths_185 : decode b_Reader_takeLengths 185 = .ok (.ireturn, 1) := by decide +kernel
def f_Reader_takeLengths_b36 (N : Nat) (i_known : Int32) (k4 : Int32 → Int32 → (Nat → Int32) → (Nat → Int32) → Option (Int32 × (Nat → Int32) × (Nat → Int32))) (l2 : Int32) (s0 : Int32) (s1 : Int32) (v_weights : Nat → Int32) (v_lengths : Nat → Int32) : Option (Int32 × (Nat → Int32) × (Nat → Int32)) :=
  nm (s1 + s0) fun l1_1 =>
  nm (l2 + 1) fun l2_2 =>
  k4 l1_1 l2_2 v_weights v_lengths
def f_Reader_takeLengths_b75 (N : Nat) (i_known : Int32)  (v_weights : Nat → Int32) (v_lengths : Nat → Int32) : Option (Int32 × (Nat → Int32) × (Nat → Int32)) :=
  some (0, v_weights, v_lengths)
def f_Reader_takeLengths_b165 (N : Nat) (i_known : Int32) (k106 : Int32 → Int32 → Int32 → (Nat → Int32) → (Nat → Int32) → Option (Int32 × (Nat → Int32) × (Nat → Int32))) (l2 : Int32) (l5 : Int32) (s0 : Int32) (s1 : Int32) (v_weights : Nat → Int32) (v_lengths : Nat → Int32) : Option (Int32 × (Nat → Int32) × (Nat → Int32)) :=
  nm (s1 + s0) fun l4_1 =>
  nm (l5 + 1) fun l5_2 =>
  k106 l2 l4_1 l5_2 v_weights v_lengths
def f_Reader_takeLengths_b146 (N : Nat) (i_known : Int32) (k106 : Int32 → Int32 → Int32 → (Nat → Int32) → (Nat → Int32) → Option (Int32 × (Nat → Int32) × (Nat → Int32))) (l2 : Int32) (l4 : Int32) (l5 : Int32) (s0 : Int32) (s1 : Int32) (v_weights : Nat → Int32) (v_lengths : Nat → Int32) : Option (Int32 × (Nat → Int32) × (Nat → Int32)) :=
  ck (inb s1 256) <|
  nm (upd v_lengths (Int32.toNatClampNeg s1) s0) fun v_lengths_2 =>
  ck (inb l5 256) <|
  if (v_weights (Int32.toNatClampNeg l5)) = 1 then
  f_Reader_takeLengths_b165 N i_known k106 l2 l5 1 l4 v_weights v_lengths_2
  else
  f_Reader_takeLengths_b165 N i_known k106 l2 l5 0 l4 v_weights v_lengths_2
def f_Reader_takeLengths_b174 (N : Nat) (i_known : Int32)  (l4 : Int32) (v_weights : Nat → Int32) (v_lengths : Nat → Int32) : Option (Int32 × (Nat → Int32) × (Nat → Int32)) :=
  if l4 < 2 then
  some (0, v_weights, v_lengths)
  else
  some (1, v_weights, v_lengths)
def f_Reader_takeLengths_b106 (N : Nat) (i_known : Int32)  : Nat → Int32 → Int32 → Int32 → (Nat → Int32) → (Nat → Int32) → Option (Int32 × (Nat → Int32) × (Nat → Int32))
  | 0, _, _, _, _, _ => none
  | z + 1, l2, l4, l5, v_weights, v_lengths =>
  if i_known < l5 then
  f_Reader_takeLengths_b174 N i_known  l4 v_weights v_lengths
  else
  ck (inb l5 256) <|
  if (v_weights (Int32.toNatClampNeg l5)) ≤ 0 then
  f_Reader_takeLengths_b146 N i_known (f_Reader_takeLengths_b106 N i_known  z) l2 l4 l5 0 l5 v_weights v_lengths
  else
  ck (inb l5 256) <|
  f_Reader_takeLengths_b146 N i_known (f_Reader_takeLengths_b106 N i_known  z) l2 l4 l5 ((l2 + 1) - (v_weights (Int32.toNatClampNeg l5))) l5 v_weights v_lengths
def f_Reader_takeLengths_b44 (N : Nat) (i_known : Int32)  (l1 : Int32) (v_weights : Nat → Int32) (v_lengths : Nat → Int32) : Option (Int32 × (Nat → Int32) × (Nat → Int32)) :=
  bd1 (f_PM_log2 N l1) fun r_1 =>
  nm (r_1 + 1) fun l2_3 =>
  nm ((1 <<< (l2_3 &&& 31)) - l1) fun l3_4 =>
  if l1 = 0 then
  f_Reader_takeLengths_b75 N i_known  v_weights v_lengths
  else
  if 11 < l2_3 then
  f_Reader_takeLengths_b75 N i_known  v_weights v_lengths
  else
  if (l3_4 &&& (l3_4 - 1)) = 0 then
  bd1 (f_PM_log2 N l3_4) fun r_8 =>
  ck (inb i_known 256) <|
  nm (upd v_weights (Int32.toNatClampNeg i_known) (r_8 + 1)) fun v_weights_11 =>
  bd1 (f_JArr_fill N 256 0 v_lengths) fun v_lengths_12 =>
  f_Reader_takeLengths_b106 N i_known  N l2_3 0 0 v_weights_11 v_lengths_12
  else
  f_Reader_takeLengths_b75 N i_known  v_weights v_lengths
def f_Reader_takeLengths_b4 (N : Nat) (i_known : Int32)  : Nat → Int32 → Int32 → (Nat → Int32) → (Nat → Int32) → Option (Int32 × (Nat → Int32) × (Nat → Int32))
  | 0, _, _, _, _ => none
  | z + 1, l1, l2, v_weights, v_lengths =>
  if i_known ≤ l2 then
  f_Reader_takeLengths_b44 N i_known  l1 v_weights v_lengths
  else
  ck (inb l2 256) <|
  if (v_weights (Int32.toNatClampNeg l2)) ≤ 0 then
  f_Reader_takeLengths_b36 N i_known (f_Reader_takeLengths_b4 N i_known  z) l2 0 l1 v_weights v_lengths
  else
  ck (inb l2 256) <|
  f_Reader_takeLengths_b36 N i_known (f_Reader_takeLengths_b4 N i_known  z) l2 (1 <<< (((v_weights (Int32.toNatClampNeg l2)) - 1) &&& 31)) l1 v_weights v_lengths
def f_Reader_takeLengths (N : Nat) (i_known : Int32)  (v_weights : Nat → Int32) (v_lengths : Nat → Int32) : Option (Int32 × (Nat → Int32) × (Nat → Int32)) :=
  f_Reader_takeLengths_b4 N i_known  N 0 0 v_weights v_lengths
abbrev R_Reader_takeLengths : Room := ({ frames := 1, cells := 0, slots := 0, locals := 23 } : Room)
def E_Reader_takeLengths (p : Program) (l : Launch) (e : Env) (s : State) (m : MethodId) (args : Array Value) (below : List Frame) (meth : Method) (c : Code) (Q : State → Prop) (A : Nat → Prop) (D : va_G) (cI cL cZ : ClassId) (a_this : Nat) (a_weights : Nat) (a_lengths : Nat) (o_tail : Nat) (o_share : Nat) (i_known : Int32) (i_end : Int32) (res : Int32 × (Nat → Int32) × (Nat → Int32)) : Prop := ∀ (pc : Nat) (H : Heap) (locs : List Loc) (ls : Array Slot) (rv : Int32) (v_weights : Nat → Int32) (v_lengths : Nat → Int32), some (rv, v_weights, v_lengths) = some res → narrow .boolean (.int rv) = .int rv → decode b_Reader_takeLengths pc = .ok (.ireturn, 1) → va_P D classes [(a_this, .inr (4, [.ref o_tail, .ref o_share, .ref a_weights, .ref a_lengths, .int i_known, .int i_end])), (a_weights, .inl (cI, 256, .inl v_weights)), (a_lengths, .inl (cI, 256, .inl v_lengths))] H → va_D A [(a_this, .inr (4, [.ref o_tail, .ref o_share, .ref a_weights, .ref a_lengths, .int i_known, .int i_end])), (a_weights, .inl (cI, 256, .inl v_weights)), (a_lengths, .inl (cI, 256, .inl v_lengths))] → va_S A s.heap H locs → W p l e R_Reader_takeLengths s m args below meth c H locs 0 0 Q (F0 m pc ls [.int rv])
def I_Reader_takeLengths_b36 (p : Program) (l : Launch) (e : Env) (s : State) (m : MethodId) (args : Array Value) (below : List Frame) (meth : Method) (c : Code) (Q : State → Prop) (A : Nat → Prop) (D : va_G) (cI cL cZ : ClassId) (a_this : Nat) (a_weights : Nat) (a_lengths : Nat) (o_tail : Nat) (o_share : Nat) (i_known : Int32) (i_end : Int32) (res : Int32 × (Nat → Int32) × (Nat → Int32)) (kf : Int32 → Int32 → Int32 → (Nat → Int32) → (Nat → Int32) → Option (Int32 × (Nat → Int32) × (Nat → Int32))) : Prop := ∀ (l2 : Int32) (s0 : Int32) (s1 : Int32) (v_weights : Nat → Int32) (v_lengths : Nat → Int32), kf l2 s0 s1 v_weights v_lengths = some res → ∀ (H : Heap) (locs : List Loc) (ls : Array Slot), lv_has ls 6 [(0, .ref a_this), (2, .int l2)] → va_P D classes [(a_this, .inr (4, [.ref o_tail, .ref o_share, .ref a_weights, .ref a_lengths, .int i_known, .int i_end])), (a_weights, .inl (cI, 256, .inl v_weights)), (a_lengths, .inl (cI, 256, .inl v_lengths))] H → va_D A [(a_this, .inr (4, [.ref o_tail, .ref o_share, .ref a_weights, .ref a_lengths, .int i_known, .int i_end])), (a_weights, .inl (cI, 256, .inl v_weights)), (a_lengths, .inl (cI, 256, .inl v_lengths))] → va_S A s.heap H locs → W p l e R_Reader_takeLengths s m args below meth c H locs 0 0 Q (F0 m 36 ls [.int s0, .int s1])
def I_Reader_takeLengths_b75 (p : Program) (l : Launch) (e : Env) (s : State) (m : MethodId) (args : Array Value) (below : List Frame) (meth : Method) (c : Code) (Q : State → Prop) (A : Nat → Prop) (D : va_G) (cI cL cZ : ClassId) (a_this : Nat) (a_weights : Nat) (a_lengths : Nat) (o_tail : Nat) (o_share : Nat) (i_known : Int32) (i_end : Int32) (res : Int32 × (Nat → Int32) × (Nat → Int32)) (kf : (Nat → Int32) → (Nat → Int32) → Option (Int32 × (Nat → Int32) × (Nat → Int32))) : Prop := ∀ (v_weights : Nat → Int32) (v_lengths : Nat → Int32), kf v_weights v_lengths = some res → ∀ (H : Heap) (locs : List Loc) (ls : Array Slot), lv_has ls 6 [] → va_P D classes [(a_this, .inr (4, [.ref o_tail, .ref o_share, .ref a_weights, .ref a_lengths, .int i_known, .int i_end])), (a_weights, .inl (cI, 256, .inl v_weights)), (a_lengths, .inl (cI, 256, .inl v_lengths))] H → va_D A [(a_this, .inr (4, [.ref o_tail, .ref o_share, .ref a_weights, .ref a_lengths, .int i_known, .int i_end])), (a_weights, .inl (cI, 256, .inl v_weights)), (a_lengths, .inl (cI, 256, .inl v_lengths))] → va_S A s.heap H locs → W p l e R_Reader_takeLengths s m args below meth c H locs 0 0 Q (F0 m 75 ls [])
def I_Reader_takeLengths_b165 (p : Program) (l : Launch) (e : Env) (s : State) (m : MethodId) (args : Array Value) (below : List Frame) (meth : Method) (c : Code) (Q : State → Prop) (A : Nat → Prop) (D : va_G) (cI cL cZ : ClassId) (a_this : Nat) (a_weights : Nat) (a_lengths : Nat) (o_tail : Nat) (o_share : Nat) (i_known : Int32) (i_end : Int32) (res : Int32 × (Nat → Int32) × (Nat → Int32)) (kf : Int32 → Int32 → Int32 → Int32 → (Nat → Int32) → (Nat → Int32) → Option (Int32 × (Nat → Int32) × (Nat → Int32))) : Prop := ∀ (l2 : Int32) (l5 : Int32) (s0 : Int32) (s1 : Int32) (v_weights : Nat → Int32) (v_lengths : Nat → Int32), kf l2 l5 s0 s1 v_weights v_lengths = some res → ∀ (H : Heap) (locs : List Loc) (ls : Array Slot), lv_has ls 6 [(0, .ref a_this), (2, .int l2), (5, .int l5)] → va_P D classes [(a_this, .inr (4, [.ref o_tail, .ref o_share, .ref a_weights, .ref a_lengths, .int i_known, .int i_end])), (a_weights, .inl (cI, 256, .inl v_weights)), (a_lengths, .inl (cI, 256, .inl v_lengths))] H → va_D A [(a_this, .inr (4, [.ref o_tail, .ref o_share, .ref a_weights, .ref a_lengths, .int i_known, .int i_end])), (a_weights, .inl (cI, 256, .inl v_weights)), (a_lengths, .inl (cI, 256, .inl v_lengths))] → va_S A s.heap H locs → W p l e R_Reader_takeLengths s m args below meth c H locs 0 0 Q (F0 m 165 ls [.int s0, .int s1])
def I_Reader_takeLengths_b146 (p : Program) (l : Launch) (e : Env) (s : State) (m : MethodId) (args : Array Value) (below : List Frame) (meth : Method) (c : Code) (Q : State → Prop) (A : Nat → Prop) (D : va_G) (cI cL cZ : ClassId) (a_this : Nat) (a_weights : Nat) (a_lengths : Nat) (o_tail : Nat) (o_share : Nat) (i_known : Int32) (i_end : Int32) (res : Int32 × (Nat → Int32) × (Nat → Int32)) (kf : Int32 → Int32 → Int32 → Int32 → Int32 → (Nat → Int32) → (Nat → Int32) → Option (Int32 × (Nat → Int32) × (Nat → Int32))) : Prop := ∀ (l2 : Int32) (l4 : Int32) (l5 : Int32) (s0 : Int32) (s1 : Int32) (v_weights : Nat → Int32) (v_lengths : Nat → Int32), kf l2 l4 l5 s0 s1 v_weights v_lengths = some res → ∀ (H : Heap) (locs : List Loc) (ls : Array Slot), lv_has ls 6 [(0, .ref a_this), (2, .int l2), (4, .int l4), (5, .int l5)] → va_P D classes [(a_this, .inr (4, [.ref o_tail, .ref o_share, .ref a_weights, .ref a_lengths, .int i_known, .int i_end])), (a_weights, .inl (cI, 256, .inl v_weights)), (a_lengths, .inl (cI, 256, .inl v_lengths))] H → va_D A [(a_this, .inr (4, [.ref o_tail, .ref o_share, .ref a_weights, .ref a_lengths, .int i_known, .int i_end])), (a_weights, .inl (cI, 256, .inl v_weights)), (a_lengths, .inl (cI, 256, .inl v_lengths))] → va_S A s.heap H locs → W p l e R_Reader_takeLengths s m args below meth c H locs 0 0 Q (F0 m 146 ls [.int s0, .int s1, .ref a_lengths])
def I_Reader_takeLengths_b174 (p : Program) (l : Launch) (e : Env) (s : State) (m : MethodId) (args : Array Value) (below : List Frame) (meth : Method) (c : Code) (Q : State → Prop) (A : Nat → Prop) (D : va_G) (cI cL cZ : ClassId) (a_this : Nat) (a_weights : Nat) (a_lengths : Nat) (o_tail : Nat) (o_share : Nat) (i_known : Int32) (i_end : Int32) (res : Int32 × (Nat → Int32) × (Nat → Int32)) (kf : Int32 → (Nat → Int32) → (Nat → Int32) → Option (Int32 × (Nat → Int32) × (Nat → Int32))) : Prop := ∀ (l4 : Int32) (v_weights : Nat → Int32) (v_lengths : Nat → Int32), kf l4 v_weights v_lengths = some res → ∀ (H : Heap) (locs : List Loc) (ls : Array Slot), lv_has ls 6 [(4, .int l4)] → va_P D classes [(a_this, .inr (4, [.ref o_tail, .ref o_share, .ref a_weights, .ref a_lengths, .int i_known, .int i_end])), (a_weights, .inl (cI, 256, .inl v_weights)), (a_lengths, .inl (cI, 256, .inl v_lengths))] H → va_D A [(a_this, .inr (4, [.ref o_tail, .ref o_share, .ref a_weights, .ref a_lengths, .int i_known, .int i_end])), (a_weights, .inl (cI, 256, .inl v_weights)), (a_lengths, .inl (cI, 256, .inl v_lengths))] → va_S A s.heap H locs → W p l e R_Reader_takeLengths s m args below meth c H locs 0 0 Q (F0 m 174 ls [])
def I_Reader_takeLengths_b106 (p : Program) (l : Launch) (e : Env) (s : State) (m : MethodId) (args : Array Value) (below : List Frame) (meth : Method) (c : Code) (Q : State → Prop) (A : Nat → Prop) (D : va_G) (cI cL cZ : ClassId) (a_this : Nat) (a_weights : Nat) (a_lengths : Nat) (o_tail : Nat) (o_share : Nat) (i_known : Int32) (i_end : Int32) (res : Int32 × (Nat → Int32) × (Nat → Int32)) (kf : Int32 → Int32 → Int32 → (Nat → Int32) → (Nat → Int32) → Option (Int32 × (Nat → Int32) × (Nat → Int32))) : Prop := ∀ (l2 : Int32) (l4 : Int32) (l5 : Int32) (v_weights : Nat → Int32) (v_lengths : Nat → Int32), kf l2 l4 l5 v_weights v_lengths = some res → ∀ (H : Heap) (locs : List Loc) (ls : Array Slot), lv_has ls 6 [(0, .ref a_this), (2, .int l2), (4, .int l4), (5, .int l5)] → va_P D classes [(a_this, .inr (4, [.ref o_tail, .ref o_share, .ref a_weights, .ref a_lengths, .int i_known, .int i_end])), (a_weights, .inl (cI, 256, .inl v_weights)), (a_lengths, .inl (cI, 256, .inl v_lengths))] H → va_D A [(a_this, .inr (4, [.ref o_tail, .ref o_share, .ref a_weights, .ref a_lengths, .int i_known, .int i_end])), (a_weights, .inl (cI, 256, .inl v_weights)), (a_lengths, .inl (cI, 256, .inl v_lengths))] → va_S A s.heap H locs → W p l e R_Reader_takeLengths s m args below meth c H locs 0 0 Q (F0 m 106 ls [])
def I_Reader_takeLengths_b44 (p : Program) (l : Launch) (e : Env) (s : State) (m : MethodId) (args : Array Value) (below : List Frame) (meth : Method) (c : Code) (Q : State → Prop) (A : Nat → Prop) (D : va_G) (cI cL cZ : ClassId) (a_this : Nat) (a_weights : Nat) (a_lengths : Nat) (o_tail : Nat) (o_share : Nat) (i_known : Int32) (i_end : Int32) (res : Int32 × (Nat → Int32) × (Nat → Int32)) (kf : Int32 → (Nat → Int32) → (Nat → Int32) → Option (Int32 × (Nat → Int32) × (Nat → Int32))) : Prop := ∀ (l1 : Int32) (v_weights : Nat → Int32) (v_lengths : Nat → Int32), kf l1 v_weights v_lengths = some res → ∀ (H : Heap) (locs : List Loc) (ls : Array Slot), lv_has ls 6 [(0, .ref a_this), (1, .int l1)] → va_P D classes [(a_this, .inr (4, [.ref o_tail, .ref o_share, .ref a_weights, .ref a_lengths, .int i_known, .int i_end])), (a_weights, .inl (cI, 256, .inl v_weights)), (a_lengths, .inl (cI, 256, .inl v_lengths))] H → va_D A [(a_this, .inr (4, [.ref o_tail, .ref o_share, .ref a_weights, .ref a_lengths, .int i_known, .int i_end])), (a_weights, .inl (cI, 256, .inl v_weights)), (a_lengths, .inl (cI, 256, .inl v_lengths))] → va_S A s.heap H locs → W p l e R_Reader_takeLengths s m args below meth c H locs 0 0 Q (F0 m 44 ls [])
def I_Reader_takeLengths_b4 (p : Program) (l : Launch) (e : Env) (s : State) (m : MethodId) (args : Array Value) (below : List Frame) (meth : Method) (c : Code) (Q : State → Prop) (A : Nat → Prop) (D : va_G) (cI cL cZ : ClassId) (a_this : Nat) (a_weights : Nat) (a_lengths : Nat) (o_tail : Nat) (o_share : Nat) (i_known : Int32) (i_end : Int32) (res : Int32 × (Nat → Int32) × (Nat → Int32)) (kf : Int32 → Int32 → (Nat → Int32) → (Nat → Int32) → Option (Int32 × (Nat → Int32) × (Nat → Int32))) : Prop := ∀ (l1 : Int32) (l2 : Int32) (v_weights : Nat → Int32) (v_lengths : Nat → Int32), kf l1 l2 v_weights v_lengths = some res → ∀ (H : Heap) (locs : List Loc) (ls : Array Slot), lv_has ls 6 [(0, .ref a_this), (1, .int l1), (2, .int l2)] → va_P D classes [(a_this, .inr (4, [.ref o_tail, .ref o_share, .ref a_weights, .ref a_lengths, .int i_known, .int i_end])), (a_weights, .inl (cI, 256, .inl v_weights)), (a_lengths, .inl (cI, 256, .inl v_lengths))] H → va_D A [(a_this, .inr (4, [.ref o_tail, .ref o_share, .ref a_weights, .ref a_lengths, .int i_known, .int i_end])), (a_weights, .inl (cI, 256, .inl v_weights)), (a_lengths, .inl (cI, 256, .inl v_lengths))] → va_S A s.heap H locs → W p l e R_Reader_takeLengths s m args below meth c H locs 0 0 Q (F0 m 4 ls [])
def I_Reader_takeLengths_b0 (p : Program) (l : Launch) (e : Env) (s : State) (m : MethodId) (args : Array Value) (below : List Frame) (meth : Method) (c : Code) (Q : State → Prop) (A : Nat → Prop) (D : va_G) (cI cL cZ : ClassId) (a_this : Nat) (a_weights : Nat) (a_lengths : Nat) (o_tail : Nat) (o_share : Nat) (i_known : Int32) (i_end : Int32) (res : Int32 × (Nat → Int32) × (Nat → Int32)) (kf : (Nat → Int32) → (Nat → Int32) → Option (Int32 × (Nat → Int32) × (Nat → Int32))) : Prop := ∀ (v_weights : Nat → Int32) (v_lengths : Nat → Int32), kf v_weights v_lengths = some res → ∀ (H : Heap) (locs : List Loc) (ls : Array Slot), lv_has ls 6 [(0, .ref a_this)] → va_P D classes [(a_this, .inr (4, [.ref o_tail, .ref o_share, .ref a_weights, .ref a_lengths, .int i_known, .int i_end])), (a_weights, .inl (cI, 256, .inl v_weights)), (a_lengths, .inl (cI, 256, .inl v_lengths))] H → va_D A [(a_this, .inr (4, [.ref o_tail, .ref o_share, .ref a_weights, .ref a_lengths, .int i_known, .int i_end])), (a_weights, .inl (cI, 256, .inl v_weights)), (a_lengths, .inl (cI, 256, .inl v_lengths))] → va_S A s.heap H locs → W p l e R_Reader_takeLengths s m args below meth c H locs 0 0 Q (F0 m 0 ls [])
set_option maxHeartbeats 4000000 in
set_option maxRecDepth 100000 in
theorem w_Reader_takeLengths_b36 {p : Program} {l : Launch} {e : Env} {s : State} {m : MethodId} {args : Array Value} {below : List Frame} {meth : Method} {c : Code} {Q : State → Prop} {A : Nat → Prop} {D : va_G} {cI cL cZ : ClassId} {a_this : Nat} {a_weights : Nat} {a_lengths : Nat} {o_tail : Nat} {o_share : Nat} {i_known : Int32} {i_end : Int32} {N : Nat} {res : Int32 × (Nat → Int32) × (Nat → Int32)} {k4 : Int32 → Int32 → (Nat → Int32) → (Nat → Int32) → Option (Int32 × (Nat → Int32) × (Nat → Int32))} (C : Cx p s m args c b_Reader_takeLengths 6 "PrefixMill$Reader" D [(cI, .int), (cL, .long), (cZ, .boolean)] A) (hret : E_Reader_takeLengths p l e s m args below meth c Q A D cI cL cZ a_this a_weights a_lengths o_tail o_share i_known i_end res) (hk4 : I_Reader_takeLengths_b4 p l e s m args below meth c Q A D cI cL cZ a_this a_weights a_lengths o_tail o_share i_known i_end res k4) : I_Reader_takeLengths_b36 p l e s m args below meth c Q A D cI cL cZ a_this a_weights a_lengths o_tail o_share i_known i_end res (f_Reader_takeLengths_b36 N i_known k4) := by
  obtain ⟨hx, hb, hml, hown, hts, hK, hA⟩ := C
  intro l2 s0 s1 v_weights v_lengths h H locs ls hl hP hD hS
  unfold f_Reader_takeLengths_b36 at h
  refine lv_iadd hx hb d_Reader_takeLengths_36 ?_
  refine lv_topi (fun l1_1 el1_1 => ?_)
  replace h := nm_s h el1_1
  refine lv_istore_n (lv' := [(1, .int l1_1), (0, .ref a_this), (2, .int l2)]) hx hb d_Reader_takeLengths_37 rfl hl (by decide) rfl (fun ls hl => ?_)
  obtain ⟨l2_2, el2_2⟩ : ∃ y : Int32, y = l2 + 1 := ⟨_, rfl⟩
  replace h := nm_s h el2_2
  refine lv_iinc (v := l2_2) (lv' := [(2, .int l2_2), (1, .int l1_1), (0, .ref a_this)]) hx hb d_Reader_takeLengths_38 hl (k := 2) rfl (by rw [el2_2]; rfl) (by decide) rfl (fun ls hl => ?_)
  refine lv_goto (tgt := 4) hx hb d_Reader_takeLengths_41 (by decide) ?_
  exact hk4 _ _ _ _ h H locs ls (lv_sub hl [2, 1, 0] rfl) hP hD hS
set_option maxHeartbeats 4000000 in
set_option maxRecDepth 100000 in
theorem w_Reader_takeLengths_b75 {p : Program} {l : Launch} {e : Env} {s : State} {m : MethodId} {args : Array Value} {below : List Frame} {meth : Method} {c : Code} {Q : State → Prop} {A : Nat → Prop} {D : va_G} {cI cL cZ : ClassId} {a_this : Nat} {a_weights : Nat} {a_lengths : Nat} {o_tail : Nat} {o_share : Nat} {i_known : Int32} {i_end : Int32} {N : Nat} {res : Int32 × (Nat → Int32) × (Nat → Int32)}  (C : Cx p s m args c b_Reader_takeLengths 6 "PrefixMill$Reader" D [(cI, .int), (cL, .long), (cZ, .boolean)] A) (hret : E_Reader_takeLengths p l e s m args below meth c Q A D cI cL cZ a_this a_weights a_lengths o_tail o_share i_known i_end res)  : I_Reader_takeLengths_b75 p l e s m args below meth c Q A D cI cL cZ a_this a_weights a_lengths o_tail o_share i_known i_end res (f_Reader_takeLengths_b75 N i_known ) := by
  obtain ⟨hx, hb, hml, hown, hts, hK, hA⟩ := C
  intro v_weights v_lengths h H locs ls hl hP hD hS
  unfold f_Reader_takeLengths_b75 at h
  refine lv_iconst (v := 0) hx hb d_Reader_takeLengths_75 (by decide) ?_
  exact hret _ _ _ _ 0 v_weights v_lengths h rfl d_Reader_takeLengths_76 hP hD hS
set_option maxHeartbeats 4000000 in
set_option maxRecDepth 100000 in
theorem w_Reader_takeLengths_b165 {p : Program} {l : Launch} {e : Env} {s : State} {m : MethodId} {args : Array Value} {below : List Frame} {meth : Method} {c : Code} {Q : State → Prop} {A : Nat → Prop} {D : va_G} {cI cL cZ : ClassId} {a_this : Nat} {a_weights : Nat} {a_lengths : Nat} {o_tail : Nat} {o_share : Nat} {i_known : Int32} {i_end : Int32} {N : Nat} {res : Int32 × (Nat → Int32) × (Nat → Int32)} {k106 : Int32 → Int32 → Int32 → (Nat → Int32) → (Nat → Int32) → Option (Int32 × (Nat → Int32) × (Nat → Int32))} (C : Cx p s m args c b_Reader_takeLengths 6 "PrefixMill$Reader" D [(cI, .int), (cL, .long), (cZ, .boolean)] A) (hret : E_Reader_takeLengths p l e s m args below meth c Q A D cI cL cZ a_this a_weights a_lengths o_tail o_share i_known i_end res) (hk106 : I_Reader_takeLengths_b106 p l e s m args below meth c Q A D cI cL cZ a_this a_weights a_lengths o_tail o_share i_known i_end res k106) : I_Reader_takeLengths_b165 p l e s m args below meth c Q A D cI cL cZ a_this a_weights a_lengths o_tail o_share i_known i_end res (f_Reader_takeLengths_b165 N i_known k106) := by
  obtain ⟨hx, hb, hml, hown, hts, hK, hA⟩ := C
  intro l2 l5 s0 s1 v_weights v_lengths h H locs ls hl hP hD hS
  unfold f_Reader_takeLengths_b165 at h
  refine lv_iadd hx hb d_Reader_takeLengths_165 ?_
  refine lv_topi (fun l4_1 el4_1 => ?_)
  replace h := nm_s h el4_1
  refine lv_istore (lv' := [(4, .int l4_1), (0, .ref a_this), (2, .int l2), (5, .int l5)]) hx hb d_Reader_takeLengths_166 hl (by decide) rfl (fun ls hl => ?_)
  obtain ⟨l5_2, el5_2⟩ : ∃ y : Int32, y = l5 + 1 := ⟨_, rfl⟩
  replace h := nm_s h el5_2
  refine lv_iinc (v := l5_2) (lv' := [(5, .int l5_2), (4, .int l4_1), (0, .ref a_this), (2, .int l2)]) hx hb d_Reader_takeLengths_168 hl (k := 3) rfl (by rw [el5_2]; rfl) (by decide) rfl (fun ls hl => ?_)
  refine lv_goto (tgt := 106) hx hb d_Reader_takeLengths_171 (by decide) ?_
  exact hk106 _ _ _ _ _ h H locs ls (lv_sub hl [2, 3, 1, 0] rfl) hP hD hS
set_option maxHeartbeats 4000000 in
set_option maxRecDepth 100000 in
theorem w_Reader_takeLengths_b146 {p : Program} {l : Launch} {e : Env} {s : State} {m : MethodId} {args : Array Value} {below : List Frame} {meth : Method} {c : Code} {Q : State → Prop} {A : Nat → Prop} {D : va_G} {cI cL cZ : ClassId} {a_this : Nat} {a_weights : Nat} {a_lengths : Nat} {o_tail : Nat} {o_share : Nat} {i_known : Int32} {i_end : Int32} {N : Nat} {res : Int32 × (Nat → Int32) × (Nat → Int32)} {k106 : Int32 → Int32 → Int32 → (Nat → Int32) → (Nat → Int32) → Option (Int32 × (Nat → Int32) × (Nat → Int32))} (C : Cx p s m args c b_Reader_takeLengths 6 "PrefixMill$Reader" D [(cI, .int), (cL, .long), (cZ, .boolean)] A) (hret : E_Reader_takeLengths p l e s m args below meth c Q A D cI cL cZ a_this a_weights a_lengths o_tail o_share i_known i_end res) (hk106 : I_Reader_takeLengths_b106 p l e s m args below meth c Q A D cI cL cZ a_this a_weights a_lengths o_tail o_share i_known i_end res k106) : I_Reader_takeLengths_b146 p l e s m args below meth c Q A D cI cL cZ a_this a_weights a_lengths o_tail o_share i_known i_end res (f_Reader_takeLengths_b146 N i_known k106) := by
  obtain ⟨hx, hb, hml, hown, hts, hK, hA⟩ := C
  intro l2 l4 l5 s0 s1 v_weights v_lengths h H locs ls hl hP hD hS
  unfold f_Reader_takeLengths_b146 at h
  obtain ⟨g_1, h⟩ := ck_s h
  refine va_iast hx hb hK hP hD hS 2 0 rfl rfl (inb_s g_1) d_Reader_takeLengths_146 (fun H locs hP hD hS => ?_)
  obtain ⟨v_lengths_2, ev_lengths_2⟩ : ∃ y, y = (upd v_lengths (Int32.toNatClampNeg s1) s0) := ⟨_, rfl⟩
  replace h := nm_s h ev_lengths_2
  have hP : va_P D classes [(a_this, .inr (4, [.ref o_tail, .ref o_share, .ref a_weights, .ref a_lengths, .int i_known, .int i_end])), (a_weights, .inl (cI, 256, .inl v_weights)), (a_lengths, .inl (cI, 256, .inl v_lengths_2))] H := by rw [ev_lengths_2]; exact hP
  have hD : va_D A [(a_this, .inr (4, [.ref o_tail, .ref o_share, .ref a_weights, .ref a_lengths, .int i_known, .int i_end])), (a_weights, .inl (cI, 256, .inl v_weights)), (a_lengths, .inl (cI, 256, .inl v_lengths_2))] := by rw [ev_lengths_2]; exact hD
  refine lv_iload hx hb d_Reader_takeLengths_147 (lv_at hl 2 rfl) ?_
  refine lv_aload_n hx hb d_Reader_takeLengths_149 rfl (lv_at hl 0 rfl) ?_
  refine va_get hx hb hts in_Reader hown hK hP 0 rfl rfl 2 (by decide) (hts _ m_303) (fun _ h9 => h9) rfl d_Reader_takeLengths_150 ?_
  refine lv_iload hx hb d_Reader_takeLengths_153 (lv_at hl 3 rfl) ?_
  obtain ⟨g_3, h⟩ := ck_s h
  refine va_iald hx hb hK hP 1 0 rfl rfl (inb_s g_3) d_Reader_takeLengths_155 ?_
  refine lv_iconst (v := 1) hx hb d_Reader_takeLengths_156 (by decide) ?_
  refine lv_icmp_ne (tgt := 164) hx hb d_Reader_takeLengths_157 (by decide) (fun c_4 => ?_) (fun c_4 => ?_)
  · replace h := if_f h c_4
    refine lv_iconst (v := 0) hx hb d_Reader_takeLengths_164 (by decide) ?_
    exact w_Reader_takeLengths_b165 ⟨hx, hb, hml, hown, hts, hK, hA⟩ hret hk106 _ _ _ _ _ _ h H locs ls (lv_sub hl [0, 1, 3] rfl) hP hD hS
  · replace h := if_t h c_4
    refine lv_iconst (v := 1) hx hb d_Reader_takeLengths_160 (by decide) ?_
    refine lv_goto (tgt := 165) hx hb d_Reader_takeLengths_161 (by decide) ?_
    exact w_Reader_takeLengths_b165 ⟨hx, hb, hml, hown, hts, hK, hA⟩ hret hk106 _ _ _ _ _ _ h H locs ls (lv_sub hl [0, 1, 3] rfl) hP hD hS
set_option maxHeartbeats 4000000 in
set_option maxRecDepth 100000 in
theorem w_Reader_takeLengths_b174 {p : Program} {l : Launch} {e : Env} {s : State} {m : MethodId} {args : Array Value} {below : List Frame} {meth : Method} {c : Code} {Q : State → Prop} {A : Nat → Prop} {D : va_G} {cI cL cZ : ClassId} {a_this : Nat} {a_weights : Nat} {a_lengths : Nat} {o_tail : Nat} {o_share : Nat} {i_known : Int32} {i_end : Int32} {N : Nat} {res : Int32 × (Nat → Int32) × (Nat → Int32)}  (C : Cx p s m args c b_Reader_takeLengths 6 "PrefixMill$Reader" D [(cI, .int), (cL, .long), (cZ, .boolean)] A) (hret : E_Reader_takeLengths p l e s m args below meth c Q A D cI cL cZ a_this a_weights a_lengths o_tail o_share i_known i_end res)  : I_Reader_takeLengths_b174 p l e s m args below meth c Q A D cI cL cZ a_this a_weights a_lengths o_tail o_share i_known i_end res (f_Reader_takeLengths_b174 N i_known ) := by
  obtain ⟨hx, hb, hml, hown, hts, hK, hA⟩ := C
  intro l4 v_weights v_lengths h H locs ls hl hP hD hS
  unfold f_Reader_takeLengths_b174 at h
  refine lv_iload hx hb d_Reader_takeLengths_174 (lv_at hl 0 rfl) ?_
  refine lv_iconst (v := 2) hx hb d_Reader_takeLengths_176 (by decide) ?_
  refine lv_icmp_lt (tgt := 184) hx hb d_Reader_takeLengths_177 (by decide) (fun c_1 => ?_) (fun c_1 => ?_)
  · replace h := if_t h c_1
    refine lv_iconst (v := 0) hx hb d_Reader_takeLengths_184 (by decide) ?_
    exact hret _ _ _ _ 0 v_weights v_lengths h rfl d_Reader_takeLengths_185 hP hD hS
  · replace h := if_f h c_1
    refine lv_iconst (v := 1) hx hb d_Reader_takeLengths_180 (by decide) ?_
    refine lv_goto (tgt := 185) hx hb d_Reader_takeLengths_181 (by decide) ?_
    exact hret _ _ _ _ 1 v_weights v_lengths h rfl d_Reader_takeLengths_185 hP hD hS
set_option maxHeartbeats 4000000 in
set_option maxRecDepth 100000 in
theorem w_Reader_takeLengths_b106 {p : Program} {l : Launch} {e : Env} {s : State} {m : MethodId} {args : Array Value} {below : List Frame} {meth : Method} {c : Code} {Q : State → Prop} {A : Nat → Prop} {D : va_G} {cI cL cZ : ClassId} {a_this : Nat} {a_weights : Nat} {a_lengths : Nat} {o_tail : Nat} {o_share : Nat} {i_known : Int32} {i_end : Int32} {N : Nat} {res : Int32 × (Nat → Int32) × (Nat → Int32)}  (C : Cx p s m args c b_Reader_takeLengths 6 "PrefixMill$Reader" D [(cI, .int), (cL, .long), (cZ, .boolean)] A) (hret : E_Reader_takeLengths p l e s m args below meth c Q A D cI cL cZ a_this a_weights a_lengths o_tail o_share i_known i_end res)  : ∀ z : Nat, I_Reader_takeLengths_b106 p l e s m args below meth c Q A D cI cL cZ a_this a_weights a_lengths o_tail o_share i_known i_end res (f_Reader_takeLengths_b106 N i_known  z) := by
  obtain ⟨hx, hb, hml, hown, hts, hK, hA⟩ := C
  intro z
  induction z with
  | zero => intro l2 l4 l5 v_weights v_lengths h; cases h
  | succ z ih =>
    intro l2 l4 l5 v_weights v_lengths h H locs ls hl hP hD hS
    refine lv_iload hx hb d_Reader_takeLengths_106 (lv_at hl 3 rfl) ?_
    refine lv_aload_n hx hb d_Reader_takeLengths_108 rfl (lv_at hl 0 rfl) ?_
    refine va_get hx hb hts in_Reader hown hK hP 0 rfl rfl 4 (by decide) (hts _ m_306) (fun _ h9 => h9) rfl d_Reader_takeLengths_109 ?_
    refine lv_icmp_gt (tgt := 174) hx hb d_Reader_takeLengths_112 (by decide) (fun c_1 => ?_) (fun c_1 => ?_)
    · replace h := if_t h c_1
      exact w_Reader_takeLengths_b174 ⟨hx, hb, hml, hown, hts, hK, hA⟩ hret  _ _ _ h H locs ls (lv_sub hl [2] rfl) hP hD hS
    · replace h := if_f h c_1
      refine lv_aload_n hx hb d_Reader_takeLengths_115 rfl (lv_at hl 0 rfl) ?_
      refine va_get hx hb hts in_Reader hown hK hP 0 rfl rfl 3 (by decide) (hts _ m_304) (fun _ h9 => h9) rfl d_Reader_takeLengths_116 ?_
      refine lv_iload hx hb d_Reader_takeLengths_119 (lv_at hl 3 rfl) ?_
      refine lv_aload_n hx hb d_Reader_takeLengths_121 rfl (lv_at hl 0 rfl) ?_
      refine va_get hx hb hts in_Reader hown hK hP 0 rfl rfl 2 (by decide) (hts _ m_303) (fun _ h9 => h9) rfl d_Reader_takeLengths_122 ?_
      refine lv_iload hx hb d_Reader_takeLengths_125 (lv_at hl 3 rfl) ?_
      obtain ⟨g_2, h⟩ := ck_s h
      refine va_iald hx hb hK hP 1 0 rfl rfl (inb_s g_2) d_Reader_takeLengths_127 ?_
      refine lv_if_le (tgt := 145) hx hb d_Reader_takeLengths_128 (by decide) (fun c_3 => ?_) (fun c_3 => ?_)
      · replace h := if_t h c_3
        refine lv_iconst (v := 0) hx hb d_Reader_takeLengths_145 (by decide) ?_
        exact w_Reader_takeLengths_b146 ⟨hx, hb, hml, hown, hts, hK, hA⟩ hret ih _ _ _ _ _ _ _ h H locs ls (lv_sub hl [0, 1, 2, 3] rfl) hP hD hS
      · replace h := if_f h c_3
        refine lv_iload_n hx hb d_Reader_takeLengths_131 rfl (lv_at hl 1 rfl) ?_
        refine lv_iconst (v := 1) hx hb d_Reader_takeLengths_132 (by decide) ?_
        refine lv_iadd hx hb d_Reader_takeLengths_133 ?_
        refine lv_aload_n hx hb d_Reader_takeLengths_134 rfl (lv_at hl 0 rfl) ?_
        refine va_get hx hb hts in_Reader hown hK hP 0 rfl rfl 2 (by decide) (hts _ m_303) (fun _ h9 => h9) rfl d_Reader_takeLengths_135 ?_
        refine lv_iload hx hb d_Reader_takeLengths_138 (lv_at hl 3 rfl) ?_
        obtain ⟨g_4, h⟩ := ck_s h
        refine va_iald hx hb hK hP 1 0 rfl rfl (inb_s g_4) d_Reader_takeLengths_140 ?_
        refine lv_isub hx hb d_Reader_takeLengths_141 ?_
        refine lv_goto (tgt := 146) hx hb d_Reader_takeLengths_142 (by decide) ?_
        exact w_Reader_takeLengths_b146 ⟨hx, hb, hml, hown, hts, hK, hA⟩ hret ih _ _ _ _ _ _ _ h H locs ls (lv_sub hl [0, 1, 2, 3] rfl) hP hD hS
set_option maxHeartbeats 4000000 in
set_option maxRecDepth 100000 in
theorem w_Reader_takeLengths_b44 {p : Program} {l : Launch} {e : Env} {s : State} {m : MethodId} {args : Array Value} {below : List Frame} {meth : Method} {c : Code} {Q : State → Prop} {A : Nat → Prop} {D : va_G} {cI cL cZ : ClassId} {a_this : Nat} {a_weights : Nat} {a_lengths : Nat} {o_tail : Nat} {o_share : Nat} {i_known : Int32} {i_end : Int32} {N : Nat} {res : Int32 × (Nat → Int32) × (Nat → Int32)}  (C : Cx p s m args c b_Reader_takeLengths 6 "PrefixMill$Reader" D [(cI, .int), (cL, .long), (cZ, .boolean)] A) (hret : E_Reader_takeLengths p l e s m args below meth c Q A D cI cL cZ a_this a_weights a_lengths o_tail o_share i_known i_end res)  : I_Reader_takeLengths_b44 p l e s m args below meth c Q A D cI cL cZ a_this a_weights a_lengths o_tail o_share i_known i_end res (f_Reader_takeLengths_b44 N i_known ) := by
  obtain ⟨hx, hb, hml, hown, hts, hK, hA⟩ := C
  intro l1 v_weights v_lengths h H locs ls hl hP hD hS
  unfold f_Reader_takeLengths_b44 at h
  refine lv_iload_n hx hb d_Reader_takeLengths_44 rfl (lv_at hl 1 rfl) ?_
  obtain ⟨r_1, hc_2, h⟩ := bd1_s h
  have hPc := hP.sub (ws' := []) [] rfl
  have hDc := hD.sub (ws' := []) [] (by decide) rfl
  have hFc := va_free (wc := []) hD hS hA [] rfl
  refine va_calli (va_runSN (As := [.int l1]) (rest := []) ⟨hx, hb, hml, hown, hts⟩ (c_PM_log2 l D cI cL cZ H.size N l1 r_1 hc_2) ⟨(my_cn 1 hts m_568 rfl rfl (hts _ m_66) (hts _ m_677) (by decide +kernel) ⟨Nat.le_of_ble_eq_true rfl, Nat.le_of_ble_eq_true rfl⟩), hts _ m_567, trivial⟩ ⟨fun a U g mk q => by obtain ⟨q0, q1, qP, qK, qD⟩ := q; exact ⟨q0, q1, qP, va_K.moved (u := U) (U := U.calling g mk a) (Vm.Alike.refl U.vm) qK, qD⟩, fun U hU hW => ⟨rfl, by rw [hU], by rw [hU]; exact hPc, va_K.moved hW.alike hK, hDc.weaken (fun _ _ _ _ => trivial)⟩⟩ rfl rfl hl.1 rfl (lv_room (Nat.le_of_ble_eq_true rfl)) d_Reader_takeLengths_45 ⟨Nat.zero_le _, Nat.zero_le _⟩) hS (fun q _ h => hFc q h) hFc (fun rr u t H1 locs ht hvm hw hB hz1 hk1 hS => ?_)
  obtain ⟨hP1, hK1, hD1⟩ := hB
  rw [ht] at hP1
  subst hw
  obtain ⟨hP, hD⟩ := va_join (wr := [(a_this, .inr (4, [.ref o_tail, .ref o_share, .ref a_weights, .ref a_lengths, .int i_known, .int i_end])), (a_weights, .inl (cI, 256, .inl v_weights)), (a_lengths, .inl (cI, 256, .inl v_lengths))]) (w1 := []) hP hD [] [0, 1, 2] rfl rfl (by decide) (by decide) hk1 hFc hP1 hD1
  clear hPc hDc hFc hk1 hP1 hD1 hK1
  generalize H1 = H at hP hS ⊢
  have hP : va_P D classes [(a_this, .inr (4, [.ref o_tail, .ref o_share, .ref a_weights, .ref a_lengths, .int i_known, .int i_end])), (a_weights, .inl (cI, 256, .inl v_weights)), (a_lengths, .inl (cI, 256, .inl v_lengths))] H := hP.sub [0, 1, 2] rfl
  have hD : va_D A [(a_this, .inr (4, [.ref o_tail, .ref o_share, .ref a_weights, .ref a_lengths, .int i_known, .int i_end])), (a_weights, .inl (cI, 256, .inl v_weights)), (a_lengths, .inl (cI, 256, .inl v_lengths))] := hD.sub [0, 1, 2] (by decide) rfl
  refine lv_iconst (v := 1) hx hb d_Reader_takeLengths_48 (by decide) ?_
  refine lv_iadd hx hb d_Reader_takeLengths_49 ?_
  refine lv_topi (fun l2_3 el2_3 => ?_)
  replace h := nm_s h el2_3
  refine lv_istore_n (lv' := [(2, .int l2_3), (0, .ref a_this), (1, .int l1)]) hx hb d_Reader_takeLengths_50 rfl hl (by decide) rfl (fun ls hl => ?_)
  refine lv_iconst (v := 1) hx hb d_Reader_takeLengths_51 (by decide) ?_
  refine lv_iload_n hx hb d_Reader_takeLengths_52 rfl (lv_at hl 0 rfl) ?_
  refine lv_ishl hx hb d_Reader_takeLengths_53 ?_
  refine lv_iload_n hx hb d_Reader_takeLengths_54 rfl (lv_at hl 2 rfl) ?_
  refine lv_isub hx hb d_Reader_takeLengths_55 ?_
  refine lv_topi (fun l3_4 el3_4 => ?_)
  replace h := nm_s h el3_4
  refine lv_istore_n (lv' := [(3, .int l3_4), (2, .int l2_3), (0, .ref a_this), (1, .int l1)]) hx hb d_Reader_takeLengths_56 rfl hl (by decide) rfl (fun ls hl => ?_)
  refine lv_iload_n hx hb d_Reader_takeLengths_57 rfl (lv_at hl 3 rfl) ?_
  refine lv_if_eq (tgt := 75) hx hb d_Reader_takeLengths_58 (by decide) (fun c_5 => ?_) (fun c_5 => ?_)
  · replace h := if_t h c_5
    exact w_Reader_takeLengths_b75 ⟨hx, hb, hml, hown, hts, hK, hA⟩ hret  _ _ h H locs ls (lv_sub hl [] rfl) hP hD hS
  · replace h := if_f h c_5
    refine lv_iload_n hx hb d_Reader_takeLengths_61 rfl (lv_at hl 1 rfl) ?_
    refine lv_bipush (v := 11) hx hb d_Reader_takeLengths_62 (by decide) ?_
    refine lv_icmp_gt (tgt := 75) hx hb d_Reader_takeLengths_64 (by decide) (fun c_6 => ?_) (fun c_6 => ?_)
    · replace h := if_t h c_6
      exact w_Reader_takeLengths_b75 ⟨hx, hb, hml, hown, hts, hK, hA⟩ hret  _ _ h H locs ls (lv_sub hl [] rfl) hP hD hS
    · replace h := if_f h c_6
      refine lv_iload_n hx hb d_Reader_takeLengths_67 rfl (lv_at hl 0 rfl) ?_
      refine lv_iload_n hx hb d_Reader_takeLengths_68 rfl (lv_at hl 0 rfl) ?_
      refine lv_iconst (v := 1) hx hb d_Reader_takeLengths_69 (by decide) ?_
      refine lv_isub hx hb d_Reader_takeLengths_70 ?_
      refine lv_iand hx hb d_Reader_takeLengths_71 ?_
      refine lv_if_eq (tgt := 77) hx hb d_Reader_takeLengths_72 (by decide) (fun c_7 => ?_) (fun c_7 => ?_)
      · replace h := if_t h c_7
        refine lv_aload_n hx hb d_Reader_takeLengths_77 rfl (lv_at hl 2 rfl) ?_
        refine va_get hx hb hts in_Reader hown hK hP 0 rfl rfl 2 (by decide) (hts _ m_303) (fun _ h9 => h9) rfl d_Reader_takeLengths_78 ?_
        refine lv_aload_n hx hb d_Reader_takeLengths_81 rfl (lv_at hl 2 rfl) ?_
        refine va_get hx hb hts in_Reader hown hK hP 0 rfl rfl 4 (by decide) (hts _ m_306) (fun _ h9 => h9) rfl d_Reader_takeLengths_82 ?_
        refine lv_iload_n hx hb d_Reader_takeLengths_85 rfl (lv_at hl 0 rfl) ?_
        obtain ⟨r_8, hc_9, h⟩ := bd1_s h
        have hPc := hP.sub (ws' := []) [] rfl
        have hDc := hD.sub (ws' := []) [] (by decide) rfl
        have hFc := va_free (wc := []) hD hS hA [] rfl
        refine va_calli (va_runSN (As := [.int l3_4]) (rest := [.int i_known, .ref a_weights]) ⟨hx, hb, hml, hown, hts⟩ (c_PM_log2 l D cI cL cZ H.size N l3_4 r_8 hc_9) ⟨(my_cn 1 hts m_568 rfl rfl (hts _ m_66) (hts _ m_677) (by decide +kernel) ⟨Nat.le_of_ble_eq_true rfl, Nat.le_of_ble_eq_true rfl⟩), hts _ m_567, trivial⟩ ⟨fun a U g mk q => by obtain ⟨q0, q1, qP, qK, qD⟩ := q; exact ⟨q0, q1, qP, va_K.moved (u := U) (U := U.calling g mk a) (Vm.Alike.refl U.vm) qK, qD⟩, fun U hU hW => ⟨rfl, by rw [hU], by rw [hU]; exact hPc, va_K.moved hW.alike hK, hDc.weaken (fun _ _ _ _ => trivial)⟩⟩ rfl rfl hl.1 rfl (lv_room (Nat.le_of_ble_eq_true rfl)) d_Reader_takeLengths_86 ⟨Nat.zero_le _, Nat.zero_le _⟩) hS (fun q _ h => hFc q h) hFc (fun rr u t H1 locs ht hvm hw hB hz1 hk1 hS => ?_)
        obtain ⟨hP1, hK1, hD1⟩ := hB
        rw [ht] at hP1
        subst hw
        obtain ⟨hP, hD⟩ := va_join (wr := [(a_this, .inr (4, [.ref o_tail, .ref o_share, .ref a_weights, .ref a_lengths, .int i_known, .int i_end])), (a_weights, .inl (cI, 256, .inl v_weights)), (a_lengths, .inl (cI, 256, .inl v_lengths))]) (w1 := []) hP hD [] [0, 1, 2] rfl rfl (by decide) (by decide) hk1 hFc hP1 hD1
        clear hPc hDc hFc hk1 hP1 hD1 hK1
        generalize H1 = H at hP hS ⊢
        have hP : va_P D classes [(a_this, .inr (4, [.ref o_tail, .ref o_share, .ref a_weights, .ref a_lengths, .int i_known, .int i_end])), (a_weights, .inl (cI, 256, .inl v_weights)), (a_lengths, .inl (cI, 256, .inl v_lengths))] H := hP.sub [0, 1, 2] rfl
        have hD : va_D A [(a_this, .inr (4, [.ref o_tail, .ref o_share, .ref a_weights, .ref a_lengths, .int i_known, .int i_end])), (a_weights, .inl (cI, 256, .inl v_weights)), (a_lengths, .inl (cI, 256, .inl v_lengths))] := hD.sub [0, 1, 2] (by decide) rfl
        refine lv_iconst (v := 1) hx hb d_Reader_takeLengths_89 (by decide) ?_
        refine lv_iadd hx hb d_Reader_takeLengths_90 ?_
        obtain ⟨g_10, h⟩ := ck_s h
        refine va_iast hx hb hK hP hD hS 1 0 rfl rfl (inb_s g_10) d_Reader_takeLengths_91 (fun H locs hP hD hS => ?_)
        obtain ⟨v_weights_11, ev_weights_11⟩ : ∃ y, y = (upd v_weights (Int32.toNatClampNeg i_known) (r_8 + 1)) := ⟨_, rfl⟩
        replace h := nm_s h ev_weights_11
        have hP : va_P D classes [(a_this, .inr (4, [.ref o_tail, .ref o_share, .ref a_weights, .ref a_lengths, .int i_known, .int i_end])), (a_weights, .inl (cI, 256, .inl v_weights_11)), (a_lengths, .inl (cI, 256, .inl v_lengths))] H := by rw [ev_weights_11]; exact hP
        have hD : va_D A [(a_this, .inr (4, [.ref o_tail, .ref o_share, .ref a_weights, .ref a_lengths, .int i_known, .int i_end])), (a_weights, .inl (cI, 256, .inl v_weights_11)), (a_lengths, .inl (cI, 256, .inl v_lengths))] := by rw [ev_weights_11]; exact hD
        refine lv_iconst (v := 0) hx hb d_Reader_takeLengths_92 (by decide) ?_
        refine lv_istore (lv' := [(4, .int 0), (3, .int l3_4), (2, .int l2_3), (0, .ref a_this), (1, .int l1)]) hx hb d_Reader_takeLengths_93 hl (by decide) rfl (fun ls hl => ?_)
        refine lv_aload_n hx hb d_Reader_takeLengths_95 rfl (lv_at hl 3 rfl) ?_
        refine va_get hx hb hts in_Reader hown hK hP 0 rfl rfl 3 (by decide) (hts _ m_304) (fun _ h9 => h9) rfl d_Reader_takeLengths_96 ?_
        refine lv_iconst (v := 0) hx hb d_Reader_takeLengths_99 (by decide) ?_
        obtain ⟨v_lengths_12, hc_13, h⟩ := bd1_s h
        have hPc := hP.sub (ws' := [(a_lengths, .inl (cI, 256, .inl v_lengths))]) [2] rfl
        have hDc := hD.sub (ws' := [(a_lengths, .inl (cI, 256, .inl v_lengths))]) [2] (by decide) rfl
        have hFc := va_free (wc := [(a_lengths, .inl (cI, 256, .inl v_lengths))]) hD hS hA [2] rfl
        refine va_callv (va_runS (As := [.ref a_lengths, .int 0]) (rest := []) ⟨hx, hb, hml, hown, hts⟩ (c_JArr_fill l D cI cL cZ H.size N a_lengths 256 v_lengths 0 v_lengths_12 hc_13) ⟨(my_cb 2 hts m_410 rfl rfl (hts _ m_79) (hts _ m_678) (by decide +kernel) ⟨Nat.le_of_ble_eq_true rfl, Nat.le_of_ble_eq_true rfl⟩), hts _ m_409⟩ ⟨fun a U g mk q => by obtain ⟨q0, q1, qP, qK, qD⟩ := q; exact ⟨q0, q1, qP, va_K.moved (u := U) (U := U.calling g mk a) (Vm.Alike.refl U.vm) qK, qD⟩, fun U hU hW => ⟨rfl, by rw [hU], by rw [hU]; exact hPc, va_K.moved hW.alike hK, hDc.weaken (fun _ _ _ _ => trivial)⟩⟩ rfl rfl hl.1 rfl (lv_room (Nat.le_of_ble_eq_true rfl)) d_Reader_takeLengths_100 ⟨Nat.zero_le _, Nat.zero_le _⟩) hS (fun q _ h => hFc q h) hFc (fun u t H1 locs ht hvm hw hB hz1 hk1 hS => ?_)
        obtain ⟨hP1, hK1, hD1⟩ := hB
        rw [ht] at hP1
        obtain ⟨hP, hD⟩ := va_join (wr := [(a_this, .inr (4, [.ref o_tail, .ref o_share, .ref a_weights, .ref a_lengths, .int i_known, .int i_end])), (a_weights, .inl (cI, 256, .inl v_weights_11))]) (w1 := [(a_lengths, .inl (cI, 256, .inl v_lengths_12))]) hP hD [2] [0, 1] rfl rfl (by decide) (by decide) hk1 hFc hP1 hD1
        clear hPc hDc hFc hk1 hP1 hD1 hK1
        generalize H1 = H at hP hS ⊢
        have hP : va_P D classes [(a_this, .inr (4, [.ref o_tail, .ref o_share, .ref a_weights, .ref a_lengths, .int i_known, .int i_end])), (a_weights, .inl (cI, 256, .inl v_weights_11)), (a_lengths, .inl (cI, 256, .inl v_lengths_12))] H := hP.sub [0, 1, 2] rfl
        have hD : va_D A [(a_this, .inr (4, [.ref o_tail, .ref o_share, .ref a_weights, .ref a_lengths, .int i_known, .int i_end])), (a_weights, .inl (cI, 256, .inl v_weights_11)), (a_lengths, .inl (cI, 256, .inl v_lengths_12))] := hD.sub [0, 1, 2] (by decide) rfl
        refine lv_iconst (v := 0) hx hb d_Reader_takeLengths_103 (by decide) ?_
        refine lv_istore (lv' := [(5, .int 0), (4, .int 0), (3, .int l3_4), (2, .int l2_3), (0, .ref a_this), (1, .int l1)]) hx hb d_Reader_takeLengths_104 hl (by decide) rfl (fun ls hl => ?_)
        exact w_Reader_takeLengths_b106 ⟨hx, hb, hml, hown, hts, hK, hA⟩ hret  N _ _ _ _ _ h H locs ls (lv_sub hl [4, 3, 1, 0] rfl) hP hD hS
      · replace h := if_f h c_7
        exact w_Reader_takeLengths_b75 ⟨hx, hb, hml, hown, hts, hK, hA⟩ hret  _ _ h H locs ls (lv_sub hl [] rfl) hP hD hS
set_option maxHeartbeats 4000000 in
set_option maxRecDepth 100000 in
theorem w_Reader_takeLengths_b4 {p : Program} {l : Launch} {e : Env} {s : State} {m : MethodId} {args : Array Value} {below : List Frame} {meth : Method} {c : Code} {Q : State → Prop} {A : Nat → Prop} {D : va_G} {cI cL cZ : ClassId} {a_this : Nat} {a_weights : Nat} {a_lengths : Nat} {o_tail : Nat} {o_share : Nat} {i_known : Int32} {i_end : Int32} {N : Nat} {res : Int32 × (Nat → Int32) × (Nat → Int32)}  (C : Cx p s m args c b_Reader_takeLengths 6 "PrefixMill$Reader" D [(cI, .int), (cL, .long), (cZ, .boolean)] A) (hret : E_Reader_takeLengths p l e s m args below meth c Q A D cI cL cZ a_this a_weights a_lengths o_tail o_share i_known i_end res)  : ∀ z : Nat, I_Reader_takeLengths_b4 p l e s m args below meth c Q A D cI cL cZ a_this a_weights a_lengths o_tail o_share i_known i_end res (f_Reader_takeLengths_b4 N i_known  z) := by
  obtain ⟨hx, hb, hml, hown, hts, hK, hA⟩ := C
  intro z
  induction z with
  | zero => intro l1 l2 v_weights v_lengths h; cases h
  | succ z ih =>
    intro l1 l2 v_weights v_lengths h H locs ls hl hP hD hS
    refine lv_iload_n hx hb d_Reader_takeLengths_4 rfl (lv_at hl 2 rfl) ?_
    refine lv_aload_n hx hb d_Reader_takeLengths_5 rfl (lv_at hl 0 rfl) ?_
    refine va_get hx hb hts in_Reader hown hK hP 0 rfl rfl 4 (by decide) (hts _ m_306) (fun _ h9 => h9) rfl d_Reader_takeLengths_6 ?_
    refine lv_icmp_ge (tgt := 44) hx hb d_Reader_takeLengths_9 (by decide) (fun c_1 => ?_) (fun c_1 => ?_)
    · replace h := if_t h c_1
      exact w_Reader_takeLengths_b44 ⟨hx, hb, hml, hown, hts, hK, hA⟩ hret  _ _ _ h H locs ls (lv_sub hl [0, 1] rfl) hP hD hS
    · replace h := if_f h c_1
      refine lv_iload_n hx hb d_Reader_takeLengths_12 rfl (lv_at hl 1 rfl) ?_
      refine lv_aload_n hx hb d_Reader_takeLengths_13 rfl (lv_at hl 0 rfl) ?_
      refine va_get hx hb hts in_Reader hown hK hP 0 rfl rfl 2 (by decide) (hts _ m_303) (fun _ h9 => h9) rfl d_Reader_takeLengths_14 ?_
      refine lv_iload_n hx hb d_Reader_takeLengths_17 rfl (lv_at hl 2 rfl) ?_
      obtain ⟨g_2, h⟩ := ck_s h
      refine va_iald hx hb hK hP 1 0 rfl rfl (inb_s g_2) d_Reader_takeLengths_18 ?_
      refine lv_if_le (tgt := 35) hx hb d_Reader_takeLengths_19 (by decide) (fun c_3 => ?_) (fun c_3 => ?_)
      · replace h := if_t h c_3
        refine lv_iconst (v := 0) hx hb d_Reader_takeLengths_35 (by decide) ?_
        exact w_Reader_takeLengths_b36 ⟨hx, hb, hml, hown, hts, hK, hA⟩ hret ih _ _ _ _ _ h H locs ls (lv_sub hl [0, 2] rfl) hP hD hS
      · replace h := if_f h c_3
        refine lv_iconst (v := 1) hx hb d_Reader_takeLengths_22 (by decide) ?_
        refine lv_aload_n hx hb d_Reader_takeLengths_23 rfl (lv_at hl 0 rfl) ?_
        refine va_get hx hb hts in_Reader hown hK hP 0 rfl rfl 2 (by decide) (hts _ m_303) (fun _ h9 => h9) rfl d_Reader_takeLengths_24 ?_
        refine lv_iload_n hx hb d_Reader_takeLengths_27 rfl (lv_at hl 2 rfl) ?_
        obtain ⟨g_4, h⟩ := ck_s h
        refine va_iald hx hb hK hP 1 0 rfl rfl (inb_s g_4) d_Reader_takeLengths_28 ?_
        refine lv_iconst (v := 1) hx hb d_Reader_takeLengths_29 (by decide) ?_
        refine lv_isub hx hb d_Reader_takeLengths_30 ?_
        refine lv_ishl hx hb d_Reader_takeLengths_31 ?_
        refine lv_goto (tgt := 36) hx hb d_Reader_takeLengths_32 (by decide) ?_
        exact w_Reader_takeLengths_b36 ⟨hx, hb, hml, hown, hts, hK, hA⟩ hret ih _ _ _ _ _ h H locs ls (lv_sub hl [0, 2] rfl) hP hD hS
set_option maxHeartbeats 4000000 in
set_option maxRecDepth 100000 in
theorem w_Reader_takeLengths_b0 {p : Program} {l : Launch} {e : Env} {s : State} {m : MethodId} {args : Array Value} {below : List Frame} {meth : Method} {c : Code} {Q : State → Prop} {A : Nat → Prop} {D : va_G} {cI cL cZ : ClassId} {a_this : Nat} {a_weights : Nat} {a_lengths : Nat} {o_tail : Nat} {o_share : Nat} {i_known : Int32} {i_end : Int32} {N : Nat} {res : Int32 × (Nat → Int32) × (Nat → Int32)}  (C : Cx p s m args c b_Reader_takeLengths 6 "PrefixMill$Reader" D [(cI, .int), (cL, .long), (cZ, .boolean)] A) (hret : E_Reader_takeLengths p l e s m args below meth c Q A D cI cL cZ a_this a_weights a_lengths o_tail o_share i_known i_end res)  : I_Reader_takeLengths_b0 p l e s m args below meth c Q A D cI cL cZ a_this a_weights a_lengths o_tail o_share i_known i_end res (f_Reader_takeLengths N i_known ) := by
  obtain ⟨hx, hb, hml, hown, hts, hK, hA⟩ := C
  intro v_weights v_lengths h H locs ls hl hP hD hS
  unfold f_Reader_takeLengths at h
  refine lv_iconst (v := 0) hx hb d_Reader_takeLengths_0 (by decide) ?_
  refine lv_istore_n (lv' := [(1, .int 0), (0, .ref a_this)]) hx hb d_Reader_takeLengths_1 rfl hl (by decide) rfl (fun ls hl => ?_)
  refine lv_iconst (v := 0) hx hb d_Reader_takeLengths_2 (by decide) ?_
  refine lv_istore_n (lv' := [(2, .int 0), (1, .int 0), (0, .ref a_this)]) hx hb d_Reader_takeLengths_3 rfl hl (by decide) rfl (fun ls hl => ?_)
  exact w_Reader_takeLengths_b4 ⟨hx, hb, hml, hown, hts, hK, hA⟩ hret  N _ _ _ _ h H locs ls (lv_sub hl [2, 1, 0] rfl) hP hD hS
set_option maxHeartbeats 4000000 in
set_option maxRecDepth 100000 in
theorem c_Reader_takeLengths (l : Launch) (D : va_G) (cI cL cZ : ClassId) (sz N : Nat) (a_this : Nat) (a_weights : Nat) (a_lengths : Nat) (o_tail : Nat) (o_share : Nat) (i_known : Int32) (i_end : Int32) (v_weights : Nat → Int32) (v_lengths : Nat → Int32) (rv : Int32) (v_weights' : Nat → Int32) (v_lengths' : Nat → Int32) (h : f_Reader_takeLengths N i_known v_weights v_lengths = some (rv, v_weights', v_lengths')) : Met l ({ cls := "PrefixMill$Reader", name := "takeLengths", desc := "()Z" } : Jvm.MethodName) ws_Reader_takeLengths R_Reader_takeLengths (va_Pc [.ref a_this] (fun U => U.heap.size = sz ∧ va_P D classes [(a_this, .inr (4, [.ref o_tail, .ref o_share, .ref a_weights, .ref a_lengths, .int i_known, .int i_end])), (a_weights, .inl (cI, 256, .inl v_weights)), (a_lengths, .inl (cI, 256, .inl v_lengths))] U.heap ∧ va_K D classes [(cI, .int), (cL, .long), (cZ, .boolean)] U ∧ va_D (fun _ => True) [(a_this, .inr (4, [.ref o_tail, .ref o_share, .ref a_weights, .ref a_lengths, .int i_known, .int i_end])), (a_weights, .inl (cI, 256, .inl v_weights)), (a_lengths, .inl (cI, 256, .inl v_lengths))])) (va_Qi (fun (r0 : Int32) (_ : Unit) => rv = r0) (fun _ t => va_P D classes [(a_this, .inr (4, [.ref o_tail, .ref o_share, .ref a_weights, .ref a_lengths, .int i_known, .int i_end])), (a_weights, .inl (cI, 256, .inl v_weights')), (a_lengths, .inl (cI, 256, .inl v_lengths'))] t.heap ∧ va_K D classes [(cI, .int), (cL, .long), (cZ, .boolean)] t ∧ va_D (va_A [(a_this, .inr (4, [.ref o_tail, .ref o_share, .ref a_weights, .ref a_lengths, .int i_known, .int i_end])), (a_weights, .inl (cI, 256, .inl v_weights)), (a_lengths, .inl (cI, 256, .inl v_lengths))] sz) [(a_this, .inr (4, [.ref o_tail, .ref o_share, .ref a_weights, .ref a_lengths, .int i_known, .int i_end])), (a_weights, .inl (cI, 256, .inl v_weights')), (a_lengths, .inl (cI, 256, .inl v_lengths'))]) (va_A [(a_this, .inr (4, [.ref o_tail, .ref o_share, .ref a_weights, .ref a_lengths, .int i_known, .int i_end])), (a_weights, .inl (cI, 256, .inl v_weights)), (a_lengths, .inl (cI, 256, .inl v_lengths))] sz)) 0 0 (va_A [(a_this, .inr (4, [.ref o_tail, .ref o_share, .ref a_weights, .ref a_lengths, .int i_known, .int i_end])), (a_weights, .inl (cI, 256, .inl v_weights)), (a_lengths, .inl (cI, 256, .inl v_lengths))] sz) := by
  refine Met.ofW (cc := b_Reader_takeLengths) (maxL := 6) (ret := (some .boolean)) (by decide) rfl ?_
  intro p e s m args below meth c s₁ B hml hv
  obtain ⟨rfl, hsz, hP, hK, hD0⟩ := hv
  have hx := B.exec
  have hb := B.bytes
  have hr := B.returns
  have hts0 := atoms_spec (ws := ws_Reader_takeLengths) B.pre
  have hts := gd_tl hts0
  clear hts0
  have hown : s.vm.findClass "PrefixMill$Reader" = some m.cls := findClass_of_methodNamed B.named
  have hlocks := B.notSynchronized
  subst hsz
  have hD := hD0.self (sz := s.heap.size)
  generalize hAe : va_A [(a_this, .inr (4, [.ref o_tail, .ref o_share, .ref a_weights, .ref a_lengths, .int i_known, .int i_end])), (a_weights, .inl (cI, 256, .inl v_weights)), (a_lengths, .inl (cI, 256, .inl v_lengths))] s.heap.size = A at hD ⊢
  have hA : ∀ q : Nat, s.heap.size ≤ q → A q := fun q h => by rw [← hAe]; exact Or.inr h
  have hS : va_S A s.heap s.heap [] := va_S.rf
  have hP : va_P D classes [(a_this, .inr (4, [.ref o_tail, .ref o_share, .ref a_weights, .ref a_lengths, .int i_known, .int i_end])), (a_weights, .inl (cI, 256, .inl v_weights)), (a_lengths, .inl (cI, 256, .inl v_lengths))] s.heap := hP
  have hl := lv_entry ([.ref a_this]) (n := 6) (Nat.le_of_ble_eq_true rfl)
  rw [lg_entry_eq]
  generalize (lg_sl ([.ref a_this]) ++ List.replicate (6 - (lg_sl ([.ref a_this])).length) Slot.unset).toArray = ls at hl ⊢
  have hl : lv_has ls 6 [(0, .ref a_this)] := hl
  have C : Cx p s m ([.ref a_this] : List Value).toArray c b_Reader_takeLengths 6 "PrefixMill$Reader" D [(cI, .int), (cL, .long), (cZ, .boolean)] A := ⟨hx, hb, hml, hown, hts, hK, hA⟩
  refine w_Reader_takeLengths_b0 (res := (rv, v_weights', v_lengths')) C ?_ _ _ h s.heap [] ls hl hP hD hS
  intro pc9 H9 locs9 ls9 rv9 v_weights9 v_lengths9 e9 z9 d9 hP9 hD9 hS9
  cases e9
  exact W.zret (v := rv) hx hb hr z9 (fun t ht hW => ⟨⟨rv, (), rfl, rfl, by rw [ht]; exact hP9, va_K.moved hW.alike hK, hD9⟩, hS9.F ht⟩) hS9.2.2 d9
