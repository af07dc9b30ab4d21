abbrev b_PM_again : ByteArray := prog_1_method_3_code
def ws_PM_again : List Cond := .code ({ cls := "PrefixMill", name := "again", desc := "(II)Z" } : Jvm.MethodName) b_PM_again 5 (some .boolean) :: tt
theorem d_PM_again_0 : decode b_PM_again 0 = .ok (.iload_n 1, 1) := by decide +kernel
theorem d_PM_again_1 : decode b_PM_again 1 = .ok (.iconst 1, 1) := by decide +kernel
theorem d_PM_again_2 : decode b_PM_again 2 = .ok (.if_icmp .lt 39, 3) := by decide +kernel
theorem d_PM_again_5 : decode b_PM_again 5 = .ok (.iload_n 1, 1) := by decide +kernel
theorem d_PM_again_6 : decode b_PM_again 6 = .ok (.aload_n 0, 1) := by decide +kernel
theorem d_PM_again_7 : decode b_PM_again 7 = .ok (.getfield 14, 3) := by decide +kernel
theorem d_PM_again_10 : decode b_PM_again 10 = .ok (.getfield 64, 3) := by decide +kernel
theorem d_PM_again_13 : decode b_PM_again 13 = .ok (.if_icmp .gt 28, 3) := by decide +kernel
theorem d_PM_again_16 : decode b_PM_again 16 = .ok (.iload_n 2, 1) := by decide +kernel
theorem d_PM_again_17 : decode b_PM_again 17 = .ok (.ifCond .lt 24, 3) := by decide +kernel
theorem d_PM_again_20 : decode b_PM_again 20 = .ok (.iload_n 1, 1) := by decide +kernel
theorem d_PM_again_21 : decode b_PM_again 21 = .ok (.i2l, 1) := by decide +kernel
theorem d_PM_again_22 : decode b_PM_again 22 = .ok (.iload_n 2, 1) := by decide +kernel
theorem d_PM_again_23 : decode b_PM_again 23 = .ok (.i2l, 1) := by decide +kernel
theorem d_PM_again_24 : decode b_PM_again 24 = .ok (.lmul, 1) := by decide +kernel
theorem d_PM_again_25 : decode b_PM_again 25 = .ok (.sipush 6000, 3) := by decide +kernel
theorem d_PM_again_28 : decode b_PM_again 28 = .ok (.aload_n 0, 1) := by decide +kernel
theorem d_PM_again_29 : decode b_PM_again 29 = .ok (.getfield 14, 3) := by decide +kernel
theorem d_PM_again_32 : decode b_PM_again 32 = .ok (.getfield 64, 3) := by decide +kernel
theorem d_PM_again_35 : decode b_PM_again 35 = .ok (.isub, 1) := by decide +kernel
theorem d_PM_again_36 : decode b_PM_again 36 = .ok (.i2l, 1) := by decide +kernel
theorem d_PM_again_37 : decode b_PM_again 37 = .ok (.lcmp, 1) := by decide +kernel
theorem d_PM_again_38 : decode b_PM_again 38 = .ok (.ifCond .le 5, 3) := by decide +kernel
theorem d_PM_again_41 : decode b_PM_again 41 = .ok (.iconst 0, 1) := by decide +kernel
theorem d_PM_again_42 : decode b_PM_again 42 = .ok (.ireturn, 1) := by decide +kernel
theorem d_PM_again_43 : decode b_PM_again 43 = .ok (.iload_n 1, 1) := by decide +kernel
theorem d_PM_again_44 : decode b_PM_again 44 = .ok (.iload_n 2, 1) := by decide +kernel
theorem d_PM_again_45 : decode b_PM_again 45 = .ok (.imul, 1) := by decide +kernel
theorem d_PM_again_46 : decode b_PM_again 46 = .ok (.istore_n 3, 1) := by decide +kernel
theorem d_PM_again_47 : decode b_PM_again 47 = .ok (.iconst 0, 1) := by decide +kernel
theorem d_PM_again_48 : decode b_PM_again 48 = .ok (.istore 4, 2) := by decide +kernel
theorem d_PM_again_50 : decode b_PM_again 50 = .ok (.iload 4, 2) := by decide +kernel
theorem d_PM_again_52 : decode b_PM_again 52 = .ok (.iload_n 3, 1) := by decide +kernel
theorem d_PM_again_53 : decode b_PM_again 53 = .ok (.if_icmp .ge 32, 3) := by decide +kernel
theorem d_PM_again_56 : decode b_PM_again 56 = .ok (.aload_n 0, 1) := by decide +kernel
theorem d_PM_again_57 : decode b_PM_again 57 = .ok (.getfield 14, 3) := by decide +kernel
theorem d_PM_again_60 : decode b_PM_again 60 = .ok (.aload_n 0, 1) := by decide +kernel
theorem d_PM_again_61 : decode b_PM_again 61 = .ok (.getfield 14, 3) := by decide +kernel
theorem d_PM_again_64 : decode b_PM_again 64 = .ok (.aload_n 0, 1) := by decide +kernel
theorem d_PM_again_65 : decode b_PM_again 65 = .ok (.getfield 14, 3) := by decide +kernel
theorem d_PM_again_68 : decode b_PM_again 68 = .ok (.getfield 64, 3) := by decide +kernel
theorem d_PM_again_71 : decode b_PM_again 71 = .ok (.iload_n 1, 1) := by decide +kernel
theorem d_PM_again_72 : decode b_PM_again 72 = .ok (.isub, 1) := by decide +kernel
theorem d_PM_again_73 : decode b_PM_again 73 = .ok (.invokevirtual 70, 3) := by decide +kernel
theorem d_PM_again_76 : decode b_PM_again 76 = .ok (.invokevirtual 67, 3) := by decide +kernel
theorem d_PM_again_79 : decode b_PM_again 79 = .ok (.iinc 4 1, 3) := by decide +kernel
theorem d_PM_again_82 : decode b_PM_again 82 = .ok (.goto (-32), 3) := by decide +kernel
theorem d_PM_again_85 : decode b_PM_again 85 = .ok (.iconst 1, 1) := by decide +kernel
theorem d_PM_again_86 : decode b_PM_again 86 = .ok (.ireturn, 1) := by decide +kernel
def f_PM_again_b41 (N : Nat) (i_in_room : Int32) (n_in_words : Nat) (l1 : Int32) (l2 : Int32)  (i_in_used : Int32) (v_in_words : Nat → Int64) : Option (Int32 × Int32 × (Nat → Int64)) :=
  some (0, i_in_used, v_in_words)
def f_PM_again_b85 (N : Nat) (i_in_room : Int32) (n_in_words : Nat) (l1 : Int32) (l2 : Int32)  (i_in_used : Int32) (v_in_words : Nat → Int64) : Option (Int32 × Int32 × (Nat → Int64)) :=
  some (1, i_in_used, v_in_words)
def f_PM_again_b50 (N : Nat) (i_in_room : Int32) (n_in_words : Nat) (l1 : Int32) (l2 : Int32)  : Nat → Int32 → Int32 → Int32 → (Nat → Int64) → Option (Int32 × Int32 × (Nat → Int64))
  | 0, _, _, _, _ => none
  | z + 1, l3, l4, i_in_used, v_in_words =>
  if l3 ≤ l4 then
  f_PM_again_b85 N i_in_room n_in_words l1 l2  i_in_used v_in_words
  else
  bd1 (f_Row_get N i_in_used n_in_words v_in_words (i_in_used - l1)) fun r_2 =>
  bd2 (f_Row_add N i_in_room n_in_words r_2 i_in_used v_in_words) fun i_in_used_4 v_in_words_5 =>
  nm (l4 + 1) fun l4_7 =>
  f_PM_again_b50 N i_in_room n_in_words l1 l2  z l3 l4_7 i_in_used_4 v_in_words_5
def f_PM_again (N : Nat) (i_in_room : Int32) (n_in_words : Nat) (l1 : Int32) (l2 : Int32)  (i_in_used : Int32) (v_in_words : Nat → Int64) : Option (Int32 × Int32 × (Nat → Int64)) :=
  if l1 < 1 then
  f_PM_again_b41 N i_in_room n_in_words l1 l2  i_in_used v_in_words
  else
  if i_in_used < l1 then
  f_PM_again_b41 N i_in_room n_in_words l1 l2  i_in_used v_in_words
  else
  if l2 < 0 then
  f_PM_again_b41 N i_in_room n_in_words l1 l2  i_in_used v_in_words
  else
  if (lg_cmp ((Int32.toInt64 l1) * (Int32.toInt64 l2)) (Int32.toInt64 (6000 - i_in_used))) ≤ 0 then
  nm (l1 * l2) fun l3_5 =>
  f_PM_again_b50 N i_in_room n_in_words l1 l2  N l3_5 0 i_in_used v_in_words
  else
  f_PM_again_b41 N i_in_room n_in_words l1 l2  i_in_used v_in_words
abbrev R_PM_again : Room := ({ frames := 1, cells := 0, slots := 0, locals := 23 } : Room)
def E_PM_again (p : Program) (l : Launch) (e : Env) (s : State) (m : MethodId) (args : Array Value) (below : List Frame) (meth : Method) (c : Code) (Q : State → Prop) (A : Nat → Prop) (D : va_G) (cI cL cZ : ClassId) (a_this : Nat) (a_in : Nat) (a_in_words : Nat) (o_out : Nat) (o_counts : Nat) (o_codes : Nat) (o_tree : Nat) (o_writer : Nat) (o_reader : Nat) (o_streams : Nat) (i_place : Int32) (i_in_room : Int32) (i_in_held : Int32) (i_in_many : Int32) (n_in_words : Nat) (l1 : Int32) (l2 : Int32) (res : Int32 × Int32 × (Nat → Int64)) : Prop := ∀ (pc : Nat) (H : Heap) (locs : List Loc) (ls : Array Slot) (rv : Int32) (i_in_used : Int32) (v_in_words : Nat → Int64), some (rv, i_in_used, v_in_words) = some res → narrow .boolean (.int rv) = .int rv → decode b_PM_again pc = .ok (.ireturn, 1) → va_P D classes [(a_this, .inr (0, [.ref a_in, .ref o_out, .ref o_counts, .ref o_codes, .ref o_tree, .ref o_writer, .ref o_reader, .ref o_streams, .int i_place])), (a_in, .inr (5, [.ref a_in_words, .int i_in_room, .int i_in_used, .int i_in_held, .int i_in_many])), (a_in_words, .inl (cL, n_in_words, .inr (.inl v_in_words)))] H → va_D A [(a_this, .inr (0, [.ref a_in, .ref o_out, .ref o_counts, .ref o_codes, .ref o_tree, .ref o_writer, .ref o_reader, .ref o_streams, .int i_place])), (a_in, .inr (5, [.ref a_in_words, .int i_in_room, .int i_in_used, .int i_in_held, .int i_in_many])), (a_in_words, .inl (cL, n_in_words, .inr (.inl v_in_words)))] → va_S A s.heap H locs → W p l e R_PM_again s m args below meth c H locs 0 0 Q (F0 m pc ls [.int rv])
def I_PM_again_b41 (p : Program) (l : Launch) (e : Env) (s : State) (m : MethodId) (args : Array Value) (below : List Frame) (meth : Method) (c : Code) (Q : State → Prop) (A : Nat → Prop) (D : va_G) (cI cL cZ : ClassId) (a_this : Nat) (a_in : Nat) (a_in_words : Nat) (o_out : Nat) (o_counts : Nat) (o_codes : Nat) (o_tree : Nat) (o_writer : Nat) (o_reader : Nat) (o_streams : Nat) (i_place : Int32) (i_in_room : Int32) (i_in_held : Int32) (i_in_many : Int32) (n_in_words : Nat) (l1 : Int32) (l2 : Int32) (res : Int32 × Int32 × (Nat → Int64)) (kf : Int32 → (Nat → Int64) → Option (Int32 × Int32 × (Nat → Int64))) : Prop := ∀ (i_in_used : Int32) (v_in_words : Nat → Int64), kf i_in_used v_in_words = some res → ∀ (H : Heap) (locs : List Loc) (ls : Array Slot), lv_has ls 5 [] → va_P D classes [(a_this, .inr (0, [.ref a_in, .ref o_out, .ref o_counts, .ref o_codes, .ref o_tree, .ref o_writer, .ref o_reader, .ref o_streams, .int i_place])), (a_in, .inr (5, [.ref a_in_words, .int i_in_room, .int i_in_used, .int i_in_held, .int i_in_many])), (a_in_words, .inl (cL, n_in_words, .inr (.inl v_in_words)))] H → va_D A [(a_this, .inr (0, [.ref a_in, .ref o_out, .ref o_counts, .ref o_codes, .ref o_tree, .ref o_writer, .ref o_reader, .ref o_streams, .int i_place])), (a_in, .inr (5, [.ref a_in_words, .int i_in_room, .int i_in_used, .int i_in_held, .int i_in_many])), (a_in_words, .inl (cL, n_in_words, .inr (.inl v_in_words)))] → va_S A s.heap H locs → W p l e R_PM_again s m args below meth c H locs 0 0 Q (F0 m 41 ls [])
def I_PM_again_b85 (p : Program) (l : Launch) (e : Env) (s : State) (m : MethodId) (args : Array Value) (below : List Frame) (meth : Method) (c : Code) (Q : State → Prop) (A : Nat → Prop) (D : va_G) (cI cL cZ : ClassId) (a_this : Nat) (a_in : Nat) (a_in_words : Nat) (o_out : Nat) (o_counts : Nat) (o_codes : Nat) (o_tree : Nat) (o_writer : Nat) (o_reader : Nat) (o_streams : Nat) (i_place : Int32) (i_in_room : Int32) (i_in_held : Int32) (i_in_many : Int32) (n_in_words : Nat) (l1 : Int32) (l2 : Int32) (res : Int32 × Int32 × (Nat → Int64)) (kf : Int32 → (Nat → Int64) → Option (Int32 × Int32 × (Nat → Int64))) : Prop := ∀ (i_in_used : Int32) (v_in_words : Nat → Int64), kf i_in_used v_in_words = some res → ∀ (H : Heap) (locs : List Loc) (ls : Array Slot), lv_has ls 5 [] → va_P D classes [(a_this, .inr (0, [.ref a_in, .ref o_out, .ref o_counts, .ref o_codes, .ref o_tree, .ref o_writer, .ref o_reader, .ref o_streams, .int i_place])), (a_in, .inr (5, [.ref a_in_words, .int i_in_room, .int i_in_used, .int i_in_held, .int i_in_many])), (a_in_words, .inl (cL, n_in_words, .inr (.inl v_in_words)))] H → va_D A [(a_this, .inr (0, [.ref a_in, .ref o_out, .ref o_counts, .ref o_codes, .ref o_tree, .ref o_writer, .ref o_reader, .ref o_streams, .int i_place])), (a_in, .inr (5, [.ref a_in_words, .int i_in_room, .int i_in_used, .int i_in_held, .int i_in_many])), (a_in_words, .inl (cL, n_in_words, .inr (.inl v_in_words)))] → va_S A s.heap H locs → W p l e R_PM_again s m args below meth c H locs 0 0 Q (F0 m 85 ls [])
def I_PM_again_b50 (p : Program) (l : Launch) (e : Env) (s : State) (m : MethodId) (args : Array Value) (below : List Frame) (meth : Method) (c : Code) (Q : State → Prop) (A : Nat → Prop) (D : va_G) (cI cL cZ : ClassId) (a_this : Nat) (a_in : Nat) (a_in_words : Nat) (o_out : Nat) (o_counts : Nat) (o_codes : Nat) (o_tree : Nat) (o_writer : Nat) (o_reader : Nat) (o_streams : Nat) (i_place : Int32) (i_in_room : Int32) (i_in_held : Int32) (i_in_many : Int32) (n_in_words : Nat) (l1 : Int32) (l2 : Int32) (res : Int32 × Int32 × (Nat → Int64)) (kf : Int32 → Int32 → Int32 → (Nat → Int64) → Option (Int32 × Int32 × (Nat → Int64))) : Prop := ∀ (l3 : Int32) (l4 : Int32) (i_in_used : Int32) (v_in_words : Nat → Int64), kf l3 l4 i_in_used v_in_words = some res → ∀ (H : Heap) (locs : List Loc) (ls : Array Slot), lv_has ls 5 [(0, .ref a_this), (1, .int l1), (3, .int l3), (4, .int l4)] → va_P D classes [(a_this, .inr (0, [.ref a_in, .ref o_out, .ref o_counts, .ref o_codes, .ref o_tree, .ref o_writer, .ref o_reader, .ref o_streams, .int i_place])), (a_in, .inr (5, [.ref a_in_words, .int i_in_room, .int i_in_used, .int i_in_held, .int i_in_many])), (a_in_words, .inl (cL, n_in_words, .inr (.inl v_in_words)))] H → va_D A [(a_this, .inr (0, [.ref a_in, .ref o_out, .ref o_counts, .ref o_codes, .ref o_tree, .ref o_writer, .ref o_reader, .ref o_streams, .int i_place])), (a_in, .inr (5, [.ref a_in_words, .int i_in_room, .int i_in_used, .int i_in_held, .int i_in_many])), (a_in_words, .inl (cL, n_in_words, .inr (.inl v_in_words)))] → va_S A s.heap H locs → W p l e R_PM_again s m args below meth c H locs 0 0 Q (F0 m 50 ls [])
def I_PM_again_b0 (p : Program) (l : Launch) (e : Env) (s : State) (m : MethodId) (args : Array Value) (below : List Frame) (meth : Method) (c : Code) (Q : State → Prop) (A : Nat → Prop) (D : va_G) (cI cL cZ : ClassId) (a_this : Nat) (a_in : Nat) (a_in_words : Nat) (o_out : Nat) (o_counts : Nat) (o_codes : Nat) (o_tree : Nat) (o_writer : Nat) (o_reader : Nat) (o_streams : Nat) (i_place : Int32) (i_in_room : Int32) (i_in_held : Int32) (i_in_many : Int32) (n_in_words : Nat) (l1 : Int32) (l2 : Int32) (res : Int32 × Int32 × (Nat → Int64)) (kf : Int32 → (Nat → Int64) → Option (Int32 × Int32 × (Nat → Int64))) : Prop := ∀ (i_in_used : Int32) (v_in_words : Nat → Int64), kf i_in_used v_in_words = some res → ∀ (H : Heap) (locs : List Loc) (ls : Array Slot), lv_has ls 5 [(0, .ref a_this), (1, .int l1), (2, .int l2)] → va_P D classes [(a_this, .inr (0, [.ref a_in, .ref o_out, .ref o_counts, .ref o_codes, .ref o_tree, .ref o_writer, .ref o_reader, .ref o_streams, .int i_place])), (a_in, .inr (5, [.ref a_in_words, .int i_in_room, .int i_in_used, .int i_in_held, .int i_in_many])), (a_in_words, .inl (cL, n_in_words, .inr (.inl v_in_words)))] H → va_D A [(a_this, .inr (0, [.ref a_in, .ref o_out, .ref o_counts, .ref o_codes, .ref o_tree, .ref o_writer, .ref o_reader, .ref o_streams, .int i_place])), (a_in, .inr (5, [.ref a_in_words, .int i_in_room, .int i_in_used, .int i_in_held, .int i_in_many])), (a_in_words, .inl (cL, n_in_words, .inr (.inl v_in_words)))] → va_S A s.heap H locs → W p l e R_PM_again s m args below meth c H locs 0 0 Q (F0 m 0 ls [])
set_option maxHeartbeats 4000000 in
set_option maxRecDepth 100000 in
theorem w_PM_again_b41 {p : Program} {l : Launch} {e : Env} {s : State} {m : MethodId} {args : Array Value} {below : List Frame} {meth : Method} {c : Code} {Q : State → Prop} {A : Nat → Prop} {D : va_G} {cI cL cZ : ClassId} {a_this : Nat} {a_in : Nat} {a_in_words : Nat} {o_out : Nat} {o_counts : Nat} {o_codes : Nat} {o_tree : Nat} {o_writer : Nat} {o_reader : Nat} {o_streams : Nat} {i_place : Int32} {i_in_room : Int32} {i_in_held : Int32} {i_in_many : Int32} {n_in_words : Nat} {l1 : Int32} {l2 : Int32} {N : Nat} {res : Int32 × Int32 × (Nat → Int64)}  (C : Cx p s m args c b_PM_again 5 "PrefixMill" D [(cI, .int), (cL, .long), (cZ, .boolean)] A) (hret : E_PM_again p l e s m args below meth c Q A D cI cL cZ a_this a_in a_in_words o_out o_counts o_codes o_tree o_writer o_reader o_streams i_place i_in_room i_in_held i_in_many n_in_words l1 l2 res)  : I_PM_again_b41 p l e s m args below meth c Q A D cI cL cZ a_this a_in a_in_words o_out o_counts o_codes o_tree o_writer o_reader o_streams i_place i_in_room i_in_held i_in_many n_in_words l1 l2 res (f_PM_again_b41 N i_in_room n_in_words l1 l2 ) := by
  obtain ⟨hx, hb, hml, hown, hts, hK, hA⟩ := C
  intro i_in_used v_in_words h H locs ls hl hP hD hS
  unfold f_PM_again_b41 at h
  refine lv_iconst (v := 0) hx hb d_PM_again_41 (by decide) ?_
  exact hret _ _ _ _ 0 i_in_used v_in_words h rfl d_PM_again_42 hP hD hS
set_option maxHeartbeats 4000000 in
set_option maxRecDepth 100000 in
theorem w_PM_again_b85 {p : Program} {l : Launch} {e : Env} {s : State} {m : MethodId} {args : Array Value} {below : List Frame} {meth : Method} {c : Code} {Q : State → Prop} {A : Nat → Prop} {D : va_G} {cI cL cZ : ClassId} {a_this : Nat} {a_in : Nat} {a_in_words : Nat} {o_out : Nat} {o_counts : Nat} {o_codes : Nat} {o_tree : Nat} {o_writer : Nat} {o_reader : Nat} {o_streams : Nat} {i_place : Int32} {i_in_room : Int32} {i_in_held : Int32} {i_in_many : Int32} {n_in_words : Nat} {l1 : Int32} {l2 : Int32} {N : Nat} {res : Int32 × Int32 × (Nat → Int64)}  (C : Cx p s m args c b_PM_again 5 "PrefixMill" D [(cI, .int), (cL, .long), (cZ, .boolean)] A) (hret : E_PM_again p l e s m args below meth c Q A D cI cL cZ a_this a_in a_in_words o_out o_counts o_codes o_tree o_writer o_reader o_streams i_place i_in_room i_in_held i_in_many n_in_words l1 l2 res)  : I_PM_again_b85 p l e s m args below meth c Q A D cI cL cZ a_this a_in a_in_words o_out o_counts o_codes o_tree o_writer o_reader o_streams i_place i_in_room i_in_held i_in_many n_in_words l1 l2 res (f_PM_again_b85 N i_in_room n_in_words l1 l2 ) := by
  obtain ⟨hx, hb, hml, hown, hts, hK, hA⟩ := C
  intro i_in_used v_in_words h H locs ls hl hP hD hS
  unfold f_PM_again_b85 at h
  refine lv_iconst (v := 1) hx hb d_PM_again_85 (by decide) ?_
  exact hret _ _ _ _ 1 i_in_used v_in_words h rfl d_PM_again_86 hP hD hS
set_option maxHeartbeats 4000000 in
set_option maxRecDepth 100000 in
theorem w_PM_again_b50 {p : Program} {l : Launch} {e : Env} {s : State} {m : MethodId} {args : Array Value} {below : List Frame} {meth : Method} {c : Code} {Q : State → Prop} {A : Nat → Prop} {D : va_G} {cI cL cZ : ClassId} {a_this : Nat} {a_in : Nat} {a_in_words : Nat} {o_out : Nat} {o_counts : Nat} {o_codes : Nat} {o_tree : Nat} {o_writer : Nat} {o_reader : Nat} {o_streams : Nat} {i_place : Int32} {i_in_room : Int32} {i_in_held : Int32} {i_in_many : Int32} {n_in_words : Nat} {l1 : Int32} {l2 : Int32} {N : Nat} {res : Int32 × Int32 × (Nat → Int64)}  (C : Cx p s m args c b_PM_again 5 "PrefixMill" D [(cI, .int), (cL, .long), (cZ, .boolean)] A) (hret : E_PM_again p l e s m args below meth c Q A D cI cL cZ a_this a_in a_in_words o_out o_counts o_codes o_tree o_writer o_reader o_streams i_place i_in_room i_in_held i_in_many n_in_words l1 l2 res)  : ∀ z : Nat, I_PM_again_b50 p l e s m args below meth c Q A D cI cL cZ a_this a_in a_in_words o_out o_counts o_codes o_tree o_writer o_reader o_streams i_place i_in_room i_in_held i_in_many n_in_words l1 l2 res (f_PM_again_b50 N i_in_room n_in_words l1 l2  z) := by
  obtain ⟨hx, hb, hml, hown, hts, hK, hA⟩ := C
  intro z
  induction z with
  | zero => intro l3 l4 i_in_used v_in_words h; cases h
  | succ z ih =>
    intro l3 l4 i_in_used v_in_words h H locs ls hl hP hD hS
    refine lv_iload hx hb d_PM_again_50 (lv_at hl 3 rfl) ?_
    refine lv_iload_n hx hb d_PM_again_52 rfl (lv_at hl 2 rfl) ?_
    refine lv_icmp_ge (tgt := 85) hx hb d_PM_again_53 (by decide) (fun c_1 => ?_) (fun c_1 => ?_)
    · replace h := if_t h c_1
      exact w_PM_again_b85 ⟨hx, hb, hml, hown, hts, hK, hA⟩ hret  _ _ h H locs ls (lv_sub hl [] rfl) hP hD hS
    · replace h := if_f h c_1
      refine lv_aload_n hx hb d_PM_again_56 rfl (lv_at hl 0 rfl) ?_
      refine va_get hx hb hts in_PM hown hK hP 0 rfl rfl 0 (by decide) (hts _ m_340) (fun _ h9 => h9) rfl d_PM_again_57 ?_
      refine lv_aload_n hx hb d_PM_again_60 rfl (lv_at hl 0 rfl) ?_
      refine va_get hx hb hts in_PM hown hK hP 0 rfl rfl 0 (by decide) (hts _ m_340) (fun _ h9 => h9) rfl d_PM_again_61 ?_
      refine lv_aload_n hx hb d_PM_again_64 rfl (lv_at hl 0 rfl) ?_
      refine va_get hx hb hts in_PM hown hK hP 0 rfl rfl 0 (by decide) (hts _ m_340) (fun _ h9 => h9) rfl d_PM_again_65 ?_
      refine va_getN hx hb hts in_Row hown hK hP 1 rfl rfl 2 (by decide) (hts _ m_97) (fun _ h9 => h9) rfl d_PM_again_68 ?_
      refine lv_iload_n hx hb d_PM_again_71 rfl (lv_at hl 1 rfl) ?_
      refine lv_isub hx hb d_PM_again_72 ?_
      obtain ⟨r_2, hc_3, h⟩ := bd1_s h
      have hPc := hP.sub (ws' := [(a_in, .inr (5, [.ref a_in_words, .int i_in_room, .int i_in_used, .int i_in_held, .int i_in_many])), (a_in_words, .inl (cL, n_in_words, .inr (.inl v_in_words)))]) [1, 2] rfl
      have hDc := hD.sub (ws' := [(a_in, .inr (5, [.ref a_in_words, .int i_in_room, .int i_in_used, .int i_in_held, .int i_in_many])), (a_in_words, .inl (cL, n_in_words, .inr (.inl v_in_words)))]) [1, 2] (by decide) rfl
      have hFc := va_free (wc := [(a_in, .inr (5, [.ref a_in_words, .int i_in_room, .int i_in_used, .int i_in_held, .int i_in_many])), (a_in_words, .inl (cL, n_in_words, .inr (.inl v_in_words)))]) hD hS hA [1, 2] rfl
      refine va_calli (va_runV (As := [.int (i_in_used - l1)]) (rest := [.ref a_in]) ⟨hx, hb, hml, hown, hts⟩ (c_Row_get l D cI cL cZ H.size N a_in a_in_words i_in_room i_in_used i_in_held i_in_many n_in_words v_in_words (i_in_used - l1) r_2 hc_3) ⟨(my_cb 1 hts m_385 rfl rfl (hts _ m_67) (hts _ m_382) (by decide +kernel) ⟨Nat.le_of_ble_eq_true rfl, Nat.le_of_ble_eq_true rfl⟩), hts _ m_383, hts _ m_384⟩ ⟨fun a U g mk q => by obtain ⟨q0, q1, qP, qK, qD⟩ := q; exact ⟨q0, q1, qP, va_K.moved (u := U) (U := U.calling g mk a) (Vm.Alike.refl U.vm) qK, qD⟩, va_recv hK hPc (ci := 5) (q0 := 0) rfl rfl, fun U hU hW => ⟨rfl, by rw [hU], by rw [hU]; exact hPc, va_K.moved hW.alike hK, hDc.weaken (fun _ _ _ _ => trivial)⟩⟩ rfl rfl hl.1 rfl (lv_room (Nat.le_of_ble_eq_true rfl)) d_PM_again_73 ⟨Nat.zero_le _, Nat.zero_le _⟩) hS (fun q _ h => hFc q h) hFc (fun rr u t H1 locs ht hvm hw hB hz1 hk1 hS => ?_)
      obtain ⟨hP1, hK1, hD1⟩ := hB
      rw [ht] at hP1
      subst hw
      obtain ⟨hP, hD⟩ := va_join (wr := [(a_this, .inr (0, [.ref a_in, .ref o_out, .ref o_counts, .ref o_codes, .ref o_tree, .ref o_writer, .ref o_reader, .ref o_streams, .int i_place]))]) (w1 := [(a_in, .inr (5, [.ref a_in_words, .int i_in_room, .int i_in_used, .int i_in_held, .int i_in_many])), (a_in_words, .inl (cL, n_in_words, .inr (.inl v_in_words)))]) hP hD [1, 2] [0] rfl rfl (by decide) (by decide) hk1 hFc hP1 hD1
      clear hPc hDc hFc hk1 hP1 hD1 hK1
      generalize H1 = H at hP hS ⊢
      have hP : va_P D classes [(a_this, .inr (0, [.ref a_in, .ref o_out, .ref o_counts, .ref o_codes, .ref o_tree, .ref o_writer, .ref o_reader, .ref o_streams, .int i_place])), (a_in, .inr (5, [.ref a_in_words, .int i_in_room, .int i_in_used, .int i_in_held, .int i_in_many])), (a_in_words, .inl (cL, n_in_words, .inr (.inl v_in_words)))] H := hP.sub [0, 1, 2] rfl
      have hD : va_D A [(a_this, .inr (0, [.ref a_in, .ref o_out, .ref o_counts, .ref o_codes, .ref o_tree, .ref o_writer, .ref o_reader, .ref o_streams, .int i_place])), (a_in, .inr (5, [.ref a_in_words, .int i_in_room, .int i_in_used, .int i_in_held, .int i_in_many])), (a_in_words, .inl (cL, n_in_words, .inr (.inl v_in_words)))] := hD.sub [0, 1, 2] (by decide) rfl
      obtain ⟨i_in_used_4, v_in_words_5, hc_6, h⟩ := bd2_s h
      have hPc := hP.sub (ws' := [(a_in, .inr (5, [.ref a_in_words, .int i_in_room, .int i_in_used, .int i_in_held, .int i_in_many])), (a_in_words, .inl (cL, n_in_words, .inr (.inl v_in_words)))]) [1, 2] rfl
      have hDc := hD.sub (ws' := [(a_in, .inr (5, [.ref a_in_words, .int i_in_room, .int i_in_used, .int i_in_held, .int i_in_many])), (a_in_words, .inl (cL, n_in_words, .inr (.inl v_in_words)))]) [1, 2] (by decide) rfl
      have hFc := va_free (wc := [(a_in, .inr (5, [.ref a_in_words, .int i_in_room, .int i_in_used, .int i_in_held, .int i_in_many])), (a_in_words, .inl (cL, n_in_words, .inr (.inl v_in_words)))]) hD hS hA [1, 2] rfl
      refine va_callv (va_runV (As := [.int r_2]) (rest := []) ⟨hx, hb, hml, hown, hts⟩ (c_Row_add l D cI cL cZ H.size N a_in a_in_words i_in_room i_in_used i_in_held i_in_many n_in_words v_in_words r_2 i_in_used_4 v_in_words_5 hc_6) ⟨(my_cb 1 hts m_375 rfl rfl (hts _ m_67) (hts _ m_372) (by decide +kernel) ⟨Nat.le_of_ble_eq_true rfl, Nat.le_of_ble_eq_true rfl⟩), hts _ m_373, hts _ m_374⟩ ⟨fun a U g mk q => by obtain ⟨q0, q1, qP, qK, qD⟩ := q; exact ⟨q0, q1, qP, va_K.moved (u := U) (U := U.calling g mk a) (Vm.Alike.refl U.vm) qK, qD⟩, va_recv hK hPc (ci := 5) (q0 := 0) rfl rfl, fun U hU hW => ⟨rfl, by rw [hU], by rw [hU]; exact hPc, va_K.moved hW.alike hK, hDc.weaken (fun _ _ _ _ => trivial)⟩⟩ rfl rfl hl.1 rfl (lv_room (Nat.le_of_ble_eq_true rfl)) d_PM_again_76 ⟨Nat.zero_le _, Nat.zero_le _⟩) hS (fun q _ h => hFc q h) hFc (fun u t H1 locs ht hvm hw hB hz1 hk1 hS => ?_)
      obtain ⟨hP1, hK1, hD1⟩ := hB
      rw [ht] at hP1
      obtain ⟨hP, hD⟩ := va_join (wr := [(a_this, .inr (0, [.ref a_in, .ref o_out, .ref o_counts, .ref o_codes, .ref o_tree, .ref o_writer, .ref o_reader, .ref o_streams, .int i_place]))]) (w1 := [(a_in, .inr (5, [.ref a_in_words, .int i_in_room, .int i_in_used_4, .int i_in_held, .int i_in_many])), (a_in_words, .inl (cL, n_in_words, .inr (.inl v_in_words_5)))]) hP hD [1, 2] [0] rfl rfl (by decide) (by decide) hk1 hFc hP1 hD1
      clear hPc hDc hFc hk1 hP1 hD1 hK1
      generalize H1 = H at hP hS ⊢
      have hP : va_P D classes [(a_this, .inr (0, [.ref a_in, .ref o_out, .ref o_counts, .ref o_codes, .ref o_tree, .ref o_writer, .ref o_reader, .ref o_streams, .int i_place])), (a_in, .inr (5, [.ref a_in_words, .int i_in_room, .int i_in_used_4, .int i_in_held, .int i_in_many])), (a_in_words, .inl (cL, n_in_words, .inr (.inl v_in_words_5)))] H := hP.sub [0, 1, 2] rfl
      have hD : va_D A [(a_this, .inr (0, [.ref a_in, .ref o_out, .ref o_counts, .ref o_codes, .ref o_tree, .ref o_writer, .ref o_reader, .ref o_streams, .int i_place])), (a_in, .inr (5, [.ref a_in_words, .int i_in_room, .int i_in_used_4, .int i_in_held, .int i_in_many])), (a_in_words, .inl (cL, n_in_words, .inr (.inl v_in_words_5)))] := hD.sub [0, 1, 2] (by decide) rfl
      obtain ⟨l4_7, el4_7⟩ : ∃ y : Int32, y = l4 + 1 := ⟨_, rfl⟩
      replace h := nm_s h el4_7
      refine lv_iinc (v := l4_7) (lv' := [(4, .int l4_7), (0, .ref a_this), (1, .int l1), (3, .int l3)]) hx hb d_PM_again_79 hl (k := 3) rfl (by rw [el4_7]; rfl) (by decide) rfl (fun ls hl => ?_)
      refine lv_goto (tgt := 50) hx hb d_PM_again_82 (by decide) ?_
      exact ih _ _ _ _ h H locs ls (lv_sub hl [1, 2, 3, 0] rfl) hP hD hS
set_option maxHeartbeats 4000000 in
set_option maxRecDepth 100000 in
theorem w_PM_again_b0 {p : Program} {l : Launch} {e : Env} {s : State} {m : MethodId} {args : Array Value} {below : List Frame} {meth : Method} {c : Code} {Q : State → Prop} {A : Nat → Prop} {D : va_G} {cI cL cZ : ClassId} {a_this : Nat} {a_in : Nat} {a_in_words : Nat} {o_out : Nat} {o_counts : Nat} {o_codes : Nat} {o_tree : Nat} {o_writer : Nat} {o_reader : Nat} {o_streams : Nat} {i_place : Int32} {i_in_room : Int32} {i_in_held : Int32} {i_in_many : Int32} {n_in_words : Nat} {l1 : Int32} {l2 : Int32} {N : Nat} {res : Int32 × Int32 × (Nat → Int64)}  (C : Cx p s m args c b_PM_again 5 "PrefixMill" D [(cI, .int), (cL, .long), (cZ, .boolean)] A) (hret : E_PM_again p l e s m args below meth c Q A D cI cL cZ a_this a_in a_in_words o_out o_counts o_codes o_tree o_writer o_reader o_streams i_place i_in_room i_in_held i_in_many n_in_words l1 l2 res)  : I_PM_again_b0 p l e s m args below meth c Q A D cI cL cZ a_this a_in a_in_words o_out o_counts o_codes o_tree o_writer o_reader o_streams i_place i_in_room i_in_held i_in_many n_in_words l1 l2 res (f_PM_again N i_in_room n_in_words l1 l2 ) := by
  obtain ⟨hx, hb, hml, hown, hts, hK, hA⟩ := C
  intro i_in_used v_in_words h H locs ls hl hP hD hS
  unfold f_PM_again at h
  refine lv_iload_n hx hb d_PM_again_0 rfl (lv_at hl 1 rfl) ?_
  refine lv_iconst (v := 1) hx hb d_PM_again_1 (by decide) ?_
  refine lv_icmp_lt (tgt := 41) hx hb d_PM_again_2 (by decide) (fun c_1 => ?_) (fun c_1 => ?_)
  · replace h := if_t h c_1
    exact w_PM_again_b41 ⟨hx, hb, hml, hown, hts, hK, hA⟩ hret  _ _ h H locs ls (lv_sub hl [] rfl) hP hD hS
  · replace h := if_f h c_1
    refine lv_iload_n hx hb d_PM_again_5 rfl (lv_at hl 1 rfl) ?_
    refine lv_aload_n hx hb d_PM_again_6 rfl (lv_at hl 0 rfl) ?_
    refine va_get hx hb hts in_PM hown hK hP 0 rfl rfl 0 (by decide) (hts _ m_340) (fun _ h9 => h9) rfl d_PM_again_7 ?_
    refine va_getN hx hb hts in_Row hown hK hP 1 rfl rfl 2 (by decide) (hts _ m_97) (fun _ h9 => h9) rfl d_PM_again_10 ?_
    refine lv_icmp_gt (tgt := 41) hx hb d_PM_again_13 (by decide) (fun c_2 => ?_) (fun c_2 => ?_)
    · replace h := if_t h c_2
      exact w_PM_again_b41 ⟨hx, hb, hml, hown, hts, hK, hA⟩ hret  _ _ h H locs ls (lv_sub hl [] rfl) hP hD hS
    · replace h := if_f h c_2
      refine lv_iload_n hx hb d_PM_again_16 rfl (lv_at hl 2 rfl) ?_
      refine lv_if_lt (tgt := 41) hx hb d_PM_again_17 (by decide) (fun c_3 => ?_) (fun c_3 => ?_)
      · replace h := if_t h c_3
        exact w_PM_again_b41 ⟨hx, hb, hml, hown, hts, hK, hA⟩ hret  _ _ h H locs ls (lv_sub hl [] rfl) hP hD hS
      · replace h := if_f h c_3
        refine lv_iload_n hx hb d_PM_again_20 rfl (lv_at hl 1 rfl) ?_
        refine lv_i2l hx hb d_PM_again_21 rfl ?_
        refine lv_iload_n hx hb d_PM_again_22 rfl (lv_at hl 2 rfl) ?_
        refine lv_i2l hx hb d_PM_again_23 rfl ?_
        refine lv_lmul hx hb d_PM_again_24 ?_
        refine lv_sipush (v := 6000) hx hb d_PM_again_25 (by decide) ?_
        refine lv_aload_n hx hb d_PM_again_28 rfl (lv_at hl 0 rfl) ?_
        refine va_get hx hb hts in_PM hown hK hP 0 rfl rfl 0 (by decide) (hts _ m_340) (fun _ h9 => h9) rfl d_PM_again_29 ?_
        refine va_getN hx hb hts in_Row hown hK hP 1 rfl rfl 2 (by decide) (hts _ m_97) (fun _ h9 => h9) rfl d_PM_again_32 ?_
        refine lv_isub hx hb d_PM_again_35 ?_
        refine lv_i2l hx hb d_PM_again_36 rfl ?_
        refine W.lcmp hx hb d_PM_again_37 ?_
        refine lv_if_le (tgt := 43) hx hb d_PM_again_38 (by decide) (fun c_4 => ?_) (fun c_4 => ?_)
        · replace h := if_t h c_4
          refine lv_iload_n hx hb d_PM_again_43 rfl (lv_at hl 1 rfl) ?_
          refine lv_iload_n hx hb d_PM_again_44 rfl (lv_at hl 2 rfl) ?_
          refine lv_imul hx hb d_PM_again_45 ?_
          refine lv_topi (fun l3_5 el3_5 => ?_)
          replace h := nm_s h el3_5
          refine lv_istore_n (lv' := [(3, .int l3_5), (0, .ref a_this), (1, .int l1), (2, .int l2)]) hx hb d_PM_again_46 rfl hl (by decide) rfl (fun ls hl => ?_)
          refine lv_iconst (v := 0) hx hb d_PM_again_47 (by decide) ?_
          refine lv_istore (lv' := [(4, .int 0), (3, .int l3_5), (0, .ref a_this), (1, .int l1), (2, .int l2)]) hx hb d_PM_again_48 hl (by decide) rfl (fun ls hl => ?_)
          exact w_PM_again_b50 ⟨hx, hb, hml, hown, hts, hK, hA⟩ hret  N _ _ _ _ h H locs ls (lv_sub hl [2, 3, 1, 0] rfl) hP hD hS
        · replace h := if_f h c_4
          exact w_PM_again_b41 ⟨hx, hb, hml, hown, hts, hK, hA⟩ hret  _ _ h H locs ls (lv_sub hl [] rfl) hP hD hS
set_option maxHeartbeats 4000000 in
set_option maxRecDepth 100000 in
theorem c_PM_again (l : Launch) (D : va_G) (cI cL cZ : ClassId) (sz N : Nat) (a_this : Nat) (a_in : Nat) (a_in_words : Nat) (o_out : Nat) (o_counts : Nat) (o_codes : Nat) (o_tree : Nat) (o_writer : Nat) (o_reader : Nat) (o_streams : Nat) (i_place : Int32) (i_in_room : Int32) (i_in_used : Int32) (i_in_held : Int32) (i_in_many : Int32) (n_in_words : Nat) (v_in_words : Nat → Int64) (l1 : Int32) (l2 : Int32) (rv : Int32) (i_in_used' : Int32) (v_in_words' : Nat → Int64) (h : f_PM_again N i_in_room n_in_words l1 l2 i_in_used v_in_words = some (rv, i_in_used', v_in_words')) : Met l ({ cls := "PrefixMill", name := "again", desc := "(II)Z" } : Jvm.MethodName) ws_PM_again R_PM_again (va_Pc [.ref a_this, .int l1, .int l2] (fun U => U.heap.size = sz ∧ va_P D classes [(a_this, .inr (0, [.ref a_in, .ref o_out, .ref o_counts, .ref o_codes, .ref o_tree, .ref o_writer, .ref o_reader, .ref o_streams, .int i_place])), (a_in, .inr (5, [.ref a_in_words, .int i_in_room, .int i_in_used, .int i_in_held, .int i_in_many])), (a_in_words, .inl (cL, n_in_words, .inr (.inl v_in_words)))] U.heap ∧ va_K D classes [(cI, .int), (cL, .long), (cZ, .boolean)] U ∧ va_D (fun _ => True) [(a_this, .inr (0, [.ref a_in, .ref o_out, .ref o_counts, .ref o_codes, .ref o_tree, .ref o_writer, .ref o_reader, .ref o_streams, .int i_place])), (a_in, .inr (5, [.ref a_in_words, .int i_in_room, .int i_in_used, .int i_in_held, .int i_in_many])), (a_in_words, .inl (cL, n_in_words, .inr (.inl v_in_words)))])) (va_Qi (fun (r0 : Int32) (_ : Unit) => rv = r0) (fun _ t => va_P D classes [(a_this, .inr (0, [.ref a_in, .ref o_out, .ref o_counts, .ref o_codes, .ref o_tree, .ref o_writer, .ref o_reader, .ref o_streams, .int i_place])), (a_in, .inr (5, [.ref a_in_words, .int i_in_room, .int i_in_used', .int i_in_held, .int i_in_many])), (a_in_words, .inl (cL, n_in_words, .inr (.inl v_in_words')))] t.heap ∧ va_K D classes [(cI, .int), (cL, .long), (cZ, .boolean)] t ∧ va_D (va_A [(a_this, .inr (0, [.ref a_in, .ref o_out, .ref o_counts, .ref o_codes, .ref o_tree, .ref o_writer, .ref o_reader, .ref o_streams, .int i_place])), (a_in, .inr (5, [.ref a_in_words, .int i_in_room, .int i_in_used, .int i_in_held, .int i_in_many])), (a_in_words, .inl (cL, n_in_words, .inr (.inl v_in_words)))] sz) [(a_this, .inr (0, [.ref a_in, .ref o_out, .ref o_counts, .ref o_codes, .ref o_tree, .ref o_writer, .ref o_reader, .ref o_streams, .int i_place])), (a_in, .inr (5, [.ref a_in_words, .int i_in_room, .int i_in_used', .int i_in_held, .int i_in_many])), (a_in_words, .inl (cL, n_in_words, .inr (.inl v_in_words')))]) (va_A [(a_this, .inr (0, [.ref a_in, .ref o_out, .ref o_counts, .ref o_codes, .ref o_tree, .ref o_writer, .ref o_reader, .ref o_streams, .int i_place])), (a_in, .inr (5, [.ref a_in_words, .int i_in_room, .int i_in_used, .int i_in_held, .int i_in_many])), (a_in_words, .inl (cL, n_in_words, .inr (.inl v_in_words)))] sz)) 0 0 (va_A [(a_this, .inr (0, [.ref a_in, .ref o_out, .ref o_counts, .ref o_codes, .ref o_tree, .ref o_writer, .ref o_reader, .ref o_streams, .int i_place])), (a_in, .inr (5, [.ref a_in_words, .int i_in_room, .int i_in_used, .int i_in_held, .int i_in_many])), (a_in_words, .inl (cL, n_in_words, .inr (.inl v_in_words)))] sz) := by
  refine Met.ofW (cc := b_PM_again) (maxL := 5) (ret := (some .boolean)) (by decide) rfl ?_
  intro p e s m args below meth c s₁ B hml hv
  obtain ⟨rfl, hsz, hP, hK, hD0⟩ := hv
  have hx := B.exec
  have hb := B.bytes
  have hr := B.returns
  have hts0 := atoms_spec (ws := ws_PM_again) B.pre
  have hts := gd_tl hts0
  clear hts0
  have hown : s.vm.findClass "PrefixMill" = some m.cls := findClass_of_methodNamed B.named
  have hlocks := B.notSynchronized
  subst hsz
  have hD := hD0.self (sz := s.heap.size)
  generalize hAe : va_A [(a_this, .inr (0, [.ref a_in, .ref o_out, .ref o_counts, .ref o_codes, .ref o_tree, .ref o_writer, .ref o_reader, .ref o_streams, .int i_place])), (a_in, .inr (5, [.ref a_in_words, .int i_in_room, .int i_in_used, .int i_in_held, .int i_in_many])), (a_in_words, .inl (cL, n_in_words, .inr (.inl v_in_words)))] s.heap.size = A at hD ⊢
  have hA : ∀ q : Nat, s.heap.size ≤ q → A q := fun q h => by rw [← hAe]; exact Or.inr h
  have hS : va_S A s.heap s.heap [] := va_S.rf
  have hP : va_P D classes [(a_this, .inr (0, [.ref a_in, .ref o_out, .ref o_counts, .ref o_codes, .ref o_tree, .ref o_writer, .ref o_reader, .ref o_streams, .int i_place])), (a_in, .inr (5, [.ref a_in_words, .int i_in_room, .int i_in_used, .int i_in_held, .int i_in_many])), (a_in_words, .inl (cL, n_in_words, .inr (.inl v_in_words)))] s.heap := hP
  have hl := lv_entry ([.ref a_this, .int l1, .int l2]) (n := 5) (Nat.le_of_ble_eq_true rfl)
  rw [lg_entry_eq]
  generalize (lg_sl ([.ref a_this, .int l1, .int l2]) ++ List.replicate (5 - (lg_sl ([.ref a_this, .int l1, .int l2])).length) Slot.unset).toArray = ls at hl ⊢
  have hl : lv_has ls 5 [(0, .ref a_this), (1, .int l1), (2, .int l2)] := hl
  have C : Cx p s m ([.ref a_this, .int l1, .int l2] : List Value).toArray c b_PM_again 5 "PrefixMill" D [(cI, .int), (cL, .long), (cZ, .boolean)] A := ⟨hx, hb, hml, hown, hts, hK, hA⟩
  refine w_PM_again_b0 (res := (rv, i_in_used', v_in_words')) C ?_ _ _ h s.heap [] ls hl hP hD hS
  intro pc9 H9 locs9 ls9 rv9 i_in_used9 v_in_words9 e9 z9 d9 hP9 hD9 hS9
  cases e9
  exact W.zret (v := rv) hx hb hr z9 (fun t ht hW => ⟨⟨rv, (), rfl, rfl, by rw [ht]; exact hP9, va_K.moved hW.alike hK, hD9⟩, hS9.F ht⟩) hS9.2.2 d9
