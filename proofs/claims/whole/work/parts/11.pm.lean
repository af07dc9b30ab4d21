abbrev b_PM_write : ByteArray := prog_1_method_2_code
def ws_PM_write : List Cond := .code ({ cls := "PrefixMill", name := "write", desc := "(JI)Z" } : Jvm.MethodName) b_PM_write 5 (some .boolean) :: tt
theorem d_PM_write_0 : decode b_PM_write 0 = .ok (.iload_n 3, 1) := by decide +kernel
theorem d_PM_write_1 : decode b_PM_write 1 = .ok (.iconst 1, 1) := by decide +kernel
theorem d_PM_write_2 : decode b_PM_write 2 = .ok (.if_icmp .lt 24, 3) := by decide +kernel
theorem d_PM_write_5 : decode b_PM_write 5 = .ok (.iload_n 3, 1) := by decide +kernel
theorem d_PM_write_6 : decode b_PM_write 6 = .ok (.bipush 8, 2) := by decide +kernel
theorem d_PM_write_8 : decode b_PM_write 8 = .ok (.if_icmp .gt 18, 3) := by decide +kernel
theorem d_PM_write_11 : decode b_PM_write 11 = .ok (.iload_n 3, 1) := by decide +kernel
theorem d_PM_write_12 : decode b_PM_write 12 = .ok (.sipush 6000, 3) := by decide +kernel
theorem d_PM_write_15 : decode b_PM_write 15 = .ok (.aload_n 0, 1) := by decide +kernel
theorem d_PM_write_16 : decode b_PM_write 16 = .ok (.getfield 14, 3) := by decide +kernel
theorem d_PM_write_19 : decode b_PM_write 19 = .ok (.getfield 64, 3) := by decide +kernel
theorem d_PM_write_22 : decode b_PM_write 22 = .ok (.isub, 1) := by decide +kernel
theorem d_PM_write_23 : decode b_PM_write 23 = .ok (.if_icmp .le 5, 3) := by decide +kernel
theorem d_PM_write_26 : decode b_PM_write 26 = .ok (.iconst 0, 1) := by decide +kernel
theorem d_PM_write_27 : decode b_PM_write 27 = .ok (.ireturn, 1) := by decide +kernel
theorem d_PM_write_28 : decode b_PM_write 28 = .ok (.iconst 0, 1) := by decide +kernel
theorem d_PM_write_29 : decode b_PM_write 29 = .ok (.istore 4, 2) := by decide +kernel
theorem d_PM_write_31 : decode b_PM_write 31 = .ok (.iload 4, 2) := by decide +kernel
theorem d_PM_write_33 : decode b_PM_write 33 = .ok (.iload_n 3, 1) := by decide +kernel
theorem d_PM_write_34 : decode b_PM_write 34 = .ok (.if_icmp .ge 31, 3) := by decide +kernel
theorem d_PM_write_37 : decode b_PM_write 37 = .ok (.aload_n 0, 1) := by decide +kernel
theorem d_PM_write_38 : decode b_PM_write 38 = .ok (.getfield 14, 3) := by decide +kernel
theorem d_PM_write_41 : decode b_PM_write 41 = .ok (.lload_n 1, 1) := by decide +kernel
theorem d_PM_write_42 : decode b_PM_write 42 = .ok (.bipush 56, 2) := by decide +kernel
theorem d_PM_write_44 : decode b_PM_write 44 = .ok (.bipush 8, 2) := by decide +kernel
theorem d_PM_write_46 : decode b_PM_write 46 = .ok (.iload 4, 2) := by decide +kernel
theorem d_PM_write_48 : decode b_PM_write 48 = .ok (.imul, 1) := by decide +kernel
theorem d_PM_write_49 : decode b_PM_write 49 = .ok (.isub, 1) := by decide +kernel
theorem d_PM_write_50 : decode b_PM_write 50 = .ok (.lushr, 1) := by decide +kernel
theorem d_PM_write_51 : decode b_PM_write 51 = .ok (.l2i, 1) := by decide +kernel
theorem d_PM_write_52 : decode b_PM_write 52 = .ok (.sipush 255, 3) := by decide +kernel
theorem d_PM_write_55 : decode b_PM_write 55 = .ok (.iand, 1) := by decide +kernel
theorem d_PM_write_56 : decode b_PM_write 56 = .ok (.invokevirtual 67, 3) := by decide +kernel
theorem d_PM_write_59 : decode b_PM_write 59 = .ok (.iinc 4 1, 3) := by decide +kernel
theorem d_PM_write_62 : decode b_PM_write 62 = .ok (.goto (-31), 3) := by decide +kernel
theorem d_PM_write_65 : decode b_PM_write 65 = .ok (.iconst 1, 1) := by decide +kernel
theorem d_PM_write_66 : decode b_PM_write 66 = .ok (.ireturn, 1) := by decide +kernel
def f_PM_write_b26 (N : Nat) (i_in_room : Int32) (n_in_words : Nat) (l1 : Int64) (l3 : Int32)  (i_in_used : Int32) (v_in_words : Nat → Int64) : Option (Int32 × Int32 × (Nat → Int64)) :=
  some (0, i_in_used, v_in_words)
def f_PM_write_b65 (N : Nat) (i_in_room : Int32) (n_in_words : Nat) (l1 : Int64) (l3 : Int32)  (i_in_used : Int32) (v_in_words : Nat → Int64) : Option (Int32 × Int32 × (Nat → Int64)) :=
  some (1, i_in_used, v_in_words)
def f_PM_write_b31 (N : Nat) (i_in_room : Int32) (n_in_words : Nat) (l1 : Int64) (l3 : Int32)  : Nat → Int32 → Int32 → (Nat → Int64) → Option (Int32 × Int32 × (Nat → Int64))
  | 0, _, _, _ => none
  | z + 1, l4, i_in_used, v_in_words =>
  if l3 ≤ l4 then
  f_PM_write_b65 N i_in_room n_in_words l1 l3  i_in_used v_in_words
  else
  bd2 (f_Row_add N i_in_room n_in_words ((Int64.toInt32 ((Int64.toUInt64 l1 >>> (Int64.toUInt64 (Int32.toInt64 (56 - (8 * l4))) &&& Int64.toUInt64 63)).toInt64)) &&& 255) i_in_used v_in_words) fun i_in_used_2 v_in_words_3 =>
  nm (l4 + 1) fun l4_5 =>
  f_PM_write_b31 N i_in_room n_in_words l1 l3  z l4_5 i_in_used_2 v_in_words_3
def f_PM_write (N : Nat) (i_in_room : Int32) (n_in_words : Nat) (l1 : Int64) (l3 : Int32)  (i_in_used : Int32) (v_in_words : Nat → Int64) : Option (Int32 × Int32 × (Nat → Int64)) :=
  if l3 < 1 then
  f_PM_write_b26 N i_in_room n_in_words l1 l3  i_in_used v_in_words
  else
  if 8 < l3 then
  f_PM_write_b26 N i_in_room n_in_words l1 l3  i_in_used v_in_words
  else
  if l3 ≤ (6000 - i_in_used) then
  f_PM_write_b31 N i_in_room n_in_words l1 l3  N 0 i_in_used v_in_words
  else
  f_PM_write_b26 N i_in_room n_in_words l1 l3  i_in_used v_in_words
abbrev R_PM_write : Room := ({ frames := 1, cells := 0, slots := 0, locals := 23 } : Room)
def E_PM_write (p : Program) (l : Launch) (e : Env) (s : State) (m : MethodId) (args : Array Value) (below : List Frame) (meth : Method) (c : Code) (Q : State → Prop) (A : Nat → Prop) (D : va_G) (cI cL cZ : ClassId) (a_this : Nat) (a_in : Nat) (a_in_words : Nat) (o_out : Nat) (o_counts : Nat) (o_codes : Nat) (o_tree : Nat) (o_writer : Nat) (o_reader : Nat) (o_streams : Nat) (i_place : Int32) (i_in_room : Int32) (i_in_held : Int32) (i_in_many : Int32) (n_in_words : Nat) (l1 : Int64) (l3 : Int32) (res : Int32 × Int32 × (Nat → Int64)) : Prop := ∀ (pc : Nat) (H : Heap) (locs : List Loc) (ls : Array Slot) (rv : Int32) (i_in_used : Int32) (v_in_words : Nat → Int64), some (rv, i_in_used, v_in_words) = some res → narrow .boolean (.int rv) = .int rv → decode b_PM_write pc = .ok (.ireturn, 1) → va_P D classes [(a_this, .inr (0, [.ref a_in, .ref o_out, .ref o_counts, .ref o_codes, .ref o_tree, .ref o_writer, .ref o_reader, .ref o_streams, .int i_place])), (a_in, .inr (5, [.ref a_in_words, .int i_in_room, .int i_in_used, .int i_in_held, .int i_in_many])), (a_in_words, .inl (cL, n_in_words, .inr (.inl v_in_words)))] H → va_D A [(a_this, .inr (0, [.ref a_in, .ref o_out, .ref o_counts, .ref o_codes, .ref o_tree, .ref o_writer, .ref o_reader, .ref o_streams, .int i_place])), (a_in, .inr (5, [.ref a_in_words, .int i_in_room, .int i_in_used, .int i_in_held, .int i_in_many])), (a_in_words, .inl (cL, n_in_words, .inr (.inl v_in_words)))] → va_S A s.heap H locs → W p l e R_PM_write s m args below meth c H locs 0 0 Q (F0 m pc ls [.int rv])
def I_PM_write_b26 (p : Program) (l : Launch) (e : Env) (s : State) (m : MethodId) (args : Array Value) (below : List Frame) (meth : Method) (c : Code) (Q : State → Prop) (A : Nat → Prop) (D : va_G) (cI cL cZ : ClassId) (a_this : Nat) (a_in : Nat) (a_in_words : Nat) (o_out : Nat) (o_counts : Nat) (o_codes : Nat) (o_tree : Nat) (o_writer : Nat) (o_reader : Nat) (o_streams : Nat) (i_place : Int32) (i_in_room : Int32) (i_in_held : Int32) (i_in_many : Int32) (n_in_words : Nat) (l1 : Int64) (l3 : Int32) (res : Int32 × Int32 × (Nat → Int64)) (kf : Int32 → (Nat → Int64) → Option (Int32 × Int32 × (Nat → Int64))) : Prop := ∀ (i_in_used : Int32) (v_in_words : Nat → Int64), kf i_in_used v_in_words = some res → ∀ (H : Heap) (locs : List Loc) (ls : Array Slot), lv_has ls 5 [] → va_P D classes [(a_this, .inr (0, [.ref a_in, .ref o_out, .ref o_counts, .ref o_codes, .ref o_tree, .ref o_writer, .ref o_reader, .ref o_streams, .int i_place])), (a_in, .inr (5, [.ref a_in_words, .int i_in_room, .int i_in_used, .int i_in_held, .int i_in_many])), (a_in_words, .inl (cL, n_in_words, .inr (.inl v_in_words)))] H → va_D A [(a_this, .inr (0, [.ref a_in, .ref o_out, .ref o_counts, .ref o_codes, .ref o_tree, .ref o_writer, .ref o_reader, .ref o_streams, .int i_place])), (a_in, .inr (5, [.ref a_in_words, .int i_in_room, .int i_in_used, .int i_in_held, .int i_in_many])), (a_in_words, .inl (cL, n_in_words, .inr (.inl v_in_words)))] → va_S A s.heap H locs → W p l e R_PM_write s m args below meth c H locs 0 0 Q (F0 m 26 ls [])
def I_PM_write_b65 (p : Program) (l : Launch) (e : Env) (s : State) (m : MethodId) (args : Array Value) (below : List Frame) (meth : Method) (c : Code) (Q : State → Prop) (A : Nat → Prop) (D : va_G) (cI cL cZ : ClassId) (a_this : Nat) (a_in : Nat) (a_in_words : Nat) (o_out : Nat) (o_counts : Nat) (o_codes : Nat) (o_tree : Nat) (o_writer : Nat) (o_reader : Nat) (o_streams : Nat) (i_place : Int32) (i_in_room : Int32) (i_in_held : Int32) (i_in_many : Int32) (n_in_words : Nat) (l1 : Int64) (l3 : Int32) (res : Int32 × Int32 × (Nat → Int64)) (kf : Int32 → (Nat → Int64) → Option (Int32 × Int32 × (Nat → Int64))) : Prop := ∀ (i_in_used : Int32) (v_in_words : Nat → Int64), kf i_in_used v_in_words = some res → ∀ (H : Heap) (locs : List Loc) (ls : Array Slot), lv_has ls 5 [] → va_P D classes [(a_this, .inr (0, [.ref a_in, .ref o_out, .ref o_counts, .ref o_codes, .ref o_tree, .ref o_writer, .ref o_reader, .ref o_streams, .int i_place])), (a_in, .inr (5, [.ref a_in_words, .int i_in_room, .int i_in_used, .int i_in_held, .int i_in_many])), (a_in_words, .inl (cL, n_in_words, .inr (.inl v_in_words)))] H → va_D A [(a_this, .inr (0, [.ref a_in, .ref o_out, .ref o_counts, .ref o_codes, .ref o_tree, .ref o_writer, .ref o_reader, .ref o_streams, .int i_place])), (a_in, .inr (5, [.ref a_in_words, .int i_in_room, .int i_in_used, .int i_in_held, .int i_in_many])), (a_in_words, .inl (cL, n_in_words, .inr (.inl v_in_words)))] → va_S A s.heap H locs → W p l e R_PM_write s m args below meth c H locs 0 0 Q (F0 m 65 ls [])
def I_PM_write_b31 (p : Program) (l : Launch) (e : Env) (s : State) (m : MethodId) (args : Array Value) (below : List Frame) (meth : Method) (c : Code) (Q : State → Prop) (A : Nat → Prop) (D : va_G) (cI cL cZ : ClassId) (a_this : Nat) (a_in : Nat) (a_in_words : Nat) (o_out : Nat) (o_counts : Nat) (o_codes : Nat) (o_tree : Nat) (o_writer : Nat) (o_reader : Nat) (o_streams : Nat) (i_place : Int32) (i_in_room : Int32) (i_in_held : Int32) (i_in_many : Int32) (n_in_words : Nat) (l1 : Int64) (l3 : Int32) (res : Int32 × Int32 × (Nat → Int64)) (kf : Int32 → Int32 → (Nat → Int64) → Option (Int32 × Int32 × (Nat → Int64))) : Prop := ∀ (l4 : Int32) (i_in_used : Int32) (v_in_words : Nat → Int64), kf l4 i_in_used v_in_words = some res → ∀ (H : Heap) (locs : List Loc) (ls : Array Slot), lv_has ls 5 [(0, .ref a_this), (1, .long l1), (3, .int l3), (4, .int l4)] → va_P D classes [(a_this, .inr (0, [.ref a_in, .ref o_out, .ref o_counts, .ref o_codes, .ref o_tree, .ref o_writer, .ref o_reader, .ref o_streams, .int i_place])), (a_in, .inr (5, [.ref a_in_words, .int i_in_room, .int i_in_used, .int i_in_held, .int i_in_many])), (a_in_words, .inl (cL, n_in_words, .inr (.inl v_in_words)))] H → va_D A [(a_this, .inr (0, [.ref a_in, .ref o_out, .ref o_counts, .ref o_codes, .ref o_tree, .ref o_writer, .ref o_reader, .ref o_streams, .int i_place])), (a_in, .inr (5, [.ref a_in_words, .int i_in_room, .int i_in_used, .int i_in_held, .int i_in_many])), (a_in_words, .inl (cL, n_in_words, .inr (.inl v_in_words)))] → va_S A s.heap H locs → W p l e R_PM_write s m args below meth c H locs 0 0 Q (F0 m 31 ls [])
def I_PM_write_b0 (p : Program) (l : Launch) (e : Env) (s : State) (m : MethodId) (args : Array Value) (below : List Frame) (meth : Method) (c : Code) (Q : State → Prop) (A : Nat → Prop) (D : va_G) (cI cL cZ : ClassId) (a_this : Nat) (a_in : Nat) (a_in_words : Nat) (o_out : Nat) (o_counts : Nat) (o_codes : Nat) (o_tree : Nat) (o_writer : Nat) (o_reader : Nat) (o_streams : Nat) (i_place : Int32) (i_in_room : Int32) (i_in_held : Int32) (i_in_many : Int32) (n_in_words : Nat) (l1 : Int64) (l3 : Int32) (res : Int32 × Int32 × (Nat → Int64)) (kf : Int32 → (Nat → Int64) → Option (Int32 × Int32 × (Nat → Int64))) : Prop := ∀ (i_in_used : Int32) (v_in_words : Nat → Int64), kf i_in_used v_in_words = some res → ∀ (H : Heap) (locs : List Loc) (ls : Array Slot), lv_has ls 5 [(0, .ref a_this), (1, .long l1), (3, .int l3)] → va_P D classes [(a_this, .inr (0, [.ref a_in, .ref o_out, .ref o_counts, .ref o_codes, .ref o_tree, .ref o_writer, .ref o_reader, .ref o_streams, .int i_place])), (a_in, .inr (5, [.ref a_in_words, .int i_in_room, .int i_in_used, .int i_in_held, .int i_in_many])), (a_in_words, .inl (cL, n_in_words, .inr (.inl v_in_words)))] H → va_D A [(a_this, .inr (0, [.ref a_in, .ref o_out, .ref o_counts, .ref o_codes, .ref o_tree, .ref o_writer, .ref o_reader, .ref o_streams, .int i_place])), (a_in, .inr (5, [.ref a_in_words, .int i_in_room, .int i_in_used, .int i_in_held, .int i_in_many])), (a_in_words, .inl (cL, n_in_words, .inr (.inl v_in_words)))] → va_S A s.heap H locs → W p l e R_PM_write s m args below meth c H locs 0 0 Q (F0 m 0 ls [])
set_option maxHeartbeats 4000000 in
set_option maxRecDepth 100000 in
theorem w_PM_write_b26 {p : Program} {l : Launch} {e : Env} {s : State} {m : MethodId} {args : Array Value} {below : List Frame} {meth : Method} {c : Code} {Q : State → Prop} {A : Nat → Prop} {D : va_G} {cI cL cZ : ClassId} {a_this : Nat} {a_in : Nat} {a_in_words : Nat} {o_out : Nat} {o_counts : Nat} {o_codes : Nat} {o_tree : Nat} {o_writer : Nat} {o_reader : Nat} {o_streams : Nat} {i_place : Int32} {i_in_room : Int32} {i_in_held : Int32} {i_in_many : Int32} {n_in_words : Nat} {l1 : Int64} {l3 : Int32} {N : Nat} {res : Int32 × Int32 × (Nat → Int64)}  (C : Cx p s m args c b_PM_write 5 "PrefixMill" D [(cI, .int), (cL, .long), (cZ, .boolean)] A) (hret : E_PM_write p l e s m args below meth c Q A D cI cL cZ a_this a_in a_in_words o_out o_counts o_codes o_tree o_writer o_reader o_streams i_place i_in_room i_in_held i_in_many n_in_words l1 l3 res)  : I_PM_write_b26 p l e s m args below meth c Q A D cI cL cZ a_this a_in a_in_words o_out o_counts o_codes o_tree o_writer o_reader o_streams i_place i_in_room i_in_held i_in_many n_in_words l1 l3 res (f_PM_write_b26 N i_in_room n_in_words l1 l3 ) := by
  obtain ⟨hx, hb, hml, hown, hts, hK, hA⟩ := C
  intro i_in_used v_in_words h H locs ls hl hP hD hS
  unfold f_PM_write_b26 at h
  refine lv_iconst (v := 0) hx hb d_PM_write_26 (by decide) ?_
  exact hret _ _ _ _ 0 i_in_used v_in_words h rfl d_PM_write_27 hP hD hS
set_option maxHeartbeats 4000000 in
set_option maxRecDepth 100000 in
theorem w_PM_write_b65 {p : Program} {l : Launch} {e : Env} {s : State} {m : MethodId} {args : Array Value} {below : List Frame} {meth : Method} {c : Code} {Q : State → Prop} {A : Nat → Prop} {D : va_G} {cI cL cZ : ClassId} {a_this : Nat} {a_in : Nat} {a_in_words : Nat} {o_out : Nat} {o_counts : Nat} {o_codes : Nat} {o_tree : Nat} {o_writer : Nat} {o_reader : Nat} {o_streams : Nat} {i_place : Int32} {i_in_room : Int32} {i_in_held : Int32} {i_in_many : Int32} {n_in_words : Nat} {l1 : Int64} {l3 : Int32} {N : Nat} {res : Int32 × Int32 × (Nat → Int64)}  (C : Cx p s m args c b_PM_write 5 "PrefixMill" D [(cI, .int), (cL, .long), (cZ, .boolean)] A) (hret : E_PM_write p l e s m args below meth c Q A D cI cL cZ a_this a_in a_in_words o_out o_counts o_codes o_tree o_writer o_reader o_streams i_place i_in_room i_in_held i_in_many n_in_words l1 l3 res)  : I_PM_write_b65 p l e s m args below meth c Q A D cI cL cZ a_this a_in a_in_words o_out o_counts o_codes o_tree o_writer o_reader o_streams i_place i_in_room i_in_held i_in_many n_in_words l1 l3 res (f_PM_write_b65 N i_in_room n_in_words l1 l3 ) := by
  obtain ⟨hx, hb, hml, hown, hts, hK, hA⟩ := C
  intro i_in_used v_in_words h H locs ls hl hP hD hS
  unfold f_PM_write_b65 at h
  refine lv_iconst (v := 1) hx hb d_PM_write_65 (by decide) ?_
  exact hret _ _ _ _ 1 i_in_used v_in_words h rfl d_PM_write_66 hP hD hS
set_option maxHeartbeats 4000000 in
set_option maxRecDepth 100000 in
theorem w_PM_write_b31 {p : Program} {l : Launch} {e : Env} {s : State} {m : MethodId} {args : Array Value} {below : List Frame} {meth : Method} {c : Code} {Q : State → Prop} {A : Nat → Prop} {D : va_G} {cI cL cZ : ClassId} {a_this : Nat} {a_in : Nat} {a_in_words : Nat} {o_out : Nat} {o_counts : Nat} {o_codes : Nat} {o_tree : Nat} {o_writer : Nat} {o_reader : Nat} {o_streams : Nat} {i_place : Int32} {i_in_room : Int32} {i_in_held : Int32} {i_in_many : Int32} {n_in_words : Nat} {l1 : Int64} {l3 : Int32} {N : Nat} {res : Int32 × Int32 × (Nat → Int64)}  (C : Cx p s m args c b_PM_write 5 "PrefixMill" D [(cI, .int), (cL, .long), (cZ, .boolean)] A) (hret : E_PM_write p l e s m args below meth c Q A D cI cL cZ a_this a_in a_in_words o_out o_counts o_codes o_tree o_writer o_reader o_streams i_place i_in_room i_in_held i_in_many n_in_words l1 l3 res)  : ∀ z : Nat, I_PM_write_b31 p l e s m args below meth c Q A D cI cL cZ a_this a_in a_in_words o_out o_counts o_codes o_tree o_writer o_reader o_streams i_place i_in_room i_in_held i_in_many n_in_words l1 l3 res (f_PM_write_b31 N i_in_room n_in_words l1 l3  z) := by
  obtain ⟨hx, hb, hml, hown, hts, hK, hA⟩ := C
  intro z
  induction z with
  | zero => intro l4 i_in_used v_in_words h; cases h
  | succ z ih =>
    intro l4 i_in_used v_in_words h H locs ls hl hP hD hS
    refine lv_iload hx hb d_PM_write_31 (lv_at hl 3 rfl) ?_
    refine lv_iload_n hx hb d_PM_write_33 rfl (lv_at hl 2 rfl) ?_
    refine lv_icmp_ge (tgt := 65) hx hb d_PM_write_34 (by decide) (fun c_1 => ?_) (fun c_1 => ?_)
    · replace h := if_t h c_1
      exact w_PM_write_b65 ⟨hx, hb, hml, hown, hts, hK, hA⟩ hret  _ _ h H locs ls (lv_sub hl [] rfl) hP hD hS
    · replace h := if_f h c_1
      refine lv_aload_n hx hb d_PM_write_37 rfl (lv_at hl 0 rfl) ?_
      refine va_get hx hb hts in_PM hown hK hP 0 rfl rfl 0 (by decide) (hts _ m_340) (fun _ h9 => h9) rfl d_PM_write_38 ?_
      refine lv_lload_n hx hb d_PM_write_41 rfl (lv_at hl 1 rfl) ?_
      refine lv_bipush (v := 56) hx hb d_PM_write_42 (by decide) ?_
      refine lv_bipush (v := 8) hx hb d_PM_write_44 (by decide) ?_
      refine lv_iload hx hb d_PM_write_46 (lv_at hl 3 rfl) ?_
      refine lv_imul hx hb d_PM_write_48 ?_
      refine lv_isub hx hb d_PM_write_49 ?_
      refine lv_lushr hx hb d_PM_write_50 rfl ?_
      refine lv_l2i hx hb d_PM_write_51 rfl ?_
      refine lv_sipush (v := 255) hx hb d_PM_write_52 (by decide) ?_
      refine lv_iand hx hb d_PM_write_55 ?_
      obtain ⟨i_in_used_2, v_in_words_3, hc_4, h⟩ := bd2_s h
      have hPc := hP.sub (ws' := [(a_in, .inr (5, [.ref a_in_words, .int i_in_room, .int i_in_used, .int i_in_held, .int i_in_many])), (a_in_words, .inl (cL, n_in_words, .inr (.inl v_in_words)))]) [1, 2] rfl
      have hDc := hD.sub (ws' := [(a_in, .inr (5, [.ref a_in_words, .int i_in_room, .int i_in_used, .int i_in_held, .int i_in_many])), (a_in_words, .inl (cL, n_in_words, .inr (.inl v_in_words)))]) [1, 2] (by decide) rfl
      have hFc := va_free (wc := [(a_in, .inr (5, [.ref a_in_words, .int i_in_room, .int i_in_used, .int i_in_held, .int i_in_many])), (a_in_words, .inl (cL, n_in_words, .inr (.inl v_in_words)))]) hD hS hA [1, 2] rfl
      refine va_callv (va_runV (As := [.int ((Int64.toInt32 ((Int64.toUInt64 l1 >>> (Int64.toUInt64 (Int32.toInt64 (56 - (8 * l4))) &&& Int64.toUInt64 63)).toInt64)) &&& 255)]) (rest := []) ⟨hx, hb, hml, hown, hts⟩ (c_Row_add l D cI cL cZ H.size N a_in a_in_words i_in_room i_in_used i_in_held i_in_many n_in_words v_in_words ((Int64.toInt32 ((Int64.toUInt64 l1 >>> (Int64.toUInt64 (Int32.toInt64 (56 - (8 * l4))) &&& Int64.toUInt64 63)).toInt64)) &&& 255) i_in_used_2 v_in_words_3 hc_4) ⟨(my_cb 1 hts m_375 rfl rfl (hts _ m_67) (hts _ m_372) (by decide +kernel) ⟨Nat.le_of_ble_eq_true rfl, Nat.le_of_ble_eq_true rfl⟩), hts _ m_373, hts _ m_374⟩ ⟨fun a U g mk q => by obtain ⟨q0, q1, qP, qK, qD⟩ := q; exact ⟨q0, q1, qP, va_K.moved (u := U) (U := U.calling g mk a) (Vm.Alike.refl U.vm) qK, qD⟩, va_recv hK hPc (ci := 5) (q0 := 0) rfl rfl, fun U hU hW => ⟨rfl, by rw [hU], by rw [hU]; exact hPc, va_K.moved hW.alike hK, hDc.weaken (fun _ _ _ _ => trivial)⟩⟩ rfl rfl hl.1 rfl (lv_room (Nat.le_of_ble_eq_true rfl)) d_PM_write_56 ⟨Nat.zero_le _, Nat.zero_le _⟩) hS (fun q _ h => hFc q h) hFc (fun u t H1 locs ht hvm hw hB hz1 hk1 hS => ?_)
      obtain ⟨hP1, hK1, hD1⟩ := hB
      rw [ht] at hP1
      obtain ⟨hP, hD⟩ := va_join (wr := [(a_this, .inr (0, [.ref a_in, .ref o_out, .ref o_counts, .ref o_codes, .ref o_tree, .ref o_writer, .ref o_reader, .ref o_streams, .int i_place]))]) (w1 := [(a_in, .inr (5, [.ref a_in_words, .int i_in_room, .int i_in_used_2, .int i_in_held, .int i_in_many])), (a_in_words, .inl (cL, n_in_words, .inr (.inl v_in_words_3)))]) hP hD [1, 2] [0] rfl rfl (by decide) (by decide) hk1 hFc hP1 hD1
      clear hPc hDc hFc hk1 hP1 hD1 hK1
      generalize H1 = H at hP hS ⊢
      have hP : va_P D classes [(a_this, .inr (0, [.ref a_in, .ref o_out, .ref o_counts, .ref o_codes, .ref o_tree, .ref o_writer, .ref o_reader, .ref o_streams, .int i_place])), (a_in, .inr (5, [.ref a_in_words, .int i_in_room, .int i_in_used_2, .int i_in_held, .int i_in_many])), (a_in_words, .inl (cL, n_in_words, .inr (.inl v_in_words_3)))] H := hP.sub [0, 1, 2] rfl
      have hD : va_D A [(a_this, .inr (0, [.ref a_in, .ref o_out, .ref o_counts, .ref o_codes, .ref o_tree, .ref o_writer, .ref o_reader, .ref o_streams, .int i_place])), (a_in, .inr (5, [.ref a_in_words, .int i_in_room, .int i_in_used_2, .int i_in_held, .int i_in_many])), (a_in_words, .inl (cL, n_in_words, .inr (.inl v_in_words_3)))] := hD.sub [0, 1, 2] (by decide) rfl
      obtain ⟨l4_5, el4_5⟩ : ∃ y : Int32, y = l4 + 1 := ⟨_, rfl⟩
      replace h := nm_s h el4_5
      refine lv_iinc (v := l4_5) (lv' := [(4, .int l4_5), (0, .ref a_this), (1, .long l1), (3, .int l3)]) hx hb d_PM_write_59 hl (k := 3) rfl (by rw [el4_5]; rfl) (by decide) rfl (fun ls hl => ?_)
      refine lv_goto (tgt := 31) hx hb d_PM_write_62 (by decide) ?_
      exact ih _ _ _ h H locs ls (lv_sub hl [1, 2, 3, 0] rfl) hP hD hS
set_option maxHeartbeats 4000000 in
set_option maxRecDepth 100000 in
theorem w_PM_write_b0 {p : Program} {l : Launch} {e : Env} {s : State} {m : MethodId} {args : Array Value} {below : List Frame} {meth : Method} {c : Code} {Q : State → Prop} {A : Nat → Prop} {D : va_G} {cI cL cZ : ClassId} {a_this : Nat} {a_in : Nat} {a_in_words : Nat} {o_out : Nat} {o_counts : Nat} {o_codes : Nat} {o_tree : Nat} {o_writer : Nat} {o_reader : Nat} {o_streams : Nat} {i_place : Int32} {i_in_room : Int32} {i_in_held : Int32} {i_in_many : Int32} {n_in_words : Nat} {l1 : Int64} {l3 : Int32} {N : Nat} {res : Int32 × Int32 × (Nat → Int64)}  (C : Cx p s m args c b_PM_write 5 "PrefixMill" D [(cI, .int), (cL, .long), (cZ, .boolean)] A) (hret : E_PM_write p l e s m args below meth c Q A D cI cL cZ a_this a_in a_in_words o_out o_counts o_codes o_tree o_writer o_reader o_streams i_place i_in_room i_in_held i_in_many n_in_words l1 l3 res)  : I_PM_write_b0 p l e s m args below meth c Q A D cI cL cZ a_this a_in a_in_words o_out o_counts o_codes o_tree o_writer o_reader o_streams i_place i_in_room i_in_held i_in_many n_in_words l1 l3 res (f_PM_write N i_in_room n_in_words l1 l3 ) := by
  obtain ⟨hx, hb, hml, hown, hts, hK, hA⟩ := C
  intro i_in_used v_in_words h H locs ls hl hP hD hS
  unfold f_PM_write at h
  refine lv_iload_n hx hb d_PM_write_0 rfl (lv_at hl 2 rfl) ?_
  refine lv_iconst (v := 1) hx hb d_PM_write_1 (by decide) ?_
  refine lv_icmp_lt (tgt := 26) hx hb d_PM_write_2 (by decide) (fun c_1 => ?_) (fun c_1 => ?_)
  · replace h := if_t h c_1
    exact w_PM_write_b26 ⟨hx, hb, hml, hown, hts, hK, hA⟩ hret  _ _ h H locs ls (lv_sub hl [] rfl) hP hD hS
  · replace h := if_f h c_1
    refine lv_iload_n hx hb d_PM_write_5 rfl (lv_at hl 2 rfl) ?_
    refine lv_bipush (v := 8) hx hb d_PM_write_6 (by decide) ?_
    refine lv_icmp_gt (tgt := 26) hx hb d_PM_write_8 (by decide) (fun c_2 => ?_) (fun c_2 => ?_)
    · replace h := if_t h c_2
      exact w_PM_write_b26 ⟨hx, hb, hml, hown, hts, hK, hA⟩ hret  _ _ h H locs ls (lv_sub hl [] rfl) hP hD hS
    · replace h := if_f h c_2
      refine lv_iload_n hx hb d_PM_write_11 rfl (lv_at hl 2 rfl) ?_
      refine lv_sipush (v := 6000) hx hb d_PM_write_12 (by decide) ?_
      refine lv_aload_n hx hb d_PM_write_15 rfl (lv_at hl 0 rfl) ?_
      refine va_get hx hb hts in_PM hown hK hP 0 rfl rfl 0 (by decide) (hts _ m_340) (fun _ h9 => h9) rfl d_PM_write_16 ?_
      refine va_getN hx hb hts in_Row hown hK hP 1 rfl rfl 2 (by decide) (hts _ m_97) (fun _ h9 => h9) rfl d_PM_write_19 ?_
      refine lv_isub hx hb d_PM_write_22 ?_
      refine lv_icmp_le (tgt := 28) hx hb d_PM_write_23 (by decide) (fun c_3 => ?_) (fun c_3 => ?_)
      · replace h := if_t h c_3
        refine lv_iconst (v := 0) hx hb d_PM_write_28 (by decide) ?_
        refine lv_istore (lv' := [(4, .int 0), (0, .ref a_this), (1, .long l1), (3, .int l3)]) hx hb d_PM_write_29 hl (by decide) rfl (fun ls hl => ?_)
        exact w_PM_write_b31 ⟨hx, hb, hml, hown, hts, hK, hA⟩ hret  N _ _ _ h H locs ls (lv_sub hl [1, 2, 3, 0] rfl) hP hD hS
      · replace h := if_f h c_3
        exact w_PM_write_b26 ⟨hx, hb, hml, hown, hts, hK, hA⟩ hret  _ _ h H locs ls (lv_sub hl [] rfl) hP hD hS
set_option maxHeartbeats 4000000 in
set_option maxRecDepth 100000 in
theorem c_PM_write (l : Launch) (D : va_G) (cI cL cZ : ClassId) (sz N : Nat) (a_this : Nat) (a_in : Nat) (a_in_words : Nat) (o_out : Nat) (o_counts : Nat) (o_codes : Nat) (o_tree : Nat) (o_writer : Nat) (o_reader : Nat) (o_streams : Nat) (i_place : Int32) (i_in_room : Int32) (i_in_used : Int32) (i_in_held : Int32) (i_in_many : Int32) (n_in_words : Nat) (v_in_words : Nat → Int64) (l1 : Int64) (l3 : Int32) (rv : Int32) (i_in_used' : Int32) (v_in_words' : Nat → Int64) (h : f_PM_write N i_in_room n_in_words l1 l3 i_in_used v_in_words = some (rv, i_in_used', v_in_words')) : Met l ({ cls := "PrefixMill", name := "write", desc := "(JI)Z" } : Jvm.MethodName) ws_PM_write R_PM_write (va_Pc [.ref a_this, .long l1, .int l3] (fun U => U.heap.size = sz ∧ va_P D classes [(a_this, .inr (0, [.ref a_in, .ref o_out, .ref o_counts, .ref o_codes, .ref o_tree, .ref o_writer, .ref o_reader, .ref o_streams, .int i_place])), (a_in, .inr (5, [.ref a_in_words, .int i_in_room, .int i_in_used, .int i_in_held, .int i_in_many])), (a_in_words, .inl (cL, n_in_words, .inr (.inl v_in_words)))] U.heap ∧ va_K D classes [(cI, .int), (cL, .long), (cZ, .boolean)] U ∧ va_D (fun _ => True) [(a_this, .inr (0, [.ref a_in, .ref o_out, .ref o_counts, .ref o_codes, .ref o_tree, .ref o_writer, .ref o_reader, .ref o_streams, .int i_place])), (a_in, .inr (5, [.ref a_in_words, .int i_in_room, .int i_in_used, .int i_in_held, .int i_in_many])), (a_in_words, .inl (cL, n_in_words, .inr (.inl v_in_words)))])) (va_Qi (fun (r0 : Int32) (_ : Unit) => rv = r0) (fun _ t => va_P D classes [(a_this, .inr (0, [.ref a_in, .ref o_out, .ref o_counts, .ref o_codes, .ref o_tree, .ref o_writer, .ref o_reader, .ref o_streams, .int i_place])), (a_in, .inr (5, [.ref a_in_words, .int i_in_room, .int i_in_used', .int i_in_held, .int i_in_many])), (a_in_words, .inl (cL, n_in_words, .inr (.inl v_in_words')))] t.heap ∧ va_K D classes [(cI, .int), (cL, .long), (cZ, .boolean)] t ∧ va_D (va_A [(a_this, .inr (0, [.ref a_in, .ref o_out, .ref o_counts, .ref o_codes, .ref o_tree, .ref o_writer, .ref o_reader, .ref o_streams, .int i_place])), (a_in, .inr (5, [.ref a_in_words, .int i_in_room, .int i_in_used, .int i_in_held, .int i_in_many])), (a_in_words, .inl (cL, n_in_words, .inr (.inl v_in_words)))] sz) [(a_this, .inr (0, [.ref a_in, .ref o_out, .ref o_counts, .ref o_codes, .ref o_tree, .ref o_writer, .ref o_reader, .ref o_streams, .int i_place])), (a_in, .inr (5, [.ref a_in_words, .int i_in_room, .int i_in_used', .int i_in_held, .int i_in_many])), (a_in_words, .inl (cL, n_in_words, .inr (.inl v_in_words')))]) (va_A [(a_this, .inr (0, [.ref a_in, .ref o_out, .ref o_counts, .ref o_codes, .ref o_tree, .ref o_writer, .ref o_reader, .ref o_streams, .int i_place])), (a_in, .inr (5, [.ref a_in_words, .int i_in_room, .int i_in_used, .int i_in_held, .int i_in_many])), (a_in_words, .inl (cL, n_in_words, .inr (.inl v_in_words)))] sz)) 0 0 (va_A [(a_this, .inr (0, [.ref a_in, .ref o_out, .ref o_counts, .ref o_codes, .ref o_tree, .ref o_writer, .ref o_reader, .ref o_streams, .int i_place])), (a_in, .inr (5, [.ref a_in_words, .int i_in_room, .int i_in_used, .int i_in_held, .int i_in_many])), (a_in_words, .inl (cL, n_in_words, .inr (.inl v_in_words)))] sz) := by
  refine Met.ofW (cc := b_PM_write) (maxL := 5) (ret := (some .boolean)) (by decide) rfl ?_
  intro p e s m args below meth c s₁ B hml hv
  obtain ⟨rfl, hsz, hP, hK, hD0⟩ := hv
  have hx := B.exec
  have hb := B.bytes
  have hr := B.returns
  have hts0 := atoms_spec (ws := ws_PM_write) B.pre
  have hts := gd_tl hts0
  clear hts0
  have hown : s.vm.findClass "PrefixMill" = some m.cls := findClass_of_methodNamed B.named
  have hlocks := B.notSynchronized
  subst hsz
  have hD := hD0.self (sz := s.heap.size)
  generalize hAe : va_A [(a_this, .inr (0, [.ref a_in, .ref o_out, .ref o_counts, .ref o_codes, .ref o_tree, .ref o_writer, .ref o_reader, .ref o_streams, .int i_place])), (a_in, .inr (5, [.ref a_in_words, .int i_in_room, .int i_in_used, .int i_in_held, .int i_in_many])), (a_in_words, .inl (cL, n_in_words, .inr (.inl v_in_words)))] s.heap.size = A at hD ⊢
  have hA : ∀ q : Nat, s.heap.size ≤ q → A q := fun q h => by rw [← hAe]; exact Or.inr h
  have hS : va_S A s.heap s.heap [] := va_S.rf
  have hP : va_P D classes [(a_this, .inr (0, [.ref a_in, .ref o_out, .ref o_counts, .ref o_codes, .ref o_tree, .ref o_writer, .ref o_reader, .ref o_streams, .int i_place])), (a_in, .inr (5, [.ref a_in_words, .int i_in_room, .int i_in_used, .int i_in_held, .int i_in_many])), (a_in_words, .inl (cL, n_in_words, .inr (.inl v_in_words)))] s.heap := hP
  have hl := lv_entry ([.ref a_this, .long l1, .int l3]) (n := 5) (Nat.le_of_ble_eq_true rfl)
  rw [lg_entry_eq]
  generalize (lg_sl ([.ref a_this, .long l1, .int l3]) ++ List.replicate (5 - (lg_sl ([.ref a_this, .long l1, .int l3])).length) Slot.unset).toArray = ls at hl ⊢
  have hl : lv_has ls 5 [(0, .ref a_this), (1, .long l1), (3, .int l3)] := hl
  have C : Cx p s m ([.ref a_this, .long l1, .int l3] : List Value).toArray c b_PM_write 5 "PrefixMill" D [(cI, .int), (cL, .long), (cZ, .boolean)] A := ⟨hx, hb, hml, hown, hts, hK, hA⟩
  refine w_PM_write_b0 (res := (rv, i_in_used', v_in_words')) C ?_ _ _ h s.heap [] ls hl hP hD hS
  intro pc9 H9 locs9 ls9 rv9 i_in_used9 v_in_words9 e9 z9 d9 hP9 hD9 hS9
  cases e9
  exact W.zret (v := rv) hx hb hr z9 (fun t ht hW => ⟨⟨rv, (), rfl, rfl, by rw [ht]; exact hP9, va_K.moved hW.alike hK, hD9⟩, hS9.F ht⟩) hS9.2.2 d9
