abbrev b_Share_takeNone : ByteArray := prog_6_method_20_code
def ws_Share_takeNone : List Cond := .code ({ cls := "PrefixMill$Share", name := "takeNone", desc := "(LPrefixMill$Row;I)I" } : Jvm.MethodName) b_Share_takeNone 5 (some .int) :: tt
theorem d_Share_takeNone_0 : decode b_Share_takeNone 0 = .ok (.iload_n 2, 1) := by decide +kernel
theorem d_Share_takeNone_1 : decode b_Share_takeNone 1 = .ok (.istore_n 3, 1) := by decide +kernel
theorem d_Share_takeNone_2 : decode b_Share_takeNone 2 = .ok (.iconst 3, 1) := by decide +kernel
theorem d_Share_takeNone_3 : decode b_Share_takeNone 3 = .ok (.istore 4, 2) := by decide +kernel
theorem d_Share_takeNone_5 : decode b_Share_takeNone 5 = .ok (.iload 4, 2) := by decide +kernel
theorem d_Share_takeNone_7 : decode b_Share_takeNone 7 = .ok (.iconst 3, 1) := by decide +kernel
theorem d_Share_takeNone_8 : decode b_Share_takeNone 8 = .ok (.if_icmp .ne 25, 3) := by decide +kernel
theorem d_Share_takeNone_11 : decode b_Share_takeNone 11 = .ok (.iload_n 3, 1) := by decide +kernel
theorem d_Share_takeNone_12 : decode b_Share_takeNone 12 = .ok (.bipush 12, 2) := by decide +kernel
theorem d_Share_takeNone_14 : decode b_Share_takeNone 14 = .ok (.if_icmp .ge 19, 3) := by decide +kernel
theorem d_Share_takeNone_17 : decode b_Share_takeNone 17 = .ok (.aload_n 0, 1) := by decide +kernel
theorem d_Share_takeNone_18 : decode b_Share_takeNone 18 = .ok (.aload_n 1, 1) := by decide +kernel
theorem d_Share_takeNone_19 : decode b_Share_takeNone 19 = .ok (.iconst 2, 1) := by decide +kernel
theorem d_Share_takeNone_20 : decode b_Share_takeNone 20 = .ok (.invokevirtual 114, 3) := by decide +kernel
theorem d_Share_takeNone_23 : decode b_Share_takeNone 23 = .ok (.istore 4, 2) := by decide +kernel
theorem d_Share_takeNone_25 : decode b_Share_takeNone 25 = .ok (.iload_n 3, 1) := by decide +kernel
theorem d_Share_takeNone_26 : decode b_Share_takeNone 26 = .ok (.iload 4, 2) := by decide +kernel
theorem d_Share_takeNone_28 : decode b_Share_takeNone 28 = .ok (.iadd, 1) := by decide +kernel
theorem d_Share_takeNone_29 : decode b_Share_takeNone 29 = .ok (.istore_n 3, 1) := by decide +kernel
theorem d_Share_takeNone_30 : decode b_Share_takeNone 30 = .ok (.goto (-25), 3) := by decide +kernel
theorem d_Share_takeNone_33 : decode b_Share_takeNone 33 = .ok (.iload_n 3, 1) := by decide +kernel
theorem d_Share_takeNone_34 : decode b_Share_takeNone 34 = .ok (.ireturn, 1) := by decide +kernel
def f_Share_takeNone_b33 (N : Nat) (i_p1_used : Int32) (n_p1_words : Nat) (v_p1_words : Nat → Int64) (l2 : Int32)  (l3 : Int32) (i_next : Int32) : Option (Int32 × Int32) :=
  some (l3, i_next)
def f_Share_takeNone_b5 (N : Nat) (i_p1_used : Int32) (n_p1_words : Nat) (v_p1_words : Nat → Int64) (l2 : Int32)  : Nat → Int32 → Int32 → Int32 → Option (Int32 × Int32)
  | 0, _, _, _ => none
  | z + 1, l3, l4, i_next =>
  if l4 = 3 then
  if 12 ≤ l3 then
  f_Share_takeNone_b33 N i_p1_used n_p1_words v_p1_words l2  l3 i_next
  else
  bd2 (f_Share_takeBits N i_p1_used n_p1_words v_p1_words 2 i_next) fun r_3 i_next_4 =>
  nm (l3 + r_3) fun l3_6 =>
  f_Share_takeNone_b5 N i_p1_used n_p1_words v_p1_words l2  z l3_6 r_3 i_next_4
  else
  f_Share_takeNone_b33 N i_p1_used n_p1_words v_p1_words l2  l3 i_next
def f_Share_takeNone (N : Nat) (i_p1_used : Int32) (n_p1_words : Nat) (v_p1_words : Nat → Int64) (l2 : Int32)  (i_next : Int32) : Option (Int32 × Int32) :=
  f_Share_takeNone_b5 N i_p1_used n_p1_words v_p1_words l2  N l2 3 i_next
abbrev R_Share_takeNone : Room := ({ frames := 3, cells := 0, slots := 0, locals := 68 } : Room)
def E_Share_takeNone (p : Program) (l : Launch) (e : Env) (s : State) (m : MethodId) (args : Array Value) (below : List Frame) (meth : Method) (c : Code) (Q : State → Prop) (A : Nat → Prop) (D : va_G) (cI cL cZ : ClassId) (a_this : Nat) (a_p1 : Nat) (a_p1_words : Nat) (o_points : Nat) (o_cuts : Nat) (o_queue : Nat) (o_owners : Nat) (o_takes : Nat) (o_bases : Nat) (o_ranked : Nat) (o_starts : Nat) (o_numbers : Nat) (o_walk : Nat) (i_order : Int32) (i_p1_room : Int32) (i_p1_used : Int32) (i_p1_held : Int32) (i_p1_many : Int32) (n_p1_words : Nat) (v_p1_words : Nat → Int64) (l2 : Int32) (res : Int32 × Int32) : Prop := ∀ (pc : Nat) (H : Heap) (locs : List Loc) (ls : Array Slot) (rv : Int32) (i_next : Int32), some (rv, i_next) = some res → decode b_Share_takeNone pc = .ok (.ireturn, 1) → va_P D classes [(a_this, .inr (6, [.ref o_points, .ref o_cuts, .ref o_queue, .ref o_owners, .ref o_takes, .ref o_bases, .ref o_ranked, .ref o_starts, .ref o_numbers, .ref o_walk, .int i_order, .int i_next])), (a_p1, .inr (5, [.ref a_p1_words, .int i_p1_room, .int i_p1_used, .int i_p1_held, .int i_p1_many])), (a_p1_words, .inl (cL, n_p1_words, .inr (.inl v_p1_words)))] H → va_D A [(a_this, .inr (6, [.ref o_points, .ref o_cuts, .ref o_queue, .ref o_owners, .ref o_takes, .ref o_bases, .ref o_ranked, .ref o_starts, .ref o_numbers, .ref o_walk, .int i_order, .int i_next])), (a_p1, .inr (5, [.ref a_p1_words, .int i_p1_room, .int i_p1_used, .int i_p1_held, .int i_p1_many])), (a_p1_words, .inl (cL, n_p1_words, .inr (.inl v_p1_words)))] → va_S A s.heap H locs → W p l e R_Share_takeNone s m args below meth c H locs 0 0 Q (F0 m pc ls [.int rv])
def I_Share_takeNone_b33 (p : Program) (l : Launch) (e : Env) (s : State) (m : MethodId) (args : Array Value) (below : List Frame) (meth : Method) (c : Code) (Q : State → Prop) (A : Nat → Prop) (D : va_G) (cI cL cZ : ClassId) (a_this : Nat) (a_p1 : Nat) (a_p1_words : Nat) (o_points : Nat) (o_cuts : Nat) (o_queue : Nat) (o_owners : Nat) (o_takes : Nat) (o_bases : Nat) (o_ranked : Nat) (o_starts : Nat) (o_numbers : Nat) (o_walk : Nat) (i_order : Int32) (i_p1_room : Int32) (i_p1_used : Int32) (i_p1_held : Int32) (i_p1_many : Int32) (n_p1_words : Nat) (v_p1_words : Nat → Int64) (l2 : Int32) (res : Int32 × Int32) (kf : Int32 → Int32 → Option (Int32 × Int32)) : Prop := ∀ (l3 : Int32) (i_next : Int32), kf l3 i_next = some res → ∀ (H : Heap) (locs : List Loc) (ls : Array Slot), lv_has ls 5 [(3, .int l3)] → va_P D classes [(a_this, .inr (6, [.ref o_points, .ref o_cuts, .ref o_queue, .ref o_owners, .ref o_takes, .ref o_bases, .ref o_ranked, .ref o_starts, .ref o_numbers, .ref o_walk, .int i_order, .int i_next])), (a_p1, .inr (5, [.ref a_p1_words, .int i_p1_room, .int i_p1_used, .int i_p1_held, .int i_p1_many])), (a_p1_words, .inl (cL, n_p1_words, .inr (.inl v_p1_words)))] H → va_D A [(a_this, .inr (6, [.ref o_points, .ref o_cuts, .ref o_queue, .ref o_owners, .ref o_takes, .ref o_bases, .ref o_ranked, .ref o_starts, .ref o_numbers, .ref o_walk, .int i_order, .int i_next])), (a_p1, .inr (5, [.ref a_p1_words, .int i_p1_room, .int i_p1_used, .int i_p1_held, .int i_p1_many])), (a_p1_words, .inl (cL, n_p1_words, .inr (.inl v_p1_words)))] → va_S A s.heap H locs → W p l e R_Share_takeNone s m args below meth c H locs 0 0 Q (F0 m 33 ls [])
def I_Share_takeNone_b5 (p : Program) (l : Launch) (e : Env) (s : State) (m : MethodId) (args : Array Value) (below : List Frame) (meth : Method) (c : Code) (Q : State → Prop) (A : Nat → Prop) (D : va_G) (cI cL cZ : ClassId) (a_this : Nat) (a_p1 : Nat) (a_p1_words : Nat) (o_points : Nat) (o_cuts : Nat) (o_queue : Nat) (o_owners : Nat) (o_takes : Nat) (o_bases : Nat) (o_ranked : Nat) (o_starts : Nat) (o_numbers : Nat) (o_walk : Nat) (i_order : Int32) (i_p1_room : Int32) (i_p1_used : Int32) (i_p1_held : Int32) (i_p1_many : Int32) (n_p1_words : Nat) (v_p1_words : Nat → Int64) (l2 : Int32) (res : Int32 × Int32) (kf : Int32 → Int32 → Int32 → Option (Int32 × Int32)) : Prop := ∀ (l3 : Int32) (l4 : Int32) (i_next : Int32), kf l3 l4 i_next = some res → ∀ (H : Heap) (locs : List Loc) (ls : Array Slot), lv_has ls 5 [(0, .ref a_this), (1, .ref a_p1), (3, .int l3), (4, .int l4)] → va_P D classes [(a_this, .inr (6, [.ref o_points, .ref o_cuts, .ref o_queue, .ref o_owners, .ref o_takes, .ref o_bases, .ref o_ranked, .ref o_starts, .ref o_numbers, .ref o_walk, .int i_order, .int i_next])), (a_p1, .inr (5, [.ref a_p1_words, .int i_p1_room, .int i_p1_used, .int i_p1_held, .int i_p1_many])), (a_p1_words, .inl (cL, n_p1_words, .inr (.inl v_p1_words)))] H → va_D A [(a_this, .inr (6, [.ref o_points, .ref o_cuts, .ref o_queue, .ref o_owners, .ref o_takes, .ref o_bases, .ref o_ranked, .ref o_starts, .ref o_numbers, .ref o_walk, .int i_order, .int i_next])), (a_p1, .inr (5, [.ref a_p1_words, .int i_p1_room, .int i_p1_used, .int i_p1_held, .int i_p1_many])), (a_p1_words, .inl (cL, n_p1_words, .inr (.inl v_p1_words)))] → va_S A s.heap H locs → W p l e R_Share_takeNone s m args below meth c H locs 0 0 Q (F0 m 5 ls [])
def I_Share_takeNone_b0 (p : Program) (l : Launch) (e : Env) (s : State) (m : MethodId) (args : Array Value) (below : List Frame) (meth : Method) (c : Code) (Q : State → Prop) (A : Nat → Prop) (D : va_G) (cI cL cZ : ClassId) (a_this : Nat) (a_p1 : Nat) (a_p1_words : Nat) (o_points : Nat) (o_cuts : Nat) (o_queue : Nat) (o_owners : Nat) (o_takes : Nat) (o_bases : Nat) (o_ranked : Nat) (o_starts : Nat) (o_numbers : Nat) (o_walk : Nat) (i_order : Int32) (i_p1_room : Int32) (i_p1_used : Int32) (i_p1_held : Int32) (i_p1_many : Int32) (n_p1_words : Nat) (v_p1_words : Nat → Int64) (l2 : Int32) (res : Int32 × Int32) (kf : Int32 → Option (Int32 × Int32)) : Prop := ∀ (i_next : Int32), kf i_next = some res → ∀ (H : Heap) (locs : List Loc) (ls : Array Slot), lv_has ls 5 [(0, .ref a_this), (1, .ref a_p1), (2, .int l2)] → va_P D classes [(a_this, .inr (6, [.ref o_points, .ref o_cuts, .ref o_queue, .ref o_owners, .ref o_takes, .ref o_bases, .ref o_ranked, .ref o_starts, .ref o_numbers, .ref o_walk, .int i_order, .int i_next])), (a_p1, .inr (5, [.ref a_p1_words, .int i_p1_room, .int i_p1_used, .int i_p1_held, .int i_p1_many])), (a_p1_words, .inl (cL, n_p1_words, .inr (.inl v_p1_words)))] H → va_D A [(a_this, .inr (6, [.ref o_points, .ref o_cuts, .ref o_queue, .ref o_owners, .ref o_takes, .ref o_bases, .ref o_ranked, .ref o_starts, .ref o_numbers, .ref o_walk, .int i_order, .int i_next])), (a_p1, .inr (5, [.ref a_p1_words, .int i_p1_room, .int i_p1_used, .int i_p1_held, .int i_p1_many])), (a_p1_words, .inl (cL, n_p1_words, .inr (.inl v_p1_words)))] → va_S A s.heap H locs → W p l e R_Share_takeNone s m args below meth c H locs 0 0 Q (F0 m 0 ls [])
set_option maxHeartbeats 4000000 in
set_option maxRecDepth 100000 in
theorem w_Share_takeNone_b33 {p : Program} {l : Launch} {e : Env} {s : State} {m : MethodId} {args : Array Value} {below : List Frame} {meth : Method} {c : Code} {Q : State → Prop} {A : Nat → Prop} {D : va_G} {cI cL cZ : ClassId} {a_this : Nat} {a_p1 : Nat} {a_p1_words : Nat} {o_points : Nat} {o_cuts : Nat} {o_queue : Nat} {o_owners : Nat} {o_takes : Nat} {o_bases : Nat} {o_ranked : Nat} {o_starts : Nat} {o_numbers : Nat} {o_walk : Nat} {i_order : Int32} {i_p1_room : Int32} {i_p1_used : Int32} {i_p1_held : Int32} {i_p1_many : Int32} {n_p1_words : Nat} {v_p1_words : Nat → Int64} {l2 : Int32} {N : Nat} {res : Int32 × Int32}  (C : Cx p s m args c b_Share_takeNone 5 "PrefixMill$Share" D [(cI, .int), (cL, .long), (cZ, .boolean)] A) (hret : E_Share_takeNone p l e s m args below meth c Q A D cI cL cZ a_this a_p1 a_p1_words o_points o_cuts o_queue o_owners o_takes o_bases o_ranked o_starts o_numbers o_walk i_order i_p1_room i_p1_used i_p1_held i_p1_many n_p1_words v_p1_words l2 res)  : I_Share_takeNone_b33 p l e s m args below meth c Q A D cI cL cZ a_this a_p1 a_p1_words o_points o_cuts o_queue o_owners o_takes o_bases o_ranked o_starts o_numbers o_walk i_order i_p1_room i_p1_used i_p1_held i_p1_many n_p1_words v_p1_words l2 res (f_Share_takeNone_b33 N i_p1_used n_p1_words v_p1_words l2 ) := by
  obtain ⟨hx, hb, hml, hown, hts, hK, hA⟩ := C
  intro l3 i_next h H locs ls hl hP hD hS
  unfold f_Share_takeNone_b33 at h
  refine lv_iload_n hx hb d_Share_takeNone_33 rfl (lv_at hl 0 rfl) ?_
  exact hret _ _ _ _ l3 i_next h d_Share_takeNone_34 hP hD hS
set_option maxHeartbeats 4000000 in
set_option maxRecDepth 100000 in
theorem w_Share_takeNone_b5 {p : Program} {l : Launch} {e : Env} {s : State} {m : MethodId} {args : Array Value} {below : List Frame} {meth : Method} {c : Code} {Q : State → Prop} {A : Nat → Prop} {D : va_G} {cI cL cZ : ClassId} {a_this : Nat} {a_p1 : Nat} {a_p1_words : Nat} {o_points : Nat} {o_cuts : Nat} {o_queue : Nat} {o_owners : Nat} {o_takes : Nat} {o_bases : Nat} {o_ranked : Nat} {o_starts : Nat} {o_numbers : Nat} {o_walk : Nat} {i_order : Int32} {i_p1_room : Int32} {i_p1_used : Int32} {i_p1_held : Int32} {i_p1_many : Int32} {n_p1_words : Nat} {v_p1_words : Nat → Int64} {l2 : Int32} {N : Nat} {res : Int32 × Int32}  (C : Cx p s m args c b_Share_takeNone 5 "PrefixMill$Share" D [(cI, .int), (cL, .long), (cZ, .boolean)] A) (hret : E_Share_takeNone p l e s m args below meth c Q A D cI cL cZ a_this a_p1 a_p1_words o_points o_cuts o_queue o_owners o_takes o_bases o_ranked o_starts o_numbers o_walk i_order i_p1_room i_p1_used i_p1_held i_p1_many n_p1_words v_p1_words l2 res)  : ∀ z : Nat, I_Share_takeNone_b5 p l e s m args below meth c Q A D cI cL cZ a_this a_p1 a_p1_words o_points o_cuts o_queue o_owners o_takes o_bases o_ranked o_starts o_numbers o_walk i_order i_p1_room i_p1_used i_p1_held i_p1_many n_p1_words v_p1_words l2 res (f_Share_takeNone_b5 N i_p1_used n_p1_words v_p1_words l2  z) := by
  obtain ⟨hx, hb, hml, hown, hts, hK, hA⟩ := C
  intro z
  induction z with
  | zero => intro l3 l4 i_next h; cases h
  | succ z ih =>
    intro l3 l4 i_next h H locs ls hl hP hD hS
    refine lv_iload hx hb d_Share_takeNone_5 (lv_at hl 3 rfl) ?_
    refine lv_iconst (v := 3) hx hb d_Share_takeNone_7 (by decide) ?_
    refine lv_icmp_ne (tgt := 33) hx hb d_Share_takeNone_8 (by decide) (fun c_1 => ?_) (fun c_1 => ?_)
    · replace h := if_f h c_1
      exact w_Share_takeNone_b33 ⟨hx, hb, hml, hown, hts, hK, hA⟩ hret  _ _ h H locs ls (lv_sub hl [2] rfl) hP hD hS
    · replace h := if_t h c_1
      refine lv_iload_n hx hb d_Share_takeNone_11 rfl (lv_at hl 2 rfl) ?_
      refine lv_bipush (v := 12) hx hb d_Share_takeNone_12 (by decide) ?_
      refine lv_icmp_ge (tgt := 33) hx hb d_Share_takeNone_14 (by decide) (fun c_2 => ?_) (fun c_2 => ?_)
      · replace h := if_t h c_2
        exact w_Share_takeNone_b33 ⟨hx, hb, hml, hown, hts, hK, hA⟩ hret  _ _ h H locs ls (lv_sub hl [2] rfl) hP hD hS
      · replace h := if_f h c_2
        refine lv_aload_n hx hb d_Share_takeNone_17 rfl (lv_at hl 0 rfl) ?_
        refine lv_aload_n hx hb d_Share_takeNone_18 rfl (lv_at hl 1 rfl) ?_
        refine lv_iconst (v := 2) hx hb d_Share_takeNone_19 (by decide) ?_
        obtain ⟨r_3, i_next_4, hc_5, h⟩ := bd2_s h
        have hPc := hP.sub (ws' := [(a_this, .inr (6, [.ref o_points, .ref o_cuts, .ref o_queue, .ref o_owners, .ref o_takes, .ref o_bases, .ref o_ranked, .ref o_starts, .ref o_numbers, .ref o_walk, .int i_order, .int i_next])), (a_p1, .inr (5, [.ref a_p1_words, .int i_p1_room, .int i_p1_used, .int i_p1_held, .int i_p1_many])), (a_p1_words, .inl (cL, n_p1_words, .inr (.inl v_p1_words)))]) [0, 1, 2] rfl
        have hDc := hD.sub (ws' := [(a_this, .inr (6, [.ref o_points, .ref o_cuts, .ref o_queue, .ref o_owners, .ref o_takes, .ref o_bases, .ref o_ranked, .ref o_starts, .ref o_numbers, .ref o_walk, .int i_order, .int i_next])), (a_p1, .inr (5, [.ref a_p1_words, .int i_p1_room, .int i_p1_used, .int i_p1_held, .int i_p1_many])), (a_p1_words, .inl (cL, n_p1_words, .inr (.inl v_p1_words)))]) [0, 1, 2] (by decide) rfl
        have hFc := va_free (wc := [(a_this, .inr (6, [.ref o_points, .ref o_cuts, .ref o_queue, .ref o_owners, .ref o_takes, .ref o_bases, .ref o_ranked, .ref o_starts, .ref o_numbers, .ref o_walk, .int i_order, .int i_next])), (a_p1, .inr (5, [.ref a_p1_words, .int i_p1_room, .int i_p1_used, .int i_p1_held, .int i_p1_many])), (a_p1_words, .inl (cL, n_p1_words, .inr (.inl v_p1_words)))]) hD hS hA [0, 1, 2] rfl
        refine va_calli (va_runV (As := [.ref a_p1, .int 2]) (rest := []) ⟨hx, hb, hml, hown, hts⟩ (c_Share_takeBits l D cI cL cZ H.size N a_this a_p1 a_p1_words o_points o_cuts o_queue o_owners o_takes o_bases o_ranked o_starts o_numbers o_walk i_order i_next i_p1_room i_p1_used i_p1_held i_p1_many n_p1_words v_p1_words 2 r_3 i_next_4 hc_5) ⟨(my_cb 2 hts m_635 rfl rfl (hts _ m_72) (hts _ m_632) (by decide +kernel) ⟨Nat.le_of_ble_eq_true rfl, Nat.le_of_ble_eq_true rfl⟩), hts _ m_634, hts _ m_21⟩ ⟨fun a U g mk q => by obtain ⟨q0, q1, qP, qK, qD⟩ := q; exact ⟨q0, q1, qP, va_K.moved (u := U) (U := U.calling g mk a) (Vm.Alike.refl U.vm) qK, qD⟩, va_recv hK hPc (ci := 6) (q0 := 0) rfl rfl, fun U hU hW => ⟨rfl, by rw [hU], by rw [hU]; exact hPc, va_K.moved hW.alike hK, hDc.weaken (fun _ _ _ _ => trivial)⟩⟩ rfl rfl hl.1 rfl (lv_room (Nat.le_of_ble_eq_true rfl)) d_Share_takeNone_20 ⟨Nat.zero_le _, Nat.zero_le _⟩) hS (fun q _ h => hFc q h) hFc (fun rr u t H1 locs ht hvm hw hB hz1 hk1 hS => ?_)
        obtain ⟨hP1, hK1, hD1⟩ := hB
        rw [ht] at hP1
        subst hw
        obtain ⟨hP, hD⟩ := va_join (wr := []) (w1 := [(a_this, .inr (6, [.ref o_points, .ref o_cuts, .ref o_queue, .ref o_owners, .ref o_takes, .ref o_bases, .ref o_ranked, .ref o_starts, .ref o_numbers, .ref o_walk, .int i_order, .int i_next_4])), (a_p1, .inr (5, [.ref a_p1_words, .int i_p1_room, .int i_p1_used, .int i_p1_held, .int i_p1_many])), (a_p1_words, .inl (cL, n_p1_words, .inr (.inl v_p1_words)))]) hP hD [0, 1, 2] [] rfl rfl (by decide) (by decide) hk1 hFc hP1 hD1
        clear hPc hDc hFc hk1 hP1 hD1 hK1
        generalize H1 = H at hP hS ⊢
        have hP : va_P D classes [(a_this, .inr (6, [.ref o_points, .ref o_cuts, .ref o_queue, .ref o_owners, .ref o_takes, .ref o_bases, .ref o_ranked, .ref o_starts, .ref o_numbers, .ref o_walk, .int i_order, .int i_next_4])), (a_p1, .inr (5, [.ref a_p1_words, .int i_p1_room, .int i_p1_used, .int i_p1_held, .int i_p1_many])), (a_p1_words, .inl (cL, n_p1_words, .inr (.inl v_p1_words)))] H := hP.sub [0, 1, 2] rfl
        have hD : va_D A [(a_this, .inr (6, [.ref o_points, .ref o_cuts, .ref o_queue, .ref o_owners, .ref o_takes, .ref o_bases, .ref o_ranked, .ref o_starts, .ref o_numbers, .ref o_walk, .int i_order, .int i_next_4])), (a_p1, .inr (5, [.ref a_p1_words, .int i_p1_room, .int i_p1_used, .int i_p1_held, .int i_p1_many])), (a_p1_words, .inl (cL, n_p1_words, .inr (.inl v_p1_words)))] := hD.sub [0, 1, 2] (by decide) rfl
        refine lv_istore (lv' := [(4, .int r_3), (0, .ref a_this), (1, .ref a_p1), (3, .int l3)]) hx hb d_Share_takeNone_23 hl (by decide) rfl (fun ls hl => ?_)
        refine lv_iload_n hx hb d_Share_takeNone_25 rfl (lv_at hl 3 rfl) ?_
        refine lv_iload hx hb d_Share_takeNone_26 (lv_at hl 0 rfl) ?_
        refine lv_iadd hx hb d_Share_takeNone_28 ?_
        refine lv_topi (fun l3_6 el3_6 => ?_)
        replace h := nm_s h el3_6
        refine lv_istore_n (lv' := [(3, .int l3_6), (4, .int r_3), (0, .ref a_this), (1, .ref a_p1)]) hx hb d_Share_takeNone_29 rfl hl (by decide) rfl (fun ls hl => ?_)
        refine lv_goto (tgt := 5) hx hb d_Share_takeNone_30 (by decide) ?_
        exact ih _ _ _ h H locs ls (lv_sub hl [2, 3, 0, 1] rfl) hP hD hS
set_option maxHeartbeats 4000000 in
set_option maxRecDepth 100000 in
theorem w_Share_takeNone_b0 {p : Program} {l : Launch} {e : Env} {s : State} {m : MethodId} {args : Array Value} {below : List Frame} {meth : Method} {c : Code} {Q : State → Prop} {A : Nat → Prop} {D : va_G} {cI cL cZ : ClassId} {a_this : Nat} {a_p1 : Nat} {a_p1_words : Nat} {o_points : Nat} {o_cuts : Nat} {o_queue : Nat} {o_owners : Nat} {o_takes : Nat} {o_bases : Nat} {o_ranked : Nat} {o_starts : Nat} {o_numbers : Nat} {o_walk : Nat} {i_order : Int32} {i_p1_room : Int32} {i_p1_used : Int32} {i_p1_held : Int32} {i_p1_many : Int32} {n_p1_words : Nat} {v_p1_words : Nat → Int64} {l2 : Int32} {N : Nat} {res : Int32 × Int32}  (C : Cx p s m args c b_Share_takeNone 5 "PrefixMill$Share" D [(cI, .int), (cL, .long), (cZ, .boolean)] A) (hret : E_Share_takeNone p l e s m args below meth c Q A D cI cL cZ a_this a_p1 a_p1_words o_points o_cuts o_queue o_owners o_takes o_bases o_ranked o_starts o_numbers o_walk i_order i_p1_room i_p1_used i_p1_held i_p1_many n_p1_words v_p1_words l2 res)  : I_Share_takeNone_b0 p l e s m args below meth c Q A D cI cL cZ a_this a_p1 a_p1_words o_points o_cuts o_queue o_owners o_takes o_bases o_ranked o_starts o_numbers o_walk i_order i_p1_room i_p1_used i_p1_held i_p1_many n_p1_words v_p1_words l2 res (f_Share_takeNone N i_p1_used n_p1_words v_p1_words l2 ) := by
  obtain ⟨hx, hb, hml, hown, hts, hK, hA⟩ := C
  intro i_next h H locs ls hl hP hD hS
  unfold f_Share_takeNone at h
  refine lv_iload_n hx hb d_Share_takeNone_0 rfl (lv_at hl 2 rfl) ?_
  refine lv_istore_n (lv' := [(3, .int l2), (0, .ref a_this), (1, .ref a_p1), (2, .int l2)]) hx hb d_Share_takeNone_1 rfl hl (by decide) rfl (fun ls hl => ?_)
  refine lv_iconst (v := 3) hx hb d_Share_takeNone_2 (by decide) ?_
  refine lv_istore (lv' := [(4, .int 3), (3, .int l2), (0, .ref a_this), (1, .ref a_p1), (2, .int l2)]) hx hb d_Share_takeNone_3 hl (by decide) rfl (fun ls hl => ?_)
  exact w_Share_takeNone_b5 ⟨hx, hb, hml, hown, hts, hK, hA⟩ hret  N _ _ _ h H locs ls (lv_sub hl [2, 3, 1, 0] rfl) hP hD hS
set_option maxHeartbeats 4000000 in
set_option maxRecDepth 100000 in
theorem c_Share_takeNone (l : Launch) (D : va_G) (cI cL cZ : ClassId) (sz N : Nat) (a_this : Nat) (a_p1 : Nat) (a_p1_words : Nat) (o_points : Nat) (o_cuts : Nat) (o_queue : Nat) (o_owners : Nat) (o_takes : Nat) (o_bases : Nat) (o_ranked : Nat) (o_starts : Nat) (o_numbers : Nat) (o_walk : Nat) (i_order : Int32) (i_next : Int32) (i_p1_room : Int32) (i_p1_used : Int32) (i_p1_held : Int32) (i_p1_many : Int32) (n_p1_words : Nat) (v_p1_words : Nat → Int64) (l2 : Int32) (rv : Int32) (i_next' : Int32) (h : f_Share_takeNone N i_p1_used n_p1_words v_p1_words l2 i_next = some (rv, i_next')) : Met l ({ cls := "PrefixMill$Share", name := "takeNone", desc := "(LPrefixMill$Row;I)I" } : Jvm.MethodName) ws_Share_takeNone R_Share_takeNone (va_Pc [.ref a_this, .ref a_p1, .int l2] (fun U => U.heap.size = sz ∧ va_P D classes [(a_this, .inr (6, [.ref o_points, .ref o_cuts, .ref o_queue, .ref o_owners, .ref o_takes, .ref o_bases, .ref o_ranked, .ref o_starts, .ref o_numbers, .ref o_walk, .int i_order, .int i_next])), (a_p1, .inr (5, [.ref a_p1_words, .int i_p1_room, .int i_p1_used, .int i_p1_held, .int i_p1_many])), (a_p1_words, .inl (cL, n_p1_words, .inr (.inl v_p1_words)))] U.heap ∧ va_K D classes [(cI, .int), (cL, .long), (cZ, .boolean)] U ∧ va_D (fun _ => True) [(a_this, .inr (6, [.ref o_points, .ref o_cuts, .ref o_queue, .ref o_owners, .ref o_takes, .ref o_bases, .ref o_ranked, .ref o_starts, .ref o_numbers, .ref o_walk, .int i_order, .int i_next])), (a_p1, .inr (5, [.ref a_p1_words, .int i_p1_room, .int i_p1_used, .int i_p1_held, .int i_p1_many])), (a_p1_words, .inl (cL, n_p1_words, .inr (.inl v_p1_words)))])) (va_Qi (fun (r0 : Int32) (_ : Unit) => rv = r0) (fun _ t => va_P D classes [(a_this, .inr (6, [.ref o_points, .ref o_cuts, .ref o_queue, .ref o_owners, .ref o_takes, .ref o_bases, .ref o_ranked, .ref o_starts, .ref o_numbers, .ref o_walk, .int i_order, .int i_next'])), (a_p1, .inr (5, [.ref a_p1_words, .int i_p1_room, .int i_p1_used, .int i_p1_held, .int i_p1_many])), (a_p1_words, .inl (cL, n_p1_words, .inr (.inl v_p1_words)))] t.heap ∧ va_K D classes [(cI, .int), (cL, .long), (cZ, .boolean)] t ∧ va_D (va_A [(a_this, .inr (6, [.ref o_points, .ref o_cuts, .ref o_queue, .ref o_owners, .ref o_takes, .ref o_bases, .ref o_ranked, .ref o_starts, .ref o_numbers, .ref o_walk, .int i_order, .int i_next])), (a_p1, .inr (5, [.ref a_p1_words, .int i_p1_room, .int i_p1_used, .int i_p1_held, .int i_p1_many])), (a_p1_words, .inl (cL, n_p1_words, .inr (.inl v_p1_words)))] sz) [(a_this, .inr (6, [.ref o_points, .ref o_cuts, .ref o_queue, .ref o_owners, .ref o_takes, .ref o_bases, .ref o_ranked, .ref o_starts, .ref o_numbers, .ref o_walk, .int i_order, .int i_next'])), (a_p1, .inr (5, [.ref a_p1_words, .int i_p1_room, .int i_p1_used, .int i_p1_held, .int i_p1_many])), (a_p1_words, .inl (cL, n_p1_words, .inr (.inl v_p1_words)))]) (va_A [(a_this, .inr (6, [.ref o_points, .ref o_cuts, .ref o_queue, .ref o_owners, .ref o_takes, .ref o_bases, .ref o_ranked, .ref o_starts, .ref o_numbers, .ref o_walk, .int i_order, .int i_next])), (a_p1, .inr (5, [.ref a_p1_words, .int i_p1_room, .int i_p1_used, .int i_p1_held, .int i_p1_many])), (a_p1_words, .inl (cL, n_p1_words, .inr (.inl v_p1_words)))] sz)) 0 0 (va_A [(a_this, .inr (6, [.ref o_points, .ref o_cuts, .ref o_queue, .ref o_owners, .ref o_takes, .ref o_bases, .ref o_ranked, .ref o_starts, .ref o_numbers, .ref o_walk, .int i_order, .int i_next])), (a_p1, .inr (5, [.ref a_p1_words, .int i_p1_room, .int i_p1_used, .int i_p1_held, .int i_p1_many])), (a_p1_words, .inl (cL, n_p1_words, .inr (.inl v_p1_words)))] sz) := by
  refine Met.ofW (cc := b_Share_takeNone) (maxL := 5) (ret := (some .int)) (by decide) rfl ?_
  intro p e s m args below meth c s₁ B hml hv
  obtain ⟨rfl, hsz, hP, hK, hD0⟩ := hv
  have hx := B.exec
  have hb := B.bytes
  have hr := B.returns
  have hts0 := atoms_spec (ws := ws_Share_takeNone) B.pre
  have hts := gd_tl hts0
  clear hts0
  have hown : s.vm.findClass "PrefixMill$Share" = some m.cls := findClass_of_methodNamed B.named
  have hlocks := B.notSynchronized
  subst hsz
  have hD := hD0.self (sz := s.heap.size)
  generalize hAe : va_A [(a_this, .inr (6, [.ref o_points, .ref o_cuts, .ref o_queue, .ref o_owners, .ref o_takes, .ref o_bases, .ref o_ranked, .ref o_starts, .ref o_numbers, .ref o_walk, .int i_order, .int i_next])), (a_p1, .inr (5, [.ref a_p1_words, .int i_p1_room, .int i_p1_used, .int i_p1_held, .int i_p1_many])), (a_p1_words, .inl (cL, n_p1_words, .inr (.inl v_p1_words)))] s.heap.size = A at hD ⊢
  have hA : ∀ q : Nat, s.heap.size ≤ q → A q := fun q h => by rw [← hAe]; exact Or.inr h
  have hS : va_S A s.heap s.heap [] := va_S.rf
  have hP : va_P D classes [(a_this, .inr (6, [.ref o_points, .ref o_cuts, .ref o_queue, .ref o_owners, .ref o_takes, .ref o_bases, .ref o_ranked, .ref o_starts, .ref o_numbers, .ref o_walk, .int i_order, .int i_next])), (a_p1, .inr (5, [.ref a_p1_words, .int i_p1_room, .int i_p1_used, .int i_p1_held, .int i_p1_many])), (a_p1_words, .inl (cL, n_p1_words, .inr (.inl v_p1_words)))] s.heap := hP
  have hl := lv_entry ([.ref a_this, .ref a_p1, .int l2]) (n := 5) (Nat.le_of_ble_eq_true rfl)
  rw [lg_entry_eq]
  generalize (lg_sl ([.ref a_this, .ref a_p1, .int l2]) ++ List.replicate (5 - (lg_sl ([.ref a_this, .ref a_p1, .int l2])).length) Slot.unset).toArray = ls at hl ⊢
  have hl : lv_has ls 5 [(0, .ref a_this), (1, .ref a_p1), (2, .int l2)] := hl
  have C : Cx p s m ([.ref a_this, .ref a_p1, .int l2] : List Value).toArray c b_Share_takeNone 5 "PrefixMill$Share" D [(cI, .int), (cL, .long), (cZ, .boolean)] A := ⟨hx, hb, hml, hown, hts, hK, hA⟩
  refine w_Share_takeNone_b0 (res := (rv, i_next')) C ?_ _ h s.heap [] ls hl hP hD hS
  intro pc9 H9 locs9 ls9 rv9 i_next9 e9 d9 hP9 hD9 hS9
  cases e9
  exact W.iret (v := rv) hx hb hr (fun t ht hW => ⟨⟨rv, (), rfl, rfl, by rw [ht]; exact hP9, va_K.moved hW.alike hK, hD9⟩, hS9.F ht⟩) hS9.2.2 d9
abbrev b_Share_take : ByteArray := prog_6_method_17_code
def ws_Share_take : List Cond := .code ({ cls := "PrefixMill$Share", name := "take", desc := "(LPrefixMill$Row;II)I" } : Jvm.MethodName) b_Share_take 6 (some .int) :: tt
theorem d_Share_take_0 : decode b_Share_take 0 = .ok (.aload_n 0, 1) := by decide +kernel
theorem d_Share_take_1 : decode b_Share_take 1 = .ok (.getfield 9, 3) := by decide +kernel
theorem d_Share_take_4 : decode b_Share_take 4 = .ok (.iconst 0, 1) := by decide +kernel
theorem d_Share_take_5 : decode b_Share_take 5 = .ok (.invokestatic 105, 3) := by decide +kernel
theorem d_Share_take_8 : decode b_Share_take 8 = .ok (.aload_n 0, 1) := by decide +kernel
theorem d_Share_take_9 : decode b_Share_take 9 = .ok (.bipush 8, 2) := by decide +kernel
theorem d_Share_take_11 : decode b_Share_take 11 = .ok (.iload_n 2, 1) := by decide +kernel
theorem d_Share_take_12 : decode b_Share_take 12 = .ok (.imul, 1) := by decide +kernel
theorem d_Share_take_13 : decode b_Share_take 13 = .ok (.putfield 111, 3) := by decide +kernel
theorem d_Share_take_16 : decode b_Share_take 16 = .ok (.aload_n 0, 1) := by decide +kernel
theorem d_Share_take_17 : decode b_Share_take 17 = .ok (.iconst 5, 1) := by decide +kernel
theorem d_Share_take_18 : decode b_Share_take 18 = .ok (.aload_n 0, 1) := by decide +kernel
theorem d_Share_take_19 : decode b_Share_take 19 = .ok (.aload_n 1, 1) := by decide +kernel
theorem d_Share_take_20 : decode b_Share_take 20 = .ok (.iconst 4, 1) := by decide +kernel
theorem d_Share_take_21 : decode b_Share_take 21 = .ok (.invokevirtual 114, 3) := by decide +kernel
theorem d_Share_take_24 : decode b_Share_take 24 = .ok (.iadd, 1) := by decide +kernel
theorem d_Share_take_25 : decode b_Share_take 25 = .ok (.putfield 48, 3) := by decide +kernel
theorem d_Share_take_28 : decode b_Share_take 28 = .ok (.aload_n 0, 1) := by decide +kernel
theorem d_Share_take_29 : decode b_Share_take 29 = .ok (.getfield 48, 3) := by decide +kernel
theorem d_Share_take_32 : decode b_Share_take 32 = .ok (.bipush 6, 2) := by decide +kernel
theorem d_Share_take_34 : decode b_Share_take 34 = .ok (.if_icmp .le 5, 3) := by decide +kernel
theorem d_Share_take_37 : decode b_Share_take 37 = .ok (.iconst (-1), 1) := by decide +kernel
theorem d_Share_take_38 : decode b_Share_take 38 = .ok (.ireturn, 1) := by decide +kernel
theorem d_Share_take_39 : decode b_Share_take 39 = .ok (.iconst 1, 1) := by decide +kernel
theorem d_Share_take_40 : decode b_Share_take 40 = .ok (.aload_n 0, 1) := by decide +kernel
theorem d_Share_take_41 : decode b_Share_take 41 = .ok (.getfield 48, 3) := by decide +kernel
theorem d_Share_take_44 : decode b_Share_take 44 = .ok (.ishl, 1) := by decide +kernel
theorem d_Share_take_45 : decode b_Share_take 45 = .ok (.istore 4, 2) := by decide +kernel
theorem d_Share_take_47 : decode b_Share_take 47 = .ok (.iconst 0, 1) := by decide +kernel
theorem d_Share_take_48 : decode b_Share_take 48 = .ok (.istore 5, 2) := by decide +kernel
theorem d_Share_take_50 : decode b_Share_take 50 = .ok (.iload 5, 2) := by decide +kernel
theorem d_Share_take_52 : decode b_Share_take 52 = .ok (.bipush 12, 2) := by decide +kernel
theorem d_Share_take_54 : decode b_Share_take 54 = .ok (.if_icmp .ge 64, 3) := by decide +kernel
theorem d_Share_take_57 : decode b_Share_take 57 = .ok (.iload 4, 2) := by decide +kernel
theorem d_Share_take_59 : decode b_Share_take 59 = .ok (.ifCond .le 59, 3) := by decide +kernel
theorem d_Share_take_62 : decode b_Share_take 62 = .ok (.aload_n 0, 1) := by decide +kernel
theorem d_Share_take_63 : decode b_Share_take 63 = .ok (.getfield 9, 3) := by decide +kernel
theorem d_Share_take_66 : decode b_Share_take 66 = .ok (.iload 5, 2) := by decide +kernel
theorem d_Share_take_68 : decode b_Share_take 68 = .ok (.aload_n 0, 1) := by decide +kernel
theorem d_Share_take_69 : decode b_Share_take 69 = .ok (.aload_n 1, 1) := by decide +kernel
theorem d_Share_take_70 : decode b_Share_take 70 = .ok (.iload 4, 2) := by decide +kernel
theorem d_Share_take_72 : decode b_Share_take 72 = .ok (.invokevirtual 117, 3) := by decide +kernel
theorem d_Share_take_75 : decode b_Share_take 75 = .ok (.iastore, 1) := by decide +kernel
theorem d_Share_take_76 : decode b_Share_take 76 = .ok (.iload 4, 2) := by decide +kernel
theorem d_Share_take_78 : decode b_Share_take 78 = .ok (.aload_n 0, 1) := by decide +kernel
theorem d_Share_take_79 : decode b_Share_take 79 = .ok (.iload 5, 2) := by decide +kernel
theorem d_Share_take_81 : decode b_Share_take 81 = .ok (.invokevirtual 52, 3) := by decide +kernel
theorem d_Share_take_84 : decode b_Share_take 84 = .ok (.isub, 1) := by decide +kernel
theorem d_Share_take_85 : decode b_Share_take 85 = .ok (.istore 4, 2) := by decide +kernel
theorem d_Share_take_87 : decode b_Share_take 87 = .ok (.aload_n 0, 1) := by decide +kernel
theorem d_Share_take_88 : decode b_Share_take 88 = .ok (.getfield 9, 3) := by decide +kernel
theorem d_Share_take_91 : decode b_Share_take 91 = .ok (.iload 5, 2) := by decide +kernel
theorem d_Share_take_93 : decode b_Share_take 93 = .ok (.iaload, 1) := by decide +kernel
theorem d_Share_take_94 : decode b_Share_take 94 = .ok (.ifCond .ne 15, 3) := by decide +kernel
theorem d_Share_take_97 : decode b_Share_take 97 = .ok (.aload_n 0, 1) := by decide +kernel
theorem d_Share_take_98 : decode b_Share_take 98 = .ok (.aload_n 1, 1) := by decide +kernel
theorem d_Share_take_99 : decode b_Share_take 99 = .ok (.iload 5, 2) := by decide +kernel
theorem d_Share_take_101 : decode b_Share_take 101 = .ok (.iconst 1, 1) := by decide +kernel
theorem d_Share_take_102 : decode b_Share_take 102 = .ok (.iadd, 1) := by decide +kernel
theorem d_Share_take_103 : decode b_Share_take 103 = .ok (.invokevirtual 120, 3) := by decide +kernel
theorem d_Share_take_106 : decode b_Share_take 106 = .ok (.goto 7, 3) := by decide +kernel
theorem d_Share_take_109 : decode b_Share_take 109 = .ok (.iload 5, 2) := by decide +kernel
theorem d_Share_take_111 : decode b_Share_take 111 = .ok (.iconst 1, 1) := by decide +kernel
theorem d_Share_take_112 : decode b_Share_take 112 = .ok (.iadd, 1) := by decide +kernel
theorem d_Share_take_113 : decode b_Share_take 113 = .ok (.istore 5, 2) := by decide +kernel
theorem d_Share_take_115 : decode b_Share_take 115 = .ok (.goto (-65), 3) := by decide +kernel
theorem d_Share_take_118 : decode b_Share_take 118 = .ok (.iload 4, 2) := by decide +kernel
theorem d_Share_take_120 : decode b_Share_take 120 = .ok (.ifCond .gt 14, 3) := by decide +kernel
theorem d_Share_take_123 : decode b_Share_take 123 = .ok (.aload_n 0, 1) := by decide +kernel
theorem d_Share_take_124 : decode b_Share_take 124 = .ok (.getfield 111, 3) := by decide +kernel
theorem d_Share_take_127 : decode b_Share_take 127 = .ok (.bipush 8, 2) := by decide +kernel
theorem d_Share_take_129 : decode b_Share_take 129 = .ok (.iload_n 3, 1) := by decide +kernel
theorem d_Share_take_130 : decode b_Share_take 130 = .ok (.imul, 1) := by decide +kernel
theorem d_Share_take_131 : decode b_Share_take 131 = .ok (.if_icmp .le 5, 3) := by decide +kernel
theorem d_Share_take_134 : decode b_Share_take 134 = .ok (.iconst (-1), 1) := by decide +kernel
theorem d_Share_take_135 : decode b_Share_take 135 = .ok (.ireturn, 1) := by decide +kernel
theorem d_Share_take_136 : decode b_Share_take 136 = .ok (.aload_n 0, 1) := by decide +kernel
theorem d_Share_take_137 : decode b_Share_take 137 = .ok (.invokevirtual 70, 3) := by decide +kernel
theorem d_Share_take_140 : decode b_Share_take 140 = .ok (.aload_n 0, 1) := by decide +kernel
theorem d_Share_take_141 : decode b_Share_take 141 = .ok (.getfield 111, 3) := by decide +kernel
theorem d_Share_take_144 : decode b_Share_take 144 = .ok (.bipush 7, 2) := by decide +kernel
theorem d_Share_take_146 : decode b_Share_take 146 = .ok (.iadd, 1) := by decide +kernel
theorem d_Share_take_147 : decode b_Share_take 147 = .ok (.bipush 8, 2) := by decide +kernel
theorem d_Share_take_149 : decode b_Share_take 149 = .ok (.idiv, 1) := by decide +kernel
theorem d_Share_take_150 : decode b_Share_take 150 = .ok (.ireturn, 1) := by decide +kernel
def f_Share_take_b113 (N : Nat) (i_p1_used : Int32) (n_p1_words : Nat) (v_p1_words : Nat → Int64) (l2 : Int32) (l3 : Int32) (k50 : Int32 → Int32 → Int32 → Int32 → (Nat → Int32) → (Nat → Int32) → (Nat → Int32) → (Nat → Int32) → (Nat → Int32) → (Nat → Int32) → (Nat → Int32) → (Nat → Int32) → Option (Int32 × Int32 × Int32 × (Nat → Int32) × (Nat → Int32) × (Nat → Int32) × (Nat → Int32) × (Nat → Int32) × (Nat → Int32) × (Nat → Int32) × (Nat → Int32))) (l4 : Int32) (s0 : Int32) (i_order : Int32) (i_next : Int32) (v_points : Nat → Int32) (v_owners : Nat → Int32) (v_takes : Nat → Int32) (v_bases : Nat → Int32) (v_ranked : Nat → Int32) (v_starts : Nat → Int32) (v_numbers : Nat → Int32) (v_walk : Nat → Int32) : Option (Int32 × Int32 × Int32 × (Nat → Int32) × (Nat → Int32) × (Nat → Int32) × (Nat → Int32) × (Nat → Int32) × (Nat → Int32) × (Nat → Int32) × (Nat → Int32)) :=
  k50 l4 s0 i_order i_next v_points v_owners v_takes v_bases v_ranked v_starts v_numbers v_walk
def f_Share_take_b134 (N : Nat) (i_p1_used : Int32) (n_p1_words : Nat) (v_p1_words : Nat → Int64) (l2 : Int32) (l3 : Int32)  (i_order : Int32) (i_next : Int32) (v_points : Nat → Int32) (v_owners : Nat → Int32) (v_takes : Nat → Int32) (v_bases : Nat → Int32) (v_ranked : Nat → Int32) (v_starts : Nat → Int32) (v_numbers : Nat → Int32) (v_walk : Nat → Int32) : Option (Int32 × Int32 × Int32 × (Nat → Int32) × (Nat → Int32) × (Nat → Int32) × (Nat → Int32) × (Nat → Int32) × (Nat → Int32) × (Nat → Int32) × (Nat → Int32)) :=
  some ((-1), i_order, i_next, v_points, v_owners, v_takes, v_bases, v_ranked, v_starts, v_numbers, v_walk)
def f_Share_take_b118 (N : Nat) (i_p1_used : Int32) (n_p1_words : Nat) (v_p1_words : Nat → Int64) (l2 : Int32) (l3 : Int32)  (l4 : Int32) (i_order : Int32) (i_next : Int32) (v_points : Nat → Int32) (v_owners : Nat → Int32) (v_takes : Nat → Int32) (v_bases : Nat → Int32) (v_ranked : Nat → Int32) (v_starts : Nat → Int32) (v_numbers : Nat → Int32) (v_walk : Nat → Int32) : Option (Int32 × Int32 × Int32 × (Nat → Int32) × (Nat → Int32) × (Nat → Int32) × (Nat → Int32) × (Nat → Int32) × (Nat → Int32) × (Nat → Int32) × (Nat → Int32)) :=
  if 0 < l4 then
  f_Share_take_b134 N i_p1_used n_p1_words v_p1_words l2 l3  i_order i_next v_points v_owners v_takes v_bases v_ranked v_starts v_numbers v_walk
  else
  if i_next ≤ (8 * l3) then
  bd7 (f_Share_layOut N i_order v_points v_owners v_takes v_bases v_ranked v_starts v_numbers v_walk) fun v_owners_3 v_takes_4 v_bases_5 v_ranked_6 v_starts_7 v_numbers_8 v_walk_9 =>
  some (((i_next + 7) / 8), i_order, i_next, v_points, v_owners_3, v_takes_4, v_bases_5, v_ranked_6, v_starts_7, v_numbers_8, v_walk_9)
  else
  f_Share_take_b134 N i_p1_used n_p1_words v_p1_words l2 l3  i_order i_next v_points v_owners v_takes v_bases v_ranked v_starts v_numbers v_walk
def f_Share_take_b50 (N : Nat) (i_p1_used : Int32) (n_p1_words : Nat) (v_p1_words : Nat → Int64) (l2 : Int32) (l3 : Int32)  : Nat → Int32 → Int32 → Int32 → Int32 → (Nat → Int32) → (Nat → Int32) → (Nat → Int32) → (Nat → Int32) → (Nat → Int32) → (Nat → Int32) → (Nat → Int32) → (Nat → Int32) → Option (Int32 × Int32 × Int32 × (Nat → Int32) × (Nat → Int32) × (Nat → Int32) × (Nat → Int32) × (Nat → Int32) × (Nat → Int32) × (Nat → Int32) × (Nat → Int32))
  | 0, _, _, _, _, _, _, _, _, _, _, _, _ => none
  | z + 1, l4, l5, i_order, i_next, v_points, v_owners, v_takes, v_bases, v_ranked, v_starts, v_numbers, v_walk =>
  if 12 ≤ l5 then
  f_Share_take_b118 N i_p1_used n_p1_words v_p1_words l2 l3  l4 i_order i_next v_points v_owners v_takes v_bases v_ranked v_starts v_numbers v_walk
  else
  if l4 ≤ 0 then
  f_Share_take_b118 N i_p1_used n_p1_words v_p1_words l2 l3  l4 i_order i_next v_points v_owners v_takes v_bases v_ranked v_starts v_numbers v_walk
  else
  bd2 (f_Share_takePoints N i_p1_used n_p1_words v_p1_words l4 i_next) fun r_3 i_next_4 =>
  ck (inb l5 12) <|
  nm (upd v_points (Int32.toNatClampNeg l5) r_3) fun v_points_7 =>
  bd1 (f_Share_massOf N v_points_7 l5) fun r_8 =>
  nm (l4 - r_8) fun l4_10 =>
  ck (inb l5 12) <|
  if (v_points_7 (Int32.toNatClampNeg l5)) = 0 then
  bd2 (f_Share_takeNone N i_p1_used n_p1_words v_p1_words (l5 + 1) i_next_4) fun r_13 i_next_14 =>
  f_Share_take_b113 N i_p1_used n_p1_words v_p1_words l2 l3 (f_Share_take_b50 N i_p1_used n_p1_words v_p1_words l2 l3  z) l4_10 r_13 i_order i_next_14 v_points_7 v_owners v_takes v_bases v_ranked v_starts v_numbers v_walk
  else
  f_Share_take_b113 N i_p1_used n_p1_words v_p1_words l2 l3 (f_Share_take_b50 N i_p1_used n_p1_words v_p1_words l2 l3  z) l4_10 (l5 + 1) i_order i_next_4 v_points_7 v_owners v_takes v_bases v_ranked v_starts v_numbers v_walk
def f_Share_take (N : Nat) (i_p1_used : Int32) (n_p1_words : Nat) (v_p1_words : Nat → Int64) (l2 : Int32) (l3 : Int32)  (i_order : Int32) (i_next : Int32) (v_points : Nat → Int32) (v_owners : Nat → Int32) (v_takes : Nat → Int32) (v_bases : Nat → Int32) (v_ranked : Nat → Int32) (v_starts : Nat → Int32) (v_numbers : Nat → Int32) (v_walk : Nat → Int32) : Option (Int32 × Int32 × Int32 × (Nat → Int32) × (Nat → Int32) × (Nat → Int32) × (Nat → Int32) × (Nat → Int32) × (Nat → Int32) × (Nat → Int32) × (Nat → Int32)) :=
  bd1 (f_JArr_fill N 12 0 v_points) fun v_points_1 =>
  nm (8 * l2) fun i_next_3 =>
  bd2 (f_Share_takeBits N i_p1_used n_p1_words v_p1_words 4 i_next_3) fun r_4 i_next_5 =>
  nm (5 + r_4) fun i_order_7 =>
  if i_order_7 ≤ 6 then
  nm (1 <<< (i_order_7 &&& 31)) fun l4_9 =>
  f_Share_take_b50 N i_p1_used n_p1_words v_p1_words l2 l3  N l4_9 0 i_order_7 i_next_5 v_points_1 v_owners v_takes v_bases v_ranked v_starts v_numbers v_walk
  else
  some ((-1), i_order_7, i_next_5, v_points_1, v_owners, v_takes, v_bases, v_ranked, v_starts, v_numbers, v_walk)
abbrev R_Share_take : Room := ({ frames := 4, cells := 0, slots := 0, locals := 94 } : Room)
def E_Share_take (p : Program) (l : Launch) (e : Env) (s : State) (m : MethodId) (args : Array Value) (below : List Frame) (meth : Method) (c : Code) (Q : State → Prop) (A : Nat → Prop) (D : va_G) (cI cL cZ : ClassId) (a_this : Nat) (a_points : Nat) (a_owners : Nat) (a_takes : Nat) (a_bases : Nat) (a_ranked : Nat) (a_starts : Nat) (a_numbers : Nat) (a_walk : Nat) (a_p1 : Nat) (a_p1_words : Nat) (o_cuts : Nat) (o_queue : Nat) (i_p1_room : Int32) (i_p1_used : Int32) (i_p1_held : Int32) (i_p1_many : Int32) (n_p1_words : Nat) (v_p1_words : Nat → Int64) (l2 : Int32) (l3 : Int32) (res : Int32 × Int32 × Int32 × (Nat → Int32) × (Nat → Int32) × (Nat → Int32) × (Nat → Int32) × (Nat → Int32) × (Nat → Int32) × (Nat → Int32) × (Nat → Int32)) : Prop := ∀ (pc : Nat) (H : Heap) (locs : List Loc) (ls : Array Slot) (rv : Int32) (i_order : Int32) (i_next : Int32) (v_points : Nat → Int32) (v_owners : Nat → Int32) (v_takes : Nat → Int32) (v_bases : Nat → Int32) (v_ranked : Nat → Int32) (v_starts : Nat → Int32) (v_numbers : Nat → Int32) (v_walk : Nat → Int32), some (rv, i_order, i_next, v_points, v_owners, v_takes, v_bases, v_ranked, v_starts, v_numbers, v_walk) = some res → decode b_Share_take pc = .ok (.ireturn, 1) → va_P D classes [(a_this, .inr (6, [.ref a_points, .ref o_cuts, .ref o_queue, .ref a_owners, .ref a_takes, .ref a_bases, .ref a_ranked, .ref a_starts, .ref a_numbers, .ref a_walk, .int i_order, .int i_next])), (a_points, .inl (cI, 12, .inl v_points)), (a_owners, .inl (cI, 64, .inl v_owners)), (a_takes, .inl (cI, 64, .inl v_takes)), (a_bases, .inl (cI, 64, .inl v_bases)), (a_ranked, .inl (cI, 64, .inl v_ranked)), (a_starts, .inl (cI, 12, .inl v_starts)), (a_numbers, .inl (cI, 12, .inl v_numbers)), (a_walk, .inl (cI, 64, .inl v_walk)), (a_p1, .inr (5, [.ref a_p1_words, .int i_p1_room, .int i_p1_used, .int i_p1_held, .int i_p1_many])), (a_p1_words, .inl (cL, n_p1_words, .inr (.inl v_p1_words)))] H → va_D A [(a_this, .inr (6, [.ref a_points, .ref o_cuts, .ref o_queue, .ref a_owners, .ref a_takes, .ref a_bases, .ref a_ranked, .ref a_starts, .ref a_numbers, .ref a_walk, .int i_order, .int i_next])), (a_points, .inl (cI, 12, .inl v_points)), (a_owners, .inl (cI, 64, .inl v_owners)), (a_takes, .inl (cI, 64, .inl v_takes)), (a_bases, .inl (cI, 64, .inl v_bases)), (a_ranked, .inl (cI, 64, .inl v_ranked)), (a_starts, .inl (cI, 12, .inl v_starts)), (a_numbers, .inl (cI, 12, .inl v_numbers)), (a_walk, .inl (cI, 64, .inl v_walk)), (a_p1, .inr (5, [.ref a_p1_words, .int i_p1_room, .int i_p1_used, .int i_p1_held, .int i_p1_many])), (a_p1_words, .inl (cL, n_p1_words, .inr (.inl v_p1_words)))] → va_S A s.heap H locs → W p l e R_Share_take s m args below meth c H locs 0 0 Q (F0 m pc ls [.int rv])
def I_Share_take_b113 (p : Program) (l : Launch) (e : Env) (s : State) (m : MethodId) (args : Array Value) (below : List Frame) (meth : Method) (c : Code) (Q : State → Prop) (A : Nat → Prop) (D : va_G) (cI cL cZ : ClassId) (a_this : Nat) (a_points : Nat) (a_owners : Nat) (a_takes : Nat) (a_bases : Nat) (a_ranked : Nat) (a_starts : Nat) (a_numbers : Nat) (a_walk : Nat) (a_p1 : Nat) (a_p1_words : Nat) (o_cuts : Nat) (o_queue : Nat) (i_p1_room : Int32) (i_p1_used : Int32) (i_p1_held : Int32) (i_p1_many : Int32) (n_p1_words : Nat) (v_p1_words : Nat → Int64) (l2 : Int32) (l3 : Int32) (res : Int32 × Int32 × Int32 × (Nat → Int32) × (Nat → Int32) × (Nat → Int32) × (Nat → Int32) × (Nat → Int32) × (Nat → Int32) × (Nat → Int32) × (Nat → Int32)) (kf : Int32 → Int32 → Int32 → Int32 → (Nat → Int32) → (Nat → Int32) → (Nat → Int32) → (Nat → Int32) → (Nat → Int32) → (Nat → Int32) → (Nat → Int32) → (Nat → Int32) → Option (Int32 × Int32 × Int32 × (Nat → Int32) × (Nat → Int32) × (Nat → Int32) × (Nat → Int32) × (Nat → Int32) × (Nat → Int32) × (Nat → Int32) × (Nat → Int32))) : Prop := ∀ (l4 : Int32) (s0 : Int32) (i_order : Int32) (i_next : Int32) (v_points : Nat → Int32) (v_owners : Nat → Int32) (v_takes : Nat → Int32) (v_bases : Nat → Int32) (v_ranked : Nat → Int32) (v_starts : Nat → Int32) (v_numbers : Nat → Int32) (v_walk : Nat → Int32), kf l4 s0 i_order i_next v_points v_owners v_takes v_bases v_ranked v_starts v_numbers v_walk = some res → ∀ (H : Heap) (locs : List Loc) (ls : Array Slot), lv_has ls 6 [(0, .ref a_this), (1, .ref a_p1), (3, .int l3), (4, .int l4)] → va_P D classes [(a_this, .inr (6, [.ref a_points, .ref o_cuts, .ref o_queue, .ref a_owners, .ref a_takes, .ref a_bases, .ref a_ranked, .ref a_starts, .ref a_numbers, .ref a_walk, .int i_order, .int i_next])), (a_points, .inl (cI, 12, .inl v_points)), (a_owners, .inl (cI, 64, .inl v_owners)), (a_takes, .inl (cI, 64, .inl v_takes)), (a_bases, .inl (cI, 64, .inl v_bases)), (a_ranked, .inl (cI, 64, .inl v_ranked)), (a_starts, .inl (cI, 12, .inl v_starts)), (a_numbers, .inl (cI, 12, .inl v_numbers)), (a_walk, .inl (cI, 64, .inl v_walk)), (a_p1, .inr (5, [.ref a_p1_words, .int i_p1_room, .int i_p1_used, .int i_p1_held, .int i_p1_many])), (a_p1_words, .inl (cL, n_p1_words, .inr (.inl v_p1_words)))] H → va_D A [(a_this, .inr (6, [.ref a_points, .ref o_cuts, .ref o_queue, .ref a_owners, .ref a_takes, .ref a_bases, .ref a_ranked, .ref a_starts, .ref a_numbers, .ref a_walk, .int i_order, .int i_next])), (a_points, .inl (cI, 12, .inl v_points)), (a_owners, .inl (cI, 64, .inl v_owners)), (a_takes, .inl (cI, 64, .inl v_takes)), (a_bases, .inl (cI, 64, .inl v_bases)), (a_ranked, .inl (cI, 64, .inl v_ranked)), (a_starts, .inl (cI, 12, .inl v_starts)), (a_numbers, .inl (cI, 12, .inl v_numbers)), (a_walk, .inl (cI, 64, .inl v_walk)), (a_p1, .inr (5, [.ref a_p1_words, .int i_p1_room, .int i_p1_used, .int i_p1_held, .int i_p1_many])), (a_p1_words, .inl (cL, n_p1_words, .inr (.inl v_p1_words)))] → va_S A s.heap H locs → W p l e R_Share_take s m args below meth c H locs 0 0 Q (F0 m 113 ls [.int s0])
def I_Share_take_b134 (p : Program) (l : Launch) (e : Env) (s : State) (m : MethodId) (args : Array Value) (below : List Frame) (meth : Method) (c : Code) (Q : State → Prop) (A : Nat → Prop) (D : va_G) (cI cL cZ : ClassId) (a_this : Nat) (a_points : Nat) (a_owners : Nat) (a_takes : Nat) (a_bases : Nat) (a_ranked : Nat) (a_starts : Nat) (a_numbers : Nat) (a_walk : Nat) (a_p1 : Nat) (a_p1_words : Nat) (o_cuts : Nat) (o_queue : Nat) (i_p1_room : Int32) (i_p1_used : Int32) (i_p1_held : Int32) (i_p1_many : Int32) (n_p1_words : Nat) (v_p1_words : Nat → Int64) (l2 : Int32) (l3 : Int32) (res : Int32 × Int32 × Int32 × (Nat → Int32) × (Nat → Int32) × (Nat → Int32) × (Nat → Int32) × (Nat → Int32) × (Nat → Int32) × (Nat → Int32) × (Nat → Int32)) (kf : Int32 → Int32 → (Nat → Int32) → (Nat → Int32) → (Nat → Int32) → (Nat → Int32) → (Nat → Int32) → (Nat → Int32) → (Nat → Int32) → (Nat → Int32) → Option (Int32 × Int32 × Int32 × (Nat → Int32) × (Nat → Int32) × (Nat → Int32) × (Nat → Int32) × (Nat → Int32) × (Nat → Int32) × (Nat → Int32) × (Nat → Int32))) : Prop := ∀ (i_order : Int32) (i_next : Int32) (v_points : Nat → Int32) (v_owners : Nat → Int32) (v_takes : Nat → Int32) (v_bases : Nat → Int32) (v_ranked : Nat → Int32) (v_starts : Nat → Int32) (v_numbers : Nat → Int32) (v_walk : Nat → Int32), kf i_order i_next v_points v_owners v_takes v_bases v_ranked v_starts v_numbers v_walk = some res → ∀ (H : Heap) (locs : List Loc) (ls : Array Slot), lv_has ls 6 [] → va_P D classes [(a_this, .inr (6, [.ref a_points, .ref o_cuts, .ref o_queue, .ref a_owners, .ref a_takes, .ref a_bases, .ref a_ranked, .ref a_starts, .ref a_numbers, .ref a_walk, .int i_order, .int i_next])), (a_points, .inl (cI, 12, .inl v_points)), (a_owners, .inl (cI, 64, .inl v_owners)), (a_takes, .inl (cI, 64, .inl v_takes)), (a_bases, .inl (cI, 64, .inl v_bases)), (a_ranked, .inl (cI, 64, .inl v_ranked)), (a_starts, .inl (cI, 12, .inl v_starts)), (a_numbers, .inl (cI, 12, .inl v_numbers)), (a_walk, .inl (cI, 64, .inl v_walk)), (a_p1, .inr (5, [.ref a_p1_words, .int i_p1_room, .int i_p1_used, .int i_p1_held, .int i_p1_many])), (a_p1_words, .inl (cL, n_p1_words, .inr (.inl v_p1_words)))] H → va_D A [(a_this, .inr (6, [.ref a_points, .ref o_cuts, .ref o_queue, .ref a_owners, .ref a_takes, .ref a_bases, .ref a_ranked, .ref a_starts, .ref a_numbers, .ref a_walk, .int i_order, .int i_next])), (a_points, .inl (cI, 12, .inl v_points)), (a_owners, .inl (cI, 64, .inl v_owners)), (a_takes, .inl (cI, 64, .inl v_takes)), (a_bases, .inl (cI, 64, .inl v_bases)), (a_ranked, .inl (cI, 64, .inl v_ranked)), (a_starts, .inl (cI, 12, .inl v_starts)), (a_numbers, .inl (cI, 12, .inl v_numbers)), (a_walk, .inl (cI, 64, .inl v_walk)), (a_p1, .inr (5, [.ref a_p1_words, .int i_p1_room, .int i_p1_used, .int i_p1_held, .int i_p1_many])), (a_p1_words, .inl (cL, n_p1_words, .inr (.inl v_p1_words)))] → va_S A s.heap H locs → W p l e R_Share_take s m args below meth c H locs 0 0 Q (F0 m 134 ls [])
def I_Share_take_b118 (p : Program) (l : Launch) (e : Env) (s : State) (m : MethodId) (args : Array Value) (below : List Frame) (meth : Method) (c : Code) (Q : State → Prop) (A : Nat → Prop) (D : va_G) (cI cL cZ : ClassId) (a_this : Nat) (a_points : Nat) (a_owners : Nat) (a_takes : Nat) (a_bases : Nat) (a_ranked : Nat) (a_starts : Nat) (a_numbers : Nat) (a_walk : Nat) (a_p1 : Nat) (a_p1_words : Nat) (o_cuts : Nat) (o_queue : Nat) (i_p1_room : Int32) (i_p1_used : Int32) (i_p1_held : Int32) (i_p1_many : Int32) (n_p1_words : Nat) (v_p1_words : Nat → Int64) (l2 : Int32) (l3 : Int32) (res : Int32 × Int32 × Int32 × (Nat → Int32) × (Nat → Int32) × (Nat → Int32) × (Nat → Int32) × (Nat → Int32) × (Nat → Int32) × (Nat → Int32) × (Nat → Int32)) (kf : Int32 → Int32 → Int32 → (Nat → Int32) → (Nat → Int32) → (Nat → Int32) → (Nat → Int32) → (Nat → Int32) → (Nat → Int32) → (Nat → Int32) → (Nat → Int32) → Option (Int32 × Int32 × Int32 × (Nat → Int32) × (Nat → Int32) × (Nat → Int32) × (Nat → Int32) × (Nat → Int32) × (Nat → Int32) × (Nat → Int32) × (Nat → Int32))) : Prop := ∀ (l4 : Int32) (i_order : Int32) (i_next : Int32) (v_points : Nat → Int32) (v_owners : Nat → Int32) (v_takes : Nat → Int32) (v_bases : Nat → Int32) (v_ranked : Nat → Int32) (v_starts : Nat → Int32) (v_numbers : Nat → Int32) (v_walk : Nat → Int32), kf l4 i_order i_next v_points v_owners v_takes v_bases v_ranked v_starts v_numbers v_walk = some res → ∀ (H : Heap) (locs : List Loc) (ls : Array Slot), lv_has ls 6 [(0, .ref a_this), (3, .int l3), (4, .int l4)] → va_P D classes [(a_this, .inr (6, [.ref a_points, .ref o_cuts, .ref o_queue, .ref a_owners, .ref a_takes, .ref a_bases, .ref a_ranked, .ref a_starts, .ref a_numbers, .ref a_walk, .int i_order, .int i_next])), (a_points, .inl (cI, 12, .inl v_points)), (a_owners, .inl (cI, 64, .inl v_owners)), (a_takes, .inl (cI, 64, .inl v_takes)), (a_bases, .inl (cI, 64, .inl v_bases)), (a_ranked, .inl (cI, 64, .inl v_ranked)), (a_starts, .inl (cI, 12, .inl v_starts)), (a_numbers, .inl (cI, 12, .inl v_numbers)), (a_walk, .inl (cI, 64, .inl v_walk)), (a_p1, .inr (5, [.ref a_p1_words, .int i_p1_room, .int i_p1_used, .int i_p1_held, .int i_p1_many])), (a_p1_words, .inl (cL, n_p1_words, .inr (.inl v_p1_words)))] H → va_D A [(a_this, .inr (6, [.ref a_points, .ref o_cuts, .ref o_queue, .ref a_owners, .ref a_takes, .ref a_bases, .ref a_ranked, .ref a_starts, .ref a_numbers, .ref a_walk, .int i_order, .int i_next])), (a_points, .inl (cI, 12, .inl v_points)), (a_owners, .inl (cI, 64, .inl v_owners)), (a_takes, .inl (cI, 64, .inl v_takes)), (a_bases, .inl (cI, 64, .inl v_bases)), (a_ranked, .inl (cI, 64, .inl v_ranked)), (a_starts, .inl (cI, 12, .inl v_starts)), (a_numbers, .inl (cI, 12, .inl v_numbers)), (a_walk, .inl (cI, 64, .inl v_walk)), (a_p1, .inr (5, [.ref a_p1_words, .int i_p1_room, .int i_p1_used, .int i_p1_held, .int i_p1_many])), (a_p1_words, .inl (cL, n_p1_words, .inr (.inl v_p1_words)))] → va_S A s.heap H locs → W p l e R_Share_take s m args below meth c H locs 0 0 Q (F0 m 118 ls [])
def I_Share_take_b50 (p : Program) (l : Launch) (e : Env) (s : State) (m : MethodId) (args : Array Value) (below : List Frame) (meth : Method) (c : Code) (Q : State → Prop) (A : Nat → Prop) (D : va_G) (cI cL cZ : ClassId) (a_this : Nat) (a_points : Nat) (a_owners : Nat) (a_takes : Nat) (a_bases : Nat) (a_ranked : Nat) (a_starts : Nat) (a_numbers : Nat) (a_walk : Nat) (a_p1 : Nat) (a_p1_words : Nat) (o_cuts : Nat) (o_queue : Nat) (i_p1_room : Int32) (i_p1_used : Int32) (i_p1_held : Int32) (i_p1_many : Int32) (n_p1_words : Nat) (v_p1_words : Nat → Int64) (l2 : Int32) (l3 : Int32) (res : Int32 × Int32 × Int32 × (Nat → Int32) × (Nat → Int32) × (Nat → Int32) × (Nat → Int32) × (Nat → Int32) × (Nat → Int32) × (Nat → Int32) × (Nat → Int32)) (kf : Int32 → Int32 → Int32 → Int32 → (Nat → Int32) → (Nat → Int32) → (Nat → Int32) → (Nat → Int32) → (Nat → Int32) → (Nat → Int32) → (Nat → Int32) → (Nat → Int32) → Option (Int32 × Int32 × Int32 × (Nat → Int32) × (Nat → Int32) × (Nat → Int32) × (Nat → Int32) × (Nat → Int32) × (Nat → Int32) × (Nat → Int32) × (Nat → Int32))) : Prop := ∀ (l4 : Int32) (l5 : Int32) (i_order : Int32) (i_next : Int32) (v_points : Nat → Int32) (v_owners : Nat → Int32) (v_takes : Nat → Int32) (v_bases : Nat → Int32) (v_ranked : Nat → Int32) (v_starts : Nat → Int32) (v_numbers : Nat → Int32) (v_walk : Nat → Int32), kf l4 l5 i_order i_next v_points v_owners v_takes v_bases v_ranked v_starts v_numbers v_walk = some res → ∀ (H : Heap) (locs : List Loc) (ls : Array Slot), lv_has ls 6 [(0, .ref a_this), (1, .ref a_p1), (3, .int l3), (4, .int l4), (5, .int l5)] → va_P D classes [(a_this, .inr (6, [.ref a_points, .ref o_cuts, .ref o_queue, .ref a_owners, .ref a_takes, .ref a_bases, .ref a_ranked, .ref a_starts, .ref a_numbers, .ref a_walk, .int i_order, .int i_next])), (a_points, .inl (cI, 12, .inl v_points)), (a_owners, .inl (cI, 64, .inl v_owners)), (a_takes, .inl (cI, 64, .inl v_takes)), (a_bases, .inl (cI, 64, .inl v_bases)), (a_ranked, .inl (cI, 64, .inl v_ranked)), (a_starts, .inl (cI, 12, .inl v_starts)), (a_numbers, .inl (cI, 12, .inl v_numbers)), (a_walk, .inl (cI, 64, .inl v_walk)), (a_p1, .inr (5, [.ref a_p1_words, .int i_p1_room, .int i_p1_used, .int i_p1_held, .int i_p1_many])), (a_p1_words, .inl (cL, n_p1_words, .inr (.inl v_p1_words)))] H → va_D A [(a_this, .inr (6, [.ref a_points, .ref o_cuts, .ref o_queue, .ref a_owners, .ref a_takes, .ref a_bases, .ref a_ranked, .ref a_starts, .ref a_numbers, .ref a_walk, .int i_order, .int i_next])), (a_points, .inl (cI, 12, .inl v_points)), (a_owners, .inl (cI, 64, .inl v_owners)), (a_takes, .inl (cI, 64, .inl v_takes)), (a_bases, .inl (cI, 64, .inl v_bases)), (a_ranked, .inl (cI, 64, .inl v_ranked)), (a_starts, .inl (cI, 12, .inl v_starts)), (a_numbers, .inl (cI, 12, .inl v_numbers)), (a_walk, .inl (cI, 64, .inl v_walk)), (a_p1, .inr (5, [.ref a_p1_words, .int i_p1_room, .int i_p1_used, .int i_p1_held, .int i_p1_many])), (a_p1_words, .inl (cL, n_p1_words, .inr (.inl v_p1_words)))] → va_S A s.heap H locs → W p l e R_Share_take s m args below meth c H locs 0 0 Q (F0 m 50 ls [])
def I_Share_take_b0 (p : Program) (l : Launch) (e : Env) (s : State) (m : MethodId) (args : Array Value) (below : List Frame) (meth : Method) (c : Code) (Q : State → Prop) (A : Nat → Prop) (D : va_G) (cI cL cZ : ClassId) (a_this : Nat) (a_points : Nat) (a_owners : Nat) (a_takes : Nat) (a_bases : Nat) (a_ranked : Nat) (a_starts : Nat) (a_numbers : Nat) (a_walk : Nat) (a_p1 : Nat) (a_p1_words : Nat) (o_cuts : Nat) (o_queue : Nat) (i_p1_room : Int32) (i_p1_used : Int32) (i_p1_held : Int32) (i_p1_many : Int32) (n_p1_words : Nat) (v_p1_words : Nat → Int64) (l2 : Int32) (l3 : Int32) (res : Int32 × Int32 × Int32 × (Nat → Int32) × (Nat → Int32) × (Nat → Int32) × (Nat → Int32) × (Nat → Int32) × (Nat → Int32) × (Nat → Int32) × (Nat → Int32)) (kf : Int32 → Int32 → (Nat → Int32) → (Nat → Int32) → (Nat → Int32) → (Nat → Int32) → (Nat → Int32) → (Nat → Int32) → (Nat → Int32) → (Nat → Int32) → Option (Int32 × Int32 × Int32 × (Nat → Int32) × (Nat → Int32) × (Nat → Int32) × (Nat → Int32) × (Nat → Int32) × (Nat → Int32) × (Nat → Int32) × (Nat → Int32))) : Prop := ∀ (i_order : Int32) (i_next : Int32) (v_points : Nat → Int32) (v_owners : Nat → Int32) (v_takes : Nat → Int32) (v_bases : Nat → Int32) (v_ranked : Nat → Int32) (v_starts : Nat → Int32) (v_numbers : Nat → Int32) (v_walk : Nat → Int32), kf i_order i_next v_points v_owners v_takes v_bases v_ranked v_starts v_numbers v_walk = some res → ∀ (H : Heap) (locs : List Loc) (ls : Array Slot), lv_has ls 6 [(0, .ref a_this), (1, .ref a_p1), (2, .int l2), (3, .int l3)] → va_P D classes [(a_this, .inr (6, [.ref a_points, .ref o_cuts, .ref o_queue, .ref a_owners, .ref a_takes, .ref a_bases, .ref a_ranked, .ref a_starts, .ref a_numbers, .ref a_walk, .int i_order, .int i_next])), (a_points, .inl (cI, 12, .inl v_points)), (a_owners, .inl (cI, 64, .inl v_owners)), (a_takes, .inl (cI, 64, .inl v_takes)), (a_bases, .inl (cI, 64, .inl v_bases)), (a_ranked, .inl (cI, 64, .inl v_ranked)), (a_starts, .inl (cI, 12, .inl v_starts)), (a_numbers, .inl (cI, 12, .inl v_numbers)), (a_walk, .inl (cI, 64, .inl v_walk)), (a_p1, .inr (5, [.ref a_p1_words, .int i_p1_room, .int i_p1_used, .int i_p1_held, .int i_p1_many])), (a_p1_words, .inl (cL, n_p1_words, .inr (.inl v_p1_words)))] H → va_D A [(a_this, .inr (6, [.ref a_points, .ref o_cuts, .ref o_queue, .ref a_owners, .ref a_takes, .ref a_bases, .ref a_ranked, .ref a_starts, .ref a_numbers, .ref a_walk, .int i_order, .int i_next])), (a_points, .inl (cI, 12, .inl v_points)), (a_owners, .inl (cI, 64, .inl v_owners)), (a_takes, .inl (cI, 64, .inl v_takes)), (a_bases, .inl (cI, 64, .inl v_bases)), (a_ranked, .inl (cI, 64, .inl v_ranked)), (a_starts, .inl (cI, 12, .inl v_starts)), (a_numbers, .inl (cI, 12, .inl v_numbers)), (a_walk, .inl (cI, 64, .inl v_walk)), (a_p1, .inr (5, [.ref a_p1_words, .int i_p1_room, .int i_p1_used, .int i_p1_held, .int i_p1_many])), (a_p1_words, .inl (cL, n_p1_words, .inr (.inl v_p1_words)))] → va_S A s.heap H locs → W p l e R_Share_take s m args below meth c H locs 0 0 Q (F0 m 0 ls [])
set_option maxHeartbeats 4000000 in
set_option maxRecDepth 100000 in
theorem w_Share_take_b113 {p : Program} {l : Launch} {e : Env} {s : State} {m : MethodId} {args : Array Value} {below : List Frame} {meth : Method} {c : Code} {Q : State → Prop} {A : Nat → Prop} {D : va_G} {cI cL cZ : ClassId} {a_this : Nat} {a_points : Nat} {a_owners : Nat} {a_takes : Nat} {a_bases : Nat} {a_ranked : Nat} {a_starts : Nat} {a_numbers : Nat} {a_walk : Nat} {a_p1 : Nat} {a_p1_words : Nat} {o_cuts : Nat} {o_queue : Nat} {i_p1_room : Int32} {i_p1_used : Int32} {i_p1_held : Int32} {i_p1_many : Int32} {n_p1_words : Nat} {v_p1_words : Nat → Int64} {l2 : Int32} {l3 : Int32} {N : Nat} {res : Int32 × Int32 × Int32 × (Nat → Int32) × (Nat → Int32) × (Nat → Int32) × (Nat → Int32) × (Nat → Int32) × (Nat → Int32) × (Nat → Int32) × (Nat → Int32)} {k50 : Int32 → Int32 → Int32 → Int32 → (Nat → Int32) → (Nat → Int32) → (Nat → Int32) → (Nat → Int32) → (Nat → Int32) → (Nat → Int32) → (Nat → Int32) → (Nat → Int32) → Option (Int32 × Int32 × Int32 × (Nat → Int32) × (Nat → Int32) × (Nat → Int32) × (Nat → Int32) × (Nat → Int32) × (Nat → Int32) × (Nat → Int32) × (Nat → Int32))} (C : Cx p s m args c b_Share_take 6 "PrefixMill$Share" D [(cI, .int), (cL, .long), (cZ, .boolean)] A) (hret : E_Share_take p l e s m args below meth c Q A D cI cL cZ a_this a_points a_owners a_takes a_bases a_ranked a_starts a_numbers a_walk a_p1 a_p1_words o_cuts o_queue i_p1_room i_p1_used i_p1_held i_p1_many n_p1_words v_p1_words l2 l3 res) (hk50 : I_Share_take_b50 p l e s m args below meth c Q A D cI cL cZ a_this a_points a_owners a_takes a_bases a_ranked a_starts a_numbers a_walk a_p1 a_p1_words o_cuts o_queue i_p1_room i_p1_used i_p1_held i_p1_many n_p1_words v_p1_words l2 l3 res k50) : I_Share_take_b113 p l e s m args below meth c Q A D cI cL cZ a_this a_points a_owners a_takes a_bases a_ranked a_starts a_numbers a_walk a_p1 a_p1_words o_cuts o_queue i_p1_room i_p1_used i_p1_held i_p1_many n_p1_words v_p1_words l2 l3 res (f_Share_take_b113 N i_p1_used n_p1_words v_p1_words l2 l3 k50) := by
  obtain ⟨hx, hb, hml, hown, hts, hK, hA⟩ := C
  intro l4 s0 i_order i_next v_points v_owners v_takes v_bases v_ranked v_starts v_numbers v_walk h H locs ls hl hP hD hS
  unfold f_Share_take_b113 at h
  refine lv_istore (lv' := [(5, .int s0), (0, .ref a_this), (1, .ref a_p1), (3, .int l3), (4, .int l4)]) hx hb d_Share_take_113 hl (by decide) rfl (fun ls hl => ?_)
  refine lv_goto (tgt := 50) hx hb d_Share_take_115 (by decide) ?_
  exact hk50 _ _ _ _ _ _ _ _ _ _ _ _ h H locs ls (lv_sub hl [1, 2, 3, 4, 0] rfl) hP hD hS
set_option maxHeartbeats 4000000 in
set_option maxRecDepth 100000 in
theorem w_Share_take_b134 {p : Program} {l : Launch} {e : Env} {s : State} {m : MethodId} {args : Array Value} {below : List Frame} {meth : Method} {c : Code} {Q : State → Prop} {A : Nat → Prop} {D : va_G} {cI cL cZ : ClassId} {a_this : Nat} {a_points : Nat} {a_owners : Nat} {a_takes : Nat} {a_bases : Nat} {a_ranked : Nat} {a_starts : Nat} {a_numbers : Nat} {a_walk : Nat} {a_p1 : Nat} {a_p1_words : Nat} {o_cuts : Nat} {o_queue : Nat} {i_p1_room : Int32} {i_p1_used : Int32} {i_p1_held : Int32} {i_p1_many : Int32} {n_p1_words : Nat} {v_p1_words : Nat → Int64} {l2 : Int32} {l3 : Int32} {N : Nat} {res : Int32 × Int32 × Int32 × (Nat → Int32) × (Nat → Int32) × (Nat → Int32) × (Nat → Int32) × (Nat → Int32) × (Nat → Int32) × (Nat → Int32) × (Nat → Int32)}  (C : Cx p s m args c b_Share_take 6 "PrefixMill$Share" D [(cI, .int), (cL, .long), (cZ, .boolean)] A) (hret : E_Share_take p l e s m args below meth c Q A D cI cL cZ a_this a_points a_owners a_takes a_bases a_ranked a_starts a_numbers a_walk a_p1 a_p1_words o_cuts o_queue i_p1_room i_p1_used i_p1_held i_p1_many n_p1_words v_p1_words l2 l3 res)  : I_Share_take_b134 p l e s m args below meth c Q A D cI cL cZ a_this a_points a_owners a_takes a_bases a_ranked a_starts a_numbers a_walk a_p1 a_p1_words o_cuts o_queue i_p1_room i_p1_used i_p1_held i_p1_many n_p1_words v_p1_words l2 l3 res (f_Share_take_b134 N i_p1_used n_p1_words v_p1_words l2 l3 ) := by
  obtain ⟨hx, hb, hml, hown, hts, hK, hA⟩ := C
  intro i_order i_next v_points v_owners v_takes v_bases v_ranked v_starts v_numbers v_walk h H locs ls hl hP hD hS
  unfold f_Share_take_b134 at h
  refine lv_iconst (v := (-1)) hx hb d_Share_take_134 (by decide) ?_
  exact hret _ _ _ _ (-1) i_order i_next v_points v_owners v_takes v_bases v_ranked v_starts v_numbers v_walk h d_Share_take_135 hP hD hS
set_option maxHeartbeats 4000000 in
set_option maxRecDepth 100000 in
theorem w_Share_take_b118 {p : Program} {l : Launch} {e : Env} {s : State} {m : MethodId} {args : Array Value} {below : List Frame} {meth : Method} {c : Code} {Q : State → Prop} {A : Nat → Prop} {D : va_G} {cI cL cZ : ClassId} {a_this : Nat} {a_points : Nat} {a_owners : Nat} {a_takes : Nat} {a_bases : Nat} {a_ranked : Nat} {a_starts : Nat} {a_numbers : Nat} {a_walk : Nat} {a_p1 : Nat} {a_p1_words : Nat} {o_cuts : Nat} {o_queue : Nat} {i_p1_room : Int32} {i_p1_used : Int32} {i_p1_held : Int32} {i_p1_many : Int32} {n_p1_words : Nat} {v_p1_words : Nat → Int64} {l2 : Int32} {l3 : Int32} {N : Nat} {res : Int32 × Int32 × Int32 × (Nat → Int32) × (Nat → Int32) × (Nat → Int32) × (Nat → Int32) × (Nat → Int32) × (Nat → Int32) × (Nat → Int32) × (Nat → Int32)}  (C : Cx p s m args c b_Share_take 6 "PrefixMill$Share" D [(cI, .int), (cL, .long), (cZ, .boolean)] A) (hret : E_Share_take p l e s m args below meth c Q A D cI cL cZ a_this a_points a_owners a_takes a_bases a_ranked a_starts a_numbers a_walk a_p1 a_p1_words o_cuts o_queue i_p1_room i_p1_used i_p1_held i_p1_many n_p1_words v_p1_words l2 l3 res)  : I_Share_take_b118 p l e s m args below meth c Q A D cI cL cZ a_this a_points a_owners a_takes a_bases a_ranked a_starts a_numbers a_walk a_p1 a_p1_words o_cuts o_queue i_p1_room i_p1_used i_p1_held i_p1_many n_p1_words v_p1_words l2 l3 res (f_Share_take_b118 N i_p1_used n_p1_words v_p1_words l2 l3 ) := by
  obtain ⟨hx, hb, hml, hown, hts, hK, hA⟩ := C
  intro l4 i_order i_next v_points v_owners v_takes v_bases v_ranked v_starts v_numbers v_walk h H locs ls hl hP hD hS
  unfold f_Share_take_b118 at h
  refine lv_iload hx hb d_Share_take_118 (lv_at hl 2 rfl) ?_
  refine lv_if_gt (tgt := 134) hx hb d_Share_take_120 (by decide) (fun c_1 => ?_) (fun c_1 => ?_)
  · replace h := if_t h c_1
    exact w_Share_take_b134 ⟨hx, hb, hml, hown, hts, hK, hA⟩ hret  _ _ _ _ _ _ _ _ _ _ h H locs ls (lv_sub hl [] rfl) hP hD hS
  · replace h := if_f h c_1
    refine lv_aload_n hx hb d_Share_take_123 rfl (lv_at hl 0 rfl) ?_
    refine va_get hx hb hts in_Share hown hK hP 0 rfl rfl 11 (by decide) (hts _ m_228) (fun _ h9 => h9) rfl d_Share_take_124 ?_
    refine lv_bipush (v := 8) hx hb d_Share_take_127 (by decide) ?_
    refine lv_iload_n hx hb d_Share_take_129 rfl (lv_at hl 1 rfl) ?_
    refine lv_imul hx hb d_Share_take_130 ?_
    refine lv_icmp_le (tgt := 136) hx hb d_Share_take_131 (by decide) (fun c_2 => ?_) (fun c_2 => ?_)
    · replace h := if_t h c_2
      refine lv_aload_n hx hb d_Share_take_136 rfl (lv_at hl 0 rfl) ?_
      obtain ⟨v_owners_3, v_takes_4, v_bases_5, v_ranked_6, v_starts_7, v_numbers_8, v_walk_9, hc_10, h⟩ := bd7_s h
      have hPc := hP.sub (ws' := [(a_this, .inr (6, [.ref a_points, .ref o_cuts, .ref o_queue, .ref a_owners, .ref a_takes, .ref a_bases, .ref a_ranked, .ref a_starts, .ref a_numbers, .ref a_walk, .int i_order, .int i_next])), (a_points, .inl (cI, 12, .inl v_points)), (a_owners, .inl (cI, 64, .inl v_owners)), (a_takes, .inl (cI, 64, .inl v_takes)), (a_bases, .inl (cI, 64, .inl v_bases)), (a_ranked, .inl (cI, 64, .inl v_ranked)), (a_starts, .inl (cI, 12, .inl v_starts)), (a_numbers, .inl (cI, 12, .inl v_numbers)), (a_walk, .inl (cI, 64, .inl v_walk))]) [0, 1, 2, 3, 4, 5, 6, 7, 8] rfl
      have hDc := hD.sub (ws' := [(a_this, .inr (6, [.ref a_points, .ref o_cuts, .ref o_queue, .ref a_owners, .ref a_takes, .ref a_bases, .ref a_ranked, .ref a_starts, .ref a_numbers, .ref a_walk, .int i_order, .int i_next])), (a_points, .inl (cI, 12, .inl v_points)), (a_owners, .inl (cI, 64, .inl v_owners)), (a_takes, .inl (cI, 64, .inl v_takes)), (a_bases, .inl (cI, 64, .inl v_bases)), (a_ranked, .inl (cI, 64, .inl v_ranked)), (a_starts, .inl (cI, 12, .inl v_starts)), (a_numbers, .inl (cI, 12, .inl v_numbers)), (a_walk, .inl (cI, 64, .inl v_walk))]) [0, 1, 2, 3, 4, 5, 6, 7, 8] (by decide) rfl
      have hFc := va_free (wc := [(a_this, .inr (6, [.ref a_points, .ref o_cuts, .ref o_queue, .ref a_owners, .ref a_takes, .ref a_bases, .ref a_ranked, .ref a_starts, .ref a_numbers, .ref a_walk, .int i_order, .int i_next])), (a_points, .inl (cI, 12, .inl v_points)), (a_owners, .inl (cI, 64, .inl v_owners)), (a_takes, .inl (cI, 64, .inl v_takes)), (a_bases, .inl (cI, 64, .inl v_bases)), (a_ranked, .inl (cI, 64, .inl v_ranked)), (a_starts, .inl (cI, 12, .inl v_starts)), (a_numbers, .inl (cI, 12, .inl v_numbers)), (a_walk, .inl (cI, 64, .inl v_walk))]) hD hS hA [0, 1, 2, 3, 4, 5, 6, 7, 8] rfl
      refine va_callv (va_runV (As := []) (rest := []) ⟨hx, hb, hml, hown, hts⟩ (c_Share_layOut l D cI cL cZ H.size N a_this a_points a_owners a_takes a_bases a_ranked a_starts a_numbers a_walk o_cuts o_queue i_order i_next v_points v_owners v_takes v_bases v_ranked v_starts v_numbers v_walk v_owners_3 v_takes_4 v_bases_5 v_ranked_6 v_starts_7 v_numbers_8 v_walk_9 hc_10) ⟨(my_cb 0 hts m_553 rfl rfl (hts _ m_72) (hts _ m_550) (by decide +kernel) ⟨Nat.le_of_ble_eq_true rfl, Nat.le_of_ble_eq_true rfl⟩), hts _ m_552, hts _ m_14⟩ ⟨fun a U g mk q => by obtain ⟨q0, q1, qP, qK, qD⟩ := q; exact ⟨q0, q1, qP, va_K.moved (u := U) (U := U.calling g mk a) (Vm.Alike.refl U.vm) qK, qD⟩, va_recv hK hPc (ci := 6) (q0 := 0) rfl rfl, fun U hU hW => ⟨rfl, by rw [hU], by rw [hU]; exact hPc, va_K.moved hW.alike hK, hDc.weaken (fun _ _ _ _ => trivial)⟩⟩ rfl rfl hl.1 rfl (lv_room (Nat.le_of_ble_eq_true rfl)) d_Share_take_137 ⟨Nat.zero_le _, Nat.zero_le _⟩) hS (fun q _ h => hFc q h) hFc (fun u t H1 locs ht hvm hw hB hz1 hk1 hS => ?_)
      obtain ⟨hP1, hK1, hD1⟩ := hB
      rw [ht] at hP1
      obtain ⟨hP, hD⟩ := va_join (wr := [(a_p1, .inr (5, [.ref a_p1_words, .int i_p1_room, .int i_p1_used, .int i_p1_held, .int i_p1_many])), (a_p1_words, .inl (cL, n_p1_words, .inr (.inl v_p1_words)))]) (w1 := [(a_this, .inr (6, [.ref a_points, .ref o_cuts, .ref o_queue, .ref a_owners, .ref a_takes, .ref a_bases, .ref a_ranked, .ref a_starts, .ref a_numbers, .ref a_walk, .int i_order, .int i_next])), (a_points, .inl (cI, 12, .inl v_points)), (a_owners, .inl (cI, 64, .inl v_owners_3)), (a_takes, .inl (cI, 64, .inl v_takes_4)), (a_bases, .inl (cI, 64, .inl v_bases_5)), (a_ranked, .inl (cI, 64, .inl v_ranked_6)), (a_starts, .inl (cI, 12, .inl v_starts_7)), (a_numbers, .inl (cI, 12, .inl v_numbers_8)), (a_walk, .inl (cI, 64, .inl v_walk_9))]) hP hD [0, 1, 2, 3, 4, 5, 6, 7, 8] [9, 10] rfl rfl (by decide) (by decide) hk1 hFc hP1 hD1
      clear hPc hDc hFc hk1 hP1 hD1 hK1
      generalize H1 = H at hP hS ⊢
      have hP : va_P D classes [(a_this, .inr (6, [.ref a_points, .ref o_cuts, .ref o_queue, .ref a_owners, .ref a_takes, .ref a_bases, .ref a_ranked, .ref a_starts, .ref a_numbers, .ref a_walk, .int i_order, .int i_next])), (a_points, .inl (cI, 12, .inl v_points)), (a_owners, .inl (cI, 64, .inl v_owners_3)), (a_takes, .inl (cI, 64, .inl v_takes_4)), (a_bases, .inl (cI, 64, .inl v_bases_5)), (a_ranked, .inl (cI, 64, .inl v_ranked_6)), (a_starts, .inl (cI, 12, .inl v_starts_7)), (a_numbers, .inl (cI, 12, .inl v_numbers_8)), (a_walk, .inl (cI, 64, .inl v_walk_9)), (a_p1, .inr (5, [.ref a_p1_words, .int i_p1_room, .int i_p1_used, .int i_p1_held, .int i_p1_many])), (a_p1_words, .inl (cL, n_p1_words, .inr (.inl v_p1_words)))] H := hP.sub [2, 3, 4, 5, 6, 7, 8, 9, 10, 0, 1] rfl
      have hD : va_D A [(a_this, .inr (6, [.ref a_points, .ref o_cuts, .ref o_queue, .ref a_owners, .ref a_takes, .ref a_bases, .ref a_ranked, .ref a_starts, .ref a_numbers, .ref a_walk, .int i_order, .int i_next])), (a_points, .inl (cI, 12, .inl v_points)), (a_owners, .inl (cI, 64, .inl v_owners_3)), (a_takes, .inl (cI, 64, .inl v_takes_4)), (a_bases, .inl (cI, 64, .inl v_bases_5)), (a_ranked, .inl (cI, 64, .inl v_ranked_6)), (a_starts, .inl (cI, 12, .inl v_starts_7)), (a_numbers, .inl (cI, 12, .inl v_numbers_8)), (a_walk, .inl (cI, 64, .inl v_walk_9)), (a_p1, .inr (5, [.ref a_p1_words, .int i_p1_room, .int i_p1_used, .int i_p1_held, .int i_p1_many])), (a_p1_words, .inl (cL, n_p1_words, .inr (.inl v_p1_words)))] := hD.sub [2, 3, 4, 5, 6, 7, 8, 9, 10, 0, 1] (by decide) rfl
      refine lv_aload_n hx hb d_Share_take_140 rfl (lv_at hl 0 rfl) ?_
      refine va_get hx hb hts in_Share hown hK hP 0 rfl rfl 11 (by decide) (hts _ m_228) (fun _ h9 => h9) rfl d_Share_take_141 ?_
      refine lv_bipush (v := 7) hx hb d_Share_take_144 (by decide) ?_
      refine lv_iadd hx hb d_Share_take_146 ?_
      refine lv_bipush (v := 8) hx hb d_Share_take_147 (by decide) ?_
      refine lv_idiv hx hb d_Share_take_149 (by decide) ?_
      exact hret _ _ _ _ ((i_next + 7) / 8) i_order i_next v_points v_owners_3 v_takes_4 v_bases_5 v_ranked_6 v_starts_7 v_numbers_8 v_walk_9 h d_Share_take_150 hP hD hS
    · replace h := if_f h c_2
      exact w_Share_take_b134 ⟨hx, hb, hml, hown, hts, hK, hA⟩ hret  _ _ _ _ _ _ _ _ _ _ h H locs ls (lv_sub hl [] rfl) hP hD hS
set_option maxHeartbeats 4000000 in
set_option maxRecDepth 100000 in
theorem w_Share_take_b50 {p : Program} {l : Launch} {e : Env} {s : State} {m : MethodId} {args : Array Value} {below : List Frame} {meth : Method} {c : Code} {Q : State → Prop} {A : Nat → Prop} {D : va_G} {cI cL cZ : ClassId} {a_this : Nat} {a_points : Nat} {a_owners : Nat} {a_takes : Nat} {a_bases : Nat} {a_ranked : Nat} {a_starts : Nat} {a_numbers : Nat} {a_walk : Nat} {a_p1 : Nat} {a_p1_words : Nat} {o_cuts : Nat} {o_queue : Nat} {i_p1_room : Int32} {i_p1_used : Int32} {i_p1_held : Int32} {i_p1_many : Int32} {n_p1_words : Nat} {v_p1_words : Nat → Int64} {l2 : Int32} {l3 : Int32} {N : Nat} {res : Int32 × Int32 × Int32 × (Nat → Int32) × (Nat → Int32) × (Nat → Int32) × (Nat → Int32) × (Nat → Int32) × (Nat → Int32) × (Nat → Int32) × (Nat → Int32)}  (C : Cx p s m args c b_Share_take 6 "PrefixMill$Share" D [(cI, .int), (cL, .long), (cZ, .boolean)] A) (hret : E_Share_take p l e s m args below meth c Q A D cI cL cZ a_this a_points a_owners a_takes a_bases a_ranked a_starts a_numbers a_walk a_p1 a_p1_words o_cuts o_queue i_p1_room i_p1_used i_p1_held i_p1_many n_p1_words v_p1_words l2 l3 res)  : ∀ z : Nat, I_Share_take_b50 p l e s m args below meth c Q A D cI cL cZ a_this a_points a_owners a_takes a_bases a_ranked a_starts a_numbers a_walk a_p1 a_p1_words o_cuts o_queue i_p1_room i_p1_used i_p1_held i_p1_many n_p1_words v_p1_words l2 l3 res (f_Share_take_b50 N i_p1_used n_p1_words v_p1_words l2 l3  z) := by
  obtain ⟨hx, hb, hml, hown, hts, hK, hA⟩ := C
  intro z
  induction z with
  | zero => intro l4 l5 i_order i_next v_points v_owners v_takes v_bases v_ranked v_starts v_numbers v_walk h; cases h
  | succ z ih =>
    intro l4 l5 i_order i_next v_points v_owners v_takes v_bases v_ranked v_starts v_numbers v_walk h H locs ls hl hP hD hS
    refine lv_iload hx hb d_Share_take_50 (lv_at hl 4 rfl) ?_
    refine lv_bipush (v := 12) hx hb d_Share_take_52 (by decide) ?_
    refine lv_icmp_ge (tgt := 118) hx hb d_Share_take_54 (by decide) (fun c_1 => ?_) (fun c_1 => ?_)
    · replace h := if_t h c_1
      exact w_Share_take_b118 ⟨hx, hb, hml, hown, hts, hK, hA⟩ hret  _ _ _ _ _ _ _ _ _ _ _ h H locs ls (lv_sub hl [0, 2, 3] rfl) hP hD hS
    · replace h := if_f h c_1
      refine lv_iload hx hb d_Share_take_57 (lv_at hl 3 rfl) ?_
      refine lv_if_le (tgt := 118) hx hb d_Share_take_59 (by decide) (fun c_2 => ?_) (fun c_2 => ?_)
      · replace h := if_t h c_2
        exact w_Share_take_b118 ⟨hx, hb, hml, hown, hts, hK, hA⟩ hret  _ _ _ _ _ _ _ _ _ _ _ h H locs ls (lv_sub hl [0, 2, 3] rfl) hP hD hS
      · replace h := if_f h c_2
        refine lv_aload_n hx hb d_Share_take_62 rfl (lv_at hl 0 rfl) ?_
        refine va_get hx hb hts in_Share hown hK hP 0 rfl rfl 0 (by decide) (hts _ m_211) (fun _ h9 => h9) rfl d_Share_take_63 ?_
        refine lv_iload hx hb d_Share_take_66 (lv_at hl 4 rfl) ?_
        refine lv_aload_n hx hb d_Share_take_68 rfl (lv_at hl 0 rfl) ?_
        refine lv_aload_n hx hb d_Share_take_69 rfl (lv_at hl 1 rfl) ?_
        refine lv_iload hx hb d_Share_take_70 (lv_at hl 3 rfl) ?_
        obtain ⟨r_3, i_next_4, hc_5, h⟩ := bd2_s h
        have hPc := hP.sub (ws' := [(a_this, .inr (6, [.ref a_points, .ref o_cuts, .ref o_queue, .ref a_owners, .ref a_takes, .ref a_bases, .ref a_ranked, .ref a_starts, .ref a_numbers, .ref a_walk, .int i_order, .int i_next])), (a_p1, .inr (5, [.ref a_p1_words, .int i_p1_room, .int i_p1_used, .int i_p1_held, .int i_p1_many])), (a_p1_words, .inl (cL, n_p1_words, .inr (.inl v_p1_words)))]) [0, 9, 10] rfl
        have hDc := hD.sub (ws' := [(a_this, .inr (6, [.ref a_points, .ref o_cuts, .ref o_queue, .ref a_owners, .ref a_takes, .ref a_bases, .ref a_ranked, .ref a_starts, .ref a_numbers, .ref a_walk, .int i_order, .int i_next])), (a_p1, .inr (5, [.ref a_p1_words, .int i_p1_room, .int i_p1_used, .int i_p1_held, .int i_p1_many])), (a_p1_words, .inl (cL, n_p1_words, .inr (.inl v_p1_words)))]) [0, 9, 10] (by decide) rfl
        have hFc := va_free (wc := [(a_this, .inr (6, [.ref a_points, .ref o_cuts, .ref o_queue, .ref a_owners, .ref a_takes, .ref a_bases, .ref a_ranked, .ref a_starts, .ref a_numbers, .ref a_walk, .int i_order, .int i_next])), (a_p1, .inr (5, [.ref a_p1_words, .int i_p1_room, .int i_p1_used, .int i_p1_held, .int i_p1_many])), (a_p1_words, .inl (cL, n_p1_words, .inr (.inl v_p1_words)))]) hD hS hA [0, 9, 10] rfl
        refine va_calli (va_runV (As := [.ref a_p1, .int l4]) (rest := [.int l5, .ref a_points]) ⟨hx, hb, hml, hown, hts⟩ (c_Share_takePoints l D cI cL cZ H.size N a_this a_p1 a_p1_words a_points o_cuts o_queue a_owners a_takes a_bases a_ranked a_starts a_numbers a_walk i_order i_next i_p1_room i_p1_used i_p1_held i_p1_many n_p1_words v_p1_words l4 r_3 i_next_4 hc_5) ⟨(my_cb 2 hts m_645 rfl rfl (hts _ m_72) (hts _ m_642) (by decide +kernel) ⟨Nat.le_of_ble_eq_true rfl, Nat.le_of_ble_eq_true rfl⟩), hts _ m_644, hts _ m_22⟩ ⟨fun a U g mk q => by obtain ⟨q0, q1, qP, qK, qD⟩ := q; exact ⟨q0, q1, qP, va_K.moved (u := U) (U := U.calling g mk a) (Vm.Alike.refl U.vm) qK, qD⟩, va_recv hK hPc (ci := 6) (q0 := 0) rfl rfl, fun U hU hW => ⟨rfl, by rw [hU], by rw [hU]; exact hPc, va_K.moved hW.alike hK, hDc.weaken (fun _ _ _ _ => trivial)⟩⟩ rfl rfl hl.1 rfl (lv_room (Nat.le_of_ble_eq_true rfl)) d_Share_take_72 ⟨Nat.zero_le _, Nat.zero_le _⟩) hS (fun q _ h => hFc q h) hFc (fun rr u t H1 locs ht hvm hw hB hz1 hk1 hS => ?_)
        obtain ⟨hP1, hK1, hD1⟩ := hB
        rw [ht] at hP1
        subst hw
        obtain ⟨hP, hD⟩ := va_join (wr := [(a_points, .inl (cI, 12, .inl v_points)), (a_owners, .inl (cI, 64, .inl v_owners)), (a_takes, .inl (cI, 64, .inl v_takes)), (a_bases, .inl (cI, 64, .inl v_bases)), (a_ranked, .inl (cI, 64, .inl v_ranked)), (a_starts, .inl (cI, 12, .inl v_starts)), (a_numbers, .inl (cI, 12, .inl v_numbers)), (a_walk, .inl (cI, 64, .inl v_walk))]) (w1 := [(a_this, .inr (6, [.ref a_points, .ref o_cuts, .ref o_queue, .ref a_owners, .ref a_takes, .ref a_bases, .ref a_ranked, .ref a_starts, .ref a_numbers, .ref a_walk, .int i_order, .int i_next_4])), (a_p1, .inr (5, [.ref a_p1_words, .int i_p1_room, .int i_p1_used, .int i_p1_held, .int i_p1_many])), (a_p1_words, .inl (cL, n_p1_words, .inr (.inl v_p1_words)))]) hP hD [0, 9, 10] [1, 2, 3, 4, 5, 6, 7, 8] rfl rfl (by decide) (by decide) hk1 hFc hP1 hD1
        clear hPc hDc hFc hk1 hP1 hD1 hK1
        generalize H1 = H at hP hS ⊢
        have hP : va_P D classes [(a_this, .inr (6, [.ref a_points, .ref o_cuts, .ref o_queue, .ref a_owners, .ref a_takes, .ref a_bases, .ref a_ranked, .ref a_starts, .ref a_numbers, .ref a_walk, .int i_order, .int i_next_4])), (a_points, .inl (cI, 12, .inl v_points)), (a_owners, .inl (cI, 64, .inl v_owners)), (a_takes, .inl (cI, 64, .inl v_takes)), (a_bases, .inl (cI, 64, .inl v_bases)), (a_ranked, .inl (cI, 64, .inl v_ranked)), (a_starts, .inl (cI, 12, .inl v_starts)), (a_numbers, .inl (cI, 12, .inl v_numbers)), (a_walk, .inl (cI, 64, .inl v_walk)), (a_p1, .inr (5, [.ref a_p1_words, .int i_p1_room, .int i_p1_used, .int i_p1_held, .int i_p1_many])), (a_p1_words, .inl (cL, n_p1_words, .inr (.inl v_p1_words)))] H := hP.sub [8, 0, 1, 2, 3, 4, 5, 6, 7, 9, 10] rfl
        have hD : va_D A [(a_this, .inr (6, [.ref a_points, .ref o_cuts, .ref o_queue, .ref a_owners, .ref a_takes, .ref a_bases, .ref a_ranked, .ref a_starts, .ref a_numbers, .ref a_walk, .int i_order, .int i_next_4])), (a_points, .inl (cI, 12, .inl v_points)), (a_owners, .inl (cI, 64, .inl v_owners)), (a_takes, .inl (cI, 64, .inl v_takes)), (a_bases, .inl (cI, 64, .inl v_bases)), (a_ranked, .inl (cI, 64, .inl v_ranked)), (a_starts, .inl (cI, 12, .inl v_starts)), (a_numbers, .inl (cI, 12, .inl v_numbers)), (a_walk, .inl (cI, 64, .inl v_walk)), (a_p1, .inr (5, [.ref a_p1_words, .int i_p1_room, .int i_p1_used, .int i_p1_held, .int i_p1_many])), (a_p1_words, .inl (cL, n_p1_words, .inr (.inl v_p1_words)))] := hD.sub [8, 0, 1, 2, 3, 4, 5, 6, 7, 9, 10] (by decide) rfl
        obtain ⟨g_6, h⟩ := ck_s h
        refine va_iast hx hb hK hP hD hS 1 0 rfl rfl (inb_s g_6) d_Share_take_75 (fun H locs hP hD hS => ?_)
        obtain ⟨v_points_7, ev_points_7⟩ : ∃ y, y = (upd v_points (Int32.toNatClampNeg l5) r_3) := ⟨_, rfl⟩
        replace h := nm_s h ev_points_7
        have hP : va_P D classes [(a_this, .inr (6, [.ref a_points, .ref o_cuts, .ref o_queue, .ref a_owners, .ref a_takes, .ref a_bases, .ref a_ranked, .ref a_starts, .ref a_numbers, .ref a_walk, .int i_order, .int i_next_4])), (a_points, .inl (cI, 12, .inl v_points_7)), (a_owners, .inl (cI, 64, .inl v_owners)), (a_takes, .inl (cI, 64, .inl v_takes)), (a_bases, .inl (cI, 64, .inl v_bases)), (a_ranked, .inl (cI, 64, .inl v_ranked)), (a_starts, .inl (cI, 12, .inl v_starts)), (a_numbers, .inl (cI, 12, .inl v_numbers)), (a_walk, .inl (cI, 64, .inl v_walk)), (a_p1, .inr (5, [.ref a_p1_words, .int i_p1_room, .int i_p1_used, .int i_p1_held, .int i_p1_many])), (a_p1_words, .inl (cL, n_p1_words, .inr (.inl v_p1_words)))] H := by rw [ev_points_7]; exact hP
        have hD : va_D A [(a_this, .inr (6, [.ref a_points, .ref o_cuts, .ref o_queue, .ref a_owners, .ref a_takes, .ref a_bases, .ref a_ranked, .ref a_starts, .ref a_numbers, .ref a_walk, .int i_order, .int i_next_4])), (a_points, .inl (cI, 12, .inl v_points_7)), (a_owners, .inl (cI, 64, .inl v_owners)), (a_takes, .inl (cI, 64, .inl v_takes)), (a_bases, .inl (cI, 64, .inl v_bases)), (a_ranked, .inl (cI, 64, .inl v_ranked)), (a_starts, .inl (cI, 12, .inl v_starts)), (a_numbers, .inl (cI, 12, .inl v_numbers)), (a_walk, .inl (cI, 64, .inl v_walk)), (a_p1, .inr (5, [.ref a_p1_words, .int i_p1_room, .int i_p1_used, .int i_p1_held, .int i_p1_many])), (a_p1_words, .inl (cL, n_p1_words, .inr (.inl v_p1_words)))] := by rw [ev_points_7]; exact hD
        refine lv_iload hx hb d_Share_take_76 (lv_at hl 3 rfl) ?_
        refine lv_aload_n hx hb d_Share_take_78 rfl (lv_at hl 0 rfl) ?_
        refine lv_iload hx hb d_Share_take_79 (lv_at hl 4 rfl) ?_
        obtain ⟨r_8, hc_9, h⟩ := bd1_s h
        have hPc := hP.sub (ws' := [(a_this, .inr (6, [.ref a_points, .ref o_cuts, .ref o_queue, .ref a_owners, .ref a_takes, .ref a_bases, .ref a_ranked, .ref a_starts, .ref a_numbers, .ref a_walk, .int i_order, .int i_next_4])), (a_points, .inl (cI, 12, .inl v_points_7))]) [0, 1] rfl
        have hDc := hD.sub (ws' := [(a_this, .inr (6, [.ref a_points, .ref o_cuts, .ref o_queue, .ref a_owners, .ref a_takes, .ref a_bases, .ref a_ranked, .ref a_starts, .ref a_numbers, .ref a_walk, .int i_order, .int i_next_4])), (a_points, .inl (cI, 12, .inl v_points_7))]) [0, 1] (by decide) rfl
        have hFc := va_free (wc := [(a_this, .inr (6, [.ref a_points, .ref o_cuts, .ref o_queue, .ref a_owners, .ref a_takes, .ref a_bases, .ref a_ranked, .ref a_starts, .ref a_numbers, .ref a_walk, .int i_order, .int i_next_4])), (a_points, .inl (cI, 12, .inl v_points_7))]) hD hS hA [0, 1] rfl
        refine va_calli (va_runV (As := [.int l5]) (rest := [.int l4]) ⟨hx, hb, hml, hown, hts⟩ (c_Share_massOf l D cI cL cZ H.size N a_this a_points o_cuts o_queue a_owners a_takes a_bases a_ranked a_starts a_numbers a_walk i_order i_next_4 v_points_7 l5 r_8 hc_9) ⟨(my_cb 1 hts m_534 rfl rfl (hts _ m_72) (hts _ m_531) (by decide +kernel) ⟨Nat.le_of_ble_eq_true rfl, Nat.le_of_ble_eq_true rfl⟩), hts _ m_533, hts _ m_10⟩ ⟨fun a U g mk q => by obtain ⟨q0, q1, qP, qK, qD⟩ := q; exact ⟨q0, q1, qP, va_K.moved (u := U) (U := U.calling g mk a) (Vm.Alike.refl U.vm) qK, qD⟩, va_recv hK hPc (ci := 6) (q0 := 0) rfl rfl, fun U hU hW => ⟨rfl, by rw [hU], by rw [hU]; exact hPc, va_K.moved hW.alike hK, hDc.weaken (fun _ _ _ _ => trivial)⟩⟩ rfl rfl hl.1 rfl (lv_room (Nat.le_of_ble_eq_true rfl)) d_Share_take_81 ⟨Nat.zero_le _, Nat.zero_le _⟩) hS (fun q _ h => hFc q h) hFc (fun rr u t H1 locs ht hvm hw hB hz1 hk1 hS => ?_)
        obtain ⟨hP1, hK1, hD1⟩ := hB
        rw [ht] at hP1
        subst hw
        obtain ⟨hP, hD⟩ := va_join (wr := [(a_owners, .inl (cI, 64, .inl v_owners)), (a_takes, .inl (cI, 64, .inl v_takes)), (a_bases, .inl (cI, 64, .inl v_bases)), (a_ranked, .inl (cI, 64, .inl v_ranked)), (a_starts, .inl (cI, 12, .inl v_starts)), (a_numbers, .inl (cI, 12, .inl v_numbers)), (a_walk, .inl (cI, 64, .inl v_walk)), (a_p1, .inr (5, [.ref a_p1_words, .int i_p1_room, .int i_p1_used, .int i_p1_held, .int i_p1_many])), (a_p1_words, .inl (cL, n_p1_words, .inr (.inl v_p1_words)))]) (w1 := [(a_this, .inr (6, [.ref a_points, .ref o_cuts, .ref o_queue, .ref a_owners, .ref a_takes, .ref a_bases, .ref a_ranked, .ref a_starts, .ref a_numbers, .ref a_walk, .int i_order, .int i_next_4])), (a_points, .inl (cI, 12, .inl v_points_7))]) hP hD [0, 1] [2, 3, 4, 5, 6, 7, 8, 9, 10] rfl rfl (by decide) (by decide) hk1 hFc hP1 hD1
        clear hPc hDc hFc hk1 hP1 hD1 hK1
        generalize H1 = H at hP hS ⊢
        have hP : va_P D classes [(a_this, .inr (6, [.ref a_points, .ref o_cuts, .ref o_queue, .ref a_owners, .ref a_takes, .ref a_bases, .ref a_ranked, .ref a_starts, .ref a_numbers, .ref a_walk, .int i_order, .int i_next_4])), (a_points, .inl (cI, 12, .inl v_points_7)), (a_owners, .inl (cI, 64, .inl v_owners)), (a_takes, .inl (cI, 64, .inl v_takes)), (a_bases, .inl (cI, 64, .inl v_bases)), (a_ranked, .inl (cI, 64, .inl v_ranked)), (a_starts, .inl (cI, 12, .inl v_starts)), (a_numbers, .inl (cI, 12, .inl v_numbers)), (a_walk, .inl (cI, 64, .inl v_walk)), (a_p1, .inr (5, [.ref a_p1_words, .int i_p1_room, .int i_p1_used, .int i_p1_held, .int i_p1_many])), (a_p1_words, .inl (cL, n_p1_words, .inr (.inl v_p1_words)))] H := hP.sub [9, 10, 0, 1, 2, 3, 4, 5, 6, 7, 8] rfl
        have hD : va_D A [(a_this, .inr (6, [.ref a_points, .ref o_cuts, .ref o_queue, .ref a_owners, .ref a_takes, .ref a_bases, .ref a_ranked, .ref a_starts, .ref a_numbers, .ref a_walk, .int i_order, .int i_next_4])), (a_points, .inl (cI, 12, .inl v_points_7)), (a_owners, .inl (cI, 64, .inl v_owners)), (a_takes, .inl (cI, 64, .inl v_takes)), (a_bases, .inl (cI, 64, .inl v_bases)), (a_ranked, .inl (cI, 64, .inl v_ranked)), (a_starts, .inl (cI, 12, .inl v_starts)), (a_numbers, .inl (cI, 12, .inl v_numbers)), (a_walk, .inl (cI, 64, .inl v_walk)), (a_p1, .inr (5, [.ref a_p1_words, .int i_p1_room, .int i_p1_used, .int i_p1_held, .int i_p1_many])), (a_p1_words, .inl (cL, n_p1_words, .inr (.inl v_p1_words)))] := hD.sub [9, 10, 0, 1, 2, 3, 4, 5, 6, 7, 8] (by decide) rfl
        refine lv_isub hx hb d_Share_take_84 ?_
        refine lv_topi (fun l4_10 el4_10 => ?_)
        replace h := nm_s h el4_10
        refine lv_istore (lv' := [(4, .int l4_10), (0, .ref a_this), (1, .ref a_p1), (3, .int l3), (5, .int l5)]) hx hb d_Share_take_85 hl (by decide) rfl (fun ls hl => ?_)
        refine lv_aload_n hx hb d_Share_take_87 rfl (lv_at hl 1 rfl) ?_
        refine va_get hx hb hts in_Share hown hK hP 0 rfl rfl 0 (by decide) (hts _ m_211) (fun _ h9 => h9) rfl d_Share_take_88 ?_
        refine lv_iload hx hb d_Share_take_91 (lv_at hl 4 rfl) ?_
        obtain ⟨g_11, h⟩ := ck_s h
        refine va_iald hx hb hK hP 1 0 rfl rfl (inb_s g_11) d_Share_take_93 ?_
        refine lv_if_ne (tgt := 109) hx hb d_Share_take_94 (by decide) (fun c_12 => ?_) (fun c_12 => ?_)
        · replace h := if_f h c_12
          refine lv_iload hx hb d_Share_take_109 (lv_at hl 4 rfl) ?_
          refine lv_iconst (v := 1) hx hb d_Share_take_111 (by decide) ?_
          refine lv_iadd hx hb d_Share_take_112 ?_
          exact w_Share_take_b113 ⟨hx, hb, hml, hown, hts, hK, hA⟩ hret ih _ _ _ _ _ _ _ _ _ _ _ _ h H locs ls (lv_sub hl [1, 2, 3, 0] rfl) hP hD hS
        · replace h := if_t h c_12
          refine lv_aload_n hx hb d_Share_take_97 rfl (lv_at hl 1 rfl) ?_
          refine lv_aload_n hx hb d_Share_take_98 rfl (lv_at hl 2 rfl) ?_
          refine lv_iload hx hb d_Share_take_99 (lv_at hl 4 rfl) ?_
          refine lv_iconst (v := 1) hx hb d_Share_take_101 (by decide) ?_
          refine lv_iadd hx hb d_Share_take_102 ?_
          obtain ⟨r_13, i_next_14, hc_15, h⟩ := bd2_s h
          have hPc := hP.sub (ws' := [(a_this, .inr (6, [.ref a_points, .ref o_cuts, .ref o_queue, .ref a_owners, .ref a_takes, .ref a_bases, .ref a_ranked, .ref a_starts, .ref a_numbers, .ref a_walk, .int i_order, .int i_next_4])), (a_p1, .inr (5, [.ref a_p1_words, .int i_p1_room, .int i_p1_used, .int i_p1_held, .int i_p1_many])), (a_p1_words, .inl (cL, n_p1_words, .inr (.inl v_p1_words)))]) [0, 9, 10] rfl
          have hDc := hD.sub (ws' := [(a_this, .inr (6, [.ref a_points, .ref o_cuts, .ref o_queue, .ref a_owners, .ref a_takes, .ref a_bases, .ref a_ranked, .ref a_starts, .ref a_numbers, .ref a_walk, .int i_order, .int i_next_4])), (a_p1, .inr (5, [.ref a_p1_words, .int i_p1_room, .int i_p1_used, .int i_p1_held, .int i_p1_many])), (a_p1_words, .inl (cL, n_p1_words, .inr (.inl v_p1_words)))]) [0, 9, 10] (by decide) rfl
          have hFc := va_free (wc := [(a_this, .inr (6, [.ref a_points, .ref o_cuts, .ref o_queue, .ref a_owners, .ref a_takes, .ref a_bases, .ref a_ranked, .ref a_starts, .ref a_numbers, .ref a_walk, .int i_order, .int i_next_4])), (a_p1, .inr (5, [.ref a_p1_words, .int i_p1_room, .int i_p1_used, .int i_p1_held, .int i_p1_many])), (a_p1_words, .inl (cL, n_p1_words, .inr (.inl v_p1_words)))]) hD hS hA [0, 9, 10] rfl
          refine va_calli (va_runV (As := [.ref a_p1, .int (l5 + 1)]) (rest := []) ⟨hx, hb, hml, hown, hts⟩ (c_Share_takeNone l D cI cL cZ H.size N a_this a_p1 a_p1_words a_points o_cuts o_queue a_owners a_takes a_bases a_ranked a_starts a_numbers a_walk i_order i_next_4 i_p1_room i_p1_used i_p1_held i_p1_many n_p1_words v_p1_words (l5 + 1) r_13 i_next_14 hc_15) ⟨(my_cb 2 hts m_649 rfl rfl (hts _ m_72) (hts _ m_646) (by decide +kernel) ⟨Nat.le_of_ble_eq_true rfl, Nat.le_of_ble_eq_true rfl⟩), hts _ m_648, hts _ m_23⟩ ⟨fun a U g mk q => by obtain ⟨q0, q1, qP, qK, qD⟩ := q; exact ⟨q0, q1, qP, va_K.moved (u := U) (U := U.calling g mk a) (Vm.Alike.refl U.vm) qK, qD⟩, va_recv hK hPc (ci := 6) (q0 := 0) rfl rfl, fun U hU hW => ⟨rfl, by rw [hU], by rw [hU]; exact hPc, va_K.moved hW.alike hK, hDc.weaken (fun _ _ _ _ => trivial)⟩⟩ rfl rfl hl.1 rfl (lv_room (Nat.le_of_ble_eq_true rfl)) d_Share_take_103 ⟨Nat.zero_le _, Nat.zero_le _⟩) hS (fun q _ h => hFc q h) hFc (fun rr u t H1 locs ht hvm hw hB hz1 hk1 hS => ?_)
          obtain ⟨hP1, hK1, hD1⟩ := hB
          rw [ht] at hP1
          subst hw
          obtain ⟨hP, hD⟩ := va_join (wr := [(a_points, .inl (cI, 12, .inl v_points_7)), (a_owners, .inl (cI, 64, .inl v_owners)), (a_takes, .inl (cI, 64, .inl v_takes)), (a_bases, .inl (cI, 64, .inl v_bases)), (a_ranked, .inl (cI, 64, .inl v_ranked)), (a_starts, .inl (cI, 12, .inl v_starts)), (a_numbers, .inl (cI, 12, .inl v_numbers)), (a_walk, .inl (cI, 64, .inl v_walk))]) (w1 := [(a_this, .inr (6, [.ref a_points, .ref o_cuts, .ref o_queue, .ref a_owners, .ref a_takes, .ref a_bases, .ref a_ranked, .ref a_starts, .ref a_numbers, .ref a_walk, .int i_order, .int i_next_14])), (a_p1, .inr (5, [.ref a_p1_words, .int i_p1_room, .int i_p1_used, .int i_p1_held, .int i_p1_many])), (a_p1_words, .inl (cL, n_p1_words, .inr (.inl v_p1_words)))]) hP hD [0, 9, 10] [1, 2, 3, 4, 5, 6, 7, 8] rfl rfl (by decide) (by decide) hk1 hFc hP1 hD1
          clear hPc hDc hFc hk1 hP1 hD1 hK1
          generalize H1 = H at hP hS ⊢
          have hP : va_P D classes [(a_this, .inr (6, [.ref a_points, .ref o_cuts, .ref o_queue, .ref a_owners, .ref a_takes, .ref a_bases, .ref a_ranked, .ref a_starts, .ref a_numbers, .ref a_walk, .int i_order, .int i_next_14])), (a_points, .inl (cI, 12, .inl v_points_7)), (a_owners, .inl (cI, 64, .inl v_owners)), (a_takes, .inl (cI, 64, .inl v_takes)), (a_bases, .inl (cI, 64, .inl v_bases)), (a_ranked, .inl (cI, 64, .inl v_ranked)), (a_starts, .inl (cI, 12, .inl v_starts)), (a_numbers, .inl (cI, 12, .inl v_numbers)), (a_walk, .inl (cI, 64, .inl v_walk)), (a_p1, .inr (5, [.ref a_p1_words, .int i_p1_room, .int i_p1_used, .int i_p1_held, .int i_p1_many])), (a_p1_words, .inl (cL, n_p1_words, .inr (.inl v_p1_words)))] H := hP.sub [8, 0, 1, 2, 3, 4, 5, 6, 7, 9, 10] rfl
          have hD : va_D A [(a_this, .inr (6, [.ref a_points, .ref o_cuts, .ref o_queue, .ref a_owners, .ref a_takes, .ref a_bases, .ref a_ranked, .ref a_starts, .ref a_numbers, .ref a_walk, .int i_order, .int i_next_14])), (a_points, .inl (cI, 12, .inl v_points_7)), (a_owners, .inl (cI, 64, .inl v_owners)), (a_takes, .inl (cI, 64, .inl v_takes)), (a_bases, .inl (cI, 64, .inl v_bases)), (a_ranked, .inl (cI, 64, .inl v_ranked)), (a_starts, .inl (cI, 12, .inl v_starts)), (a_numbers, .inl (cI, 12, .inl v_numbers)), (a_walk, .inl (cI, 64, .inl v_walk)), (a_p1, .inr (5, [.ref a_p1_words, .int i_p1_room, .int i_p1_used, .int i_p1_held, .int i_p1_many])), (a_p1_words, .inl (cL, n_p1_words, .inr (.inl v_p1_words)))] := hD.sub [8, 0, 1, 2, 3, 4, 5, 6, 7, 9, 10] (by decide) rfl
          refine lv_goto (tgt := 113) hx hb d_Share_take_106 (by decide) ?_
          exact w_Share_take_b113 ⟨hx, hb, hml, hown, hts, hK, hA⟩ hret ih _ _ _ _ _ _ _ _ _ _ _ _ h H locs ls (lv_sub hl [1, 2, 3, 0] rfl) hP hD hS
set_option maxHeartbeats 4000000 in
set_option maxRecDepth 100000 in
theorem w_Share_take_b0 {p : Program} {l : Launch} {e : Env} {s : State} {m : MethodId} {args : Array Value} {below : List Frame} {meth : Method} {c : Code} {Q : State → Prop} {A : Nat → Prop} {D : va_G} {cI cL cZ : ClassId} {a_this : Nat} {a_points : Nat} {a_owners : Nat} {a_takes : Nat} {a_bases : Nat} {a_ranked : Nat} {a_starts : Nat} {a_numbers : Nat} {a_walk : Nat} {a_p1 : Nat} {a_p1_words : Nat} {o_cuts : Nat} {o_queue : Nat} {i_p1_room : Int32} {i_p1_used : Int32} {i_p1_held : Int32} {i_p1_many : Int32} {n_p1_words : Nat} {v_p1_words : Nat → Int64} {l2 : Int32} {l3 : Int32} {N : Nat} {res : Int32 × Int32 × Int32 × (Nat → Int32) × (Nat → Int32) × (Nat → Int32) × (Nat → Int32) × (Nat → Int32) × (Nat → Int32) × (Nat → Int32) × (Nat → Int32)}  (C : Cx p s m args c b_Share_take 6 "PrefixMill$Share" D [(cI, .int), (cL, .long), (cZ, .boolean)] A) (hret : E_Share_take p l e s m args below meth c Q A D cI cL cZ a_this a_points a_owners a_takes a_bases a_ranked a_starts a_numbers a_walk a_p1 a_p1_words o_cuts o_queue i_p1_room i_p1_used i_p1_held i_p1_many n_p1_words v_p1_words l2 l3 res)  : I_Share_take_b0 p l e s m args below meth c Q A D cI cL cZ a_this a_points a_owners a_takes a_bases a_ranked a_starts a_numbers a_walk a_p1 a_p1_words o_cuts o_queue i_p1_room i_p1_used i_p1_held i_p1_many n_p1_words v_p1_words l2 l3 res (f_Share_take N i_p1_used n_p1_words v_p1_words l2 l3 ) := by
  obtain ⟨hx, hb, hml, hown, hts, hK, hA⟩ := C
  intro i_order i_next v_points v_owners v_takes v_bases v_ranked v_starts v_numbers v_walk h H locs ls hl hP hD hS
  unfold f_Share_take at h
  refine lv_aload_n hx hb d_Share_take_0 rfl (lv_at hl 0 rfl) ?_
  refine va_get hx hb hts in_Share hown hK hP 0 rfl rfl 0 (by decide) (hts _ m_211) (fun _ h9 => h9) rfl d_Share_take_1 ?_
  refine lv_iconst (v := 0) hx hb d_Share_take_4 (by decide) ?_
  obtain ⟨v_points_1, hc_2, h⟩ := bd1_s h
  have hPc := hP.sub (ws' := [(a_points, .inl (cI, 12, .inl v_points))]) [1] rfl
  have hDc := hD.sub (ws' := [(a_points, .inl (cI, 12, .inl v_points))]) [1] (by decide) rfl
  have hFc := va_free (wc := [(a_points, .inl (cI, 12, .inl v_points))]) hD hS hA [1] rfl
  refine va_callv (va_runS (As := [.ref a_points, .int 0]) (rest := []) ⟨hx, hb, hml, hown, hts⟩ (c_JArr_fill l D cI cL cZ H.size N a_points 12 v_points 0 v_points_1 hc_2) ⟨(my_cb 2 hts m_410 rfl rfl (hts _ m_79) (hts _ m_631) (by decide +kernel) ⟨Nat.le_of_ble_eq_true rfl, Nat.le_of_ble_eq_true rfl⟩), hts _ m_409⟩ ⟨fun a U g mk q => by obtain ⟨q0, q1, qP, qK, qD⟩ := q; exact ⟨q0, q1, qP, va_K.moved (u := U) (U := U.calling g mk a) (Vm.Alike.refl U.vm) qK, qD⟩, fun U hU hW => ⟨rfl, by rw [hU], by rw [hU]; exact hPc, va_K.moved hW.alike hK, hDc.weaken (fun _ _ _ _ => trivial)⟩⟩ rfl rfl hl.1 rfl (lv_room (Nat.le_of_ble_eq_true rfl)) d_Share_take_5 ⟨Nat.zero_le _, Nat.zero_le _⟩) hS (fun q _ h => hFc q h) hFc (fun u t H1 locs ht hvm hw hB hz1 hk1 hS => ?_)
  obtain ⟨hP1, hK1, hD1⟩ := hB
  rw [ht] at hP1
  obtain ⟨hP, hD⟩ := va_join (wr := [(a_this, .inr (6, [.ref a_points, .ref o_cuts, .ref o_queue, .ref a_owners, .ref a_takes, .ref a_bases, .ref a_ranked, .ref a_starts, .ref a_numbers, .ref a_walk, .int i_order, .int i_next])), (a_owners, .inl (cI, 64, .inl v_owners)), (a_takes, .inl (cI, 64, .inl v_takes)), (a_bases, .inl (cI, 64, .inl v_bases)), (a_ranked, .inl (cI, 64, .inl v_ranked)), (a_starts, .inl (cI, 12, .inl v_starts)), (a_numbers, .inl (cI, 12, .inl v_numbers)), (a_walk, .inl (cI, 64, .inl v_walk)), (a_p1, .inr (5, [.ref a_p1_words, .int i_p1_room, .int i_p1_used, .int i_p1_held, .int i_p1_many])), (a_p1_words, .inl (cL, n_p1_words, .inr (.inl v_p1_words)))]) (w1 := [(a_points, .inl (cI, 12, .inl v_points_1))]) hP hD [1] [0, 2, 3, 4, 5, 6, 7, 8, 9, 10] rfl rfl (by decide) (by decide) hk1 hFc hP1 hD1
  clear hPc hDc hFc hk1 hP1 hD1 hK1
  generalize H1 = H at hP hS ⊢
  have hP : va_P D classes [(a_this, .inr (6, [.ref a_points, .ref o_cuts, .ref o_queue, .ref a_owners, .ref a_takes, .ref a_bases, .ref a_ranked, .ref a_starts, .ref a_numbers, .ref a_walk, .int i_order, .int i_next])), (a_points, .inl (cI, 12, .inl v_points_1)), (a_owners, .inl (cI, 64, .inl v_owners)), (a_takes, .inl (cI, 64, .inl v_takes)), (a_bases, .inl (cI, 64, .inl v_bases)), (a_ranked, .inl (cI, 64, .inl v_ranked)), (a_starts, .inl (cI, 12, .inl v_starts)), (a_numbers, .inl (cI, 12, .inl v_numbers)), (a_walk, .inl (cI, 64, .inl v_walk)), (a_p1, .inr (5, [.ref a_p1_words, .int i_p1_room, .int i_p1_used, .int i_p1_held, .int i_p1_many])), (a_p1_words, .inl (cL, n_p1_words, .inr (.inl v_p1_words)))] H := hP.sub [0, 10, 1, 2, 3, 4, 5, 6, 7, 8, 9] rfl
  have hD : va_D A [(a_this, .inr (6, [.ref a_points, .ref o_cuts, .ref o_queue, .ref a_owners, .ref a_takes, .ref a_bases, .ref a_ranked, .ref a_starts, .ref a_numbers, .ref a_walk, .int i_order, .int i_next])), (a_points, .inl (cI, 12, .inl v_points_1)), (a_owners, .inl (cI, 64, .inl v_owners)), (a_takes, .inl (cI, 64, .inl v_takes)), (a_bases, .inl (cI, 64, .inl v_bases)), (a_ranked, .inl (cI, 64, .inl v_ranked)), (a_starts, .inl (cI, 12, .inl v_starts)), (a_numbers, .inl (cI, 12, .inl v_numbers)), (a_walk, .inl (cI, 64, .inl v_walk)), (a_p1, .inr (5, [.ref a_p1_words, .int i_p1_room, .int i_p1_used, .int i_p1_held, .int i_p1_many])), (a_p1_words, .inl (cL, n_p1_words, .inr (.inl v_p1_words)))] := hD.sub [0, 10, 1, 2, 3, 4, 5, 6, 7, 8, 9] (by decide) rfl
  refine lv_aload_n hx hb d_Share_take_8 rfl (lv_at hl 0 rfl) ?_
  refine lv_bipush (v := 8) hx hb d_Share_take_9 (by decide) ?_
  refine lv_iload_n hx hb d_Share_take_11 rfl (lv_at hl 2 rfl) ?_
  refine lv_imul hx hb d_Share_take_12 ?_
  refine lv_topi (fun i_next_3 ei_next_3 => ?_)
  replace h := nm_s h ei_next_3
  refine va_put (v := .int i_next_3) (ty := .int) hx hb hts in_Share t_Share t_Share_ok n_Share hown hK hP hD hS 0 rfl rfl 11 (by decide) (hts _ m_228) (fun _ h9 => h9) rfl (by decide +kernel) rfl rfl (Nat.le_of_ble_eq_true rfl) d_Share_take_13 (fun H locs hP hD hS => ?_)
  have hP : va_P D classes [(a_this, .inr (6, [.ref a_points, .ref o_cuts, .ref o_queue, .ref a_owners, .ref a_takes, .ref a_bases, .ref a_ranked, .ref a_starts, .ref a_numbers, .ref a_walk, .int i_order, .int i_next_3])), (a_points, .inl (cI, 12, .inl v_points_1)), (a_owners, .inl (cI, 64, .inl v_owners)), (a_takes, .inl (cI, 64, .inl v_takes)), (a_bases, .inl (cI, 64, .inl v_bases)), (a_ranked, .inl (cI, 64, .inl v_ranked)), (a_starts, .inl (cI, 12, .inl v_starts)), (a_numbers, .inl (cI, 12, .inl v_numbers)), (a_walk, .inl (cI, 64, .inl v_walk)), (a_p1, .inr (5, [.ref a_p1_words, .int i_p1_room, .int i_p1_used, .int i_p1_held, .int i_p1_many])), (a_p1_words, .inl (cL, n_p1_words, .inr (.inl v_p1_words)))] H := by exact hP
  have hD : va_D A [(a_this, .inr (6, [.ref a_points, .ref o_cuts, .ref o_queue, .ref a_owners, .ref a_takes, .ref a_bases, .ref a_ranked, .ref a_starts, .ref a_numbers, .ref a_walk, .int i_order, .int i_next_3])), (a_points, .inl (cI, 12, .inl v_points_1)), (a_owners, .inl (cI, 64, .inl v_owners)), (a_takes, .inl (cI, 64, .inl v_takes)), (a_bases, .inl (cI, 64, .inl v_bases)), (a_ranked, .inl (cI, 64, .inl v_ranked)), (a_starts, .inl (cI, 12, .inl v_starts)), (a_numbers, .inl (cI, 12, .inl v_numbers)), (a_walk, .inl (cI, 64, .inl v_walk)), (a_p1, .inr (5, [.ref a_p1_words, .int i_p1_room, .int i_p1_used, .int i_p1_held, .int i_p1_many])), (a_p1_words, .inl (cL, n_p1_words, .inr (.inl v_p1_words)))] := by exact hD
  refine lv_aload_n hx hb d_Share_take_16 rfl (lv_at hl 0 rfl) ?_
  refine lv_iconst (v := 5) hx hb d_Share_take_17 (by decide) ?_
  refine lv_aload_n hx hb d_Share_take_18 rfl (lv_at hl 0 rfl) ?_
  refine lv_aload_n hx hb d_Share_take_19 rfl (lv_at hl 1 rfl) ?_
  refine lv_iconst (v := 4) hx hb d_Share_take_20 (by decide) ?_
  obtain ⟨r_4, i_next_5, hc_6, h⟩ := bd2_s h
  have hPc := hP.sub (ws' := [(a_this, .inr (6, [.ref a_points, .ref o_cuts, .ref o_queue, .ref a_owners, .ref a_takes, .ref a_bases, .ref a_ranked, .ref a_starts, .ref a_numbers, .ref a_walk, .int i_order, .int i_next_3])), (a_p1, .inr (5, [.ref a_p1_words, .int i_p1_room, .int i_p1_used, .int i_p1_held, .int i_p1_many])), (a_p1_words, .inl (cL, n_p1_words, .inr (.inl v_p1_words)))]) [0, 9, 10] rfl
  have hDc := hD.sub (ws' := [(a_this, .inr (6, [.ref a_points, .ref o_cuts, .ref o_queue, .ref a_owners, .ref a_takes, .ref a_bases, .ref a_ranked, .ref a_starts, .ref a_numbers, .ref a_walk, .int i_order, .int i_next_3])), (a_p1, .inr (5, [.ref a_p1_words, .int i_p1_room, .int i_p1_used, .int i_p1_held, .int i_p1_many])), (a_p1_words, .inl (cL, n_p1_words, .inr (.inl v_p1_words)))]) [0, 9, 10] (by decide) rfl
  have hFc := va_free (wc := [(a_this, .inr (6, [.ref a_points, .ref o_cuts, .ref o_queue, .ref a_owners, .ref a_takes, .ref a_bases, .ref a_ranked, .ref a_starts, .ref a_numbers, .ref a_walk, .int i_order, .int i_next_3])), (a_p1, .inr (5, [.ref a_p1_words, .int i_p1_room, .int i_p1_used, .int i_p1_held, .int i_p1_many])), (a_p1_words, .inl (cL, n_p1_words, .inr (.inl v_p1_words)))]) hD hS hA [0, 9, 10] rfl
  refine va_calli (va_runV (As := [.ref a_p1, .int 4]) (rest := [.int 5, .ref a_this]) ⟨hx, hb, hml, hown, hts⟩ (c_Share_takeBits l D cI cL cZ H.size N a_this a_p1 a_p1_words a_points o_cuts o_queue a_owners a_takes a_bases a_ranked a_starts a_numbers a_walk i_order i_next_3 i_p1_room i_p1_used i_p1_held i_p1_many n_p1_words v_p1_words 4 r_4 i_next_5 hc_6) ⟨(my_cb 2 hts m_635 rfl rfl (hts _ m_72) (hts _ m_632) (by decide +kernel) ⟨Nat.le_of_ble_eq_true rfl, Nat.le_of_ble_eq_true rfl⟩), hts _ m_634, hts _ m_21⟩ ⟨fun a U g mk q => by obtain ⟨q0, q1, qP, qK, qD⟩ := q; exact ⟨q0, q1, qP, va_K.moved (u := U) (U := U.calling g mk a) (Vm.Alike.refl U.vm) qK, qD⟩, va_recv hK hPc (ci := 6) (q0 := 0) rfl rfl, fun U hU hW => ⟨rfl, by rw [hU], by rw [hU]; exact hPc, va_K.moved hW.alike hK, hDc.weaken (fun _ _ _ _ => trivial)⟩⟩ rfl rfl hl.1 rfl (lv_room (Nat.le_of_ble_eq_true rfl)) d_Share_take_21 ⟨Nat.zero_le _, Nat.zero_le _⟩) hS (fun q _ h => hFc q h) hFc (fun rr u t H1 locs ht hvm hw hB hz1 hk1 hS => ?_)
  obtain ⟨hP1, hK1, hD1⟩ := hB
  rw [ht] at hP1
  subst hw
  obtain ⟨hP, hD⟩ := va_join (wr := [(a_points, .inl (cI, 12, .inl v_points_1)), (a_owners, .inl (cI, 64, .inl v_owners)), (a_takes, .inl (cI, 64, .inl v_takes)), (a_bases, .inl (cI, 64, .inl v_bases)), (a_ranked, .inl (cI, 64, .inl v_ranked)), (a_starts, .inl (cI, 12, .inl v_starts)), (a_numbers, .inl (cI, 12, .inl v_numbers)), (a_walk, .inl (cI, 64, .inl v_walk))]) (w1 := [(a_this, .inr (6, [.ref a_points, .ref o_cuts, .ref o_queue, .ref a_owners, .ref a_takes, .ref a_bases, .ref a_ranked, .ref a_starts, .ref a_numbers, .ref a_walk, .int i_order, .int i_next_5])), (a_p1, .inr (5, [.ref a_p1_words, .int i_p1_room, .int i_p1_used, .int i_p1_held, .int i_p1_many])), (a_p1_words, .inl (cL, n_p1_words, .inr (.inl v_p1_words)))]) hP hD [0, 9, 10] [1, 2, 3, 4, 5, 6, 7, 8] rfl rfl (by decide) (by decide) hk1 hFc hP1 hD1
  clear hPc hDc hFc hk1 hP1 hD1 hK1
  generalize H1 = H at hP hS ⊢
  have hP : va_P D classes [(a_this, .inr (6, [.ref a_points, .ref o_cuts, .ref o_queue, .ref a_owners, .ref a_takes, .ref a_bases, .ref a_ranked, .ref a_starts, .ref a_numbers, .ref a_walk, .int i_order, .int i_next_5])), (a_points, .inl (cI, 12, .inl v_points_1)), (a_owners, .inl (cI, 64, .inl v_owners)), (a_takes, .inl (cI, 64, .inl v_takes)), (a_bases, .inl (cI, 64, .inl v_bases)), (a_ranked, .inl (cI, 64, .inl v_ranked)), (a_starts, .inl (cI, 12, .inl v_starts)), (a_numbers, .inl (cI, 12, .inl v_numbers)), (a_walk, .inl (cI, 64, .inl v_walk)), (a_p1, .inr (5, [.ref a_p1_words, .int i_p1_room, .int i_p1_used, .int i_p1_held, .int i_p1_many])), (a_p1_words, .inl (cL, n_p1_words, .inr (.inl v_p1_words)))] H := hP.sub [8, 0, 1, 2, 3, 4, 5, 6, 7, 9, 10] rfl
  have hD : va_D A [(a_this, .inr (6, [.ref a_points, .ref o_cuts, .ref o_queue, .ref a_owners, .ref a_takes, .ref a_bases, .ref a_ranked, .ref a_starts, .ref a_numbers, .ref a_walk, .int i_order, .int i_next_5])), (a_points, .inl (cI, 12, .inl v_points_1)), (a_owners, .inl (cI, 64, .inl v_owners)), (a_takes, .inl (cI, 64, .inl v_takes)), (a_bases, .inl (cI, 64, .inl v_bases)), (a_ranked, .inl (cI, 64, .inl v_ranked)), (a_starts, .inl (cI, 12, .inl v_starts)), (a_numbers, .inl (cI, 12, .inl v_numbers)), (a_walk, .inl (cI, 64, .inl v_walk)), (a_p1, .inr (5, [.ref a_p1_words, .int i_p1_room, .int i_p1_used, .int i_p1_held, .int i_p1_many])), (a_p1_words, .inl (cL, n_p1_words, .inr (.inl v_p1_words)))] := hD.sub [8, 0, 1, 2, 3, 4, 5, 6, 7, 9, 10] (by decide) rfl
  refine lv_iadd hx hb d_Share_take_24 ?_
  refine lv_topi (fun i_order_7 ei_order_7 => ?_)
  replace h := nm_s h ei_order_7
  refine va_put (v := .int i_order_7) (ty := .int) hx hb hts in_Share t_Share t_Share_ok n_Share hown hK hP hD hS 0 rfl rfl 10 (by decide) (hts _ m_226) (fun _ h9 => h9) rfl (by decide +kernel) rfl rfl (Nat.le_of_ble_eq_true rfl) d_Share_take_25 (fun H locs hP hD hS => ?_)
  have hP : va_P D classes [(a_this, .inr (6, [.ref a_points, .ref o_cuts, .ref o_queue, .ref a_owners, .ref a_takes, .ref a_bases, .ref a_ranked, .ref a_starts, .ref a_numbers, .ref a_walk, .int i_order_7, .int i_next_5])), (a_points, .inl (cI, 12, .inl v_points_1)), (a_owners, .inl (cI, 64, .inl v_owners)), (a_takes, .inl (cI, 64, .inl v_takes)), (a_bases, .inl (cI, 64, .inl v_bases)), (a_ranked, .inl (cI, 64, .inl v_ranked)), (a_starts, .inl (cI, 12, .inl v_starts)), (a_numbers, .inl (cI, 12, .inl v_numbers)), (a_walk, .inl (cI, 64, .inl v_walk)), (a_p1, .inr (5, [.ref a_p1_words, .int i_p1_room, .int i_p1_used, .int i_p1_held, .int i_p1_many])), (a_p1_words, .inl (cL, n_p1_words, .inr (.inl v_p1_words)))] H := by exact hP
  have hD : va_D A [(a_this, .inr (6, [.ref a_points, .ref o_cuts, .ref o_queue, .ref a_owners, .ref a_takes, .ref a_bases, .ref a_ranked, .ref a_starts, .ref a_numbers, .ref a_walk, .int i_order_7, .int i_next_5])), (a_points, .inl (cI, 12, .inl v_points_1)), (a_owners, .inl (cI, 64, .inl v_owners)), (a_takes, .inl (cI, 64, .inl v_takes)), (a_bases, .inl (cI, 64, .inl v_bases)), (a_ranked, .inl (cI, 64, .inl v_ranked)), (a_starts, .inl (cI, 12, .inl v_starts)), (a_numbers, .inl (cI, 12, .inl v_numbers)), (a_walk, .inl (cI, 64, .inl v_walk)), (a_p1, .inr (5, [.ref a_p1_words, .int i_p1_room, .int i_p1_used, .int i_p1_held, .int i_p1_many])), (a_p1_words, .inl (cL, n_p1_words, .inr (.inl v_p1_words)))] := by exact hD
  refine lv_aload_n hx hb d_Share_take_28 rfl (lv_at hl 0 rfl) ?_
  refine va_get hx hb hts in_Share hown hK hP 0 rfl rfl 10 (by decide) (hts _ m_226) (fun _ h9 => h9) rfl d_Share_take_29 ?_
  refine lv_bipush (v := 6) hx hb d_Share_take_32 (by decide) ?_
  refine lv_icmp_le (tgt := 39) hx hb d_Share_take_34 (by decide) (fun c_8 => ?_) (fun c_8 => ?_)
  · replace h := if_t h c_8
    refine lv_iconst (v := 1) hx hb d_Share_take_39 (by decide) ?_
    refine lv_aload_n hx hb d_Share_take_40 rfl (lv_at hl 0 rfl) ?_
    refine va_get hx hb hts in_Share hown hK hP 0 rfl rfl 10 (by decide) (hts _ m_226) (fun _ h9 => h9) rfl d_Share_take_41 ?_
    refine lv_ishl hx hb d_Share_take_44 ?_
    refine lv_topi (fun l4_9 el4_9 => ?_)
    replace h := nm_s h el4_9
    refine lv_istore (lv' := [(4, .int l4_9), (0, .ref a_this), (1, .ref a_p1), (2, .int l2), (3, .int l3)]) hx hb d_Share_take_45 hl (by decide) rfl (fun ls hl => ?_)
    refine lv_iconst (v := 0) hx hb d_Share_take_47 (by decide) ?_
    refine lv_istore (lv' := [(5, .int 0), (4, .int l4_9), (0, .ref a_this), (1, .ref a_p1), (2, .int l2), (3, .int l3)]) hx hb d_Share_take_48 hl (by decide) rfl (fun ls hl => ?_)
    exact w_Share_take_b50 ⟨hx, hb, hml, hown, hts, hK, hA⟩ hret  N _ _ _ _ _ _ _ _ _ _ _ _ h H locs ls (lv_sub hl [2, 3, 5, 1, 0] rfl) hP hD hS
  · replace h := if_f h c_8
    refine lv_iconst (v := (-1)) hx hb d_Share_take_37 (by decide) ?_
    exact hret _ _ _ _ (-1) i_order_7 i_next_5 v_points_1 v_owners v_takes v_bases v_ranked v_starts v_numbers v_walk h d_Share_take_38 hP hD hS
set_option maxHeartbeats 4000000 in
set_option maxRecDepth 100000 in
theorem c_Share_take (l : Launch) (D : va_G) (cI cL cZ : ClassId) (sz N : Nat) (a_this : Nat) (a_points : Nat) (a_owners : Nat) (a_takes : Nat) (a_bases : Nat) (a_ranked : Nat) (a_starts : Nat) (a_numbers : Nat) (a_walk : Nat) (a_p1 : Nat) (a_p1_words : Nat) (o_cuts : Nat) (o_queue : Nat) (i_order : Int32) (i_next : Int32) (v_points : Nat → Int32) (v_owners : Nat → Int32) (v_takes : Nat → Int32) (v_bases : Nat → Int32) (v_ranked : Nat → Int32) (v_starts : Nat → Int32) (v_numbers : Nat → Int32) (v_walk : Nat → Int32) (i_p1_room : Int32) (i_p1_used : Int32) (i_p1_held : Int32) (i_p1_many : Int32) (n_p1_words : Nat) (v_p1_words : Nat → Int64) (l2 : Int32) (l3 : Int32) (rv : Int32) (i_order' : Int32) (i_next' : Int32) (v_points' : Nat → Int32) (v_owners' : Nat → Int32) (v_takes' : Nat → Int32) (v_bases' : Nat → Int32) (v_ranked' : Nat → Int32) (v_starts' : Nat → Int32) (v_numbers' : Nat → Int32) (v_walk' : Nat → Int32) (h : f_Share_take N i_p1_used n_p1_words v_p1_words l2 l3 i_order i_next v_points v_owners v_takes v_bases v_ranked v_starts v_numbers v_walk = some (rv, i_order', i_next', v_points', v_owners', v_takes', v_bases', v_ranked', v_starts', v_numbers', v_walk')) : Met l ({ cls := "PrefixMill$Share", name := "take", desc := "(LPrefixMill$Row;II)I" } : Jvm.MethodName) ws_Share_take R_Share_take (va_Pc [.ref a_this, .ref a_p1, .int l2, .int l3] (fun U => U.heap.size = sz ∧ va_P D classes [(a_this, .inr (6, [.ref a_points, .ref o_cuts, .ref o_queue, .ref a_owners, .ref a_takes, .ref a_bases, .ref a_ranked, .ref a_starts, .ref a_numbers, .ref a_walk, .int i_order, .int i_next])), (a_points, .inl (cI, 12, .inl v_points)), (a_owners, .inl (cI, 64, .inl v_owners)), (a_takes, .inl (cI, 64, .inl v_takes)), (a_bases, .inl (cI, 64, .inl v_bases)), (a_ranked, .inl (cI, 64, .inl v_ranked)), (a_starts, .inl (cI, 12, .inl v_starts)), (a_numbers, .inl (cI, 12, .inl v_numbers)), (a_walk, .inl (cI, 64, .inl v_walk)), (a_p1, .inr (5, [.ref a_p1_words, .int i_p1_room, .int i_p1_used, .int i_p1_held, .int i_p1_many])), (a_p1_words, .inl (cL, n_p1_words, .inr (.inl v_p1_words)))] U.heap ∧ va_K D classes [(cI, .int), (cL, .long), (cZ, .boolean)] U ∧ va_D (fun _ => True) [(a_this, .inr (6, [.ref a_points, .ref o_cuts, .ref o_queue, .ref a_owners, .ref a_takes, .ref a_bases, .ref a_ranked, .ref a_starts, .ref a_numbers, .ref a_walk, .int i_order, .int i_next])), (a_points, .inl (cI, 12, .inl v_points)), (a_owners, .inl (cI, 64, .inl v_owners)), (a_takes, .inl (cI, 64, .inl v_takes)), (a_bases, .inl (cI, 64, .inl v_bases)), (a_ranked, .inl (cI, 64, .inl v_ranked)), (a_starts, .inl (cI, 12, .inl v_starts)), (a_numbers, .inl (cI, 12, .inl v_numbers)), (a_walk, .inl (cI, 64, .inl v_walk)), (a_p1, .inr (5, [.ref a_p1_words, .int i_p1_room, .int i_p1_used, .int i_p1_held, .int i_p1_many])), (a_p1_words, .inl (cL, n_p1_words, .inr (.inl v_p1_words)))])) (va_Qi (fun (r0 : Int32) (_ : Unit) => rv = r0) (fun _ t => va_P D classes [(a_this, .inr (6, [.ref a_points, .ref o_cuts, .ref o_queue, .ref a_owners, .ref a_takes, .ref a_bases, .ref a_ranked, .ref a_starts, .ref a_numbers, .ref a_walk, .int i_order', .int i_next'])), (a_points, .inl (cI, 12, .inl v_points')), (a_owners, .inl (cI, 64, .inl v_owners')), (a_takes, .inl (cI, 64, .inl v_takes')), (a_bases, .inl (cI, 64, .inl v_bases')), (a_ranked, .inl (cI, 64, .inl v_ranked')), (a_starts, .inl (cI, 12, .inl v_starts')), (a_numbers, .inl (cI, 12, .inl v_numbers')), (a_walk, .inl (cI, 64, .inl v_walk')), (a_p1, .inr (5, [.ref a_p1_words, .int i_p1_room, .int i_p1_used, .int i_p1_held, .int i_p1_many])), (a_p1_words, .inl (cL, n_p1_words, .inr (.inl v_p1_words)))] t.heap ∧ va_K D classes [(cI, .int), (cL, .long), (cZ, .boolean)] t ∧ va_D (va_A [(a_this, .inr (6, [.ref a_points, .ref o_cuts, .ref o_queue, .ref a_owners, .ref a_takes, .ref a_bases, .ref a_ranked, .ref a_starts, .ref a_numbers, .ref a_walk, .int i_order, .int i_next])), (a_points, .inl (cI, 12, .inl v_points)), (a_owners, .inl (cI, 64, .inl v_owners)), (a_takes, .inl (cI, 64, .inl v_takes)), (a_bases, .inl (cI, 64, .inl v_bases)), (a_ranked, .inl (cI, 64, .inl v_ranked)), (a_starts, .inl (cI, 12, .inl v_starts)), (a_numbers, .inl (cI, 12, .inl v_numbers)), (a_walk, .inl (cI, 64, .inl v_walk)), (a_p1, .inr (5, [.ref a_p1_words, .int i_p1_room, .int i_p1_used, .int i_p1_held, .int i_p1_many])), (a_p1_words, .inl (cL, n_p1_words, .inr (.inl v_p1_words)))] sz) [(a_this, .inr (6, [.ref a_points, .ref o_cuts, .ref o_queue, .ref a_owners, .ref a_takes, .ref a_bases, .ref a_ranked, .ref a_starts, .ref a_numbers, .ref a_walk, .int i_order', .int i_next'])), (a_points, .inl (cI, 12, .inl v_points')), (a_owners, .inl (cI, 64, .inl v_owners')), (a_takes, .inl (cI, 64, .inl v_takes')), (a_bases, .inl (cI, 64, .inl v_bases')), (a_ranked, .inl (cI, 64, .inl v_ranked')), (a_starts, .inl (cI, 12, .inl v_starts')), (a_numbers, .inl (cI, 12, .inl v_numbers')), (a_walk, .inl (cI, 64, .inl v_walk')), (a_p1, .inr (5, [.ref a_p1_words, .int i_p1_room, .int i_p1_used, .int i_p1_held, .int i_p1_many])), (a_p1_words, .inl (cL, n_p1_words, .inr (.inl v_p1_words)))]) (va_A [(a_this, .inr (6, [.ref a_points, .ref o_cuts, .ref o_queue, .ref a_owners, .ref a_takes, .ref a_bases, .ref a_ranked, .ref a_starts, .ref a_numbers, .ref a_walk, .int i_order, .int i_next])), (a_points, .inl (cI, 12, .inl v_points)), (a_owners, .inl (cI, 64, .inl v_owners)), (a_takes, .inl (cI, 64, .inl v_takes)), (a_bases, .inl (cI, 64, .inl v_bases)), (a_ranked, .inl (cI, 64, .inl v_ranked)), (a_starts, .inl (cI, 12, .inl v_starts)), (a_numbers, .inl (cI, 12, .inl v_numbers)), (a_walk, .inl (cI, 64, .inl v_walk)), (a_p1, .inr (5, [.ref a_p1_words, .int i_p1_room, .int i_p1_used, .int i_p1_held, .int i_p1_many])), (a_p1_words, .inl (cL, n_p1_words, .inr (.inl v_p1_words)))] sz)) 0 0 (va_A [(a_this, .inr (6, [.ref a_points, .ref o_cuts, .ref o_queue, .ref a_owners, .ref a_takes, .ref a_bases, .ref a_ranked, .ref a_starts, .ref a_numbers, .ref a_walk, .int i_order, .int i_next])), (a_points, .inl (cI, 12, .inl v_points)), (a_owners, .inl (cI, 64, .inl v_owners)), (a_takes, .inl (cI, 64, .inl v_takes)), (a_bases, .inl (cI, 64, .inl v_bases)), (a_ranked, .inl (cI, 64, .inl v_ranked)), (a_starts, .inl (cI, 12, .inl v_starts)), (a_numbers, .inl (cI, 12, .inl v_numbers)), (a_walk, .inl (cI, 64, .inl v_walk)), (a_p1, .inr (5, [.ref a_p1_words, .int i_p1_room, .int i_p1_used, .int i_p1_held, .int i_p1_many])), (a_p1_words, .inl (cL, n_p1_words, .inr (.inl v_p1_words)))] sz) := by
  refine Met.ofW (cc := b_Share_take) (maxL := 6) (ret := (some .int)) (by decide) rfl ?_
  intro p e s m args below meth c s₁ B hml hv
  obtain ⟨rfl, hsz, hP, hK, hD0⟩ := hv
  have hx := B.exec
  have hb := B.bytes
  have hr := B.returns
  have hts0 := atoms_spec (ws := ws_Share_take) B.pre
  have hts := gd_tl hts0
  clear hts0
  have hown : s.vm.findClass "PrefixMill$Share" = some m.cls := findClass_of_methodNamed B.named
  have hlocks := B.notSynchronized
  subst hsz
  have hD := hD0.self (sz := s.heap.size)
  generalize hAe : va_A [(a_this, .inr (6, [.ref a_points, .ref o_cuts, .ref o_queue, .ref a_owners, .ref a_takes, .ref a_bases, .ref a_ranked, .ref a_starts, .ref a_numbers, .ref a_walk, .int i_order, .int i_next])), (a_points, .inl (cI, 12, .inl v_points)), (a_owners, .inl (cI, 64, .inl v_owners)), (a_takes, .inl (cI, 64, .inl v_takes)), (a_bases, .inl (cI, 64, .inl v_bases)), (a_ranked, .inl (cI, 64, .inl v_ranked)), (a_starts, .inl (cI, 12, .inl v_starts)), (a_numbers, .inl (cI, 12, .inl v_numbers)), (a_walk, .inl (cI, 64, .inl v_walk)), (a_p1, .inr (5, [.ref a_p1_words, .int i_p1_room, .int i_p1_used, .int i_p1_held, .int i_p1_many])), (a_p1_words, .inl (cL, n_p1_words, .inr (.inl v_p1_words)))] s.heap.size = A at hD ⊢
  have hA : ∀ q : Nat, s.heap.size ≤ q → A q := fun q h => by rw [← hAe]; exact Or.inr h
  have hS : va_S A s.heap s.heap [] := va_S.rf
  have hP : va_P D classes [(a_this, .inr (6, [.ref a_points, .ref o_cuts, .ref o_queue, .ref a_owners, .ref a_takes, .ref a_bases, .ref a_ranked, .ref a_starts, .ref a_numbers, .ref a_walk, .int i_order, .int i_next])), (a_points, .inl (cI, 12, .inl v_points)), (a_owners, .inl (cI, 64, .inl v_owners)), (a_takes, .inl (cI, 64, .inl v_takes)), (a_bases, .inl (cI, 64, .inl v_bases)), (a_ranked, .inl (cI, 64, .inl v_ranked)), (a_starts, .inl (cI, 12, .inl v_starts)), (a_numbers, .inl (cI, 12, .inl v_numbers)), (a_walk, .inl (cI, 64, .inl v_walk)), (a_p1, .inr (5, [.ref a_p1_words, .int i_p1_room, .int i_p1_used, .int i_p1_held, .int i_p1_many])), (a_p1_words, .inl (cL, n_p1_words, .inr (.inl v_p1_words)))] s.heap := hP
  have hl := lv_entry ([.ref a_this, .ref a_p1, .int l2, .int l3]) (n := 6) (Nat.le_of_ble_eq_true rfl)
  rw [lg_entry_eq]
  generalize (lg_sl ([.ref a_this, .ref a_p1, .int l2, .int l3]) ++ List.replicate (6 - (lg_sl ([.ref a_this, .ref a_p1, .int l2, .int l3])).length) Slot.unset).toArray = ls at hl ⊢
  have hl : lv_has ls 6 [(0, .ref a_this), (1, .ref a_p1), (2, .int l2), (3, .int l3)] := hl
  have C : Cx p s m ([.ref a_this, .ref a_p1, .int l2, .int l3] : List Value).toArray c b_Share_take 6 "PrefixMill$Share" D [(cI, .int), (cL, .long), (cZ, .boolean)] A := ⟨hx, hb, hml, hown, hts, hK, hA⟩
  refine w_Share_take_b0 (res := (rv, i_order', i_next', v_points', v_owners', v_takes', v_bases', v_ranked', v_starts', v_numbers', v_walk')) C ?_ _ _ _ _ _ _ _ _ _ _ h s.heap [] ls hl hP hD hS
  intro pc9 H9 locs9 ls9 rv9 i_order9 i_next9 v_points9 v_owners9 v_takes9 v_bases9 v_ranked9 v_starts9 v_numbers9 v_walk9 e9 d9 hP9 hD9 hS9
  cases e9
  exact W.iret (v := rv) hx hb hr (fun t ht hW => ⟨⟨rv, (), rfl, rfl, by rw [ht]; exact hP9, va_K.moved hW.alike hK, hD9⟩, hS9.F ht⟩) hS9.2.2 d9
abbrev b_Tail_open : ByteArray := prog_8_method_2_code
def ws_Tail_open : List Cond := .code ({ cls := "PrefixMill$Tail", name := "open", desc := "(LPrefixMill$Row;II)Z" } : Jvm.MethodName) b_Tail_open 5 (some .boolean) :: tt
theorem d_Tail_open_0 : decode b_Tail_open 0 = .ok (.iload_n 2, 1) := by decide +kernel
theorem d_Tail_open_1 : decode b_Tail_open 1 = .ok (.iload_n 3, 1) := by decide +kernel
theorem d_Tail_open_2 : decode b_Tail_open 2 = .ok (.if_icmp .ge 13, 3) := by decide +kernel
theorem d_Tail_open_5 : decode b_Tail_open 5 = .ok (.aload_n 1, 1) := by decide +kernel
theorem d_Tail_open_6 : decode b_Tail_open 6 = .ok (.iload_n 3, 1) := by decide +kernel
theorem d_Tail_open_7 : decode b_Tail_open 7 = .ok (.iconst 1, 1) := by decide +kernel
theorem d_Tail_open_8 : decode b_Tail_open 8 = .ok (.isub, 1) := by decide +kernel
theorem d_Tail_open_9 : decode b_Tail_open 9 = .ok (.invokevirtual 7, 3) := by decide +kernel
theorem d_Tail_open_12 : decode b_Tail_open 12 = .ok (.goto 4, 3) := by decide +kernel
theorem d_Tail_open_15 : decode b_Tail_open 15 = .ok (.iconst 0, 1) := by decide +kernel
theorem d_Tail_open_16 : decode b_Tail_open 16 = .ok (.istore 4, 2) := by decide +kernel
theorem d_Tail_open_18 : decode b_Tail_open 18 = .ok (.iload 4, 2) := by decide +kernel
theorem d_Tail_open_20 : decode b_Tail_open 20 = .ok (.ifCond .gt 5, 3) := by decide +kernel
theorem d_Tail_open_23 : decode b_Tail_open 23 = .ok (.iconst 0, 1) := by decide +kernel
theorem d_Tail_open_24 : decode b_Tail_open 24 = .ok (.ireturn, 1) := by decide +kernel
theorem d_Tail_open_25 : decode b_Tail_open 25 = .ok (.aload_n 0, 1) := by decide +kernel
theorem d_Tail_open_26 : decode b_Tail_open 26 = .ok (.bipush 8, 2) := by decide +kernel
theorem d_Tail_open_28 : decode b_Tail_open 28 = .ok (.iload_n 2, 1) := by decide +kernel
theorem d_Tail_open_29 : decode b_Tail_open 29 = .ok (.imul, 1) := by decide +kernel
theorem d_Tail_open_30 : decode b_Tail_open 30 = .ok (.putfield 13, 3) := by decide +kernel
theorem d_Tail_open_33 : decode b_Tail_open 33 = .ok (.aload_n 0, 1) := by decide +kernel
theorem d_Tail_open_34 : decode b_Tail_open 34 = .ok (.bipush 8, 2) := by decide +kernel
theorem d_Tail_open_36 : decode b_Tail_open 36 = .ok (.iload_n 3, 1) := by decide +kernel
theorem d_Tail_open_37 : decode b_Tail_open 37 = .ok (.iconst 1, 1) := by decide +kernel
theorem d_Tail_open_38 : decode b_Tail_open 38 = .ok (.isub, 1) := by decide +kernel
theorem d_Tail_open_39 : decode b_Tail_open 39 = .ok (.iload_n 2, 1) := by decide +kernel
theorem d_Tail_open_40 : decode b_Tail_open 40 = .ok (.isub, 1) := by decide +kernel
theorem d_Tail_open_41 : decode b_Tail_open 41 = .ok (.imul, 1) := by decide +kernel
theorem d_Tail_open_42 : decode b_Tail_open 42 = .ok (.iload 4, 2) := by decide +kernel
theorem d_Tail_open_44 : decode b_Tail_open 44 = .ok (.invokestatic 19, 3) := by decide +kernel
theorem d_Tail_open_47 : decode b_Tail_open 47 = .ok (.iadd, 1) := by decide +kernel
theorem d_Tail_open_48 : decode b_Tail_open 48 = .ok (.putfield 24, 3) := by decide +kernel
theorem d_Tail_open_51 : decode b_Tail_open 51 = .ok (.iconst 1, 1) := by decide +kernel
theorem d_Tail_open_52 : decode b_Tail_open 52 = .ok (.ireturn, 1) := by decide +kernel
def f_Tail_open_b16 (N : Nat) (i_p1_used : Int32) (n_p1_words : Nat) (v_p1_words : Nat → Int64) (l2 : Int32) (l3 : Int32)  (s0 : Int32) (i_first : Int32) (i_left : Int32) : Option (Int32 × Int32 × Int32) :=
  if 0 < s0 then
  nm (8 * l2) fun i_first_2 =>
  bd1 (f_PM_log2 N s0) fun r_3 =>
  nm ((8 * ((l3 - 1) - l2)) + r_3) fun i_left_5 =>
  some (1, i_first_2, i_left_5)
  else
  some (0, i_first, i_left)
def f_Tail_open (N : Nat) (i_p1_used : Int32) (n_p1_words : Nat) (v_p1_words : Nat → Int64) (l2 : Int32) (l3 : Int32)  (i_first : Int32) (i_left : Int32) : Option (Int32 × Int32 × Int32) :=
  if l3 ≤ l2 then
  f_Tail_open_b16 N i_p1_used n_p1_words v_p1_words l2 l3  0 i_first i_left
  else
  bd1 (f_Row_get N i_p1_used n_p1_words v_p1_words (l3 - 1)) fun r_2 =>
  f_Tail_open_b16 N i_p1_used n_p1_words v_p1_words l2 l3  r_2 i_first i_left
abbrev R_Tail_open : Room := ({ frames := 1, cells := 0, slots := 0, locals := 21 } : Room)
def E_Tail_open (p : Program) (l : Launch) (e : Env) (s : State) (m : MethodId) (args : Array Value) (below : List Frame) (meth : Method) (c : Code) (Q : State → Prop) (A : Nat → Prop) (D : va_G) (cI cL cZ : ClassId) (a_this : Nat) (a_p1 : Nat) (a_p1_words : Nat) (i_p1_room : Int32) (i_p1_used : Int32) (i_p1_held : Int32) (i_p1_many : Int32) (n_p1_words : Nat) (v_p1_words : Nat → Int64) (l2 : Int32) (l3 : Int32) (res : Int32 × Int32 × Int32) : Prop := ∀ (pc : Nat) (H : Heap) (locs : List Loc) (ls : Array Slot) (rv : Int32) (i_first : Int32) (i_left : Int32), some (rv, i_first, i_left) = some res → narrow .boolean (.int rv) = .int rv → decode b_Tail_open pc = .ok (.ireturn, 1) → va_P D classes [(a_this, .inr (8, [.int i_first, .int i_left])), (a_p1, .inr (5, [.ref a_p1_words, .int i_p1_room, .int i_p1_used, .int i_p1_held, .int i_p1_many])), (a_p1_words, .inl (cL, n_p1_words, .inr (.inl v_p1_words)))] H → va_D A [(a_this, .inr (8, [.int i_first, .int i_left])), (a_p1, .inr (5, [.ref a_p1_words, .int i_p1_room, .int i_p1_used, .int i_p1_held, .int i_p1_many])), (a_p1_words, .inl (cL, n_p1_words, .inr (.inl v_p1_words)))] → va_S A s.heap H locs → W p l e R_Tail_open s m args below meth c H locs 0 0 Q (F0 m pc ls [.int rv])
def I_Tail_open_b16 (p : Program) (l : Launch) (e : Env) (s : State) (m : MethodId) (args : Array Value) (below : List Frame) (meth : Method) (c : Code) (Q : State → Prop) (A : Nat → Prop) (D : va_G) (cI cL cZ : ClassId) (a_this : Nat) (a_p1 : Nat) (a_p1_words : Nat) (i_p1_room : Int32) (i_p1_used : Int32) (i_p1_held : Int32) (i_p1_many : Int32) (n_p1_words : Nat) (v_p1_words : Nat → Int64) (l2 : Int32) (l3 : Int32) (res : Int32 × Int32 × Int32) (kf : Int32 → Int32 → Int32 → Option (Int32 × Int32 × Int32)) : Prop := ∀ (s0 : Int32) (i_first : Int32) (i_left : Int32), kf s0 i_first i_left = some res → ∀ (H : Heap) (locs : List Loc) (ls : Array Slot), lv_has ls 5 [(0, .ref a_this), (2, .int l2), (3, .int l3)] → va_P D classes [(a_this, .inr (8, [.int i_first, .int i_left])), (a_p1, .inr (5, [.ref a_p1_words, .int i_p1_room, .int i_p1_used, .int i_p1_held, .int i_p1_many])), (a_p1_words, .inl (cL, n_p1_words, .inr (.inl v_p1_words)))] H → va_D A [(a_this, .inr (8, [.int i_first, .int i_left])), (a_p1, .inr (5, [.ref a_p1_words, .int i_p1_room, .int i_p1_used, .int i_p1_held, .int i_p1_many])), (a_p1_words, .inl (cL, n_p1_words, .inr (.inl v_p1_words)))] → va_S A s.heap H locs → W p l e R_Tail_open s m args below meth c H locs 0 0 Q (F0 m 16 ls [.int s0])
def I_Tail_open_b0 (p : Program) (l : Launch) (e : Env) (s : State) (m : MethodId) (args : Array Value) (below : List Frame) (meth : Method) (c : Code) (Q : State → Prop) (A : Nat → Prop) (D : va_G) (cI cL cZ : ClassId) (a_this : Nat) (a_p1 : Nat) (a_p1_words : Nat) (i_p1_room : Int32) (i_p1_used : Int32) (i_p1_held : Int32) (i_p1_many : Int32) (n_p1_words : Nat) (v_p1_words : Nat → Int64) (l2 : Int32) (l3 : Int32) (res : Int32 × Int32 × Int32) (kf : Int32 → Int32 → Option (Int32 × Int32 × Int32)) : Prop := ∀ (i_first : Int32) (i_left : Int32), kf i_first i_left = some res → ∀ (H : Heap) (locs : List Loc) (ls : Array Slot), lv_has ls 5 [(0, .ref a_this), (1, .ref a_p1), (2, .int l2), (3, .int l3)] → va_P D classes [(a_this, .inr (8, [.int i_first, .int i_left])), (a_p1, .inr (5, [.ref a_p1_words, .int i_p1_room, .int i_p1_used, .int i_p1_held, .int i_p1_many])), (a_p1_words, .inl (cL, n_p1_words, .inr (.inl v_p1_words)))] H → va_D A [(a_this, .inr (8, [.int i_first, .int i_left])), (a_p1, .inr (5, [.ref a_p1_words, .int i_p1_room, .int i_p1_used, .int i_p1_held, .int i_p1_many])), (a_p1_words, .inl (cL, n_p1_words, .inr (.inl v_p1_words)))] → va_S A s.heap H locs → W p l e R_Tail_open s m args below meth c H locs 0 0 Q (F0 m 0 ls [])
set_option maxHeartbeats 4000000 in
set_option maxRecDepth 100000 in
theorem w_Tail_open_b16 {p : Program} {l : Launch} {e : Env} {s : State} {m : MethodId} {args : Array Value} {below : List Frame} {meth : Method} {c : Code} {Q : State → Prop} {A : Nat → Prop} {D : va_G} {cI cL cZ : ClassId} {a_this : Nat} {a_p1 : Nat} {a_p1_words : Nat} {i_p1_room : Int32} {i_p1_used : Int32} {i_p1_held : Int32} {i_p1_many : Int32} {n_p1_words : Nat} {v_p1_words : Nat → Int64} {l2 : Int32} {l3 : Int32} {N : Nat} {res : Int32 × Int32 × Int32}  (C : Cx p s m args c b_Tail_open 5 "PrefixMill$Tail" D [(cI, .int), (cL, .long), (cZ, .boolean)] A) (hret : E_Tail_open p l e s m args below meth c Q A D cI cL cZ a_this a_p1 a_p1_words i_p1_room i_p1_used i_p1_held i_p1_many n_p1_words v_p1_words l2 l3 res)  : I_Tail_open_b16 p l e s m args below meth c Q A D cI cL cZ a_this a_p1 a_p1_words i_p1_room i_p1_used i_p1_held i_p1_many n_p1_words v_p1_words l2 l3 res (f_Tail_open_b16 N i_p1_used n_p1_words v_p1_words l2 l3 ) := by
  obtain ⟨hx, hb, hml, hown, hts, hK, hA⟩ := C
  intro s0 i_first i_left h H locs ls hl hP hD hS
  unfold f_Tail_open_b16 at h
  refine lv_istore (lv' := [(4, .int s0), (0, .ref a_this), (2, .int l2), (3, .int l3)]) hx hb d_Tail_open_16 hl (by decide) rfl (fun ls hl => ?_)
  refine lv_iload hx hb d_Tail_open_18 (lv_at hl 0 rfl) ?_
  refine lv_if_gt (tgt := 25) hx hb d_Tail_open_20 (by decide) (fun c_1 => ?_) (fun c_1 => ?_)
  · replace h := if_t h c_1
    refine lv_aload_n hx hb d_Tail_open_25 rfl (lv_at hl 1 rfl) ?_
    refine lv_bipush (v := 8) hx hb d_Tail_open_26 (by decide) ?_
    refine lv_iload_n hx hb d_Tail_open_28 rfl (lv_at hl 2 rfl) ?_
    refine lv_imul hx hb d_Tail_open_29 ?_
    refine lv_topi (fun i_first_2 ei_first_2 => ?_)
    replace h := nm_s h ei_first_2
    refine va_put (v := .int i_first_2) (ty := .int) hx hb hts in_Tail t_Tail t_Tail_ok n_Tail hown hK hP hD hS 0 rfl rfl 0 (by decide) (hts _ m_290) (fun _ h9 => h9) rfl (by decide +kernel) rfl rfl (Nat.le_of_ble_eq_true rfl) d_Tail_open_30 (fun H locs hP hD hS => ?_)
    have hP : va_P D classes [(a_this, .inr (8, [.int i_first_2, .int i_left])), (a_p1, .inr (5, [.ref a_p1_words, .int i_p1_room, .int i_p1_used, .int i_p1_held, .int i_p1_many])), (a_p1_words, .inl (cL, n_p1_words, .inr (.inl v_p1_words)))] H := by exact hP
    have hD : va_D A [(a_this, .inr (8, [.int i_first_2, .int i_left])), (a_p1, .inr (5, [.ref a_p1_words, .int i_p1_room, .int i_p1_used, .int i_p1_held, .int i_p1_many])), (a_p1_words, .inl (cL, n_p1_words, .inr (.inl v_p1_words)))] := by exact hD
    refine lv_aload_n hx hb d_Tail_open_33 rfl (lv_at hl 1 rfl) ?_
    refine lv_bipush (v := 8) hx hb d_Tail_open_34 (by decide) ?_
    refine lv_iload_n hx hb d_Tail_open_36 rfl (lv_at hl 3 rfl) ?_
    refine lv_iconst (v := 1) hx hb d_Tail_open_37 (by decide) ?_
    refine lv_isub hx hb d_Tail_open_38 ?_
    refine lv_iload_n hx hb d_Tail_open_39 rfl (lv_at hl 2 rfl) ?_
    refine lv_isub hx hb d_Tail_open_40 ?_
    refine lv_imul hx hb d_Tail_open_41 ?_
    refine lv_iload hx hb d_Tail_open_42 (lv_at hl 0 rfl) ?_
    obtain ⟨r_3, hc_4, h⟩ := bd1_s h
    have hPc := hP.sub (ws' := []) [] rfl
    have hDc := hD.sub (ws' := []) [] (by decide) rfl
    have hFc := va_free (wc := []) hD hS hA [] rfl
    refine va_calli (va_runSN (As := [.int s0]) (rest := [.int (8 * ((l3 - 1) - l2)), .ref a_this]) ⟨hx, hb, hml, hown, hts⟩ (c_PM_log2 l D cI cL cZ H.size N s0 r_3 hc_4) ⟨(my_cn 1 hts m_568 rfl rfl (hts _ m_66) (hts _ m_659) (by decide +kernel) ⟨Nat.le_of_ble_eq_true rfl, Nat.le_of_ble_eq_true rfl⟩), hts _ m_567, trivial⟩ ⟨fun a U g mk q => by obtain ⟨q0, q1, qP, qK, qD⟩ := q; exact ⟨q0, q1, qP, va_K.moved (u := U) (U := U.calling g mk a) (Vm.Alike.refl U.vm) qK, qD⟩, fun U hU hW => ⟨rfl, by rw [hU], by rw [hU]; exact hPc, va_K.moved hW.alike hK, hDc.weaken (fun _ _ _ _ => trivial)⟩⟩ rfl rfl hl.1 rfl (lv_room (Nat.le_of_ble_eq_true rfl)) d_Tail_open_44 ⟨Nat.zero_le _, Nat.zero_le _⟩) hS (fun q _ h => hFc q h) hFc (fun rr u t H1 locs ht hvm hw hB hz1 hk1 hS => ?_)
    obtain ⟨hP1, hK1, hD1⟩ := hB
    rw [ht] at hP1
    subst hw
    obtain ⟨hP, hD⟩ := va_join (wr := [(a_this, .inr (8, [.int i_first_2, .int i_left])), (a_p1, .inr (5, [.ref a_p1_words, .int i_p1_room, .int i_p1_used, .int i_p1_held, .int i_p1_many])), (a_p1_words, .inl (cL, n_p1_words, .inr (.inl v_p1_words)))]) (w1 := []) hP hD [] [0, 1, 2] rfl rfl (by decide) (by decide) hk1 hFc hP1 hD1
    clear hPc hDc hFc hk1 hP1 hD1 hK1
    generalize H1 = H at hP hS ⊢
    have hP : va_P D classes [(a_this, .inr (8, [.int i_first_2, .int i_left])), (a_p1, .inr (5, [.ref a_p1_words, .int i_p1_room, .int i_p1_used, .int i_p1_held, .int i_p1_many])), (a_p1_words, .inl (cL, n_p1_words, .inr (.inl v_p1_words)))] H := hP.sub [0, 1, 2] rfl
    have hD : va_D A [(a_this, .inr (8, [.int i_first_2, .int i_left])), (a_p1, .inr (5, [.ref a_p1_words, .int i_p1_room, .int i_p1_used, .int i_p1_held, .int i_p1_many])), (a_p1_words, .inl (cL, n_p1_words, .inr (.inl v_p1_words)))] := hD.sub [0, 1, 2] (by decide) rfl
    refine lv_iadd hx hb d_Tail_open_47 ?_
    refine lv_topi (fun i_left_5 ei_left_5 => ?_)
    replace h := nm_s h ei_left_5
    refine va_put (v := .int i_left_5) (ty := .int) hx hb hts in_Tail t_Tail t_Tail_ok n_Tail hown hK hP hD hS 0 rfl rfl 1 (by decide) (hts _ m_291) (fun _ h9 => h9) rfl (by decide +kernel) rfl rfl (Nat.le_of_ble_eq_true rfl) d_Tail_open_48 (fun H locs hP hD hS => ?_)
    have hP : va_P D classes [(a_this, .inr (8, [.int i_first_2, .int i_left_5])), (a_p1, .inr (5, [.ref a_p1_words, .int i_p1_room, .int i_p1_used, .int i_p1_held, .int i_p1_many])), (a_p1_words, .inl (cL, n_p1_words, .inr (.inl v_p1_words)))] H := by exact hP
    have hD : va_D A [(a_this, .inr (8, [.int i_first_2, .int i_left_5])), (a_p1, .inr (5, [.ref a_p1_words, .int i_p1_room, .int i_p1_used, .int i_p1_held, .int i_p1_many])), (a_p1_words, .inl (cL, n_p1_words, .inr (.inl v_p1_words)))] := by exact hD
    refine lv_iconst (v := 1) hx hb d_Tail_open_51 (by decide) ?_
    exact hret _ _ _ _ 1 i_first_2 i_left_5 h rfl d_Tail_open_52 hP hD hS
  · replace h := if_f h c_1
    refine lv_iconst (v := 0) hx hb d_Tail_open_23 (by decide) ?_
    exact hret _ _ _ _ 0 i_first i_left h rfl d_Tail_open_24 hP hD hS
set_option maxHeartbeats 4000000 in
set_option maxRecDepth 100000 in
theorem w_Tail_open_b0 {p : Program} {l : Launch} {e : Env} {s : State} {m : MethodId} {args : Array Value} {below : List Frame} {meth : Method} {c : Code} {Q : State → Prop} {A : Nat → Prop} {D : va_G} {cI cL cZ : ClassId} {a_this : Nat} {a_p1 : Nat} {a_p1_words : Nat} {i_p1_room : Int32} {i_p1_used : Int32} {i_p1_held : Int32} {i_p1_many : Int32} {n_p1_words : Nat} {v_p1_words : Nat → Int64} {l2 : Int32} {l3 : Int32} {N : Nat} {res : Int32 × Int32 × Int32}  (C : Cx p s m args c b_Tail_open 5 "PrefixMill$Tail" D [(cI, .int), (cL, .long), (cZ, .boolean)] A) (hret : E_Tail_open p l e s m args below meth c Q A D cI cL cZ a_this a_p1 a_p1_words i_p1_room i_p1_used i_p1_held i_p1_many n_p1_words v_p1_words l2 l3 res)  : I_Tail_open_b0 p l e s m args below meth c Q A D cI cL cZ a_this a_p1 a_p1_words i_p1_room i_p1_used i_p1_held i_p1_many n_p1_words v_p1_words l2 l3 res (f_Tail_open N i_p1_used n_p1_words v_p1_words l2 l3 ) := by
  obtain ⟨hx, hb, hml, hown, hts, hK, hA⟩ := C
  intro i_first i_left h H locs ls hl hP hD hS
  unfold f_Tail_open at h
  refine lv_iload_n hx hb d_Tail_open_0 rfl (lv_at hl 2 rfl) ?_
  refine lv_iload_n hx hb d_Tail_open_1 rfl (lv_at hl 3 rfl) ?_
  refine lv_icmp_ge (tgt := 15) hx hb d_Tail_open_2 (by decide) (fun c_1 => ?_) (fun c_1 => ?_)
  · replace h := if_t h c_1
    refine lv_iconst (v := 0) hx hb d_Tail_open_15 (by decide) ?_
    exact w_Tail_open_b16 ⟨hx, hb, hml, hown, hts, hK, hA⟩ hret  _ _ _ h H locs ls (lv_sub hl [0, 2, 3] rfl) hP hD hS
  · replace h := if_f h c_1
    refine lv_aload_n hx hb d_Tail_open_5 rfl (lv_at hl 1 rfl) ?_
    refine lv_iload_n hx hb d_Tail_open_6 rfl (lv_at hl 3 rfl) ?_
    refine lv_iconst (v := 1) hx hb d_Tail_open_7 (by decide) ?_
    refine lv_isub hx hb d_Tail_open_8 ?_
    obtain ⟨r_2, hc_3, h⟩ := bd1_s h
    have hPc := hP.sub (ws' := [(a_p1, .inr (5, [.ref a_p1_words, .int i_p1_room, .int i_p1_used, .int i_p1_held, .int i_p1_many])), (a_p1_words, .inl (cL, n_p1_words, .inr (.inl v_p1_words)))]) [1, 2] rfl
    have hDc := hD.sub (ws' := [(a_p1, .inr (5, [.ref a_p1_words, .int i_p1_room, .int i_p1_used, .int i_p1_held, .int i_p1_many])), (a_p1_words, .inl (cL, n_p1_words, .inr (.inl v_p1_words)))]) [1, 2] (by decide) rfl
    have hFc := va_free (wc := [(a_p1, .inr (5, [.ref a_p1_words, .int i_p1_room, .int i_p1_used, .int i_p1_held, .int i_p1_many])), (a_p1_words, .inl (cL, n_p1_words, .inr (.inl v_p1_words)))]) hD hS hA [1, 2] rfl
    refine va_calli (va_runV (As := [.int (l3 - 1)]) (rest := []) ⟨hx, hb, hml, hown, hts⟩ (c_Row_get l D cI cL cZ H.size N a_p1 a_p1_words i_p1_room i_p1_used i_p1_held i_p1_many n_p1_words v_p1_words (l3 - 1) r_2 hc_3) ⟨(my_cb 1 hts m_385 rfl rfl (hts _ m_67) (hts _ m_658) (by decide +kernel) ⟨Nat.le_of_ble_eq_true rfl, Nat.le_of_ble_eq_true rfl⟩), hts _ m_383, hts _ m_384⟩ ⟨fun a U g mk q => by obtain ⟨q0, q1, qP, qK, qD⟩ := q; exact ⟨q0, q1, qP, va_K.moved (u := U) (U := U.calling g mk a) (Vm.Alike.refl U.vm) qK, qD⟩, va_recv hK hPc (ci := 5) (q0 := 0) rfl rfl, fun U hU hW => ⟨rfl, by rw [hU], by rw [hU]; exact hPc, va_K.moved hW.alike hK, hDc.weaken (fun _ _ _ _ => trivial)⟩⟩ rfl rfl hl.1 rfl (lv_room (Nat.le_of_ble_eq_true rfl)) d_Tail_open_9 ⟨Nat.zero_le _, Nat.zero_le _⟩) hS (fun q _ h => hFc q h) hFc (fun rr u t H1 locs ht hvm hw hB hz1 hk1 hS => ?_)
    obtain ⟨hP1, hK1, hD1⟩ := hB
    rw [ht] at hP1
    subst hw
    obtain ⟨hP, hD⟩ := va_join (wr := [(a_this, .inr (8, [.int i_first, .int i_left]))]) (w1 := [(a_p1, .inr (5, [.ref a_p1_words, .int i_p1_room, .int i_p1_used, .int i_p1_held, .int i_p1_many])), (a_p1_words, .inl (cL, n_p1_words, .inr (.inl v_p1_words)))]) hP hD [1, 2] [0] rfl rfl (by decide) (by decide) hk1 hFc hP1 hD1
    clear hPc hDc hFc hk1 hP1 hD1 hK1
    generalize H1 = H at hP hS ⊢
    have hP : va_P D classes [(a_this, .inr (8, [.int i_first, .int i_left])), (a_p1, .inr (5, [.ref a_p1_words, .int i_p1_room, .int i_p1_used, .int i_p1_held, .int i_p1_many])), (a_p1_words, .inl (cL, n_p1_words, .inr (.inl v_p1_words)))] H := hP.sub [0, 1, 2] rfl
    have hD : va_D A [(a_this, .inr (8, [.int i_first, .int i_left])), (a_p1, .inr (5, [.ref a_p1_words, .int i_p1_room, .int i_p1_used, .int i_p1_held, .int i_p1_many])), (a_p1_words, .inl (cL, n_p1_words, .inr (.inl v_p1_words)))] := hD.sub [0, 1, 2] (by decide) rfl
    refine lv_goto (tgt := 16) hx hb d_Tail_open_12 (by decide) ?_
    exact w_Tail_open_b16 ⟨hx, hb, hml, hown, hts, hK, hA⟩ hret  _ _ _ h H locs ls (lv_sub hl [0, 2, 3] rfl) hP hD hS
set_option maxHeartbeats 4000000 in
set_option maxRecDepth 100000 in
theorem c_Tail_open (l : Launch) (D : va_G) (cI cL cZ : ClassId) (sz N : Nat) (a_this : Nat) (a_p1 : Nat) (a_p1_words : Nat) (i_first : Int32) (i_left : Int32) (i_p1_room : Int32) (i_p1_used : Int32) (i_p1_held : Int32) (i_p1_many : Int32) (n_p1_words : Nat) (v_p1_words : Nat → Int64) (l2 : Int32) (l3 : Int32) (rv : Int32) (i_first' : Int32) (i_left' : Int32) (h : f_Tail_open N i_p1_used n_p1_words v_p1_words l2 l3 i_first i_left = some (rv, i_first', i_left')) : Met l ({ cls := "PrefixMill$Tail", name := "open", desc := "(LPrefixMill$Row;II)Z" } : Jvm.MethodName) ws_Tail_open R_Tail_open (va_Pc [.ref a_this, .ref a_p1, .int l2, .int l3] (fun U => U.heap.size = sz ∧ va_P D classes [(a_this, .inr (8, [.int i_first, .int i_left])), (a_p1, .inr (5, [.ref a_p1_words, .int i_p1_room, .int i_p1_used, .int i_p1_held, .int i_p1_many])), (a_p1_words, .inl (cL, n_p1_words, .inr (.inl v_p1_words)))] U.heap ∧ va_K D classes [(cI, .int), (cL, .long), (cZ, .boolean)] U ∧ va_D (fun _ => True) [(a_this, .inr (8, [.int i_first, .int i_left])), (a_p1, .inr (5, [.ref a_p1_words, .int i_p1_room, .int i_p1_used, .int i_p1_held, .int i_p1_many])), (a_p1_words, .inl (cL, n_p1_words, .inr (.inl v_p1_words)))])) (va_Qi (fun (r0 : Int32) (_ : Unit) => rv = r0) (fun _ t => va_P D classes [(a_this, .inr (8, [.int i_first', .int i_left'])), (a_p1, .inr (5, [.ref a_p1_words, .int i_p1_room, .int i_p1_used, .int i_p1_held, .int i_p1_many])), (a_p1_words, .inl (cL, n_p1_words, .inr (.inl v_p1_words)))] t.heap ∧ va_K D classes [(cI, .int), (cL, .long), (cZ, .boolean)] t ∧ va_D (va_A [(a_this, .inr (8, [.int i_first, .int i_left])), (a_p1, .inr (5, [.ref a_p1_words, .int i_p1_room, .int i_p1_used, .int i_p1_held, .int i_p1_many])), (a_p1_words, .inl (cL, n_p1_words, .inr (.inl v_p1_words)))] sz) [(a_this, .inr (8, [.int i_first', .int i_left'])), (a_p1, .inr (5, [.ref a_p1_words, .int i_p1_room, .int i_p1_used, .int i_p1_held, .int i_p1_many])), (a_p1_words, .inl (cL, n_p1_words, .inr (.inl v_p1_words)))]) (va_A [(a_this, .inr (8, [.int i_first, .int i_left])), (a_p1, .inr (5, [.ref a_p1_words, .int i_p1_room, .int i_p1_used, .int i_p1_held, .int i_p1_many])), (a_p1_words, .inl (cL, n_p1_words, .inr (.inl v_p1_words)))] sz)) 0 0 (va_A [(a_this, .inr (8, [.int i_first, .int i_left])), (a_p1, .inr (5, [.ref a_p1_words, .int i_p1_room, .int i_p1_used, .int i_p1_held, .int i_p1_many])), (a_p1_words, .inl (cL, n_p1_words, .inr (.inl v_p1_words)))] sz) := by
  refine Met.ofW (cc := b_Tail_open) (maxL := 5) (ret := (some .boolean)) (by decide) rfl ?_
  intro p e s m args below meth c s₁ B hml hv
  obtain ⟨rfl, hsz, hP, hK, hD0⟩ := hv
  have hx := B.exec
  have hb := B.bytes
  have hr := B.returns
  have hts0 := atoms_spec (ws := ws_Tail_open) B.pre
  have hts := gd_tl hts0
  clear hts0
  have hown : s.vm.findClass "PrefixMill$Tail" = some m.cls := findClass_of_methodNamed B.named
  have hlocks := B.notSynchronized
  subst hsz
  have hD := hD0.self (sz := s.heap.size)
  generalize hAe : va_A [(a_this, .inr (8, [.int i_first, .int i_left])), (a_p1, .inr (5, [.ref a_p1_words, .int i_p1_room, .int i_p1_used, .int i_p1_held, .int i_p1_many])), (a_p1_words, .inl (cL, n_p1_words, .inr (.inl v_p1_words)))] s.heap.size = A at hD ⊢
  have hA : ∀ q : Nat, s.heap.size ≤ q → A q := fun q h => by rw [← hAe]; exact Or.inr h
  have hS : va_S A s.heap s.heap [] := va_S.rf
  have hP : va_P D classes [(a_this, .inr (8, [.int i_first, .int i_left])), (a_p1, .inr (5, [.ref a_p1_words, .int i_p1_room, .int i_p1_used, .int i_p1_held, .int i_p1_many])), (a_p1_words, .inl (cL, n_p1_words, .inr (.inl v_p1_words)))] s.heap := hP
  have hl := lv_entry ([.ref a_this, .ref a_p1, .int l2, .int l3]) (n := 5) (Nat.le_of_ble_eq_true rfl)
  rw [lg_entry_eq]
  generalize (lg_sl ([.ref a_this, .ref a_p1, .int l2, .int l3]) ++ List.replicate (5 - (lg_sl ([.ref a_this, .ref a_p1, .int l2, .int l3])).length) Slot.unset).toArray = ls at hl ⊢
  have hl : lv_has ls 5 [(0, .ref a_this), (1, .ref a_p1), (2, .int l2), (3, .int l3)] := hl
  have C : Cx p s m ([.ref a_this, .ref a_p1, .int l2, .int l3] : List Value).toArray c b_Tail_open 5 "PrefixMill$Tail" D [(cI, .int), (cL, .long), (cZ, .boolean)] A := ⟨hx, hb, hml, hown, hts, hK, hA⟩
  refine w_Tail_open_b0 (res := (rv, i_first', i_left')) C ?_ _ _ h s.heap [] ls hl hP hD hS
  intro pc9 H9 locs9 ls9 rv9 i_first9 i_left9 e9 z9 d9 hP9 hD9 hS9
  cases e9
  exact W.zret (v := rv) hx hb hr z9 (fun t ht hW => ⟨⟨rv, (), rfl, rfl, by rw [ht]; exact hP9, va_K.moved hW.alike hK, hD9⟩, hS9.F ht⟩) hS9.2.2 d9
abbrev b_Tail_look : ByteArray := prog_8_method_3_code
def ws_Tail_look : List Cond := .code ({ cls := "PrefixMill$Tail", name := "look", desc := "(LPrefixMill$Row;I)I" } : Jvm.MethodName) b_Tail_look 3 (some .int) :: tt
theorem d_Tail_look_0 : decode b_Tail_look 0 = .ok (.iload_n 2, 1) := by decide +kernel
theorem d_Tail_look_1 : decode b_Tail_look 1 = .ok (.aload_n 0, 1) := by decide +kernel
theorem d_Tail_look_2 : decode b_Tail_look 2 = .ok (.getfield 24, 3) := by decide +kernel
theorem d_Tail_look_5 : decode b_Tail_look 5 = .ok (.if_icmp .gt 20, 3) := by decide +kernel
theorem d_Tail_look_8 : decode b_Tail_look 8 = .ok (.aload_n 1, 1) := by decide +kernel
theorem d_Tail_look_9 : decode b_Tail_look 9 = .ok (.aload_n 0, 1) := by decide +kernel
theorem d_Tail_look_10 : decode b_Tail_look 10 = .ok (.getfield 13, 3) := by decide +kernel
theorem d_Tail_look_13 : decode b_Tail_look 13 = .ok (.aload_n 0, 1) := by decide +kernel
theorem d_Tail_look_14 : decode b_Tail_look 14 = .ok (.getfield 24, 3) := by decide +kernel
theorem d_Tail_look_17 : decode b_Tail_look 17 = .ok (.iadd, 1) := by decide +kernel
theorem d_Tail_look_18 : decode b_Tail_look 18 = .ok (.iload_n 2, 1) := by decide +kernel
theorem d_Tail_look_19 : decode b_Tail_look 19 = .ok (.isub, 1) := by decide +kernel
theorem d_Tail_look_20 : decode b_Tail_look 20 = .ok (.iload_n 2, 1) := by decide +kernel
theorem d_Tail_look_21 : decode b_Tail_look 21 = .ok (.invokevirtual 27, 3) := by decide +kernel
theorem d_Tail_look_24 : decode b_Tail_look 24 = .ok (.ireturn, 1) := by decide +kernel
theorem d_Tail_look_25 : decode b_Tail_look 25 = .ok (.aload_n 1, 1) := by decide +kernel
theorem d_Tail_look_26 : decode b_Tail_look 26 = .ok (.aload_n 0, 1) := by decide +kernel
theorem d_Tail_look_27 : decode b_Tail_look 27 = .ok (.getfield 13, 3) := by decide +kernel
theorem d_Tail_look_30 : decode b_Tail_look 30 = .ok (.aload_n 0, 1) := by decide +kernel
theorem d_Tail_look_31 : decode b_Tail_look 31 = .ok (.getfield 24, 3) := by decide +kernel
theorem d_Tail_look_34 : decode b_Tail_look 34 = .ok (.invokevirtual 27, 3) := by decide +kernel
theorem d_Tail_look_37 : decode b_Tail_look 37 = .ok (.iload_n 2, 1) := by decide +kernel
theorem d_Tail_look_38 : decode b_Tail_look 38 = .ok (.aload_n 0, 1) := by decide +kernel
theorem d_Tail_look_39 : decode b_Tail_look 39 = .ok (.getfield 24, 3) := by decide +kernel
theorem d_Tail_look_42 : decode b_Tail_look 42 = .ok (.isub, 1) := by decide +kernel
theorem d_Tail_look_43 : decode b_Tail_look 43 = .ok (.ishl, 1) := by decide +kernel
theorem d_Tail_look_44 : decode b_Tail_look 44 = .ok (.ireturn, 1) := by decide +kernel
def f_Tail_look (N : Nat) (i_first : Int32) (i_left : Int32) (i_p1_used : Int32) (n_p1_words : Nat) (v_p1_words : Nat → Int64) (l2 : Int32)   : Option (Int32) :=
  if i_left < l2 then
  bd1 (f_Row_bits N i_p1_used n_p1_words v_p1_words i_first i_left) fun r_2 =>
  some ((r_2 <<< ((l2 - i_left) &&& 31)))
  else
  bd1 (f_Row_bits N i_p1_used n_p1_words v_p1_words ((i_first + i_left) - l2) l2) fun r_4 =>
  some (r_4)
abbrev R_Tail_look : Room := ({ frames := 2, cells := 0, slots := 0, locals := 45 } : Room)
def E_Tail_look (p : Program) (l : Launch) (e : Env) (s : State) (m : MethodId) (args : Array Value) (below : List Frame) (meth : Method) (c : Code) (Q : State → Prop) (A : Nat → Prop) (D : va_G) (cI cL cZ : ClassId) (a_this : Nat) (a_p1 : Nat) (a_p1_words : Nat) (i_first : Int32) (i_left : Int32) (i_p1_room : Int32) (i_p1_used : Int32) (i_p1_held : Int32) (i_p1_many : Int32) (n_p1_words : Nat) (v_p1_words : Nat → Int64) (l2 : Int32) (res : Int32) : Prop := ∀ (pc : Nat) (H : Heap) (locs : List Loc) (ls : Array Slot) (rv : Int32), some (rv) = some res → decode b_Tail_look pc = .ok (.ireturn, 1) → va_P D classes [(a_this, .inr (8, [.int i_first, .int i_left])), (a_p1, .inr (5, [.ref a_p1_words, .int i_p1_room, .int i_p1_used, .int i_p1_held, .int i_p1_many])), (a_p1_words, .inl (cL, n_p1_words, .inr (.inl v_p1_words)))] H → va_D A [(a_this, .inr (8, [.int i_first, .int i_left])), (a_p1, .inr (5, [.ref a_p1_words, .int i_p1_room, .int i_p1_used, .int i_p1_held, .int i_p1_many])), (a_p1_words, .inl (cL, n_p1_words, .inr (.inl v_p1_words)))] → va_S A s.heap H locs → W p l e R_Tail_look s m args below meth c H locs 0 0 Q (F0 m pc ls [.int rv])
def I_Tail_look_b0 (p : Program) (l : Launch) (e : Env) (s : State) (m : MethodId) (args : Array Value) (below : List Frame) (meth : Method) (c : Code) (Q : State → Prop) (A : Nat → Prop) (D : va_G) (cI cL cZ : ClassId) (a_this : Nat) (a_p1 : Nat) (a_p1_words : Nat) (i_first : Int32) (i_left : Int32) (i_p1_room : Int32) (i_p1_used : Int32) (i_p1_held : Int32) (i_p1_many : Int32) (n_p1_words : Nat) (v_p1_words : Nat → Int64) (l2 : Int32) (res : Int32) (kf : Option (Int32)) : Prop := ∀ (_ : Unit), kf  = some res → ∀ (H : Heap) (locs : List Loc) (ls : Array Slot), lv_has ls 3 [(0, .ref a_this), (1, .ref a_p1), (2, .int l2)] → va_P D classes [(a_this, .inr (8, [.int i_first, .int i_left])), (a_p1, .inr (5, [.ref a_p1_words, .int i_p1_room, .int i_p1_used, .int i_p1_held, .int i_p1_many])), (a_p1_words, .inl (cL, n_p1_words, .inr (.inl v_p1_words)))] H → va_D A [(a_this, .inr (8, [.int i_first, .int i_left])), (a_p1, .inr (5, [.ref a_p1_words, .int i_p1_room, .int i_p1_used, .int i_p1_held, .int i_p1_many])), (a_p1_words, .inl (cL, n_p1_words, .inr (.inl v_p1_words)))] → va_S A s.heap H locs → W p l e R_Tail_look s m args below meth c H locs 0 0 Q (F0 m 0 ls [])
set_option maxHeartbeats 4000000 in
set_option maxRecDepth 100000 in
theorem w_Tail_look_b0 {p : Program} {l : Launch} {e : Env} {s : State} {m : MethodId} {args : Array Value} {below : List Frame} {meth : Method} {c : Code} {Q : State → Prop} {A : Nat → Prop} {D : va_G} {cI cL cZ : ClassId} {a_this : Nat} {a_p1 : Nat} {a_p1_words : Nat} {i_first : Int32} {i_left : Int32} {i_p1_room : Int32} {i_p1_used : Int32} {i_p1_held : Int32} {i_p1_many : Int32} {n_p1_words : Nat} {v_p1_words : Nat → Int64} {l2 : Int32} {N : Nat} {res : Int32}  (C : Cx p s m args c b_Tail_look 3 "PrefixMill$Tail" D [(cI, .int), (cL, .long), (cZ, .boolean)] A) (hret : E_Tail_look p l e s m args below meth c Q A D cI cL cZ a_this a_p1 a_p1_words i_first i_left i_p1_room i_p1_used i_p1_held i_p1_many n_p1_words v_p1_words l2 res)  : I_Tail_look_b0 p l e s m args below meth c Q A D cI cL cZ a_this a_p1 a_p1_words i_first i_left i_p1_room i_p1_used i_p1_held i_p1_many n_p1_words v_p1_words l2 res (f_Tail_look N i_first i_left i_p1_used n_p1_words v_p1_words l2 ) := by
  obtain ⟨hx, hb, hml, hown, hts, hK, hA⟩ := C
  intro _ h H locs ls hl hP hD hS
  unfold f_Tail_look at h
  refine lv_iload_n hx hb d_Tail_look_0 rfl (lv_at hl 2 rfl) ?_
  refine lv_aload_n hx hb d_Tail_look_1 rfl (lv_at hl 0 rfl) ?_
  refine va_get hx hb hts in_Tail hown hK hP 0 rfl rfl 1 (by decide) (hts _ m_291) (fun _ h9 => h9) rfl d_Tail_look_2 ?_
  refine lv_icmp_gt (tgt := 25) hx hb d_Tail_look_5 (by decide) (fun c_1 => ?_) (fun c_1 => ?_)
  · replace h := if_t h c_1
    refine lv_aload_n hx hb d_Tail_look_25 rfl (lv_at hl 1 rfl) ?_
    refine lv_aload_n hx hb d_Tail_look_26 rfl (lv_at hl 0 rfl) ?_
    refine va_get hx hb hts in_Tail hown hK hP 0 rfl rfl 0 (by decide) (hts _ m_290) (fun _ h9 => h9) rfl d_Tail_look_27 ?_
    refine lv_aload_n hx hb d_Tail_look_30 rfl (lv_at hl 0 rfl) ?_
    refine va_get hx hb hts in_Tail hown hK hP 0 rfl rfl 1 (by decide) (hts _ m_291) (fun _ h9 => h9) rfl d_Tail_look_31 ?_
    obtain ⟨r_2, hc_3, h⟩ := bd1_s h
    have hPc := hP.sub (ws' := [(a_p1, .inr (5, [.ref a_p1_words, .int i_p1_room, .int i_p1_used, .int i_p1_held, .int i_p1_many])), (a_p1_words, .inl (cL, n_p1_words, .inr (.inl v_p1_words)))]) [1, 2] rfl
    have hDc := hD.sub (ws' := [(a_p1, .inr (5, [.ref a_p1_words, .int i_p1_room, .int i_p1_used, .int i_p1_held, .int i_p1_many])), (a_p1_words, .inl (cL, n_p1_words, .inr (.inl v_p1_words)))]) [1, 2] (by decide) rfl
    have hFc := va_free (wc := [(a_p1, .inr (5, [.ref a_p1_words, .int i_p1_room, .int i_p1_used, .int i_p1_held, .int i_p1_many])), (a_p1_words, .inl (cL, n_p1_words, .inr (.inl v_p1_words)))]) hD hS hA [1, 2] rfl
    refine va_calli (va_runV (As := [.int i_first, .int i_left]) (rest := []) ⟨hx, hb, hml, hown, hts⟩ (c_Row_bits l D cI cL cZ H.size N a_p1 a_p1_words i_p1_room i_p1_used i_p1_held i_p1_many n_p1_words v_p1_words i_first i_left r_2 hc_3) ⟨(my_cb 2 hts m_639 rfl rfl (hts _ m_67) (hts _ m_668) (by decide +kernel) ⟨Nat.le_of_ble_eq_true rfl, Nat.le_of_ble_eq_true rfl⟩), hts _ m_637, hts _ m_638⟩ ⟨fun a U g mk q => by obtain ⟨q0, q1, qP, qK, qD⟩ := q; exact ⟨q0, q1, qP, va_K.moved (u := U) (U := U.calling g mk a) (Vm.Alike.refl U.vm) qK, qD⟩, va_recv hK hPc (ci := 5) (q0 := 0) rfl rfl, fun U hU hW => ⟨rfl, by rw [hU], by rw [hU]; exact hPc, va_K.moved hW.alike hK, hDc.weaken (fun _ _ _ _ => trivial)⟩⟩ rfl rfl hl.1 rfl (lv_room (Nat.le_of_ble_eq_true rfl)) d_Tail_look_34 ⟨Nat.zero_le _, Nat.zero_le _⟩) hS (fun q _ h => hFc q h) hFc (fun rr u t H1 locs ht hvm hw hB hz1 hk1 hS => ?_)
    obtain ⟨hP1, hK1, hD1⟩ := hB
    rw [ht] at hP1
    subst hw
    obtain ⟨hP, hD⟩ := va_join (wr := [(a_this, .inr (8, [.int i_first, .int i_left]))]) (w1 := [(a_p1, .inr (5, [.ref a_p1_words, .int i_p1_room, .int i_p1_used, .int i_p1_held, .int i_p1_many])), (a_p1_words, .inl (cL, n_p1_words, .inr (.inl v_p1_words)))]) hP hD [1, 2] [0] rfl rfl (by decide) (by decide) hk1 hFc hP1 hD1
    clear hPc hDc hFc hk1 hP1 hD1 hK1
    generalize H1 = H at hP hS ⊢
    have hP : va_P D classes [(a_this, .inr (8, [.int i_first, .int i_left])), (a_p1, .inr (5, [.ref a_p1_words, .int i_p1_room, .int i_p1_used, .int i_p1_held, .int i_p1_many])), (a_p1_words, .inl (cL, n_p1_words, .inr (.inl v_p1_words)))] H := hP.sub [0, 1, 2] rfl
    have hD : va_D A [(a_this, .inr (8, [.int i_first, .int i_left])), (a_p1, .inr (5, [.ref a_p1_words, .int i_p1_room, .int i_p1_used, .int i_p1_held, .int i_p1_many])), (a_p1_words, .inl (cL, n_p1_words, .inr (.inl v_p1_words)))] := hD.sub [0, 1, 2] (by decide) rfl
    refine lv_iload_n hx hb d_Tail_look_37 rfl (lv_at hl 2 rfl) ?_
    refine lv_aload_n hx hb d_Tail_look_38 rfl (lv_at hl 0 rfl) ?_
    refine va_get hx hb hts in_Tail hown hK hP 0 rfl rfl 1 (by decide) (hts _ m_291) (fun _ h9 => h9) rfl d_Tail_look_39 ?_
    refine lv_isub hx hb d_Tail_look_42 ?_
    refine lv_ishl hx hb d_Tail_look_43 ?_
    exact hret _ _ _ _ (r_2 <<< ((l2 - i_left) &&& 31))  h d_Tail_look_44 hP hD hS
  · replace h := if_f h c_1
    refine lv_aload_n hx hb d_Tail_look_8 rfl (lv_at hl 1 rfl) ?_
    refine lv_aload_n hx hb d_Tail_look_9 rfl (lv_at hl 0 rfl) ?_
    refine va_get hx hb hts in_Tail hown hK hP 0 rfl rfl 0 (by decide) (hts _ m_290) (fun _ h9 => h9) rfl d_Tail_look_10 ?_
    refine lv_aload_n hx hb d_Tail_look_13 rfl (lv_at hl 0 rfl) ?_
    refine va_get hx hb hts in_Tail hown hK hP 0 rfl rfl 1 (by decide) (hts _ m_291) (fun _ h9 => h9) rfl d_Tail_look_14 ?_
    refine lv_iadd hx hb d_Tail_look_17 ?_
    refine lv_iload_n hx hb d_Tail_look_18 rfl (lv_at hl 2 rfl) ?_
    refine lv_isub hx hb d_Tail_look_19 ?_
    refine lv_iload_n hx hb d_Tail_look_20 rfl (lv_at hl 2 rfl) ?_
    obtain ⟨r_4, hc_5, h⟩ := bd1_s h
    have hPc := hP.sub (ws' := [(a_p1, .inr (5, [.ref a_p1_words, .int i_p1_room, .int i_p1_used, .int i_p1_held, .int i_p1_many])), (a_p1_words, .inl (cL, n_p1_words, .inr (.inl v_p1_words)))]) [1, 2] rfl
    have hDc := hD.sub (ws' := [(a_p1, .inr (5, [.ref a_p1_words, .int i_p1_room, .int i_p1_used, .int i_p1_held, .int i_p1_many])), (a_p1_words, .inl (cL, n_p1_words, .inr (.inl v_p1_words)))]) [1, 2] (by decide) rfl
    have hFc := va_free (wc := [(a_p1, .inr (5, [.ref a_p1_words, .int i_p1_room, .int i_p1_used, .int i_p1_held, .int i_p1_many])), (a_p1_words, .inl (cL, n_p1_words, .inr (.inl v_p1_words)))]) hD hS hA [1, 2] rfl
    refine va_calli (va_runV (As := [.int ((i_first + i_left) - l2), .int l2]) (rest := []) ⟨hx, hb, hml, hown, hts⟩ (c_Row_bits l D cI cL cZ H.size N a_p1 a_p1_words i_p1_room i_p1_used i_p1_held i_p1_many n_p1_words v_p1_words ((i_first + i_left) - l2) l2 r_4 hc_5) ⟨(my_cb 2 hts m_639 rfl rfl (hts _ m_67) (hts _ m_668) (by decide +kernel) ⟨Nat.le_of_ble_eq_true rfl, Nat.le_of_ble_eq_true rfl⟩), hts _ m_637, hts _ m_638⟩ ⟨fun a U g mk q => by obtain ⟨q0, q1, qP, qK, qD⟩ := q; exact ⟨q0, q1, qP, va_K.moved (u := U) (U := U.calling g mk a) (Vm.Alike.refl U.vm) qK, qD⟩, va_recv hK hPc (ci := 5) (q0 := 0) rfl rfl, fun U hU hW => ⟨rfl, by rw [hU], by rw [hU]; exact hPc, va_K.moved hW.alike hK, hDc.weaken (fun _ _ _ _ => trivial)⟩⟩ rfl rfl hl.1 rfl (lv_room (Nat.le_of_ble_eq_true rfl)) d_Tail_look_21 ⟨Nat.zero_le _, Nat.zero_le _⟩) hS (fun q _ h => hFc q h) hFc (fun rr u t H1 locs ht hvm hw hB hz1 hk1 hS => ?_)
    obtain ⟨hP1, hK1, hD1⟩ := hB
    rw [ht] at hP1
    subst hw
    obtain ⟨hP, hD⟩ := va_join (wr := [(a_this, .inr (8, [.int i_first, .int i_left]))]) (w1 := [(a_p1, .inr (5, [.ref a_p1_words, .int i_p1_room, .int i_p1_used, .int i_p1_held, .int i_p1_many])), (a_p1_words, .inl (cL, n_p1_words, .inr (.inl v_p1_words)))]) hP hD [1, 2] [0] rfl rfl (by decide) (by decide) hk1 hFc hP1 hD1
    clear hPc hDc hFc hk1 hP1 hD1 hK1
    generalize H1 = H at hP hS ⊢
    have hP : va_P D classes [(a_this, .inr (8, [.int i_first, .int i_left])), (a_p1, .inr (5, [.ref a_p1_words, .int i_p1_room, .int i_p1_used, .int i_p1_held, .int i_p1_many])), (a_p1_words, .inl (cL, n_p1_words, .inr (.inl v_p1_words)))] H := hP.sub [0, 1, 2] rfl
    have hD : va_D A [(a_this, .inr (8, [.int i_first, .int i_left])), (a_p1, .inr (5, [.ref a_p1_words, .int i_p1_room, .int i_p1_used, .int i_p1_held, .int i_p1_many])), (a_p1_words, .inl (cL, n_p1_words, .inr (.inl v_p1_words)))] := hD.sub [0, 1, 2] (by decide) rfl
    exact hret _ _ _ _ r_4  h d_Tail_look_24 hP hD hS
set_option maxHeartbeats 4000000 in
set_option maxRecDepth 100000 in
theorem c_Tail_look (l : Launch) (D : va_G) (cI cL cZ : ClassId) (sz N : Nat) (a_this : Nat) (a_p1 : Nat) (a_p1_words : Nat) (i_first : Int32) (i_left : Int32) (i_p1_room : Int32) (i_p1_used : Int32) (i_p1_held : Int32) (i_p1_many : Int32) (n_p1_words : Nat) (v_p1_words : Nat → Int64) (l2 : Int32) (rv : Int32) (h : f_Tail_look N i_first i_left i_p1_used n_p1_words v_p1_words l2  = some (rv)) : Met l ({ cls := "PrefixMill$Tail", name := "look", desc := "(LPrefixMill$Row;I)I" } : Jvm.MethodName) ws_Tail_look R_Tail_look (va_Pc [.ref a_this, .ref a_p1, .int l2] (fun U => U.heap.size = sz ∧ va_P D classes [(a_this, .inr (8, [.int i_first, .int i_left])), (a_p1, .inr (5, [.ref a_p1_words, .int i_p1_room, .int i_p1_used, .int i_p1_held, .int i_p1_many])), (a_p1_words, .inl (cL, n_p1_words, .inr (.inl v_p1_words)))] U.heap ∧ va_K D classes [(cI, .int), (cL, .long), (cZ, .boolean)] U ∧ va_D (fun _ => True) [(a_this, .inr (8, [.int i_first, .int i_left])), (a_p1, .inr (5, [.ref a_p1_words, .int i_p1_room, .int i_p1_used, .int i_p1_held, .int i_p1_many])), (a_p1_words, .inl (cL, n_p1_words, .inr (.inl v_p1_words)))])) (va_Qi (fun (r0 : Int32) (_ : Unit) => rv = r0) (fun _ t => va_P D classes [(a_this, .inr (8, [.int i_first, .int i_left])), (a_p1, .inr (5, [.ref a_p1_words, .int i_p1_room, .int i_p1_used, .int i_p1_held, .int i_p1_many])), (a_p1_words, .inl (cL, n_p1_words, .inr (.inl v_p1_words)))] t.heap ∧ va_K D classes [(cI, .int), (cL, .long), (cZ, .boolean)] t ∧ va_D (va_A [(a_this, .inr (8, [.int i_first, .int i_left])), (a_p1, .inr (5, [.ref a_p1_words, .int i_p1_room, .int i_p1_used, .int i_p1_held, .int i_p1_many])), (a_p1_words, .inl (cL, n_p1_words, .inr (.inl v_p1_words)))] sz) [(a_this, .inr (8, [.int i_first, .int i_left])), (a_p1, .inr (5, [.ref a_p1_words, .int i_p1_room, .int i_p1_used, .int i_p1_held, .int i_p1_many])), (a_p1_words, .inl (cL, n_p1_words, .inr (.inl v_p1_words)))]) (va_A [(a_this, .inr (8, [.int i_first, .int i_left])), (a_p1, .inr (5, [.ref a_p1_words, .int i_p1_room, .int i_p1_used, .int i_p1_held, .int i_p1_many])), (a_p1_words, .inl (cL, n_p1_words, .inr (.inl v_p1_words)))] sz)) 0 0 (va_A [(a_this, .inr (8, [.int i_first, .int i_left])), (a_p1, .inr (5, [.ref a_p1_words, .int i_p1_room, .int i_p1_used, .int i_p1_held, .int i_p1_many])), (a_p1_words, .inl (cL, n_p1_words, .inr (.inl v_p1_words)))] sz) := by
  refine Met.ofW (cc := b_Tail_look) (maxL := 3) (ret := (some .int)) (by decide) rfl ?_
  intro p e s m args below meth c s₁ B hml hv
  obtain ⟨rfl, hsz, hP, hK, hD0⟩ := hv
  have hx := B.exec
  have hb := B.bytes
  have hr := B.returns
  have hts0 := atoms_spec (ws := ws_Tail_look) B.pre
  have hts := gd_tl hts0
  clear hts0
  have hown : s.vm.findClass "PrefixMill$Tail" = some m.cls := findClass_of_methodNamed B.named
  have hlocks := B.notSynchronized
  subst hsz
  have hD := hD0.self (sz := s.heap.size)
  generalize hAe : va_A [(a_this, .inr (8, [.int i_first, .int i_left])), (a_p1, .inr (5, [.ref a_p1_words, .int i_p1_room, .int i_p1_used, .int i_p1_held, .int i_p1_many])), (a_p1_words, .inl (cL, n_p1_words, .inr (.inl v_p1_words)))] s.heap.size = A at hD ⊢
  have hA : ∀ q : Nat, s.heap.size ≤ q → A q := fun q h => by rw [← hAe]; exact Or.inr h
  have hS : va_S A s.heap s.heap [] := va_S.rf
  have hP : va_P D classes [(a_this, .inr (8, [.int i_first, .int i_left])), (a_p1, .inr (5, [.ref a_p1_words, .int i_p1_room, .int i_p1_used, .int i_p1_held, .int i_p1_many])), (a_p1_words, .inl (cL, n_p1_words, .inr (.inl v_p1_words)))] s.heap := hP
  have hl := lv_entry ([.ref a_this, .ref a_p1, .int l2]) (n := 3) (Nat.le_of_ble_eq_true rfl)
  rw [lg_entry_eq]
  generalize (lg_sl ([.ref a_this, .ref a_p1, .int l2]) ++ List.replicate (3 - (lg_sl ([.ref a_this, .ref a_p1, .int l2])).length) Slot.unset).toArray = ls at hl ⊢
  have hl : lv_has ls 3 [(0, .ref a_this), (1, .ref a_p1), (2, .int l2)] := hl
  have C : Cx p s m ([.ref a_this, .ref a_p1, .int l2] : List Value).toArray c b_Tail_look 3 "PrefixMill$Tail" D [(cI, .int), (cL, .long), (cZ, .boolean)] A := ⟨hx, hb, hml, hown, hts, hK, hA⟩
  refine w_Tail_look_b0 (res := (rv)) C ?_ () h s.heap [] ls hl hP hD hS
  intro pc9 H9 locs9 ls9 rv9 e9 d9 hP9 hD9 hS9
  cases e9
  exact W.iret (v := rv) hx hb hr (fun t ht hW => ⟨⟨rv, (), rfl, rfl, by rw [ht]; exact hP9, va_K.moved hW.alike hK, hD9⟩, hS9.F ht⟩) hS9.2.2 d9
abbrev b_Tail_drop : ByteArray := prog_8_method_4_code
def ws_Tail_drop : List Cond := .code ({ cls := "PrefixMill$Tail", name := "drop", desc := "(I)Z" } : Jvm.MethodName) b_Tail_drop 2 (some .boolean) :: tt
theorem d_Tail_drop_0 : decode b_Tail_drop 0 = .ok (.iload_n 1, 1) := by decide +kernel
theorem d_Tail_drop_1 : decode b_Tail_drop 1 = .ok (.aload_n 0, 1) := by decide +kernel
theorem d_Tail_drop_2 : decode b_Tail_drop 2 = .ok (.getfield 24, 3) := by decide +kernel
theorem d_Tail_drop_5 : decode b_Tail_drop 5 = .ok (.if_icmp .le 5, 3) := by decide +kernel
theorem d_Tail_drop_8 : decode b_Tail_drop 8 = .ok (.iconst 0, 1) := by decide +kernel
theorem d_Tail_drop_9 : decode b_Tail_drop 9 = .ok (.ireturn, 1) := by decide +kernel
theorem d_Tail_drop_10 : decode b_Tail_drop 10 = .ok (.aload_n 0, 1) := by decide +kernel
theorem d_Tail_drop_11 : decode b_Tail_drop 11 = .ok (.dup, 1) := by decide +kernel
theorem d_Tail_drop_12 : decode b_Tail_drop 12 = .ok (.getfield 24, 3) := by decide +kernel
theorem d_Tail_drop_15 : decode b_Tail_drop 15 = .ok (.iload_n 1, 1) := by decide +kernel
theorem d_Tail_drop_16 : decode b_Tail_drop 16 = .ok (.isub, 1) := by decide +kernel
theorem d_Tail_drop_17 : decode b_Tail_drop 17 = .ok (.putfield 24, 3) := by decide +kernel
theorem d_Tail_drop_20 : decode b_Tail_drop 20 = .ok (.iconst 1, 1) := by decide +kernel
theorem d_Tail_drop_21 : decode b_Tail_drop 21 = .ok (.ireturn, 1) := by decide +kernel
def f_Tail_drop (N : Nat) (l1 : Int32)  (i_left : Int32) : Option (Int32 × Int32) :=
  if l1 ≤ i_left then
  nm (i_left - l1) fun i_left_2 =>
  some (1, i_left_2)
  else
  some (0, i_left)
abbrev R_Tail_drop : Room := ({ frames := 0, cells := 0, slots := 0, locals := 0 } : Room)
def E_Tail_drop (p : Program) (l : Launch) (e : Env) (s : State) (m : MethodId) (args : Array Value) (below : List Frame) (meth : Method) (c : Code) (Q : State → Prop) (A : Nat → Prop) (D : va_G) (cI cL cZ : ClassId) (a_this : Nat) (i_first : Int32) (l1 : Int32) (res : Int32 × Int32) : Prop := ∀ (pc : Nat) (H : Heap) (locs : List Loc) (ls : Array Slot) (rv : Int32) (i_left : Int32), some (rv, i_left) = some res → narrow .boolean (.int rv) = .int rv → decode b_Tail_drop pc = .ok (.ireturn, 1) → va_P D classes [(a_this, .inr (8, [.int i_first, .int i_left]))] H → va_D A [(a_this, .inr (8, [.int i_first, .int i_left]))] → va_S A s.heap H locs → W p l e R_Tail_drop s m args below meth c H locs 0 0 Q (F0 m pc ls [.int rv])
def I_Tail_drop_b0 (p : Program) (l : Launch) (e : Env) (s : State) (m : MethodId) (args : Array Value) (below : List Frame) (meth : Method) (c : Code) (Q : State → Prop) (A : Nat → Prop) (D : va_G) (cI cL cZ : ClassId) (a_this : Nat) (i_first : Int32) (l1 : Int32) (res : Int32 × Int32) (kf : Int32 → Option (Int32 × Int32)) : Prop := ∀ (i_left : Int32), kf i_left = some res → ∀ (H : Heap) (locs : List Loc) (ls : Array Slot), lv_has ls 2 [(0, .ref a_this), (1, .int l1)] → va_P D classes [(a_this, .inr (8, [.int i_first, .int i_left]))] H → va_D A [(a_this, .inr (8, [.int i_first, .int i_left]))] → va_S A s.heap H locs → W p l e R_Tail_drop s m args below meth c H locs 0 0 Q (F0 m 0 ls [])
set_option maxHeartbeats 4000000 in
set_option maxRecDepth 100000 in
theorem w_Tail_drop_b0 {p : Program} {l : Launch} {e : Env} {s : State} {m : MethodId} {args : Array Value} {below : List Frame} {meth : Method} {c : Code} {Q : State → Prop} {A : Nat → Prop} {D : va_G} {cI cL cZ : ClassId} {a_this : Nat} {i_first : Int32} {l1 : Int32} {N : Nat} {res : Int32 × Int32}  (C : Cx p s m args c b_Tail_drop 2 "PrefixMill$Tail" D [(cI, .int), (cL, .long), (cZ, .boolean)] A) (hret : E_Tail_drop p l e s m args below meth c Q A D cI cL cZ a_this i_first l1 res)  : I_Tail_drop_b0 p l e s m args below meth c Q A D cI cL cZ a_this i_first l1 res (f_Tail_drop N l1 ) := by
  obtain ⟨hx, hb, hml, hown, hts, hK, hA⟩ := C
  intro i_left h H locs ls hl hP hD hS
  unfold f_Tail_drop at h
  refine lv_iload_n hx hb d_Tail_drop_0 rfl (lv_at hl 1 rfl) ?_
  refine lv_aload_n hx hb d_Tail_drop_1 rfl (lv_at hl 0 rfl) ?_
  refine va_get hx hb hts in_Tail hown hK hP 0 rfl rfl 1 (by decide) (hts _ m_291) (fun _ h9 => h9) rfl d_Tail_drop_2 ?_
  refine lv_icmp_le (tgt := 10) hx hb d_Tail_drop_5 (by decide) (fun c_1 => ?_) (fun c_1 => ?_)
  · replace h := if_t h c_1
    refine lv_aload_n hx hb d_Tail_drop_10 rfl (lv_at hl 0 rfl) ?_
    refine lv_dup hx hb d_Tail_drop_11 rfl ?_
    refine va_get hx hb hts in_Tail hown hK hP 0 rfl rfl 1 (by decide) (hts _ m_291) (fun _ h9 => h9) rfl d_Tail_drop_12 ?_
    refine lv_iload_n hx hb d_Tail_drop_15 rfl (lv_at hl 1 rfl) ?_
    refine lv_isub hx hb d_Tail_drop_16 ?_
    refine lv_topi (fun i_left_2 ei_left_2 => ?_)
    replace h := nm_s h ei_left_2
    refine va_put (v := .int i_left_2) (ty := .int) hx hb hts in_Tail t_Tail t_Tail_ok n_Tail hown hK hP hD hS 0 rfl rfl 1 (by decide) (hts _ m_291) (fun _ h9 => h9) rfl (by decide +kernel) rfl rfl (Nat.le_of_ble_eq_true rfl) d_Tail_drop_17 (fun H locs hP hD hS => ?_)
    have hP : va_P D classes [(a_this, .inr (8, [.int i_first, .int i_left_2]))] H := by exact hP
    have hD : va_D A [(a_this, .inr (8, [.int i_first, .int i_left_2]))] := by exact hD
    refine lv_iconst (v := 1) hx hb d_Tail_drop_20 (by decide) ?_
    exact hret _ _ _ _ 1 i_left_2 h rfl d_Tail_drop_21 hP hD hS
  · replace h := if_f h c_1
    refine lv_iconst (v := 0) hx hb d_Tail_drop_8 (by decide) ?_
    exact hret _ _ _ _ 0 i_left h rfl d_Tail_drop_9 hP hD hS
set_option maxHeartbeats 4000000 in
set_option maxRecDepth 100000 in
theorem c_Tail_drop (l : Launch) (D : va_G) (cI cL cZ : ClassId) (sz N : Nat) (a_this : Nat) (i_first : Int32) (i_left : Int32) (l1 : Int32) (rv : Int32) (i_left' : Int32) (h : f_Tail_drop N l1 i_left = some (rv, i_left')) : Met l ({ cls := "PrefixMill$Tail", name := "drop", desc := "(I)Z" } : Jvm.MethodName) ws_Tail_drop R_Tail_drop (va_Pc [.ref a_this, .int l1] (fun U => U.heap.size = sz ∧ va_P D classes [(a_this, .inr (8, [.int i_first, .int i_left]))] U.heap ∧ va_K D classes [(cI, .int), (cL, .long), (cZ, .boolean)] U ∧ va_D (fun _ => True) [(a_this, .inr (8, [.int i_first, .int i_left]))])) (va_Qi (fun (r0 : Int32) (_ : Unit) => rv = r0) (fun _ t => va_P D classes [(a_this, .inr (8, [.int i_first, .int i_left']))] t.heap ∧ va_K D classes [(cI, .int), (cL, .long), (cZ, .boolean)] t ∧ va_D (va_A [(a_this, .inr (8, [.int i_first, .int i_left]))] sz) [(a_this, .inr (8, [.int i_first, .int i_left']))]) (va_A [(a_this, .inr (8, [.int i_first, .int i_left]))] sz)) 0 0 (va_A [(a_this, .inr (8, [.int i_first, .int i_left]))] sz) := by
  refine Met.ofW (cc := b_Tail_drop) (maxL := 2) (ret := (some .boolean)) (by decide) rfl ?_
  intro p e s m args below meth c s₁ B hml hv
  obtain ⟨rfl, hsz, hP, hK, hD0⟩ := hv
  have hx := B.exec
  have hb := B.bytes
  have hr := B.returns
  have hts0 := atoms_spec (ws := ws_Tail_drop) B.pre
  have hts := gd_tl hts0
  clear hts0
  have hown : s.vm.findClass "PrefixMill$Tail" = some m.cls := findClass_of_methodNamed B.named
  have hlocks := B.notSynchronized
  subst hsz
  have hD := hD0.self (sz := s.heap.size)
  generalize hAe : va_A [(a_this, .inr (8, [.int i_first, .int i_left]))] s.heap.size = A at hD ⊢
  have hA : ∀ q : Nat, s.heap.size ≤ q → A q := fun q h => by rw [← hAe]; exact Or.inr h
  have hS : va_S A s.heap s.heap [] := va_S.rf
  have hP : va_P D classes [(a_this, .inr (8, [.int i_first, .int i_left]))] s.heap := hP
  have hl := lv_entry ([.ref a_this, .int l1]) (n := 2) (Nat.le_of_ble_eq_true rfl)
  rw [lg_entry_eq]
  generalize (lg_sl ([.ref a_this, .int l1]) ++ List.replicate (2 - (lg_sl ([.ref a_this, .int l1])).length) Slot.unset).toArray = ls at hl ⊢
  have hl : lv_has ls 2 [(0, .ref a_this), (1, .int l1)] := hl
  have C : Cx p s m ([.ref a_this, .int l1] : List Value).toArray c b_Tail_drop 2 "PrefixMill$Tail" D [(cI, .int), (cL, .long), (cZ, .boolean)] A := ⟨hx, hb, hml, hown, hts, hK, hA⟩
  refine w_Tail_drop_b0 (res := (rv, i_left')) C ?_ _ h s.heap [] ls hl hP hD hS
  intro pc9 H9 locs9 ls9 rv9 i_left9 e9 z9 d9 hP9 hD9 hS9
  cases e9
  exact W.zret (v := rv) hx hb hr z9 (fun t ht hW => ⟨⟨rv, (), rfl, rfl, by rw [ht]; exact hP9, va_K.moved hW.alike hK, hD9⟩, hS9.F ht⟩) hS9.2.2 d9
abbrev b_Tail_take : ByteArray := prog_8_method_5_code
def ws_Tail_take : List Cond := .code ({ cls := "PrefixMill$Tail", name := "take", desc := "(LPrefixMill$Row;I)I" } : Jvm.MethodName) b_Tail_take 4 (some .int) :: tt
theorem d_Tail_take_0 : decode b_Tail_take 0 = .ok (.aload_n 0, 1) := by decide +kernel
theorem d_Tail_take_1 : decode b_Tail_take 1 = .ok (.aload_n 1, 1) := by decide +kernel
theorem d_Tail_take_2 : decode b_Tail_take 2 = .ok (.iload_n 2, 1) := by decide +kernel
theorem d_Tail_take_3 : decode b_Tail_take 3 = .ok (.invokevirtual 31, 3) := by decide +kernel
theorem d_Tail_take_6 : decode b_Tail_take 6 = .ok (.istore_n 3, 1) := by decide +kernel
theorem d_Tail_take_7 : decode b_Tail_take 7 = .ok (.aload_n 0, 1) := by decide +kernel
theorem d_Tail_take_8 : decode b_Tail_take 8 = .ok (.iload_n 2, 1) := by decide +kernel
theorem d_Tail_take_9 : decode b_Tail_take 9 = .ok (.invokevirtual 35, 3) := by decide +kernel
theorem d_Tail_take_12 : decode b_Tail_take 12 = .ok (.pop, 1) := by decide +kernel
theorem d_Tail_take_13 : decode b_Tail_take 13 = .ok (.iload_n 3, 1) := by decide +kernel
theorem d_Tail_take_14 : decode b_Tail_take 14 = .ok (.ireturn, 1) := by decide +kernel
def f_Tail_take (N : Nat) (i_first : Int32) (i_p1_used : Int32) (n_p1_words : Nat) (v_p1_words : Nat → Int64) (l2 : Int32)  (i_left : Int32) : Option (Int32 × Int32) :=
  bd1 (f_Tail_look N i_first i_left i_p1_used n_p1_words v_p1_words l2) fun r_1 =>
  bd2 (f_Tail_drop N l2 i_left) fun r_3 i_left_4 =>
  some (r_1, i_left_4)
abbrev R_Tail_take : Room := ({ frames := 3, cells := 0, slots := 0, locals := 67 } : Room)
def E_Tail_take (p : Program) (l : Launch) (e : Env) (s : State) (m : MethodId) (args : Array Value) (below : List Frame) (meth : Method) (c : Code) (Q : State → Prop) (A : Nat → Prop) (D : va_G) (cI cL cZ : ClassId) (a_this : Nat) (a_p1 : Nat) (a_p1_words : Nat) (i_first : Int32) (i_p1_room : Int32) (i_p1_used : Int32) (i_p1_held : Int32) (i_p1_many : Int32) (n_p1_words : Nat) (v_p1_words : Nat → Int64) (l2 : Int32) (res : Int32 × Int32) : Prop := ∀ (pc : Nat) (H : Heap) (locs : List Loc) (ls : Array Slot) (rv : Int32) (i_left : Int32), some (rv, i_left) = some res → decode b_Tail_take pc = .ok (.ireturn, 1) → va_P D classes [(a_this, .inr (8, [.int i_first, .int i_left])), (a_p1, .inr (5, [.ref a_p1_words, .int i_p1_room, .int i_p1_used, .int i_p1_held, .int i_p1_many])), (a_p1_words, .inl (cL, n_p1_words, .inr (.inl v_p1_words)))] H → va_D A [(a_this, .inr (8, [.int i_first, .int i_left])), (a_p1, .inr (5, [.ref a_p1_words, .int i_p1_room, .int i_p1_used, .int i_p1_held, .int i_p1_many])), (a_p1_words, .inl (cL, n_p1_words, .inr (.inl v_p1_words)))] → va_S A s.heap H locs → W p l e R_Tail_take s m args below meth c H locs 0 0 Q (F0 m pc ls [.int rv])
def I_Tail_take_b0 (p : Program) (l : Launch) (e : Env) (s : State) (m : MethodId) (args : Array Value) (below : List Frame) (meth : Method) (c : Code) (Q : State → Prop) (A : Nat → Prop) (D : va_G) (cI cL cZ : ClassId) (a_this : Nat) (a_p1 : Nat) (a_p1_words : Nat) (i_first : Int32) (i_p1_room : Int32) (i_p1_used : Int32) (i_p1_held : Int32) (i_p1_many : Int32) (n_p1_words : Nat) (v_p1_words : Nat → Int64) (l2 : Int32) (res : Int32 × Int32) (kf : Int32 → Option (Int32 × Int32)) : Prop := ∀ (i_left : Int32), kf i_left = some res → ∀ (H : Heap) (locs : List Loc) (ls : Array Slot), lv_has ls 4 [(0, .ref a_this), (1, .ref a_p1), (2, .int l2)] → va_P D classes [(a_this, .inr (8, [.int i_first, .int i_left])), (a_p1, .inr (5, [.ref a_p1_words, .int i_p1_room, .int i_p1_used, .int i_p1_held, .int i_p1_many])), (a_p1_words, .inl (cL, n_p1_words, .inr (.inl v_p1_words)))] H → va_D A [(a_this, .inr (8, [.int i_first, .int i_left])), (a_p1, .inr (5, [.ref a_p1_words, .int i_p1_room, .int i_p1_used, .int i_p1_held, .int i_p1_many])), (a_p1_words, .inl (cL, n_p1_words, .inr (.inl v_p1_words)))] → va_S A s.heap H locs → W p l e R_Tail_take s m args below meth c H locs 0 0 Q (F0 m 0 ls [])
set_option maxHeartbeats 4000000 in
set_option maxRecDepth 100000 in
theorem w_Tail_take_b0 {p : Program} {l : Launch} {e : Env} {s : State} {m : MethodId} {args : Array Value} {below : List Frame} {meth : Method} {c : Code} {Q : State → Prop} {A : Nat → Prop} {D : va_G} {cI cL cZ : ClassId} {a_this : Nat} {a_p1 : Nat} {a_p1_words : Nat} {i_first : Int32} {i_p1_room : Int32} {i_p1_used : Int32} {i_p1_held : Int32} {i_p1_many : Int32} {n_p1_words : Nat} {v_p1_words : Nat → Int64} {l2 : Int32} {N : Nat} {res : Int32 × Int32}  (C : Cx p s m args c b_Tail_take 4 "PrefixMill$Tail" D [(cI, .int), (cL, .long), (cZ, .boolean)] A) (hret : E_Tail_take p l e s m args below meth c Q A D cI cL cZ a_this a_p1 a_p1_words i_first i_p1_room i_p1_used i_p1_held i_p1_many n_p1_words v_p1_words l2 res)  : I_Tail_take_b0 p l e s m args below meth c Q A D cI cL cZ a_this a_p1 a_p1_words i_first i_p1_room i_p1_used i_p1_held i_p1_many n_p1_words v_p1_words l2 res (f_Tail_take N i_first i_p1_used n_p1_words v_p1_words l2 ) := by
  obtain ⟨hx, hb, hml, hown, hts, hK, hA⟩ := C
  intro i_left h H locs ls hl hP hD hS
  unfold f_Tail_take at h
  refine lv_aload_n hx hb d_Tail_take_0 rfl (lv_at hl 0 rfl) ?_
  refine lv_aload_n hx hb d_Tail_take_1 rfl (lv_at hl 1 rfl) ?_
  refine lv_iload_n hx hb d_Tail_take_2 rfl (lv_at hl 2 rfl) ?_
  obtain ⟨r_1, hc_2, h⟩ := bd1_s h
  have hPc := hP.sub (ws' := [(a_this, .inr (8, [.int i_first, .int i_left])), (a_p1, .inr (5, [.ref a_p1_words, .int i_p1_room, .int i_p1_used, .int i_p1_held, .int i_p1_many])), (a_p1_words, .inl (cL, n_p1_words, .inr (.inl v_p1_words)))]) [0, 1, 2] rfl
  have hDc := hD.sub (ws' := [(a_this, .inr (8, [.int i_first, .int i_left])), (a_p1, .inr (5, [.ref a_p1_words, .int i_p1_room, .int i_p1_used, .int i_p1_held, .int i_p1_many])), (a_p1_words, .inl (cL, n_p1_words, .inr (.inl v_p1_words)))]) [0, 1, 2] (by decide) rfl
  have hFc := va_free (wc := [(a_this, .inr (8, [.int i_first, .int i_left])), (a_p1, .inr (5, [.ref a_p1_words, .int i_p1_room, .int i_p1_used, .int i_p1_held, .int i_p1_many])), (a_p1_words, .inl (cL, n_p1_words, .inr (.inl v_p1_words)))]) hD hS hA [0, 1, 2] rfl
  refine va_calli (va_runV (As := [.ref a_p1, .int l2]) (rest := []) ⟨hx, hb, hml, hown, hts⟩ (c_Tail_look l D cI cL cZ H.size N a_this a_p1 a_p1_words i_first i_left i_p1_room i_p1_used i_p1_held i_p1_many n_p1_words v_p1_words l2 r_1 hc_2) ⟨(my_cb 2 hts m_667 rfl rfl (hts _ m_74) (hts _ m_664) (by decide +kernel) ⟨Nat.le_of_ble_eq_true rfl, Nat.le_of_ble_eq_true rfl⟩), hts _ m_665, hts _ m_666⟩ ⟨fun a U g mk q => by obtain ⟨q0, q1, qP, qK, qD⟩ := q; exact ⟨q0, q1, qP, va_K.moved (u := U) (U := U.calling g mk a) (Vm.Alike.refl U.vm) qK, qD⟩, va_recv hK hPc (ci := 8) (q0 := 0) rfl rfl, fun U hU hW => ⟨rfl, by rw [hU], by rw [hU]; exact hPc, va_K.moved hW.alike hK, hDc.weaken (fun _ _ _ _ => trivial)⟩⟩ rfl rfl hl.1 rfl (lv_room (Nat.le_of_ble_eq_true rfl)) d_Tail_take_3 ⟨Nat.zero_le _, Nat.zero_le _⟩) hS (fun q _ h => hFc q h) hFc (fun rr u t H1 locs ht hvm hw hB hz1 hk1 hS => ?_)
  obtain ⟨hP1, hK1, hD1⟩ := hB
  rw [ht] at hP1
  subst hw
  obtain ⟨hP, hD⟩ := va_join (wr := []) (w1 := [(a_this, .inr (8, [.int i_first, .int i_left])), (a_p1, .inr (5, [.ref a_p1_words, .int i_p1_room, .int i_p1_used, .int i_p1_held, .int i_p1_many])), (a_p1_words, .inl (cL, n_p1_words, .inr (.inl v_p1_words)))]) hP hD [0, 1, 2] [] rfl rfl (by decide) (by decide) hk1 hFc hP1 hD1
  clear hPc hDc hFc hk1 hP1 hD1 hK1
  generalize H1 = H at hP hS ⊢
  have hP : va_P D classes [(a_this, .inr (8, [.int i_first, .int i_left])), (a_p1, .inr (5, [.ref a_p1_words, .int i_p1_room, .int i_p1_used, .int i_p1_held, .int i_p1_many])), (a_p1_words, .inl (cL, n_p1_words, .inr (.inl v_p1_words)))] H := hP.sub [0, 1, 2] rfl
  have hD : va_D A [(a_this, .inr (8, [.int i_first, .int i_left])), (a_p1, .inr (5, [.ref a_p1_words, .int i_p1_room, .int i_p1_used, .int i_p1_held, .int i_p1_many])), (a_p1_words, .inl (cL, n_p1_words, .inr (.inl v_p1_words)))] := hD.sub [0, 1, 2] (by decide) rfl
  refine lv_istore_n (lv' := [(3, .int r_1), (0, .ref a_this), (1, .ref a_p1), (2, .int l2)]) hx hb d_Tail_take_6 rfl hl (by decide) rfl (fun ls hl => ?_)
  refine lv_aload_n hx hb d_Tail_take_7 rfl (lv_at hl 1 rfl) ?_
  refine lv_iload_n hx hb d_Tail_take_8 rfl (lv_at hl 3 rfl) ?_
  obtain ⟨r_3, i_left_4, hc_5, h⟩ := bd2_s h
  have hPc := hP.sub (ws' := [(a_this, .inr (8, [.int i_first, .int i_left]))]) [0] rfl
  have hDc := hD.sub (ws' := [(a_this, .inr (8, [.int i_first, .int i_left]))]) [0] (by decide) rfl
  have hFc := va_free (wc := [(a_this, .inr (8, [.int i_first, .int i_left]))]) hD hS hA [0] rfl
  refine va_calli (va_runV (As := [.int l2]) (rest := []) ⟨hx, hb, hml, hown, hts⟩ (c_Tail_drop l D cI cL cZ H.size N a_this i_first i_left l2 r_3 i_left_4 hc_5) ⟨(my_cb 1 hts m_672 rfl rfl (hts _ m_74) (hts _ m_669) (by decide +kernel) ⟨Nat.le_of_ble_eq_true rfl, Nat.le_of_ble_eq_true rfl⟩), hts _ m_670, hts _ m_671⟩ ⟨fun a U g mk q => by obtain ⟨q0, q1, qP, qK, qD⟩ := q; exact ⟨q0, q1, qP, va_K.moved (u := U) (U := U.calling g mk a) (Vm.Alike.refl U.vm) qK, qD⟩, va_recv hK hPc (ci := 8) (q0 := 0) rfl rfl, fun U hU hW => ⟨rfl, by rw [hU], by rw [hU]; exact hPc, va_K.moved hW.alike hK, hDc.weaken (fun _ _ _ _ => trivial)⟩⟩ rfl rfl hl.1 rfl (lv_room (Nat.le_of_ble_eq_true rfl)) d_Tail_take_9 ⟨Nat.zero_le _, Nat.zero_le _⟩) hS (fun q _ h => hFc q h) hFc (fun rr u t H1 locs ht hvm hw hB hz1 hk1 hS => ?_)
  obtain ⟨hP1, hK1, hD1⟩ := hB
  rw [ht] at hP1
  subst hw
  obtain ⟨hP, hD⟩ := va_join (wr := [(a_p1, .inr (5, [.ref a_p1_words, .int i_p1_room, .int i_p1_used, .int i_p1_held, .int i_p1_many])), (a_p1_words, .inl (cL, n_p1_words, .inr (.inl v_p1_words)))]) (w1 := [(a_this, .inr (8, [.int i_first, .int i_left_4]))]) hP hD [0] [1, 2] rfl rfl (by decide) (by decide) hk1 hFc hP1 hD1
  clear hPc hDc hFc hk1 hP1 hD1 hK1
  generalize H1 = H at hP hS ⊢
  have hP : va_P D classes [(a_this, .inr (8, [.int i_first, .int i_left_4])), (a_p1, .inr (5, [.ref a_p1_words, .int i_p1_room, .int i_p1_used, .int i_p1_held, .int i_p1_many])), (a_p1_words, .inl (cL, n_p1_words, .inr (.inl v_p1_words)))] H := hP.sub [2, 0, 1] rfl
  have hD : va_D A [(a_this, .inr (8, [.int i_first, .int i_left_4])), (a_p1, .inr (5, [.ref a_p1_words, .int i_p1_room, .int i_p1_used, .int i_p1_held, .int i_p1_many])), (a_p1_words, .inl (cL, n_p1_words, .inr (.inl v_p1_words)))] := hD.sub [2, 0, 1] (by decide) rfl
  refine lv_pop hx hb d_Tail_take_12 rfl ?_
  refine lv_iload_n hx hb d_Tail_take_13 rfl (lv_at hl 0 rfl) ?_
  exact hret _ _ _ _ r_1 i_left_4 h d_Tail_take_14 hP hD hS
set_option maxHeartbeats 4000000 in
set_option maxRecDepth 100000 in
theorem c_Tail_take (l : Launch) (D : va_G) (cI cL cZ : ClassId) (sz N : Nat) (a_this : Nat) (a_p1 : Nat) (a_p1_words : Nat) (i_first : Int32) (i_left : Int32) (i_p1_room : Int32) (i_p1_used : Int32) (i_p1_held : Int32) (i_p1_many : Int32) (n_p1_words : Nat) (v_p1_words : Nat → Int64) (l2 : Int32) (rv : Int32) (i_left' : Int32) (h : f_Tail_take N i_first i_p1_used n_p1_words v_p1_words l2 i_left = some (rv, i_left')) : Met l ({ cls := "PrefixMill$Tail", name := "take", desc := "(LPrefixMill$Row;I)I" } : Jvm.MethodName) ws_Tail_take R_Tail_take (va_Pc [.ref a_this, .ref a_p1, .int l2] (fun U => U.heap.size = sz ∧ va_P D classes [(a_this, .inr (8, [.int i_first, .int i_left])), (a_p1, .inr (5, [.ref a_p1_words, .int i_p1_room, .int i_p1_used, .int i_p1_held, .int i_p1_many])), (a_p1_words, .inl (cL, n_p1_words, .inr (.inl v_p1_words)))] U.heap ∧ va_K D classes [(cI, .int), (cL, .long), (cZ, .boolean)] U ∧ va_D (fun _ => True) [(a_this, .inr (8, [.int i_first, .int i_left])), (a_p1, .inr (5, [.ref a_p1_words, .int i_p1_room, .int i_p1_used, .int i_p1_held, .int i_p1_many])), (a_p1_words, .inl (cL, n_p1_words, .inr (.inl v_p1_words)))])) (va_Qi (fun (r0 : Int32) (_ : Unit) => rv = r0) (fun _ t => va_P D classes [(a_this, .inr (8, [.int i_first, .int i_left'])), (a_p1, .inr (5, [.ref a_p1_words, .int i_p1_room, .int i_p1_used, .int i_p1_held, .int i_p1_many])), (a_p1_words, .inl (cL, n_p1_words, .inr (.inl v_p1_words)))] t.heap ∧ va_K D classes [(cI, .int), (cL, .long), (cZ, .boolean)] t ∧ va_D (va_A [(a_this, .inr (8, [.int i_first, .int i_left])), (a_p1, .inr (5, [.ref a_p1_words, .int i_p1_room, .int i_p1_used, .int i_p1_held, .int i_p1_many])), (a_p1_words, .inl (cL, n_p1_words, .inr (.inl v_p1_words)))] sz) [(a_this, .inr (8, [.int i_first, .int i_left'])), (a_p1, .inr (5, [.ref a_p1_words, .int i_p1_room, .int i_p1_used, .int i_p1_held, .int i_p1_many])), (a_p1_words, .inl (cL, n_p1_words, .inr (.inl v_p1_words)))]) (va_A [(a_this, .inr (8, [.int i_first, .int i_left])), (a_p1, .inr (5, [.ref a_p1_words, .int i_p1_room, .int i_p1_used, .int i_p1_held, .int i_p1_many])), (a_p1_words, .inl (cL, n_p1_words, .inr (.inl v_p1_words)))] sz)) 0 0 (va_A [(a_this, .inr (8, [.int i_first, .int i_left])), (a_p1, .inr (5, [.ref a_p1_words, .int i_p1_room, .int i_p1_used, .int i_p1_held, .int i_p1_many])), (a_p1_words, .inl (cL, n_p1_words, .inr (.inl v_p1_words)))] sz) := by
  refine Met.ofW (cc := b_Tail_take) (maxL := 4) (ret := (some .int)) (by decide) rfl ?_
  intro p e s m args below meth c s₁ B hml hv
  obtain ⟨rfl, hsz, hP, hK, hD0⟩ := hv
  have hx := B.exec
  have hb := B.bytes
  have hr := B.returns
  have hts0 := atoms_spec (ws := ws_Tail_take) B.pre
  have hts := gd_tl hts0
  clear hts0
  have hown : s.vm.findClass "PrefixMill$Tail" = some m.cls := findClass_of_methodNamed B.named
  have hlocks := B.notSynchronized
  subst hsz
  have hD := hD0.self (sz := s.heap.size)
  generalize hAe : va_A [(a_this, .inr (8, [.int i_first, .int i_left])), (a_p1, .inr (5, [.ref a_p1_words, .int i_p1_room, .int i_p1_used, .int i_p1_held, .int i_p1_many])), (a_p1_words, .inl (cL, n_p1_words, .inr (.inl v_p1_words)))] s.heap.size = A at hD ⊢
  have hA : ∀ q : Nat, s.heap.size ≤ q → A q := fun q h => by rw [← hAe]; exact Or.inr h
  have hS : va_S A s.heap s.heap [] := va_S.rf
  have hP : va_P D classes [(a_this, .inr (8, [.int i_first, .int i_left])), (a_p1, .inr (5, [.ref a_p1_words, .int i_p1_room, .int i_p1_used, .int i_p1_held, .int i_p1_many])), (a_p1_words, .inl (cL, n_p1_words, .inr (.inl v_p1_words)))] s.heap := hP
  have hl := lv_entry ([.ref a_this, .ref a_p1, .int l2]) (n := 4) (Nat.le_of_ble_eq_true rfl)
  rw [lg_entry_eq]
  generalize (lg_sl ([.ref a_this, .ref a_p1, .int l2]) ++ List.replicate (4 - (lg_sl ([.ref a_this, .ref a_p1, .int l2])).length) Slot.unset).toArray = ls at hl ⊢
  have hl : lv_has ls 4 [(0, .ref a_this), (1, .ref a_p1), (2, .int l2)] := hl
  have C : Cx p s m ([.ref a_this, .ref a_p1, .int l2] : List Value).toArray c b_Tail_take 4 "PrefixMill$Tail" D [(cI, .int), (cL, .long), (cZ, .boolean)] A := ⟨hx, hb, hml, hown, hts, hK, hA⟩
  refine w_Tail_take_b0 (res := (rv, i_left')) C ?_ _ h s.heap [] ls hl hP hD hS
  intro pc9 H9 locs9 ls9 rv9 i_left9 e9 d9 hP9 hD9 hS9
  cases e9
  exact W.iret (v := rv) hx hb hr (fun t ht hW => ⟨⟨rv, (), rfl, rfl, by rw [ht]; exact hP9, va_K.moved hW.alike hK, hD9⟩, hS9.F ht⟩) hS9.2.2 d9
