abbrev b_Row_get : ByteArray := prog_5_method_4_code
def ws_Row_get : List Cond := .code ({ cls := "PrefixMill$Row", name := "get", desc := "(I)I" } : Jvm.MethodName) b_Row_get 2 (some .int) :: tt
theorem d_Row_get_0 : decode b_Row_get 0 = .ok (.iload_n 1, 1) := by decide +kernel
theorem d_Row_get_1 : decode b_Row_get 1 = .ok (.ifCond .lt 11, 3) := by decide +kernel
theorem d_Row_get_4 : decode b_Row_get 4 = .ok (.iload_n 1, 1) := by decide +kernel
theorem d_Row_get_5 : decode b_Row_get 5 = .ok (.aload_n 0, 1) := by decide +kernel
theorem d_Row_get_6 : decode b_Row_get 6 = .ok (.getfield 17, 3) := by decide +kernel
theorem d_Row_get_9 : decode b_Row_get 9 = .ok (.if_icmp .lt 5, 3) := by decide +kernel
theorem d_Row_get_12 : decode b_Row_get 12 = .ok (.iconst (-1), 1) := by decide +kernel
theorem d_Row_get_13 : decode b_Row_get 13 = .ok (.ireturn, 1) := by decide +kernel
theorem d_Row_get_14 : decode b_Row_get 14 = .ok (.aload_n 0, 1) := by decide +kernel
theorem d_Row_get_15 : decode b_Row_get 15 = .ok (.getfield 13, 3) := by decide +kernel
theorem d_Row_get_18 : decode b_Row_get 18 = .ok (.iload_n 1, 1) := by decide +kernel
theorem d_Row_get_19 : decode b_Row_get 19 = .ok (.iconst 3, 1) := by decide +kernel
theorem d_Row_get_20 : decode b_Row_get 20 = .ok (.ishr, 1) := by decide +kernel
theorem d_Row_get_21 : decode b_Row_get 21 = .ok (.laload, 1) := by decide +kernel
theorem d_Row_get_22 : decode b_Row_get 22 = .ok (.bipush 8, 2) := by decide +kernel
theorem d_Row_get_24 : decode b_Row_get 24 = .ok (.iload_n 1, 1) := by decide +kernel
theorem d_Row_get_25 : decode b_Row_get 25 = .ok (.bipush 7, 2) := by decide +kernel
theorem d_Row_get_27 : decode b_Row_get 27 = .ok (.iand, 1) := by decide +kernel
theorem d_Row_get_28 : decode b_Row_get 28 = .ok (.imul, 1) := by decide +kernel
theorem d_Row_get_29 : decode b_Row_get 29 = .ok (.lushr, 1) := by decide +kernel
theorem d_Row_get_30 : decode b_Row_get 30 = .ok (.l2i, 1) := by decide +kernel
theorem d_Row_get_31 : decode b_Row_get 31 = .ok (.sipush 255, 3) := by decide +kernel
theorem d_Row_get_34 : decode b_Row_get 34 = .ok (.iand, 1) := by decide +kernel
theorem d_Row_get_35 : decode b_Row_get 35 = .ok (.ireturn, 1) := by decide +kernel
def f_Row_get_b12 (N : Nat) (i_used : Int32) (n_words : Nat) (v_words : Nat → Int64) (l1 : Int32)   : Option (Int32) :=
  some ((-1))
def f_Row_get (N : Nat) (i_used : Int32) (n_words : Nat) (v_words : Nat → Int64) (l1 : Int32)   : Option (Int32) :=
  if l1 < 0 then
  f_Row_get_b12 N i_used n_words v_words l1  
  else
  if l1 < i_used then
  ck (inb (l1 >>> (3 &&& 31)) n_words) <|
  some (((Int64.toInt32 ((Int64.toUInt64 (v_words (Int32.toNatClampNeg (l1 >>> (3 &&& 31)))) >>> (Int64.toUInt64 (Int32.toInt64 (8 * (l1 &&& 7))) &&& Int64.toUInt64 63)).toInt64)) &&& 255))
  else
  f_Row_get_b12 N i_used n_words v_words l1  
abbrev R_Row_get : Room := ({ frames := 0, cells := 0, slots := 0, locals := 0 } : Room)
def E_Row_get (p : Program) (l : Launch) (e : Env) (s : State) (m : MethodId) (args : Array Value) (below : List Frame) (meth : Method) (c : Code) (Q : State → Prop) (A : Nat → Prop) (D : va_G) (cI cL cZ : ClassId) (a_this : Nat) (a_words : Nat) (i_room : Int32) (i_used : Int32) (i_held : Int32) (i_many : Int32) (n_words : Nat) (v_words : Nat → Int64) (l1 : Int32) (res : Int32) : Prop := ∀ (pc : Nat) (H : Heap) (locs : List Loc) (ls : Array Slot) (rv : Int32), some (rv) = some res → decode b_Row_get pc = .ok (.ireturn, 1) → va_P D classes [(a_this, .inr (5, [.ref a_words, .int i_room, .int i_used, .int i_held, .int i_many])), (a_words, .inl (cL, n_words, .inr (.inl v_words)))] H → va_D A [(a_this, .inr (5, [.ref a_words, .int i_room, .int i_used, .int i_held, .int i_many])), (a_words, .inl (cL, n_words, .inr (.inl v_words)))] → va_S A s.heap H locs → W p l e R_Row_get s m args below meth c H locs 0 0 Q (F0 m pc ls [.int rv])
def I_Row_get_b12 (p : Program) (l : Launch) (e : Env) (s : State) (m : MethodId) (args : Array Value) (below : List Frame) (meth : Method) (c : Code) (Q : State → Prop) (A : Nat → Prop) (D : va_G) (cI cL cZ : ClassId) (a_this : Nat) (a_words : Nat) (i_room : Int32) (i_used : Int32) (i_held : Int32) (i_many : Int32) (n_words : Nat) (v_words : Nat → Int64) (l1 : Int32) (res : Int32) (kf : Option (Int32)) : Prop := ∀ (_ : Unit), kf  = some res → ∀ (H : Heap) (locs : List Loc) (ls : Array Slot), lv_has ls 2 [] → va_P D classes [(a_this, .inr (5, [.ref a_words, .int i_room, .int i_used, .int i_held, .int i_many])), (a_words, .inl (cL, n_words, .inr (.inl v_words)))] H → va_D A [(a_this, .inr (5, [.ref a_words, .int i_room, .int i_used, .int i_held, .int i_many])), (a_words, .inl (cL, n_words, .inr (.inl v_words)))] → va_S A s.heap H locs → W p l e R_Row_get s m args below meth c H locs 0 0 Q (F0 m 12 ls [])
def I_Row_get_b0 (p : Program) (l : Launch) (e : Env) (s : State) (m : MethodId) (args : Array Value) (below : List Frame) (meth : Method) (c : Code) (Q : State → Prop) (A : Nat → Prop) (D : va_G) (cI cL cZ : ClassId) (a_this : Nat) (a_words : Nat) (i_room : Int32) (i_used : Int32) (i_held : Int32) (i_many : Int32) (n_words : Nat) (v_words : Nat → Int64) (l1 : Int32) (res : Int32) (kf : Option (Int32)) : Prop := ∀ (_ : Unit), kf  = some res → ∀ (H : Heap) (locs : List Loc) (ls : Array Slot), lv_has ls 2 [(0, .ref a_this), (1, .int l1)] → va_P D classes [(a_this, .inr (5, [.ref a_words, .int i_room, .int i_used, .int i_held, .int i_many])), (a_words, .inl (cL, n_words, .inr (.inl v_words)))] H → va_D A [(a_this, .inr (5, [.ref a_words, .int i_room, .int i_used, .int i_held, .int i_many])), (a_words, .inl (cL, n_words, .inr (.inl v_words)))] → va_S A s.heap H locs → W p l e R_Row_get s m args below meth c H locs 0 0 Q (F0 m 0 ls [])
set_option maxHeartbeats 4000000 in
set_option maxRecDepth 100000 in
theorem w_Row_get_b12 {p : Program} {l : Launch} {e : Env} {s : State} {m : MethodId} {args : Array Value} {below : List Frame} {meth : Method} {c : Code} {Q : State → Prop} {A : Nat → Prop} {D : va_G} {cI cL cZ : ClassId} {a_this : Nat} {a_words : Nat} {i_room : Int32} {i_used : Int32} {i_held : Int32} {i_many : Int32} {n_words : Nat} {v_words : Nat → Int64} {l1 : Int32} {N : Nat} {res : Int32}  (C : Cx p s m args c b_Row_get 2 "PrefixMill$Row" D [(cI, .int), (cL, .long), (cZ, .boolean)] A) (hret : E_Row_get p l e s m args below meth c Q A D cI cL cZ a_this a_words i_room i_used i_held i_many n_words v_words l1 res)  : I_Row_get_b12 p l e s m args below meth c Q A D cI cL cZ a_this a_words i_room i_used i_held i_many n_words v_words l1 res (f_Row_get_b12 N i_used n_words v_words l1 ) := by
  obtain ⟨hx, hb, hml, hown, hts, hK, hA⟩ := C
  intro _ h H locs ls hl hP hD hS
  unfold f_Row_get_b12 at h
  refine lv_iconst (v := (-1)) hx hb d_Row_get_12 (by decide) ?_
  exact hret _ _ _ _ (-1)  h d_Row_get_13 hP hD hS
set_option maxHeartbeats 4000000 in
set_option maxRecDepth 100000 in
theorem w_Row_get_b0 {p : Program} {l : Launch} {e : Env} {s : State} {m : MethodId} {args : Array Value} {below : List Frame} {meth : Method} {c : Code} {Q : State → Prop} {A : Nat → Prop} {D : va_G} {cI cL cZ : ClassId} {a_this : Nat} {a_words : Nat} {i_room : Int32} {i_used : Int32} {i_held : Int32} {i_many : Int32} {n_words : Nat} {v_words : Nat → Int64} {l1 : Int32} {N : Nat} {res : Int32}  (C : Cx p s m args c b_Row_get 2 "PrefixMill$Row" D [(cI, .int), (cL, .long), (cZ, .boolean)] A) (hret : E_Row_get p l e s m args below meth c Q A D cI cL cZ a_this a_words i_room i_used i_held i_many n_words v_words l1 res)  : I_Row_get_b0 p l e s m args below meth c Q A D cI cL cZ a_this a_words i_room i_used i_held i_many n_words v_words l1 res (f_Row_get N i_used n_words v_words l1 ) := by
  obtain ⟨hx, hb, hml, hown, hts, hK, hA⟩ := C
  intro _ h H locs ls hl hP hD hS
  unfold f_Row_get at h
  refine lv_iload_n hx hb d_Row_get_0 rfl (lv_at hl 1 rfl) ?_
  refine lv_if_lt (tgt := 12) hx hb d_Row_get_1 (by decide) (fun c_1 => ?_) (fun c_1 => ?_)
  · replace h := if_t h c_1
    exact w_Row_get_b12 ⟨hx, hb, hml, hown, hts, hK, hA⟩ hret  () h H locs ls (lv_sub hl [] rfl) hP hD hS
  · replace h := if_f h c_1
    refine lv_iload_n hx hb d_Row_get_4 rfl (lv_at hl 1 rfl) ?_
    refine lv_aload_n hx hb d_Row_get_5 rfl (lv_at hl 0 rfl) ?_
    refine va_get hx hb hts in_Row hown hK hP 0 rfl rfl 2 (by decide) (hts _ m_96) (fun _ h9 => h9) rfl d_Row_get_6 ?_
    refine lv_icmp_lt (tgt := 14) hx hb d_Row_get_9 (by decide) (fun c_2 => ?_) (fun c_2 => ?_)
    · replace h := if_t h c_2
      refine lv_aload_n hx hb d_Row_get_14 rfl (lv_at hl 0 rfl) ?_
      refine va_get hx hb hts in_Row hown hK hP 0 rfl rfl 0 (by decide) (hts _ m_94) (fun _ h9 => h9) rfl d_Row_get_15 ?_
      refine lv_iload_n hx hb d_Row_get_18 rfl (lv_at hl 1 rfl) ?_
      refine lv_iconst (v := 3) hx hb d_Row_get_19 (by decide) ?_
      refine lv_ishr hx hb d_Row_get_20 ?_
      obtain ⟨g_3, h⟩ := ck_s h
      refine va_lald hx hb hK hP 1 1 rfl rfl (inb_s g_3) d_Row_get_21 ?_
      refine lv_bipush (v := 8) hx hb d_Row_get_22 (by decide) ?_
      refine lv_iload_n hx hb d_Row_get_24 rfl (lv_at hl 1 rfl) ?_
      refine lv_bipush (v := 7) hx hb d_Row_get_25 (by decide) ?_
      refine lv_iand hx hb d_Row_get_27 ?_
      refine lv_imul hx hb d_Row_get_28 ?_
      refine lv_lushr hx hb d_Row_get_29 rfl ?_
      refine lv_l2i hx hb d_Row_get_30 rfl ?_
      refine lv_sipush (v := 255) hx hb d_Row_get_31 (by decide) ?_
      refine lv_iand hx hb d_Row_get_34 ?_
      exact hret _ _ _ _ ((Int64.toInt32 ((Int64.toUInt64 (v_words (Int32.toNatClampNeg (l1 >>> (3 &&& 31)))) >>> (Int64.toUInt64 (Int32.toInt64 (8 * (l1 &&& 7))) &&& Int64.toUInt64 63)).toInt64)) &&& 255)  h d_Row_get_35 hP hD hS
    · replace h := if_f h c_2
      exact w_Row_get_b12 ⟨hx, hb, hml, hown, hts, hK, hA⟩ hret  () h H locs ls (lv_sub hl [] rfl) hP hD hS
set_option maxHeartbeats 4000000 in
set_option maxRecDepth 100000 in
theorem c_Row_get (l : Launch) (D : va_G) (cI cL cZ : ClassId) (sz N : Nat) (a_this : Nat) (a_words : Nat) (i_room : Int32) (i_used : Int32) (i_held : Int32) (i_many : Int32) (n_words : Nat) (v_words : Nat → Int64) (l1 : Int32) (rv : Int32) (h : f_Row_get N i_used n_words v_words l1  = some (rv)) : Met l ({ cls := "PrefixMill$Row", name := "get", desc := "(I)I" } : Jvm.MethodName) ws_Row_get R_Row_get (va_Pc [.ref a_this, .int l1] (fun U => U.heap.size = sz ∧ va_P D classes [(a_this, .inr (5, [.ref a_words, .int i_room, .int i_used, .int i_held, .int i_many])), (a_words, .inl (cL, n_words, .inr (.inl v_words)))] U.heap ∧ va_K D classes [(cI, .int), (cL, .long), (cZ, .boolean)] U ∧ va_D (fun _ => True) [(a_this, .inr (5, [.ref a_words, .int i_room, .int i_used, .int i_held, .int i_many])), (a_words, .inl (cL, n_words, .inr (.inl v_words)))])) (va_Qi (fun (r0 : Int32) (_ : Unit) => rv = r0) (fun _ t => va_P D classes [(a_this, .inr (5, [.ref a_words, .int i_room, .int i_used, .int i_held, .int i_many])), (a_words, .inl (cL, n_words, .inr (.inl v_words)))] t.heap ∧ va_K D classes [(cI, .int), (cL, .long), (cZ, .boolean)] t ∧ va_D (va_A [(a_this, .inr (5, [.ref a_words, .int i_room, .int i_used, .int i_held, .int i_many])), (a_words, .inl (cL, n_words, .inr (.inl v_words)))] sz) [(a_this, .inr (5, [.ref a_words, .int i_room, .int i_used, .int i_held, .int i_many])), (a_words, .inl (cL, n_words, .inr (.inl v_words)))]) (va_A [(a_this, .inr (5, [.ref a_words, .int i_room, .int i_used, .int i_held, .int i_many])), (a_words, .inl (cL, n_words, .inr (.inl v_words)))] sz)) 0 0 (va_A [(a_this, .inr (5, [.ref a_words, .int i_room, .int i_used, .int i_held, .int i_many])), (a_words, .inl (cL, n_words, .inr (.inl v_words)))] sz) := by
  refine Met.ofW (cc := b_Row_get) (maxL := 2) (ret := (some .int)) (by decide) rfl ?_
  intro p e s m args below meth c s₁ B hml hv
  obtain ⟨rfl, hsz, hP, hK, hD0⟩ := hv
  have hx := B.exec
  have hb := B.bytes
  have hr := B.returns
  have hts0 := atoms_spec (ws := ws_Row_get) B.pre
  have hts := gd_tl hts0
  clear hts0
  have hown : s.vm.findClass "PrefixMill$Row" = some m.cls := findClass_of_methodNamed B.named
  have hlocks := B.notSynchronized
  subst hsz
  have hD := hD0.self (sz := s.heap.size)
  generalize hAe : va_A [(a_this, .inr (5, [.ref a_words, .int i_room, .int i_used, .int i_held, .int i_many])), (a_words, .inl (cL, n_words, .inr (.inl v_words)))] s.heap.size = A at hD ⊢
  have hA : ∀ q : Nat, s.heap.size ≤ q → A q := fun q h => by rw [← hAe]; exact Or.inr h
  have hS : va_S A s.heap s.heap [] := va_S.rf
  have hP : va_P D classes [(a_this, .inr (5, [.ref a_words, .int i_room, .int i_used, .int i_held, .int i_many])), (a_words, .inl (cL, n_words, .inr (.inl v_words)))] s.heap := hP
  have hl := lv_entry ([.ref a_this, .int l1]) (n := 2) (Nat.le_of_ble_eq_true rfl)
  rw [lg_entry_eq]
  generalize (lg_sl ([.ref a_this, .int l1]) ++ List.replicate (2 - (lg_sl ([.ref a_this, .int l1])).length) Slot.unset).toArray = ls at hl ⊢
  have hl : lv_has ls 2 [(0, .ref a_this), (1, .int l1)] := hl
  have C : Cx p s m ([.ref a_this, .int l1] : List Value).toArray c b_Row_get 2 "PrefixMill$Row" D [(cI, .int), (cL, .long), (cZ, .boolean)] A := ⟨hx, hb, hml, hown, hts, hK, hA⟩
  refine w_Row_get_b0 (res := (rv)) C ?_ () h s.heap [] ls hl hP hD hS
  intro pc9 H9 locs9 ls9 rv9 e9 d9 hP9 hD9 hS9
  cases e9
  exact W.iret (v := rv) hx hb hr (fun t ht hW => ⟨⟨rv, (), rfl, rfl, by rw [ht]; exact hP9, va_K.moved hW.alike hK, hD9⟩, hS9.F ht⟩) hS9.2.2 d9
