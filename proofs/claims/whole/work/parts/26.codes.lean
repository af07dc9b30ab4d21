abbrev b_Codes_areThere : ByteArray := prog_2_method_2_code
def ws_Codes_areThere : List Cond := .code ({ cls := "PrefixMill$Codes", name := "areThere", desc := "()Z" } : Jvm.MethodName) b_Codes_areThere 1 (some .boolean) :: tt
theorem d_Codes_areThere_0 : decode b_Codes_areThere 0 = .ok (.aload_n 0, 1) := by decide +kernel
theorem d_Codes_areThere_1 : decode b_Codes_areThere 1 = .ok (.getfield 21, 3) := by decide +kernel
theorem d_Codes_areThere_4 : decode b_Codes_areThere 4 = .ok (.ifCond .le 7, 3) := by decide +kernel
theorem d_Codes_areThere_7 : decode b_Codes_areThere 7 = .ok (.iconst 1, 1) := by decide +kernel
theorem d_Codes_areThere_8 : decode b_Codes_areThere 8 = .ok (.goto 4, 3) := by decide +kernel
theorem d_Codes_areThere_11 : decode b_Codes_areThere 11 = .ok (.iconst 0, 1) := by decide +kernel
theorem d_Codes_areThere_12 : decode b_Codes_areThere 12 = .ok (.ireturn, 1) := by decide +kernel
def f_Codes_areThere (N : Nat) (i_greatest : Int32)   : Option (Int32) :=
  if i_greatest ≤ 0 then
  some (0)
  else
  some (1)
abbrev R_Codes_areThere : Room := ({ frames := 0, cells := 0, slots := 0, locals := 0 } : Room)
def E_Codes_areThere (p : Program) (l : Launch) (e : Env) (s : State) (m : MethodId) (args : Array Value) (below : List Frame) (meth : Method) (c : Code) (Q : State → Prop) (A : Nat → Prop) (D : va_G) (cI cL cZ : ClassId) (a_this : Nat) (o_lengths : Nat) (o_values : Nat) (o_cells : Nat) (i_greatest : Int32) (i_known : Int32) (i_highest : Int32) (res : Int32) : Prop := ∀ (pc : Nat) (H : Heap) (locs : List Loc) (ls : Array Slot) (rv : Int32), some (rv) = some res → narrow .boolean (.int rv) = .int rv → decode b_Codes_areThere pc = .ok (.ireturn, 1) → va_P D classes [(a_this, .inr (2, [.ref o_lengths, .ref o_values, .ref o_cells, .int i_greatest, .int i_known, .int i_highest]))] H → va_D A [(a_this, .inr (2, [.ref o_lengths, .ref o_values, .ref o_cells, .int i_greatest, .int i_known, .int i_highest]))] → va_S A s.heap H locs → W p l e R_Codes_areThere s m args below meth c H locs 0 0 Q (F0 m pc ls [.int rv])
def I_Codes_areThere_b0 (p : Program) (l : Launch) (e : Env) (s : State) (m : MethodId) (args : Array Value) (below : List Frame) (meth : Method) (c : Code) (Q : State → Prop) (A : Nat → Prop) (D : va_G) (cI cL cZ : ClassId) (a_this : Nat) (o_lengths : Nat) (o_values : Nat) (o_cells : Nat) (i_greatest : Int32) (i_known : Int32) (i_highest : Int32) (res : Int32) (kf : Option (Int32)) : Prop := ∀ (_ : Unit), kf  = some res → ∀ (H : Heap) (locs : List Loc) (ls : Array Slot), lv_has ls 1 [(0, .ref a_this)] → va_P D classes [(a_this, .inr (2, [.ref o_lengths, .ref o_values, .ref o_cells, .int i_greatest, .int i_known, .int i_highest]))] H → va_D A [(a_this, .inr (2, [.ref o_lengths, .ref o_values, .ref o_cells, .int i_greatest, .int i_known, .int i_highest]))] → va_S A s.heap H locs → W p l e R_Codes_areThere s m args below meth c H locs 0 0 Q (F0 m 0 ls [])
set_option maxHeartbeats 4000000 in
set_option maxRecDepth 100000 in
theorem w_Codes_areThere_b0 {p : Program} {l : Launch} {e : Env} {s : State} {m : MethodId} {args : Array Value} {below : List Frame} {meth : Method} {c : Code} {Q : State → Prop} {A : Nat → Prop} {D : va_G} {cI cL cZ : ClassId} {a_this : Nat} {o_lengths : Nat} {o_values : Nat} {o_cells : Nat} {i_greatest : Int32} {i_known : Int32} {i_highest : Int32} {N : Nat} {res : Int32}  (C : Cx p s m args c b_Codes_areThere 1 "PrefixMill$Codes" D [(cI, .int), (cL, .long), (cZ, .boolean)] A) (hret : E_Codes_areThere p l e s m args below meth c Q A D cI cL cZ a_this o_lengths o_values o_cells i_greatest i_known i_highest res)  : I_Codes_areThere_b0 p l e s m args below meth c Q A D cI cL cZ a_this o_lengths o_values o_cells i_greatest i_known i_highest res (f_Codes_areThere N i_greatest ) := by
  obtain ⟨hx, hb, hml, hown, hts, hK, hA⟩ := C
  intro _ h H locs ls hl hP hD hS
  unfold f_Codes_areThere at h
  refine lv_aload_n hx hb d_Codes_areThere_0 rfl (lv_at hl 0 rfl) ?_
  refine va_get hx hb hts in_Codes hown hK hP 0 rfl rfl 3 (by decide) (hts _ m_129) (fun _ h9 => h9) rfl d_Codes_areThere_1 ?_
  refine lv_if_le (tgt := 11) hx hb d_Codes_areThere_4 (by decide) (fun c_1 => ?_) (fun c_1 => ?_)
  · replace h := if_t h c_1
    refine lv_iconst (v := 0) hx hb d_Codes_areThere_11 (by decide) ?_
    exact hret _ _ _ _ 0  h rfl d_Codes_areThere_12 hP hD hS
  · replace h := if_f h c_1
    refine lv_iconst (v := 1) hx hb d_Codes_areThere_7 (by decide) ?_
    refine lv_goto (tgt := 12) hx hb d_Codes_areThere_8 (by decide) ?_
    exact hret _ _ _ _ 1  h rfl d_Codes_areThere_12 hP hD hS
set_option maxHeartbeats 4000000 in
set_option maxRecDepth 100000 in
theorem c_Codes_areThere (l : Launch) (D : va_G) (cI cL cZ : ClassId) (sz N : Nat) (a_this : Nat) (o_lengths : Nat) (o_values : Nat) (o_cells : Nat) (i_greatest : Int32) (i_known : Int32) (i_highest : Int32) (rv : Int32) (h : f_Codes_areThere N i_greatest  = some (rv)) : Met l ({ cls := "PrefixMill$Codes", name := "areThere", desc := "()Z" } : Jvm.MethodName) ws_Codes_areThere R_Codes_areThere (va_Pc [.ref a_this] (fun U => U.heap.size = sz ∧ va_P D classes [(a_this, .inr (2, [.ref o_lengths, .ref o_values, .ref o_cells, .int i_greatest, .int i_known, .int i_highest]))] U.heap ∧ va_K D classes [(cI, .int), (cL, .long), (cZ, .boolean)] U ∧ va_D (fun _ => True) [(a_this, .inr (2, [.ref o_lengths, .ref o_values, .ref o_cells, .int i_greatest, .int i_known, .int i_highest]))])) (va_Qi (fun (r0 : Int32) (_ : Unit) => rv = r0) (fun _ t => va_P D classes [(a_this, .inr (2, [.ref o_lengths, .ref o_values, .ref o_cells, .int i_greatest, .int i_known, .int i_highest]))] t.heap ∧ va_K D classes [(cI, .int), (cL, .long), (cZ, .boolean)] t ∧ va_D (va_A [(a_this, .inr (2, [.ref o_lengths, .ref o_values, .ref o_cells, .int i_greatest, .int i_known, .int i_highest]))] sz) [(a_this, .inr (2, [.ref o_lengths, .ref o_values, .ref o_cells, .int i_greatest, .int i_known, .int i_highest]))]) (va_A [(a_this, .inr (2, [.ref o_lengths, .ref o_values, .ref o_cells, .int i_greatest, .int i_known, .int i_highest]))] sz)) 0 0 (va_A [(a_this, .inr (2, [.ref o_lengths, .ref o_values, .ref o_cells, .int i_greatest, .int i_known, .int i_highest]))] sz) := by
  refine Met.ofW (cc := b_Codes_areThere) (maxL := 1) (ret := (some .boolean)) (by decide) rfl ?_
  intro p e s m args below meth c s₁ B hml hv
  obtain ⟨rfl, hsz, hP, hK, hD0⟩ := hv
  have hx := B.exec
  have hb := B.bytes
  have hr := B.returns
  have hts0 := atoms_spec (ws := ws_Codes_areThere) B.pre
  have hts := gd_tl hts0
  clear hts0
  have hown : s.vm.findClass "PrefixMill$Codes" = some m.cls := findClass_of_methodNamed B.named
  have hlocks := B.notSynchronized
  subst hsz
  have hD := hD0.self (sz := s.heap.size)
  generalize hAe : va_A [(a_this, .inr (2, [.ref o_lengths, .ref o_values, .ref o_cells, .int i_greatest, .int i_known, .int i_highest]))] s.heap.size = A at hD ⊢
  have hA : ∀ q : Nat, s.heap.size ≤ q → A q := fun q h => by rw [← hAe]; exact Or.inr h
  have hS : va_S A s.heap s.heap [] := va_S.rf
  have hP : va_P D classes [(a_this, .inr (2, [.ref o_lengths, .ref o_values, .ref o_cells, .int i_greatest, .int i_known, .int i_highest]))] s.heap := hP
  have hl := lv_entry ([.ref a_this]) (n := 1) (Nat.le_of_ble_eq_true rfl)
  rw [lg_entry_eq]
  generalize (lg_sl ([.ref a_this]) ++ List.replicate (1 - (lg_sl ([.ref a_this])).length) Slot.unset).toArray = ls at hl ⊢
  have hl : lv_has ls 1 [(0, .ref a_this)] := hl
  have C : Cx p s m ([.ref a_this] : List Value).toArray c b_Codes_areThere 1 "PrefixMill$Codes" D [(cI, .int), (cL, .long), (cZ, .boolean)] A := ⟨hx, hb, hml, hown, hts, hK, hA⟩
  refine w_Codes_areThere_b0 (res := (rv)) C ?_ () h s.heap [] ls hl hP hD hS
  intro pc9 H9 locs9 ls9 rv9 e9 z9 d9 hP9 hD9 hS9
  cases e9
  exact W.zret (v := rv) hx hb hr z9 (fun t ht hW => ⟨⟨rv, (), rfl, rfl, by rw [ht]; exact hP9, va_K.moved hW.alike hK, hD9⟩, hS9.F ht⟩) hS9.2.2 d9
abbrev b_Codes_weightOf : ByteArray := prog_2_method_6_code
def ws_Codes_weightOf : List Cond := .code ({ cls := "PrefixMill$Codes", name := "weightOf", desc := "(I)I" } : Jvm.MethodName) b_Codes_weightOf 2 (some .int) :: tt
theorem d_Codes_weightOf_0 : decode b_Codes_weightOf 0 = .ok (.aload_n 0, 1) := by decide +kernel
theorem d_Codes_weightOf_1 : decode b_Codes_weightOf 1 = .ok (.getfield 9, 3) := by decide +kernel
theorem d_Codes_weightOf_4 : decode b_Codes_weightOf 4 = .ok (.iload_n 1, 1) := by decide +kernel
theorem d_Codes_weightOf_5 : decode b_Codes_weightOf 5 = .ok (.iaload, 1) := by decide +kernel
theorem d_Codes_weightOf_6 : decode b_Codes_weightOf 6 = .ok (.ifCond .ne 7, 3) := by decide +kernel
theorem d_Codes_weightOf_9 : decode b_Codes_weightOf 9 = .ok (.iconst 0, 1) := by decide +kernel
theorem d_Codes_weightOf_10 : decode b_Codes_weightOf 10 = .ok (.goto 16, 3) := by decide +kernel
theorem d_Codes_weightOf_13 : decode b_Codes_weightOf 13 = .ok (.aload_n 0, 1) := by decide +kernel
theorem d_Codes_weightOf_14 : decode b_Codes_weightOf 14 = .ok (.getfield 21, 3) := by decide +kernel
theorem d_Codes_weightOf_17 : decode b_Codes_weightOf 17 = .ok (.iconst 1, 1) := by decide +kernel
theorem d_Codes_weightOf_18 : decode b_Codes_weightOf 18 = .ok (.iadd, 1) := by decide +kernel
theorem d_Codes_weightOf_19 : decode b_Codes_weightOf 19 = .ok (.aload_n 0, 1) := by decide +kernel
theorem d_Codes_weightOf_20 : decode b_Codes_weightOf 20 = .ok (.getfield 9, 3) := by decide +kernel
theorem d_Codes_weightOf_23 : decode b_Codes_weightOf 23 = .ok (.iload_n 1, 1) := by decide +kernel
theorem d_Codes_weightOf_24 : decode b_Codes_weightOf 24 = .ok (.iaload, 1) := by decide +kernel
theorem d_Codes_weightOf_25 : decode b_Codes_weightOf 25 = .ok (.isub, 1) := by decide +kernel
theorem d_Codes_weightOf_26 : decode b_Codes_weightOf 26 = .ok (.ireturn, 1) := by decide +kernel
def f_Codes_weightOf (N : Nat) (i_greatest : Int32) (v_lengths : Nat → Int32) (l1 : Int32)   : Option (Int32) :=
  ck (inb l1 256) <|
  if (v_lengths (Int32.toNatClampNeg l1)) = 0 then
  some (0)
  else
  ck (inb l1 256) <|
  some (((i_greatest + 1) - (v_lengths (Int32.toNatClampNeg l1))))
abbrev R_Codes_weightOf : Room := ({ frames := 0, cells := 0, slots := 0, locals := 0 } : Room)
def E_Codes_weightOf (p : Program) (l : Launch) (e : Env) (s : State) (m : MethodId) (args : Array Value) (below : List Frame) (meth : Method) (c : Code) (Q : State → Prop) (A : Nat → Prop) (D : va_G) (cI cL cZ : ClassId) (a_this : Nat) (a_lengths : Nat) (o_values : Nat) (o_cells : Nat) (i_greatest : Int32) (i_known : Int32) (i_highest : Int32) (v_lengths : Nat → Int32) (l1 : Int32) (res : Int32) : Prop := ∀ (pc : Nat) (H : Heap) (locs : List Loc) (ls : Array Slot) (rv : Int32), some (rv) = some res → decode b_Codes_weightOf pc = .ok (.ireturn, 1) → va_P D classes [(a_this, .inr (2, [.ref a_lengths, .ref o_values, .ref o_cells, .int i_greatest, .int i_known, .int i_highest])), (a_lengths, .inl (cI, 256, .inl v_lengths))] H → va_D A [(a_this, .inr (2, [.ref a_lengths, .ref o_values, .ref o_cells, .int i_greatest, .int i_known, .int i_highest])), (a_lengths, .inl (cI, 256, .inl v_lengths))] → va_S A s.heap H locs → W p l e R_Codes_weightOf s m args below meth c H locs 0 0 Q (F0 m pc ls [.int rv])
def I_Codes_weightOf_b0 (p : Program) (l : Launch) (e : Env) (s : State) (m : MethodId) (args : Array Value) (below : List Frame) (meth : Method) (c : Code) (Q : State → Prop) (A : Nat → Prop) (D : va_G) (cI cL cZ : ClassId) (a_this : Nat) (a_lengths : Nat) (o_values : Nat) (o_cells : Nat) (i_greatest : Int32) (i_known : Int32) (i_highest : Int32) (v_lengths : Nat → Int32) (l1 : Int32) (res : Int32) (kf : Option (Int32)) : Prop := ∀ (_ : Unit), kf  = some res → ∀ (H : Heap) (locs : List Loc) (ls : Array Slot), lv_has ls 2 [(0, .ref a_this), (1, .int l1)] → va_P D classes [(a_this, .inr (2, [.ref a_lengths, .ref o_values, .ref o_cells, .int i_greatest, .int i_known, .int i_highest])), (a_lengths, .inl (cI, 256, .inl v_lengths))] H → va_D A [(a_this, .inr (2, [.ref a_lengths, .ref o_values, .ref o_cells, .int i_greatest, .int i_known, .int i_highest])), (a_lengths, .inl (cI, 256, .inl v_lengths))] → va_S A s.heap H locs → W p l e R_Codes_weightOf s m args below meth c H locs 0 0 Q (F0 m 0 ls [])
set_option maxHeartbeats 4000000 in
set_option maxRecDepth 100000 in
theorem w_Codes_weightOf_b0 {p : Program} {l : Launch} {e : Env} {s : State} {m : MethodId} {args : Array Value} {below : List Frame} {meth : Method} {c : Code} {Q : State → Prop} {A : Nat → Prop} {D : va_G} {cI cL cZ : ClassId} {a_this : Nat} {a_lengths : Nat} {o_values : Nat} {o_cells : Nat} {i_greatest : Int32} {i_known : Int32} {i_highest : Int32} {v_lengths : Nat → Int32} {l1 : Int32} {N : Nat} {res : Int32}  (C : Cx p s m args c b_Codes_weightOf 2 "PrefixMill$Codes" D [(cI, .int), (cL, .long), (cZ, .boolean)] A) (hret : E_Codes_weightOf p l e s m args below meth c Q A D cI cL cZ a_this a_lengths o_values o_cells i_greatest i_known i_highest v_lengths l1 res)  : I_Codes_weightOf_b0 p l e s m args below meth c Q A D cI cL cZ a_this a_lengths o_values o_cells i_greatest i_known i_highest v_lengths l1 res (f_Codes_weightOf N i_greatest v_lengths l1 ) := by
  obtain ⟨hx, hb, hml, hown, hts, hK, hA⟩ := C
  intro _ h H locs ls hl hP hD hS
  unfold f_Codes_weightOf at h
  refine lv_aload_n hx hb d_Codes_weightOf_0 rfl (lv_at hl 0 rfl) ?_
  refine va_get hx hb hts in_Codes hown hK hP 0 rfl rfl 0 (by decide) (hts _ m_121) (fun _ h9 => h9) rfl d_Codes_weightOf_1 ?_
  refine lv_iload_n hx hb d_Codes_weightOf_4 rfl (lv_at hl 1 rfl) ?_
  obtain ⟨g_1, h⟩ := ck_s h
  refine va_iald hx hb hK hP 1 0 rfl rfl (inb_s g_1) d_Codes_weightOf_5 ?_
  refine lv_if_ne (tgt := 13) hx hb d_Codes_weightOf_6 (by decide) (fun c_2 => ?_) (fun c_2 => ?_)
  · replace h := if_f h c_2
    refine lv_aload_n hx hb d_Codes_weightOf_13 rfl (lv_at hl 0 rfl) ?_
    refine va_get hx hb hts in_Codes hown hK hP 0 rfl rfl 3 (by decide) (hts _ m_129) (fun _ h9 => h9) rfl d_Codes_weightOf_14 ?_
    refine lv_iconst (v := 1) hx hb d_Codes_weightOf_17 (by decide) ?_
    refine lv_iadd hx hb d_Codes_weightOf_18 ?_
    refine lv_aload_n hx hb d_Codes_weightOf_19 rfl (lv_at hl 0 rfl) ?_
    refine va_get hx hb hts in_Codes hown hK hP 0 rfl rfl 0 (by decide) (hts _ m_121) (fun _ h9 => h9) rfl d_Codes_weightOf_20 ?_
    refine lv_iload_n hx hb d_Codes_weightOf_23 rfl (lv_at hl 1 rfl) ?_
    obtain ⟨g_3, h⟩ := ck_s h
    refine va_iald hx hb hK hP 1 0 rfl rfl (inb_s g_3) d_Codes_weightOf_24 ?_
    refine lv_isub hx hb d_Codes_weightOf_25 ?_
    exact hret _ _ _ _ ((i_greatest + 1) - (v_lengths (Int32.toNatClampNeg l1)))  h d_Codes_weightOf_26 hP hD hS
  · replace h := if_t h c_2
    refine lv_iconst (v := 0) hx hb d_Codes_weightOf_9 (by decide) ?_
    refine lv_goto (tgt := 26) hx hb d_Codes_weightOf_10 (by decide) ?_
    exact hret _ _ _ _ 0  h d_Codes_weightOf_26 hP hD hS
set_option maxHeartbeats 4000000 in
set_option maxRecDepth 100000 in
theorem c_Codes_weightOf (l : Launch) (D : va_G) (cI cL cZ : ClassId) (sz N : Nat) (a_this : Nat) (a_lengths : Nat) (o_values : Nat) (o_cells : Nat) (i_greatest : Int32) (i_known : Int32) (i_highest : Int32) (v_lengths : Nat → Int32) (l1 : Int32) (rv : Int32) (h : f_Codes_weightOf N i_greatest v_lengths l1  = some (rv)) : Met l ({ cls := "PrefixMill$Codes", name := "weightOf", desc := "(I)I" } : Jvm.MethodName) ws_Codes_weightOf R_Codes_weightOf (va_Pc [.ref a_this, .int l1] (fun U => U.heap.size = sz ∧ va_P D classes [(a_this, .inr (2, [.ref a_lengths, .ref o_values, .ref o_cells, .int i_greatest, .int i_known, .int i_highest])), (a_lengths, .inl (cI, 256, .inl v_lengths))] U.heap ∧ va_K D classes [(cI, .int), (cL, .long), (cZ, .boolean)] U ∧ va_D (fun _ => True) [(a_this, .inr (2, [.ref a_lengths, .ref o_values, .ref o_cells, .int i_greatest, .int i_known, .int i_highest])), (a_lengths, .inl (cI, 256, .inl v_lengths))])) (va_Qi (fun (r0 : Int32) (_ : Unit) => rv = r0) (fun _ t => va_P D classes [(a_this, .inr (2, [.ref a_lengths, .ref o_values, .ref o_cells, .int i_greatest, .int i_known, .int i_highest])), (a_lengths, .inl (cI, 256, .inl v_lengths))] t.heap ∧ va_K D classes [(cI, .int), (cL, .long), (cZ, .boolean)] t ∧ va_D (va_A [(a_this, .inr (2, [.ref a_lengths, .ref o_values, .ref o_cells, .int i_greatest, .int i_known, .int i_highest])), (a_lengths, .inl (cI, 256, .inl v_lengths))] sz) [(a_this, .inr (2, [.ref a_lengths, .ref o_values, .ref o_cells, .int i_greatest, .int i_known, .int i_highest])), (a_lengths, .inl (cI, 256, .inl v_lengths))]) (va_A [(a_this, .inr (2, [.ref a_lengths, .ref o_values, .ref o_cells, .int i_greatest, .int i_known, .int i_highest])), (a_lengths, .inl (cI, 256, .inl v_lengths))] sz)) 0 0 (va_A [(a_this, .inr (2, [.ref a_lengths, .ref o_values, .ref o_cells, .int i_greatest, .int i_known, .int i_highest])), (a_lengths, .inl (cI, 256, .inl v_lengths))] sz) := by
  refine Met.ofW (cc := b_Codes_weightOf) (maxL := 2) (ret := (some .int)) (by decide) rfl ?_
  intro p e s m args below meth c s₁ B hml hv
  obtain ⟨rfl, hsz, hP, hK, hD0⟩ := hv
  have hx := B.exec
  have hb := B.bytes
  have hr := B.returns
  have hts0 := atoms_spec (ws := ws_Codes_weightOf) B.pre
  have hts := gd_tl hts0
  clear hts0
  have hown : s.vm.findClass "PrefixMill$Codes" = some m.cls := findClass_of_methodNamed B.named
  have hlocks := B.notSynchronized
  subst hsz
  have hD := hD0.self (sz := s.heap.size)
  generalize hAe : va_A [(a_this, .inr (2, [.ref a_lengths, .ref o_values, .ref o_cells, .int i_greatest, .int i_known, .int i_highest])), (a_lengths, .inl (cI, 256, .inl v_lengths))] s.heap.size = A at hD ⊢
  have hA : ∀ q : Nat, s.heap.size ≤ q → A q := fun q h => by rw [← hAe]; exact Or.inr h
  have hS : va_S A s.heap s.heap [] := va_S.rf
  have hP : va_P D classes [(a_this, .inr (2, [.ref a_lengths, .ref o_values, .ref o_cells, .int i_greatest, .int i_known, .int i_highest])), (a_lengths, .inl (cI, 256, .inl v_lengths))] s.heap := hP
  have hl := lv_entry ([.ref a_this, .int l1]) (n := 2) (Nat.le_of_ble_eq_true rfl)
  rw [lg_entry_eq]
  generalize (lg_sl ([.ref a_this, .int l1]) ++ List.replicate (2 - (lg_sl ([.ref a_this, .int l1])).length) Slot.unset).toArray = ls at hl ⊢
  have hl : lv_has ls 2 [(0, .ref a_this), (1, .int l1)] := hl
  have C : Cx p s m ([.ref a_this, .int l1] : List Value).toArray c b_Codes_weightOf 2 "PrefixMill$Codes" D [(cI, .int), (cL, .long), (cZ, .boolean)] A := ⟨hx, hb, hml, hown, hts, hK, hA⟩
  refine w_Codes_weightOf_b0 (res := (rv)) C ?_ () h s.heap [] ls hl hP hD hS
  intro pc9 H9 locs9 ls9 rv9 e9 d9 hP9 hD9 hS9
  cases e9
  exact W.iret (v := rv) hx hb hr (fun t ht hW => ⟨⟨rv, (), rfl, rfl, by rw [ht]; exact hP9, va_K.moved hW.alike hK, hD9⟩, hS9.F ht⟩) hS9.2.2 d9
