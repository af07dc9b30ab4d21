abbrev b_MM_lacking : ByteArray := prog_12_method_32_code
def ws_MM_lacking : List Cond := .code ({ cls := "PrefixMillModel", name := "lacking", desc := "()I" } : Jvm.MethodName) b_MM_lacking 3 (some .int) :: tt
theorem d_MM_lacking_0 : decode b_MM_lacking 0 = .ok (.iconst 0, 1) := by decide +kernel
theorem d_MM_lacking_1 : decode b_MM_lacking 1 = .ok (.istore_n 1, 1) := by decide +kernel
theorem d_MM_lacking_2 : decode b_MM_lacking 2 = .ok (.iconst 0, 1) := by decide +kernel
theorem d_MM_lacking_3 : decode b_MM_lacking 3 = .ok (.istore_n 2, 1) := by decide +kernel
theorem d_MM_lacking_4 : decode b_MM_lacking 4 = .ok (.iload_n 2, 1) := by decide +kernel
theorem d_MM_lacking_5 : decode b_MM_lacking 5 = .ok (.bipush 12, 2) := by decide +kernel
theorem d_MM_lacking_7 : decode b_MM_lacking 7 = .ok (.if_icmp .ge 21, 3) := by decide +kernel
theorem d_MM_lacking_10 : decode b_MM_lacking 10 = .ok (.iload_n 1, 1) := by decide +kernel
theorem d_MM_lacking_11 : decode b_MM_lacking 11 = .ok (.aload_n 0, 1) := by decide +kernel
theorem d_MM_lacking_12 : decode b_MM_lacking 12 = .ok (.getfield 43, 3) := by decide +kernel
theorem d_MM_lacking_15 : decode b_MM_lacking 15 = .ok (.iload_n 2, 1) := by decide +kernel
theorem d_MM_lacking_16 : decode b_MM_lacking 16 = .ok (.iaload, 1) := by decide +kernel
theorem d_MM_lacking_17 : decode b_MM_lacking 17 = .ok (.invokestatic 128, 3) := by decide +kernel
theorem d_MM_lacking_20 : decode b_MM_lacking 20 = .ok (.iadd, 1) := by decide +kernel
theorem d_MM_lacking_21 : decode b_MM_lacking 21 = .ok (.istore_n 1, 1) := by decide +kernel
theorem d_MM_lacking_22 : decode b_MM_lacking 22 = .ok (.iinc 2 1, 3) := by decide +kernel
theorem d_MM_lacking_25 : decode b_MM_lacking 25 = .ok (.goto (-21), 3) := by decide +kernel
theorem d_MM_lacking_28 : decode b_MM_lacking 28 = .ok (.iconst 1, 1) := by decide +kernel
theorem d_MM_lacking_29 : decode b_MM_lacking 29 = .ok (.aload_n 0, 1) := by decide +kernel
theorem d_MM_lacking_30 : decode b_MM_lacking 30 = .ok (.getfield 131, 3) := by decide +kernel
theorem d_MM_lacking_33 : decode b_MM_lacking 33 = .ok (.ishl, 1) := by decide +kernel
theorem d_MM_lacking_34 : decode b_MM_lacking 34 = .ok (.iload_n 1, 1) := by decide +kernel
theorem d_MM_lacking_35 : decode b_MM_lacking 35 = .ok (.isub, 1) := by decide +kernel
theorem d_MM_lacking_36 : decode b_MM_lacking 36 = .ok (.ireturn, 1) := by decide +kernel
def f_MM_lacking_b28 (N : Nat) (i_order : Int32) (v_points : Nat → Int32)  (l1 : Int32) : Option (Int32) :=
  some (((1 <<< (i_order &&& 31)) - l1))
def f_MM_lacking_b4 (N : Nat) (i_order : Int32) (v_points : Nat → Int32)  : Nat → Int32 → Int32 → Option (Int32)
  | 0, _, _ => none
  | z + 1, l1, l2 =>
  if 12 ≤ l2 then
  f_MM_lacking_b28 N i_order v_points  l1
  else
  ck (inb l2 12) <|
  bd1 (f_MM_mass N (v_points (Int32.toNatClampNeg l2))) fun r_3 =>
  nm (l1 + r_3) fun l1_5 =>
  nm (l2 + 1) fun l2_6 =>
  f_MM_lacking_b4 N i_order v_points  z l1_5 l2_6
def f_MM_lacking (N : Nat) (i_order : Int32) (v_points : Nat → Int32)   : Option (Int32) :=
  f_MM_lacking_b4 N i_order v_points  N 0 0
abbrev R_MM_lacking : Room := ({ frames := 1, cells := 0, slots := 0, locals := 20 } : Room)
def E_MM_lacking (p : Program) (l : Launch) (e : Env) (s : State) (m : MethodId) (args : Array Value) (below : List Frame) (meth : Method) (c : Code) (Q : State → Prop) (A : Nat → Prop) (D : va_G) (cI cL cZ : ClassId) (a_this : Nat) (a_points : Nat) (o_in : Nat) (o_out : Nat) (o_counts : Nat) (o_length : Nat) (o_symbolOf : Nat) (o_draft : Nat) (o_knot : Nat) (o_inSum : Nat) (o_halved : Nat) (o_made : Nat) (o_weight : Nat) (o_cutOff : Nat) (o_had : Nat) (o_placeOf : Nat) (i_inLong : Int32) (i_goesOn : Int32) (i_outLong : Int32) (i_greatest : Int32) (i_knots : Int32) (i_bitsMade : Int32) (i_weights : Int32) (i_order : Int32) (i_bit : Int32) (i_bitEnd : Int32) (v_points : Nat → Int32) (res : Int32) : Prop := ∀ (pc : Nat) (H : Heap) (locs : List Loc) (ls : Array Slot) (rv : Int32), some (rv) = some res → decode b_MM_lacking pc = .ok (.ireturn, 1) → va_P D classes [(a_this, .inr (1, [.ref o_in, .int i_inLong, .int i_goesOn, .ref o_out, .int i_outLong, .ref o_counts, .int i_greatest, .ref o_length, .ref o_symbolOf, .ref o_draft, .ref o_knot, .ref o_inSum, .int i_knots, .ref o_halved, .ref o_made, .int i_bitsMade, .ref o_weight, .int i_weights, .int i_order, .ref a_points, .ref o_cutOff, .ref o_had, .ref o_placeOf, .int i_bit, .int i_bitEnd])), (a_points, .inl (cI, 12, .inl v_points))] H → va_D A [(a_this, .inr (1, [.ref o_in, .int i_inLong, .int i_goesOn, .ref o_out, .int i_outLong, .ref o_counts, .int i_greatest, .ref o_length, .ref o_symbolOf, .ref o_draft, .ref o_knot, .ref o_inSum, .int i_knots, .ref o_halved, .ref o_made, .int i_bitsMade, .ref o_weight, .int i_weights, .int i_order, .ref a_points, .ref o_cutOff, .ref o_had, .ref o_placeOf, .int i_bit, .int i_bitEnd])), (a_points, .inl (cI, 12, .inl v_points))] → va_S A s.heap H locs → W p l e R_MM_lacking s m args below meth c H locs 0 0 Q (F0 m pc ls [.int rv])
def I_MM_lacking_b28 (p : Program) (l : Launch) (e : Env) (s : State) (m : MethodId) (args : Array Value) (below : List Frame) (meth : Method) (c : Code) (Q : State → Prop) (A : Nat → Prop) (D : va_G) (cI cL cZ : ClassId) (a_this : Nat) (a_points : Nat) (o_in : Nat) (o_out : Nat) (o_counts : Nat) (o_length : Nat) (o_symbolOf : Nat) (o_draft : Nat) (o_knot : Nat) (o_inSum : Nat) (o_halved : Nat) (o_made : Nat) (o_weight : Nat) (o_cutOff : Nat) (o_had : Nat) (o_placeOf : Nat) (i_inLong : Int32) (i_goesOn : Int32) (i_outLong : Int32) (i_greatest : Int32) (i_knots : Int32) (i_bitsMade : Int32) (i_weights : Int32) (i_order : Int32) (i_bit : Int32) (i_bitEnd : Int32) (v_points : Nat → Int32) (res : Int32) (kf : Int32 → Option (Int32)) : Prop := ∀ (l1 : Int32), kf l1 = some res → ∀ (H : Heap) (locs : List Loc) (ls : Array Slot), lv_has ls 3 [(0, .ref a_this), (1, .int l1)] → va_P D classes [(a_this, .inr (1, [.ref o_in, .int i_inLong, .int i_goesOn, .ref o_out, .int i_outLong, .ref o_counts, .int i_greatest, .ref o_length, .ref o_symbolOf, .ref o_draft, .ref o_knot, .ref o_inSum, .int i_knots, .ref o_halved, .ref o_made, .int i_bitsMade, .ref o_weight, .int i_weights, .int i_order, .ref a_points, .ref o_cutOff, .ref o_had, .ref o_placeOf, .int i_bit, .int i_bitEnd])), (a_points, .inl (cI, 12, .inl v_points))] H → va_D A [(a_this, .inr (1, [.ref o_in, .int i_inLong, .int i_goesOn, .ref o_out, .int i_outLong, .ref o_counts, .int i_greatest, .ref o_length, .ref o_symbolOf, .ref o_draft, .ref o_knot, .ref o_inSum, .int i_knots, .ref o_halved, .ref o_made, .int i_bitsMade, .ref o_weight, .int i_weights, .int i_order, .ref a_points, .ref o_cutOff, .ref o_had, .ref o_placeOf, .int i_bit, .int i_bitEnd])), (a_points, .inl (cI, 12, .inl v_points))] → va_S A s.heap H locs → W p l e R_MM_lacking s m args below meth c H locs 0 0 Q (F0 m 28 ls [])
def I_MM_lacking_b4 (p : Program) (l : Launch) (e : Env) (s : State) (m : MethodId) (args : Array Value) (below : List Frame) (meth : Method) (c : Code) (Q : State → Prop) (A : Nat → Prop) (D : va_G) (cI cL cZ : ClassId) (a_this : Nat) (a_points : Nat) (o_in : Nat) (o_out : Nat) (o_counts : Nat) (o_length : Nat) (o_symbolOf : Nat) (o_draft : Nat) (o_knot : Nat) (o_inSum : Nat) (o_halved : Nat) (o_made : Nat) (o_weight : Nat) (o_cutOff : Nat) (o_had : Nat) (o_placeOf : Nat) (i_inLong : Int32) (i_goesOn : Int32) (i_outLong : Int32) (i_greatest : Int32) (i_knots : Int32) (i_bitsMade : Int32) (i_weights : Int32) (i_order : Int32) (i_bit : Int32) (i_bitEnd : Int32) (v_points : Nat → Int32) (res : Int32) (kf : Int32 → Int32 → Option (Int32)) : Prop := ∀ (l1 : Int32) (l2 : Int32), kf l1 l2 = some res → ∀ (H : Heap) (locs : List Loc) (ls : Array Slot), lv_has ls 3 [(0, .ref a_this), (1, .int l1), (2, .int l2)] → va_P D classes [(a_this, .inr (1, [.ref o_in, .int i_inLong, .int i_goesOn, .ref o_out, .int i_outLong, .ref o_counts, .int i_greatest, .ref o_length, .ref o_symbolOf, .ref o_draft, .ref o_knot, .ref o_inSum, .int i_knots, .ref o_halved, .ref o_made, .int i_bitsMade, .ref o_weight, .int i_weights, .int i_order, .ref a_points, .ref o_cutOff, .ref o_had, .ref o_placeOf, .int i_bit, .int i_bitEnd])), (a_points, .inl (cI, 12, .inl v_points))] H → va_D A [(a_this, .inr (1, [.ref o_in, .int i_inLong, .int i_goesOn, .ref o_out, .int i_outLong, .ref o_counts, .int i_greatest, .ref o_length, .ref o_symbolOf, .ref o_draft, .ref o_knot, .ref o_inSum, .int i_knots, .ref o_halved, .ref o_made, .int i_bitsMade, .ref o_weight, .int i_weights, .int i_order, .ref a_points, .ref o_cutOff, .ref o_had, .ref o_placeOf, .int i_bit, .int i_bitEnd])), (a_points, .inl (cI, 12, .inl v_points))] → va_S A s.heap H locs → W p l e R_MM_lacking s m args below meth c H locs 0 0 Q (F0 m 4 ls [])
def I_MM_lacking_b0 (p : Program) (l : Launch) (e : Env) (s : State) (m : MethodId) (args : Array Value) (below : List Frame) (meth : Method) (c : Code) (Q : State → Prop) (A : Nat → Prop) (D : va_G) (cI cL cZ : ClassId) (a_this : Nat) (a_points : Nat) (o_in : Nat) (o_out : Nat) (o_counts : Nat) (o_length : Nat) (o_symbolOf : Nat) (o_draft : Nat) (o_knot : Nat) (o_inSum : Nat) (o_halved : Nat) (o_made : Nat) (o_weight : Nat) (o_cutOff : Nat) (o_had : Nat) (o_placeOf : Nat) (i_inLong : Int32) (i_goesOn : Int32) (i_outLong : Int32) (i_greatest : Int32) (i_knots : Int32) (i_bitsMade : Int32) (i_weights : Int32) (i_order : Int32) (i_bit : Int32) (i_bitEnd : Int32) (v_points : Nat → Int32) (res : Int32) (kf : Option (Int32)) : Prop := ∀ (_ : Unit), kf  = some res → ∀ (H : Heap) (locs : List Loc) (ls : Array Slot), lv_has ls 3 [(0, .ref a_this)] → va_P D classes [(a_this, .inr (1, [.ref o_in, .int i_inLong, .int i_goesOn, .ref o_out, .int i_outLong, .ref o_counts, .int i_greatest, .ref o_length, .ref o_symbolOf, .ref o_draft, .ref o_knot, .ref o_inSum, .int i_knots, .ref o_halved, .ref o_made, .int i_bitsMade, .ref o_weight, .int i_weights, .int i_order, .ref a_points, .ref o_cutOff, .ref o_had, .ref o_placeOf, .int i_bit, .int i_bitEnd])), (a_points, .inl (cI, 12, .inl v_points))] H → va_D A [(a_this, .inr (1, [.ref o_in, .int i_inLong, .int i_goesOn, .ref o_out, .int i_outLong, .ref o_counts, .int i_greatest, .ref o_length, .ref o_symbolOf, .ref o_draft, .ref o_knot, .ref o_inSum, .int i_knots, .ref o_halved, .ref o_made, .int i_bitsMade, .ref o_weight, .int i_weights, .int i_order, .ref a_points, .ref o_cutOff, .ref o_had, .ref o_placeOf, .int i_bit, .int i_bitEnd])), (a_points, .inl (cI, 12, .inl v_points))] → va_S A s.heap H locs → W p l e R_MM_lacking s m args below meth c H locs 0 0 Q (F0 m 0 ls [])
set_option maxHeartbeats 4000000 in
set_option maxRecDepth 100000 in
theorem w_MM_lacking_b28 {p : Program} {l : Launch} {e : Env} {s : State} {m : MethodId} {args : Array Value} {below : List Frame} {meth : Method} {c : Code} {Q : State → Prop} {A : Nat → Prop} {D : va_G} {cI cL cZ : ClassId} {a_this : Nat} {a_points : Nat} {o_in : Nat} {o_out : Nat} {o_counts : Nat} {o_length : Nat} {o_symbolOf : Nat} {o_draft : Nat} {o_knot : Nat} {o_inSum : Nat} {o_halved : Nat} {o_made : Nat} {o_weight : Nat} {o_cutOff : Nat} {o_had : Nat} {o_placeOf : Nat} {i_inLong : Int32} {i_goesOn : Int32} {i_outLong : Int32} {i_greatest : Int32} {i_knots : Int32} {i_bitsMade : Int32} {i_weights : Int32} {i_order : Int32} {i_bit : Int32} {i_bitEnd : Int32} {v_points : Nat → Int32} {N : Nat} {res : Int32}  (C : Cx p s m args c b_MM_lacking 3 "PrefixMillModel" D [(cI, .int), (cL, .long), (cZ, .boolean)] A) (hret : E_MM_lacking p l e s m args below meth c Q A D cI cL cZ a_this a_points o_in o_out o_counts o_length o_symbolOf o_draft o_knot o_inSum o_halved o_made o_weight o_cutOff o_had o_placeOf i_inLong i_goesOn i_outLong i_greatest i_knots i_bitsMade i_weights i_order i_bit i_bitEnd v_points res)  : I_MM_lacking_b28 p l e s m args below meth c Q A D cI cL cZ a_this a_points o_in o_out o_counts o_length o_symbolOf o_draft o_knot o_inSum o_halved o_made o_weight o_cutOff o_had o_placeOf i_inLong i_goesOn i_outLong i_greatest i_knots i_bitsMade i_weights i_order i_bit i_bitEnd v_points res (f_MM_lacking_b28 N i_order v_points ) := by
  obtain ⟨hx, hb, hml, hown, hts, hK, hA⟩ := C
  intro l1 h H locs ls hl hP hD hS
  unfold f_MM_lacking_b28 at h
  refine lv_iconst (v := 1) hx hb d_MM_lacking_28 (by decide) ?_
  refine lv_aload_n hx hb d_MM_lacking_29 rfl (lv_at hl 0 rfl) ?_
  refine va_get hx hb hts in_MM hown hK hP 0 rfl rfl 18 (by decide) (hts _ m_771) (fun _ h9 => h9) rfl d_MM_lacking_30 ?_
  refine lv_ishl hx hb d_MM_lacking_33 ?_
  refine lv_iload_n hx hb d_MM_lacking_34 rfl (lv_at hl 1 rfl) ?_
  refine lv_isub hx hb d_MM_lacking_35 ?_
  exact hret _ _ _ _ ((1 <<< (i_order &&& 31)) - l1)  h d_MM_lacking_36 hP hD hS
set_option maxHeartbeats 4000000 in
set_option maxRecDepth 100000 in
theorem w_MM_lacking_b4 {p : Program} {l : Launch} {e : Env} {s : State} {m : MethodId} {args : Array Value} {below : List Frame} {meth : Method} {c : Code} {Q : State → Prop} {A : Nat → Prop} {D : va_G} {cI cL cZ : ClassId} {a_this : Nat} {a_points : Nat} {o_in : Nat} {o_out : Nat} {o_counts : Nat} {o_length : Nat} {o_symbolOf : Nat} {o_draft : Nat} {o_knot : Nat} {o_inSum : Nat} {o_halved : Nat} {o_made : Nat} {o_weight : Nat} {o_cutOff : Nat} {o_had : Nat} {o_placeOf : Nat} {i_inLong : Int32} {i_goesOn : Int32} {i_outLong : Int32} {i_greatest : Int32} {i_knots : Int32} {i_bitsMade : Int32} {i_weights : Int32} {i_order : Int32} {i_bit : Int32} {i_bitEnd : Int32} {v_points : Nat → Int32} {N : Nat} {res : Int32}  (C : Cx p s m args c b_MM_lacking 3 "PrefixMillModel" D [(cI, .int), (cL, .long), (cZ, .boolean)] A) (hret : E_MM_lacking p l e s m args below meth c Q A D cI cL cZ a_this a_points o_in o_out o_counts o_length o_symbolOf o_draft o_knot o_inSum o_halved o_made o_weight o_cutOff o_had o_placeOf i_inLong i_goesOn i_outLong i_greatest i_knots i_bitsMade i_weights i_order i_bit i_bitEnd v_points res)  : ∀ z : Nat, I_MM_lacking_b4 p l e s m args below meth c Q A D cI cL cZ a_this a_points o_in o_out o_counts o_length o_symbolOf o_draft o_knot o_inSum o_halved o_made o_weight o_cutOff o_had o_placeOf i_inLong i_goesOn i_outLong i_greatest i_knots i_bitsMade i_weights i_order i_bit i_bitEnd v_points res (f_MM_lacking_b4 N i_order v_points  z) := by
  obtain ⟨hx, hb, hml, hown, hts, hK, hA⟩ := C
  intro z
  induction z with
  | zero => intro l1 l2 h; cases h
  | succ z ih =>
    intro l1 l2 h H locs ls hl hP hD hS
    refine lv_iload_n hx hb d_MM_lacking_4 rfl (lv_at hl 2 rfl) ?_
    refine lv_bipush (v := 12) hx hb d_MM_lacking_5 (by decide) ?_
    refine lv_icmp_ge (tgt := 28) hx hb d_MM_lacking_7 (by decide) (fun c_1 => ?_) (fun c_1 => ?_)
    · replace h := if_t h c_1
      exact w_MM_lacking_b28 ⟨hx, hb, hml, hown, hts, hK, hA⟩ hret  _ h H locs ls (lv_sub hl [0, 1] rfl) hP hD hS
    · replace h := if_f h c_1
      refine lv_iload_n hx hb d_MM_lacking_10 rfl (lv_at hl 1 rfl) ?_
      refine lv_aload_n hx hb d_MM_lacking_11 rfl (lv_at hl 0 rfl) ?_
      refine va_get hx hb hts in_MM hown hK hP 0 rfl rfl 19 (by decide) (hts _ m_772) (fun _ h9 => h9) rfl d_MM_lacking_12 ?_
      refine lv_iload_n hx hb d_MM_lacking_15 rfl (lv_at hl 2 rfl) ?_
      obtain ⟨g_2, h⟩ := ck_s h
      refine va_iald hx hb hK hP 1 0 rfl rfl (inb_s g_2) d_MM_lacking_16 ?_
      obtain ⟨r_3, hc_4, h⟩ := bd1_s h
      have hPc := hP.sub (ws' := []) [] rfl
      have hDc := hD.sub (ws' := []) [] (by decide) rfl
      have hFc := va_free (wc := []) hD hS hA [] rfl
      refine va_calli (va_runS (As := [.int (v_points (Int32.toNatClampNeg l2))]) (rest := [.int l1]) ⟨hx, hb, hml, hown, hts⟩ (c_MM_mass l D cI cL cZ H.size N (v_points (Int32.toNatClampNeg l2)) r_3 hc_4) ⟨(my_cb 1 hts m_978 rfl rfl (hts _ m_76) (hts _ m_976) (by decide +kernel) ⟨Nat.le_of_ble_eq_true rfl, Nat.le_of_ble_eq_true rfl⟩), hts _ m_977⟩ ⟨fun a U g mk q => by obtain ⟨q0, q1, qP, qK, qD⟩ := q; exact ⟨q0, q1, qP, va_K.moved (u := U) (U := U.calling g mk a) (Vm.Alike.refl U.vm) qK, qD⟩, fun U hU hW => ⟨rfl, by rw [hU], by rw [hU]; exact hPc, va_K.moved hW.alike hK, hDc.weaken (fun _ _ _ _ => trivial)⟩⟩ rfl rfl hl.1 rfl (lv_room (Nat.le_of_ble_eq_true rfl)) d_MM_lacking_17 ⟨Nat.zero_le _, Nat.zero_le _⟩) hS (fun q _ h => hFc q h) hFc (fun rr u t H1 locs ht hvm hw hB hz1 hk1 hS => ?_)
      obtain ⟨hP1, hK1, hD1⟩ := hB
      rw [ht] at hP1
      subst hw
      obtain ⟨hP, hD⟩ := va_join (wr := [(a_this, .inr (1, [.ref o_in, .int i_inLong, .int i_goesOn, .ref o_out, .int i_outLong, .ref o_counts, .int i_greatest, .ref o_length, .ref o_symbolOf, .ref o_draft, .ref o_knot, .ref o_inSum, .int i_knots, .ref o_halved, .ref o_made, .int i_bitsMade, .ref o_weight, .int i_weights, .int i_order, .ref a_points, .ref o_cutOff, .ref o_had, .ref o_placeOf, .int i_bit, .int i_bitEnd])), (a_points, .inl (cI, 12, .inl v_points))]) (w1 := []) hP hD [] [0, 1] rfl rfl (by decide) (by decide) hk1 hFc hP1 hD1
      clear hPc hDc hFc hk1 hP1 hD1 hK1
      generalize H1 = H at hP hS ⊢
      have hP : va_P D classes [(a_this, .inr (1, [.ref o_in, .int i_inLong, .int i_goesOn, .ref o_out, .int i_outLong, .ref o_counts, .int i_greatest, .ref o_length, .ref o_symbolOf, .ref o_draft, .ref o_knot, .ref o_inSum, .int i_knots, .ref o_halved, .ref o_made, .int i_bitsMade, .ref o_weight, .int i_weights, .int i_order, .ref a_points, .ref o_cutOff, .ref o_had, .ref o_placeOf, .int i_bit, .int i_bitEnd])), (a_points, .inl (cI, 12, .inl v_points))] H := hP.sub [0, 1] rfl
      have hD : va_D A [(a_this, .inr (1, [.ref o_in, .int i_inLong, .int i_goesOn, .ref o_out, .int i_outLong, .ref o_counts, .int i_greatest, .ref o_length, .ref o_symbolOf, .ref o_draft, .ref o_knot, .ref o_inSum, .int i_knots, .ref o_halved, .ref o_made, .int i_bitsMade, .ref o_weight, .int i_weights, .int i_order, .ref a_points, .ref o_cutOff, .ref o_had, .ref o_placeOf, .int i_bit, .int i_bitEnd])), (a_points, .inl (cI, 12, .inl v_points))] := hD.sub [0, 1] (by decide) rfl
      refine lv_iadd hx hb d_MM_lacking_20 ?_
      refine lv_topi (fun l1_5 el1_5 => ?_)
      replace h := nm_s h el1_5
      refine lv_istore_n (lv' := [(1, .int l1_5), (0, .ref a_this), (2, .int l2)]) hx hb d_MM_lacking_21 rfl hl (by decide) rfl (fun ls hl => ?_)
      obtain ⟨l2_6, el2_6⟩ : ∃ y : Int32, y = l2 + 1 := ⟨_, rfl⟩
      replace h := nm_s h el2_6
      refine lv_iinc (v := l2_6) (lv' := [(2, .int l2_6), (1, .int l1_5), (0, .ref a_this)]) hx hb d_MM_lacking_22 hl (k := 2) rfl (by rw [el2_6]; rfl) (by decide) rfl (fun ls hl => ?_)
      refine lv_goto (tgt := 4) hx hb d_MM_lacking_25 (by decide) ?_
      exact ih _ _ h H locs ls (lv_sub hl [2, 1, 0] rfl) hP hD hS
set_option maxHeartbeats 4000000 in
set_option maxRecDepth 100000 in
theorem w_MM_lacking_b0 {p : Program} {l : Launch} {e : Env} {s : State} {m : MethodId} {args : Array Value} {below : List Frame} {meth : Method} {c : Code} {Q : State → Prop} {A : Nat → Prop} {D : va_G} {cI cL cZ : ClassId} {a_this : Nat} {a_points : Nat} {o_in : Nat} {o_out : Nat} {o_counts : Nat} {o_length : Nat} {o_symbolOf : Nat} {o_draft : Nat} {o_knot : Nat} {o_inSum : Nat} {o_halved : Nat} {o_made : Nat} {o_weight : Nat} {o_cutOff : Nat} {o_had : Nat} {o_placeOf : Nat} {i_inLong : Int32} {i_goesOn : Int32} {i_outLong : Int32} {i_greatest : Int32} {i_knots : Int32} {i_bitsMade : Int32} {i_weights : Int32} {i_order : Int32} {i_bit : Int32} {i_bitEnd : Int32} {v_points : Nat → Int32} {N : Nat} {res : Int32}  (C : Cx p s m args c b_MM_lacking 3 "PrefixMillModel" D [(cI, .int), (cL, .long), (cZ, .boolean)] A) (hret : E_MM_lacking p l e s m args below meth c Q A D cI cL cZ a_this a_points o_in o_out o_counts o_length o_symbolOf o_draft o_knot o_inSum o_halved o_made o_weight o_cutOff o_had o_placeOf i_inLong i_goesOn i_outLong i_greatest i_knots i_bitsMade i_weights i_order i_bit i_bitEnd v_points res)  : I_MM_lacking_b0 p l e s m args below meth c Q A D cI cL cZ a_this a_points o_in o_out o_counts o_length o_symbolOf o_draft o_knot o_inSum o_halved o_made o_weight o_cutOff o_had o_placeOf i_inLong i_goesOn i_outLong i_greatest i_knots i_bitsMade i_weights i_order i_bit i_bitEnd v_points res (f_MM_lacking N i_order v_points ) := by
  obtain ⟨hx, hb, hml, hown, hts, hK, hA⟩ := C
  intro _ h H locs ls hl hP hD hS
  unfold f_MM_lacking at h
  refine lv_iconst (v := 0) hx hb d_MM_lacking_0 (by decide) ?_
  refine lv_istore_n (lv' := [(1, .int 0), (0, .ref a_this)]) hx hb d_MM_lacking_1 rfl hl (by decide) rfl (fun ls hl => ?_)
  refine lv_iconst (v := 0) hx hb d_MM_lacking_2 (by decide) ?_
  refine lv_istore_n (lv' := [(2, .int 0), (1, .int 0), (0, .ref a_this)]) hx hb d_MM_lacking_3 rfl hl (by decide) rfl (fun ls hl => ?_)
  exact w_MM_lacking_b4 ⟨hx, hb, hml, hown, hts, hK, hA⟩ hret  N _ _ h H locs ls (lv_sub hl [2, 1, 0] rfl) hP hD hS
set_option maxHeartbeats 4000000 in
set_option maxRecDepth 100000 in
theorem c_MM_lacking (l : Launch) (D : va_G) (cI cL cZ : ClassId) (sz N : Nat) (a_this : Nat) (a_points : Nat) (o_in : Nat) (o_out : Nat) (o_counts : Nat) (o_length : Nat) (o_symbolOf : Nat) (o_draft : Nat) (o_knot : Nat) (o_inSum : Nat) (o_halved : Nat) (o_made : Nat) (o_weight : Nat) (o_cutOff : Nat) (o_had : Nat) (o_placeOf : Nat) (i_inLong : Int32) (i_goesOn : Int32) (i_outLong : Int32) (i_greatest : Int32) (i_knots : Int32) (i_bitsMade : Int32) (i_weights : Int32) (i_order : Int32) (i_bit : Int32) (i_bitEnd : Int32) (v_points : Nat → Int32) (rv : Int32) (h : f_MM_lacking N i_order v_points  = some (rv)) : Met l ({ cls := "PrefixMillModel", name := "lacking", desc := "()I" } : Jvm.MethodName) ws_MM_lacking R_MM_lacking (va_Pc [.ref a_this] (fun U => U.heap.size = sz ∧ va_P D classes [(a_this, .inr (1, [.ref o_in, .int i_inLong, .int i_goesOn, .ref o_out, .int i_outLong, .ref o_counts, .int i_greatest, .ref o_length, .ref o_symbolOf, .ref o_draft, .ref o_knot, .ref o_inSum, .int i_knots, .ref o_halved, .ref o_made, .int i_bitsMade, .ref o_weight, .int i_weights, .int i_order, .ref a_points, .ref o_cutOff, .ref o_had, .ref o_placeOf, .int i_bit, .int i_bitEnd])), (a_points, .inl (cI, 12, .inl v_points))] U.heap ∧ va_K D classes [(cI, .int), (cL, .long), (cZ, .boolean)] U ∧ va_D (fun _ => True) [(a_this, .inr (1, [.ref o_in, .int i_inLong, .int i_goesOn, .ref o_out, .int i_outLong, .ref o_counts, .int i_greatest, .ref o_length, .ref o_symbolOf, .ref o_draft, .ref o_knot, .ref o_inSum, .int i_knots, .ref o_halved, .ref o_made, .int i_bitsMade, .ref o_weight, .int i_weights, .int i_order, .ref a_points, .ref o_cutOff, .ref o_had, .ref o_placeOf, .int i_bit, .int i_bitEnd])), (a_points, .inl (cI, 12, .inl v_points))])) (va_Qi (fun (r0 : Int32) (_ : Unit) => rv = r0) (fun _ t => va_P D classes [(a_this, .inr (1, [.ref o_in, .int i_inLong, .int i_goesOn, .ref o_out, .int i_outLong, .ref o_counts, .int i_greatest, .ref o_length, .ref o_symbolOf, .ref o_draft, .ref o_knot, .ref o_inSum, .int i_knots, .ref o_halved, .ref o_made, .int i_bitsMade, .ref o_weight, .int i_weights, .int i_order, .ref a_points, .ref o_cutOff, .ref o_had, .ref o_placeOf, .int i_bit, .int i_bitEnd])), (a_points, .inl (cI, 12, .inl v_points))] t.heap ∧ va_K D classes [(cI, .int), (cL, .long), (cZ, .boolean)] t ∧ va_D (va_A [(a_this, .inr (1, [.ref o_in, .int i_inLong, .int i_goesOn, .ref o_out, .int i_outLong, .ref o_counts, .int i_greatest, .ref o_length, .ref o_symbolOf, .ref o_draft, .ref o_knot, .ref o_inSum, .int i_knots, .ref o_halved, .ref o_made, .int i_bitsMade, .ref o_weight, .int i_weights, .int i_order, .ref a_points, .ref o_cutOff, .ref o_had, .ref o_placeOf, .int i_bit, .int i_bitEnd])), (a_points, .inl (cI, 12, .inl v_points))] sz) [(a_this, .inr (1, [.ref o_in, .int i_inLong, .int i_goesOn, .ref o_out, .int i_outLong, .ref o_counts, .int i_greatest, .ref o_length, .ref o_symbolOf, .ref o_draft, .ref o_knot, .ref o_inSum, .int i_knots, .ref o_halved, .ref o_made, .int i_bitsMade, .ref o_weight, .int i_weights, .int i_order, .ref a_points, .ref o_cutOff, .ref o_had, .ref o_placeOf, .int i_bit, .int i_bitEnd])), (a_points, .inl (cI, 12, .inl v_points))]) (va_A [(a_this, .inr (1, [.ref o_in, .int i_inLong, .int i_goesOn, .ref o_out, .int i_outLong, .ref o_counts, .int i_greatest, .ref o_length, .ref o_symbolOf, .ref o_draft, .ref o_knot, .ref o_inSum, .int i_knots, .ref o_halved, .ref o_made, .int i_bitsMade, .ref o_weight, .int i_weights, .int i_order, .ref a_points, .ref o_cutOff, .ref o_had, .ref o_placeOf, .int i_bit, .int i_bitEnd])), (a_points, .inl (cI, 12, .inl v_points))] sz)) 0 0 (va_A [(a_this, .inr (1, [.ref o_in, .int i_inLong, .int i_goesOn, .ref o_out, .int i_outLong, .ref o_counts, .int i_greatest, .ref o_length, .ref o_symbolOf, .ref o_draft, .ref o_knot, .ref o_inSum, .int i_knots, .ref o_halved, .ref o_made, .int i_bitsMade, .ref o_weight, .int i_weights, .int i_order, .ref a_points, .ref o_cutOff, .ref o_had, .ref o_placeOf, .int i_bit, .int i_bitEnd])), (a_points, .inl (cI, 12, .inl v_points))] sz) := by
  refine Met.ofW (cc := b_MM_lacking) (maxL := 3) (ret := (some .int)) (by decide) rfl ?_
  intro p e s m args below meth c s₁ B hml hv
  obtain ⟨rfl, hsz, hP, hK, hD0⟩ := hv
  have hx := B.exec
  have hb := B.bytes
  have hr := B.returns
  have hts0 := atoms_spec (ws := ws_MM_lacking) B.pre
  have hts := gd_tl hts0
  clear hts0
  have hown : s.vm.findClass "PrefixMillModel" = some m.cls := findClass_of_methodNamed B.named
  have hlocks := B.notSynchronized
  subst hsz
  have hD := hD0.self (sz := s.heap.size)
  generalize hAe : va_A [(a_this, .inr (1, [.ref o_in, .int i_inLong, .int i_goesOn, .ref o_out, .int i_outLong, .ref o_counts, .int i_greatest, .ref o_length, .ref o_symbolOf, .ref o_draft, .ref o_knot, .ref o_inSum, .int i_knots, .ref o_halved, .ref o_made, .int i_bitsMade, .ref o_weight, .int i_weights, .int i_order, .ref a_points, .ref o_cutOff, .ref o_had, .ref o_placeOf, .int i_bit, .int i_bitEnd])), (a_points, .inl (cI, 12, .inl v_points))] s.heap.size = A at hD ⊢
  have hA : ∀ q : Nat, s.heap.size ≤ q → A q := fun q h => by rw [← hAe]; exact Or.inr h
  have hS : va_S A s.heap s.heap [] := va_S.rf
  have hP : va_P D classes [(a_this, .inr (1, [.ref o_in, .int i_inLong, .int i_goesOn, .ref o_out, .int i_outLong, .ref o_counts, .int i_greatest, .ref o_length, .ref o_symbolOf, .ref o_draft, .ref o_knot, .ref o_inSum, .int i_knots, .ref o_halved, .ref o_made, .int i_bitsMade, .ref o_weight, .int i_weights, .int i_order, .ref a_points, .ref o_cutOff, .ref o_had, .ref o_placeOf, .int i_bit, .int i_bitEnd])), (a_points, .inl (cI, 12, .inl v_points))] s.heap := hP
  have hl := lv_entry ([.ref a_this]) (n := 3) (Nat.le_of_ble_eq_true rfl)
  rw [lg_entry_eq]
  generalize (lg_sl ([.ref a_this]) ++ List.replicate (3 - (lg_sl ([.ref a_this])).length) Slot.unset).toArray = ls at hl ⊢
  have hl : lv_has ls 3 [(0, .ref a_this)] := hl
  have C : Cx p s m ([.ref a_this] : List Value).toArray c b_MM_lacking 3 "PrefixMillModel" D [(cI, .int), (cL, .long), (cZ, .boolean)] A := ⟨hx, hb, hml, hown, hts, hK, hA⟩
  refine w_MM_lacking_b0 (res := (rv)) C ?_ () h s.heap [] ls hl hP hD hS
  intro pc9 H9 locs9 ls9 rv9 e9 d9 hP9 hD9 hS9
  cases e9
  exact W.iret (v := rv) hx hb hr (fun t ht hW => ⟨⟨rv, (), rfl, rfl, by rw [ht]; exact hP9, va_K.moved hW.alike hK, hD9⟩, hS9.F ht⟩) hS9.2.2 d9
abbrev b_MM_countOf : ByteArray := prog_12_method_33_code
def ws_MM_countOf : List Cond := .code ({ cls := "PrefixMillModel", name := "countOf", desc := "(I)I" } : Jvm.MethodName) b_MM_countOf 4 (some .int) :: tt
theorem d_MM_countOf_0 : decode b_MM_countOf 0 = .ok (.iconst 0, 1) := by decide +kernel
theorem d_MM_countOf_1 : decode b_MM_countOf 1 = .ok (.istore_n 2, 1) := by decide +kernel
theorem d_MM_countOf_2 : decode b_MM_countOf 2 = .ok (.iconst 0, 1) := by decide +kernel
theorem d_MM_countOf_3 : decode b_MM_countOf 3 = .ok (.istore_n 3, 1) := by decide +kernel
theorem d_MM_countOf_4 : decode b_MM_countOf 4 = .ok (.iload_n 3, 1) := by decide +kernel
theorem d_MM_countOf_5 : decode b_MM_countOf 5 = .ok (.aload_n 0, 1) := by decide +kernel
theorem d_MM_countOf_6 : decode b_MM_countOf 6 = .ok (.getfield 134, 3) := by decide +kernel
theorem d_MM_countOf_9 : decode b_MM_countOf 9 = .ok (.if_icmp .ge 22, 3) := by decide +kernel
theorem d_MM_countOf_12 : decode b_MM_countOf 12 = .ok (.aload_n 0, 1) := by decide +kernel
theorem d_MM_countOf_13 : decode b_MM_countOf 13 = .ok (.getfield 40, 3) := by decide +kernel
theorem d_MM_countOf_16 : decode b_MM_countOf 16 = .ok (.iload_n 3, 1) := by decide +kernel
theorem d_MM_countOf_17 : decode b_MM_countOf 17 = .ok (.iaload, 1) := by decide +kernel
theorem d_MM_countOf_18 : decode b_MM_countOf 18 = .ok (.iload_n 1, 1) := by decide +kernel
theorem d_MM_countOf_19 : decode b_MM_countOf 19 = .ok (.if_icmp .ne 6, 3) := by decide +kernel
theorem d_MM_countOf_22 : decode b_MM_countOf 22 = .ok (.iinc 2 1, 3) := by decide +kernel
theorem d_MM_countOf_25 : decode b_MM_countOf 25 = .ok (.iinc 3 1, 3) := by decide +kernel
theorem d_MM_countOf_28 : decode b_MM_countOf 28 = .ok (.goto (-24), 3) := by decide +kernel
theorem d_MM_countOf_31 : decode b_MM_countOf 31 = .ok (.iload_n 2, 1) := by decide +kernel
theorem d_MM_countOf_32 : decode b_MM_countOf 32 = .ok (.ireturn, 1) := by decide +kernel
def f_MM_countOf_b25 (N : Nat) (i_weights : Int32) (v_weight : Nat → Int32) (l1 : Int32) (k4 : Int32 → Int32 → Option (Int32)) (l2 : Int32) (l3 : Int32) : Option (Int32) :=
  nm (l3 + 1) fun l3_1 =>
  k4 l2 l3_1
def f_MM_countOf_b31 (N : Nat) (i_weights : Int32) (v_weight : Nat → Int32) (l1 : Int32)  (l2 : Int32) : Option (Int32) :=
  some (l2)
def f_MM_countOf_b4 (N : Nat) (i_weights : Int32) (v_weight : Nat → Int32) (l1 : Int32)  : Nat → Int32 → Int32 → Option (Int32)
  | 0, _, _ => none
  | z + 1, l2, l3 =>
  if i_weights ≤ l3 then
  f_MM_countOf_b31 N i_weights v_weight l1  l2
  else
  ck (inb l3 256) <|
  if (v_weight (Int32.toNatClampNeg l3)) = l1 then
  nm (l2 + 1) fun l2_4 =>
  f_MM_countOf_b25 N i_weights v_weight l1 (f_MM_countOf_b4 N i_weights v_weight l1  z) l2_4 l3
  else
  f_MM_countOf_b25 N i_weights v_weight l1 (f_MM_countOf_b4 N i_weights v_weight l1  z) l2 l3
def f_MM_countOf (N : Nat) (i_weights : Int32) (v_weight : Nat → Int32) (l1 : Int32)   : Option (Int32) :=
  f_MM_countOf_b4 N i_weights v_weight l1  N 0 0
abbrev R_MM_countOf : Room := ({ frames := 0, cells := 0, slots := 0, locals := 0 } : Room)
def E_MM_countOf (p : Program) (l : Launch) (e : Env) (s : State) (m : MethodId) (args : Array Value) (below : List Frame) (meth : Method) (c : Code) (Q : State → Prop) (A : Nat → Prop) (D : va_G) (cI cL cZ : ClassId) (a_this : Nat) (a_weight : Nat) (o_in : Nat) (o_out : Nat) (o_counts : Nat) (o_length : Nat) (o_symbolOf : Nat) (o_draft : Nat) (o_knot : Nat) (o_inSum : Nat) (o_halved : Nat) (o_made : Nat) (o_points : Nat) (o_cutOff : Nat) (o_had : Nat) (o_placeOf : Nat) (i_inLong : Int32) (i_goesOn : Int32) (i_outLong : Int32) (i_greatest : Int32) (i_knots : Int32) (i_bitsMade : Int32) (i_weights : Int32) (i_order : Int32) (i_bit : Int32) (i_bitEnd : Int32) (v_weight : Nat → Int32) (l1 : Int32) (res : Int32) : Prop := ∀ (pc : Nat) (H : Heap) (locs : List Loc) (ls : Array Slot) (rv : Int32), some (rv) = some res → decode b_MM_countOf pc = .ok (.ireturn, 1) → va_P D classes [(a_this, .inr (1, [.ref o_in, .int i_inLong, .int i_goesOn, .ref o_out, .int i_outLong, .ref o_counts, .int i_greatest, .ref o_length, .ref o_symbolOf, .ref o_draft, .ref o_knot, .ref o_inSum, .int i_knots, .ref o_halved, .ref o_made, .int i_bitsMade, .ref a_weight, .int i_weights, .int i_order, .ref o_points, .ref o_cutOff, .ref o_had, .ref o_placeOf, .int i_bit, .int i_bitEnd])), (a_weight, .inl (cI, 256, .inl v_weight))] H → va_D A [(a_this, .inr (1, [.ref o_in, .int i_inLong, .int i_goesOn, .ref o_out, .int i_outLong, .ref o_counts, .int i_greatest, .ref o_length, .ref o_symbolOf, .ref o_draft, .ref o_knot, .ref o_inSum, .int i_knots, .ref o_halved, .ref o_made, .int i_bitsMade, .ref a_weight, .int i_weights, .int i_order, .ref o_points, .ref o_cutOff, .ref o_had, .ref o_placeOf, .int i_bit, .int i_bitEnd])), (a_weight, .inl (cI, 256, .inl v_weight))] → va_S A s.heap H locs → W p l e R_MM_countOf s m args below meth c H locs 0 0 Q (F0 m pc ls [.int rv])
def I_MM_countOf_b25 (p : Program) (l : Launch) (e : Env) (s : State) (m : MethodId) (args : Array Value) (below : List Frame) (meth : Method) (c : Code) (Q : State → Prop) (A : Nat → Prop) (D : va_G) (cI cL cZ : ClassId) (a_this : Nat) (a_weight : Nat) (o_in : Nat) (o_out : Nat) (o_counts : Nat) (o_length : Nat) (o_symbolOf : Nat) (o_draft : Nat) (o_knot : Nat) (o_inSum : Nat) (o_halved : Nat) (o_made : Nat) (o_points : Nat) (o_cutOff : Nat) (o_had : Nat) (o_placeOf : Nat) (i_inLong : Int32) (i_goesOn : Int32) (i_outLong : Int32) (i_greatest : Int32) (i_knots : Int32) (i_bitsMade : Int32) (i_weights : Int32) (i_order : Int32) (i_bit : Int32) (i_bitEnd : Int32) (v_weight : Nat → Int32) (l1 : Int32) (res : Int32) (kf : Int32 → Int32 → Option (Int32)) : Prop := ∀ (l2 : Int32) (l3 : Int32), kf l2 l3 = some res → ∀ (H : Heap) (locs : List Loc) (ls : Array Slot), lv_has ls 4 [(0, .ref a_this), (1, .int l1), (2, .int l2), (3, .int l3)] → va_P D classes [(a_this, .inr (1, [.ref o_in, .int i_inLong, .int i_goesOn, .ref o_out, .int i_outLong, .ref o_counts, .int i_greatest, .ref o_length, .ref o_symbolOf, .ref o_draft, .ref o_knot, .ref o_inSum, .int i_knots, .ref o_halved, .ref o_made, .int i_bitsMade, .ref a_weight, .int i_weights, .int i_order, .ref o_points, .ref o_cutOff, .ref o_had, .ref o_placeOf, .int i_bit, .int i_bitEnd])), (a_weight, .inl (cI, 256, .inl v_weight))] H → va_D A [(a_this, .inr (1, [.ref o_in, .int i_inLong, .int i_goesOn, .ref o_out, .int i_outLong, .ref o_counts, .int i_greatest, .ref o_length, .ref o_symbolOf, .ref o_draft, .ref o_knot, .ref o_inSum, .int i_knots, .ref o_halved, .ref o_made, .int i_bitsMade, .ref a_weight, .int i_weights, .int i_order, .ref o_points, .ref o_cutOff, .ref o_had, .ref o_placeOf, .int i_bit, .int i_bitEnd])), (a_weight, .inl (cI, 256, .inl v_weight))] → va_S A s.heap H locs → W p l e R_MM_countOf s m args below meth c H locs 0 0 Q (F0 m 25 ls [])
def I_MM_countOf_b31 (p : Program) (l : Launch) (e : Env) (s : State) (m : MethodId) (args : Array Value) (below : List Frame) (meth : Method) (c : Code) (Q : State → Prop) (A : Nat → Prop) (D : va_G) (cI cL cZ : ClassId) (a_this : Nat) (a_weight : Nat) (o_in : Nat) (o_out : Nat) (o_counts : Nat) (o_length : Nat) (o_symbolOf : Nat) (o_draft : Nat) (o_knot : Nat) (o_inSum : Nat) (o_halved : Nat) (o_made : Nat) (o_points : Nat) (o_cutOff : Nat) (o_had : Nat) (o_placeOf : Nat) (i_inLong : Int32) (i_goesOn : Int32) (i_outLong : Int32) (i_greatest : Int32) (i_knots : Int32) (i_bitsMade : Int32) (i_weights : Int32) (i_order : Int32) (i_bit : Int32) (i_bitEnd : Int32) (v_weight : Nat → Int32) (l1 : Int32) (res : Int32) (kf : Int32 → Option (Int32)) : Prop := ∀ (l2 : Int32), kf l2 = some res → ∀ (H : Heap) (locs : List Loc) (ls : Array Slot), lv_has ls 4 [(2, .int l2)] → va_P D classes [(a_this, .inr (1, [.ref o_in, .int i_inLong, .int i_goesOn, .ref o_out, .int i_outLong, .ref o_counts, .int i_greatest, .ref o_length, .ref o_symbolOf, .ref o_draft, .ref o_knot, .ref o_inSum, .int i_knots, .ref o_halved, .ref o_made, .int i_bitsMade, .ref a_weight, .int i_weights, .int i_order, .ref o_points, .ref o_cutOff, .ref o_had, .ref o_placeOf, .int i_bit, .int i_bitEnd])), (a_weight, .inl (cI, 256, .inl v_weight))] H → va_D A [(a_this, .inr (1, [.ref o_in, .int i_inLong, .int i_goesOn, .ref o_out, .int i_outLong, .ref o_counts, .int i_greatest, .ref o_length, .ref o_symbolOf, .ref o_draft, .ref o_knot, .ref o_inSum, .int i_knots, .ref o_halved, .ref o_made, .int i_bitsMade, .ref a_weight, .int i_weights, .int i_order, .ref o_points, .ref o_cutOff, .ref o_had, .ref o_placeOf, .int i_bit, .int i_bitEnd])), (a_weight, .inl (cI, 256, .inl v_weight))] → va_S A s.heap H locs → W p l e R_MM_countOf s m args below meth c H locs 0 0 Q (F0 m 31 ls [])
def I_MM_countOf_b4 (p : Program) (l : Launch) (e : Env) (s : State) (m : MethodId) (args : Array Value) (below : List Frame) (meth : Method) (c : Code) (Q : State → Prop) (A : Nat → Prop) (D : va_G) (cI cL cZ : ClassId) (a_this : Nat) (a_weight : Nat) (o_in : Nat) (o_out : Nat) (o_counts : Nat) (o_length : Nat) (o_symbolOf : Nat) (o_draft : Nat) (o_knot : Nat) (o_inSum : Nat) (o_halved : Nat) (o_made : Nat) (o_points : Nat) (o_cutOff : Nat) (o_had : Nat) (o_placeOf : Nat) (i_inLong : Int32) (i_goesOn : Int32) (i_outLong : Int32) (i_greatest : Int32) (i_knots : Int32) (i_bitsMade : Int32) (i_weights : Int32) (i_order : Int32) (i_bit : Int32) (i_bitEnd : Int32) (v_weight : Nat → Int32) (l1 : Int32) (res : Int32) (kf : Int32 → Int32 → Option (Int32)) : Prop := ∀ (l2 : Int32) (l3 : Int32), kf l2 l3 = some res → ∀ (H : Heap) (locs : List Loc) (ls : Array Slot), lv_has ls 4 [(0, .ref a_this), (1, .int l1), (2, .int l2), (3, .int l3)] → va_P D classes [(a_this, .inr (1, [.ref o_in, .int i_inLong, .int i_goesOn, .ref o_out, .int i_outLong, .ref o_counts, .int i_greatest, .ref o_length, .ref o_symbolOf, .ref o_draft, .ref o_knot, .ref o_inSum, .int i_knots, .ref o_halved, .ref o_made, .int i_bitsMade, .ref a_weight, .int i_weights, .int i_order, .ref o_points, .ref o_cutOff, .ref o_had, .ref o_placeOf, .int i_bit, .int i_bitEnd])), (a_weight, .inl (cI, 256, .inl v_weight))] H → va_D A [(a_this, .inr (1, [.ref o_in, .int i_inLong, .int i_goesOn, .ref o_out, .int i_outLong, .ref o_counts, .int i_greatest, .ref o_length, .ref o_symbolOf, .ref o_draft, .ref o_knot, .ref o_inSum, .int i_knots, .ref o_halved, .ref o_made, .int i_bitsMade, .ref a_weight, .int i_weights, .int i_order, .ref o_points, .ref o_cutOff, .ref o_had, .ref o_placeOf, .int i_bit, .int i_bitEnd])), (a_weight, .inl (cI, 256, .inl v_weight))] → va_S A s.heap H locs → W p l e R_MM_countOf s m args below meth c H locs 0 0 Q (F0 m 4 ls [])
def I_MM_countOf_b0 (p : Program) (l : Launch) (e : Env) (s : State) (m : MethodId) (args : Array Value) (below : List Frame) (meth : Method) (c : Code) (Q : State → Prop) (A : Nat → Prop) (D : va_G) (cI cL cZ : ClassId) (a_this : Nat) (a_weight : Nat) (o_in : Nat) (o_out : Nat) (o_counts : Nat) (o_length : Nat) (o_symbolOf : Nat) (o_draft : Nat) (o_knot : Nat) (o_inSum : Nat) (o_halved : Nat) (o_made : Nat) (o_points : Nat) (o_cutOff : Nat) (o_had : Nat) (o_placeOf : Nat) (i_inLong : Int32) (i_goesOn : Int32) (i_outLong : Int32) (i_greatest : Int32) (i_knots : Int32) (i_bitsMade : Int32) (i_weights : Int32) (i_order : Int32) (i_bit : Int32) (i_bitEnd : Int32) (v_weight : Nat → Int32) (l1 : Int32) (res : Int32) (kf : Option (Int32)) : Prop := ∀ (_ : Unit), kf  = some res → ∀ (H : Heap) (locs : List Loc) (ls : Array Slot), lv_has ls 4 [(0, .ref a_this), (1, .int l1)] → va_P D classes [(a_this, .inr (1, [.ref o_in, .int i_inLong, .int i_goesOn, .ref o_out, .int i_outLong, .ref o_counts, .int i_greatest, .ref o_length, .ref o_symbolOf, .ref o_draft, .ref o_knot, .ref o_inSum, .int i_knots, .ref o_halved, .ref o_made, .int i_bitsMade, .ref a_weight, .int i_weights, .int i_order, .ref o_points, .ref o_cutOff, .ref o_had, .ref o_placeOf, .int i_bit, .int i_bitEnd])), (a_weight, .inl (cI, 256, .inl v_weight))] H → va_D A [(a_this, .inr (1, [.ref o_in, .int i_inLong, .int i_goesOn, .ref o_out, .int i_outLong, .ref o_counts, .int i_greatest, .ref o_length, .ref o_symbolOf, .ref o_draft, .ref o_knot, .ref o_inSum, .int i_knots, .ref o_halved, .ref o_made, .int i_bitsMade, .ref a_weight, .int i_weights, .int i_order, .ref o_points, .ref o_cutOff, .ref o_had, .ref o_placeOf, .int i_bit, .int i_bitEnd])), (a_weight, .inl (cI, 256, .inl v_weight))] → va_S A s.heap H locs → W p l e R_MM_countOf s m args below meth c H locs 0 0 Q (F0 m 0 ls [])
set_option maxHeartbeats 4000000 in
set_option maxRecDepth 100000 in
theorem w_MM_countOf_b25 {p : Program} {l : Launch} {e : Env} {s : State} {m : MethodId} {args : Array Value} {below : List Frame} {meth : Method} {c : Code} {Q : State → Prop} {A : Nat → Prop} {D : va_G} {cI cL cZ : ClassId} {a_this : Nat} {a_weight : Nat} {o_in : Nat} {o_out : Nat} {o_counts : Nat} {o_length : Nat} {o_symbolOf : Nat} {o_draft : Nat} {o_knot : Nat} {o_inSum : Nat} {o_halved : Nat} {o_made : Nat} {o_points : Nat} {o_cutOff : Nat} {o_had : Nat} {o_placeOf : Nat} {i_inLong : Int32} {i_goesOn : Int32} {i_outLong : Int32} {i_greatest : Int32} {i_knots : Int32} {i_bitsMade : Int32} {i_weights : Int32} {i_order : Int32} {i_bit : Int32} {i_bitEnd : Int32} {v_weight : Nat → Int32} {l1 : Int32} {N : Nat} {res : Int32} {k4 : Int32 → Int32 → Option (Int32)} (C : Cx p s m args c b_MM_countOf 4 "PrefixMillModel" D [(cI, .int), (cL, .long), (cZ, .boolean)] A) (hret : E_MM_countOf p l e s m args below meth c Q A D cI cL cZ a_this a_weight o_in o_out o_counts o_length o_symbolOf o_draft o_knot o_inSum o_halved o_made o_points o_cutOff o_had o_placeOf i_inLong i_goesOn i_outLong i_greatest i_knots i_bitsMade i_weights i_order i_bit i_bitEnd v_weight l1 res) (hk4 : I_MM_countOf_b4 p l e s m args below meth c Q A D cI cL cZ a_this a_weight o_in o_out o_counts o_length o_symbolOf o_draft o_knot o_inSum o_halved o_made o_points o_cutOff o_had o_placeOf i_inLong i_goesOn i_outLong i_greatest i_knots i_bitsMade i_weights i_order i_bit i_bitEnd v_weight l1 res k4) : I_MM_countOf_b25 p l e s m args below meth c Q A D cI cL cZ a_this a_weight o_in o_out o_counts o_length o_symbolOf o_draft o_knot o_inSum o_halved o_made o_points o_cutOff o_had o_placeOf i_inLong i_goesOn i_outLong i_greatest i_knots i_bitsMade i_weights i_order i_bit i_bitEnd v_weight l1 res (f_MM_countOf_b25 N i_weights v_weight l1 k4) := by
  obtain ⟨hx, hb, hml, hown, hts, hK, hA⟩ := C
  intro l2 l3 h H locs ls hl hP hD hS
  unfold f_MM_countOf_b25 at h
  obtain ⟨l3_1, el3_1⟩ : ∃ y : Int32, y = l3 + 1 := ⟨_, rfl⟩
  replace h := nm_s h el3_1
  refine lv_iinc (v := l3_1) (lv' := [(3, .int l3_1), (0, .ref a_this), (1, .int l1), (2, .int l2)]) hx hb d_MM_countOf_25 hl (k := 3) rfl (by rw [el3_1]; rfl) (by decide) rfl (fun ls hl => ?_)
  refine lv_goto (tgt := 4) hx hb d_MM_countOf_28 (by decide) ?_
  exact hk4 _ _ h H locs ls (lv_sub hl [1, 2, 3, 0] rfl) hP hD hS
set_option maxHeartbeats 4000000 in
set_option maxRecDepth 100000 in
theorem w_MM_countOf_b31 {p : Program} {l : Launch} {e : Env} {s : State} {m : MethodId} {args : Array Value} {below : List Frame} {meth : Method} {c : Code} {Q : State → Prop} {A : Nat → Prop} {D : va_G} {cI cL cZ : ClassId} {a_this : Nat} {a_weight : Nat} {o_in : Nat} {o_out : Nat} {o_counts : Nat} {o_length : Nat} {o_symbolOf : Nat} {o_draft : Nat} {o_knot : Nat} {o_inSum : Nat} {o_halved : Nat} {o_made : Nat} {o_points : Nat} {o_cutOff : Nat} {o_had : Nat} {o_placeOf : Nat} {i_inLong : Int32} {i_goesOn : Int32} {i_outLong : Int32} {i_greatest : Int32} {i_knots : Int32} {i_bitsMade : Int32} {i_weights : Int32} {i_order : Int32} {i_bit : Int32} {i_bitEnd : Int32} {v_weight : Nat → Int32} {l1 : Int32} {N : Nat} {res : Int32}  (C : Cx p s m args c b_MM_countOf 4 "PrefixMillModel" D [(cI, .int), (cL, .long), (cZ, .boolean)] A) (hret : E_MM_countOf p l e s m args below meth c Q A D cI cL cZ a_this a_weight o_in o_out o_counts o_length o_symbolOf o_draft o_knot o_inSum o_halved o_made o_points o_cutOff o_had o_placeOf i_inLong i_goesOn i_outLong i_greatest i_knots i_bitsMade i_weights i_order i_bit i_bitEnd v_weight l1 res)  : I_MM_countOf_b31 p l e s m args below meth c Q A D cI cL cZ a_this a_weight o_in o_out o_counts o_length o_symbolOf o_draft o_knot o_inSum o_halved o_made o_points o_cutOff o_had o_placeOf i_inLong i_goesOn i_outLong i_greatest i_knots i_bitsMade i_weights i_order i_bit i_bitEnd v_weight l1 res (f_MM_countOf_b31 N i_weights v_weight l1 ) := by
  obtain ⟨hx, hb, hml, hown, hts, hK, hA⟩ := C
  intro l2 h H locs ls hl hP hD hS
  unfold f_MM_countOf_b31 at h
  refine lv_iload_n hx hb d_MM_countOf_31 rfl (lv_at hl 0 rfl) ?_
  exact hret _ _ _ _ l2  h d_MM_countOf_32 hP hD hS
set_option maxHeartbeats 4000000 in
set_option maxRecDepth 100000 in
theorem w_MM_countOf_b4 {p : Program} {l : Launch} {e : Env} {s : State} {m : MethodId} {args : Array Value} {below : List Frame} {meth : Method} {c : Code} {Q : State → Prop} {A : Nat → Prop} {D : va_G} {cI cL cZ : ClassId} {a_this : Nat} {a_weight : Nat} {o_in : Nat} {o_out : Nat} {o_counts : Nat} {o_length : Nat} {o_symbolOf : Nat} {o_draft : Nat} {o_knot : Nat} {o_inSum : Nat} {o_halved : Nat} {o_made : Nat} {o_points : Nat} {o_cutOff : Nat} {o_had : Nat} {o_placeOf : Nat} {i_inLong : Int32} {i_goesOn : Int32} {i_outLong : Int32} {i_greatest : Int32} {i_knots : Int32} {i_bitsMade : Int32} {i_weights : Int32} {i_order : Int32} {i_bit : Int32} {i_bitEnd : Int32} {v_weight : Nat → Int32} {l1 : Int32} {N : Nat} {res : Int32}  (C : Cx p s m args c b_MM_countOf 4 "PrefixMillModel" D [(cI, .int), (cL, .long), (cZ, .boolean)] A) (hret : E_MM_countOf p l e s m args below meth c Q A D cI cL cZ a_this a_weight o_in o_out o_counts o_length o_symbolOf o_draft o_knot o_inSum o_halved o_made o_points o_cutOff o_had o_placeOf i_inLong i_goesOn i_outLong i_greatest i_knots i_bitsMade i_weights i_order i_bit i_bitEnd v_weight l1 res)  : ∀ z : Nat, I_MM_countOf_b4 p l e s m args below meth c Q A D cI cL cZ a_this a_weight o_in o_out o_counts o_length o_symbolOf o_draft o_knot o_inSum o_halved o_made o_points o_cutOff o_had o_placeOf i_inLong i_goesOn i_outLong i_greatest i_knots i_bitsMade i_weights i_order i_bit i_bitEnd v_weight l1 res (f_MM_countOf_b4 N i_weights v_weight l1  z) := by
  obtain ⟨hx, hb, hml, hown, hts, hK, hA⟩ := C
  intro z
  induction z with
  | zero => intro l2 l3 h; cases h
  | succ z ih =>
    intro l2 l3 h H locs ls hl hP hD hS
    refine lv_iload_n hx hb d_MM_countOf_4 rfl (lv_at hl 3 rfl) ?_
    refine lv_aload_n hx hb d_MM_countOf_5 rfl (lv_at hl 0 rfl) ?_
    refine va_get hx hb hts in_MM hown hK hP 0 rfl rfl 17 (by decide) (hts _ m_770) (fun _ h9 => h9) rfl d_MM_countOf_6 ?_
    refine lv_icmp_ge (tgt := 31) hx hb d_MM_countOf_9 (by decide) (fun c_1 => ?_) (fun c_1 => ?_)
    · replace h := if_t h c_1
      exact w_MM_countOf_b31 ⟨hx, hb, hml, hown, hts, hK, hA⟩ hret  _ h H locs ls (lv_sub hl [2] rfl) hP hD hS
    · replace h := if_f h c_1
      refine lv_aload_n hx hb d_MM_countOf_12 rfl (lv_at hl 0 rfl) ?_
      refine va_get hx hb hts in_MM hown hK hP 0 rfl rfl 16 (by decide) (hts _ m_769) (fun _ h9 => h9) rfl d_MM_countOf_13 ?_
      refine lv_iload_n hx hb d_MM_countOf_16 rfl (lv_at hl 3 rfl) ?_
      obtain ⟨g_2, h⟩ := ck_s h
      refine va_iald hx hb hK hP 1 0 rfl rfl (inb_s g_2) d_MM_countOf_17 ?_
      refine lv_iload_n hx hb d_MM_countOf_18 rfl (lv_at hl 1 rfl) ?_
      refine lv_icmp_ne (tgt := 25) hx hb d_MM_countOf_19 (by decide) (fun c_3 => ?_) (fun c_3 => ?_)
      · replace h := if_f h c_3
        exact w_MM_countOf_b25 ⟨hx, hb, hml, hown, hts, hK, hA⟩ hret ih _ _ h H locs ls (lv_sub hl [0, 1, 2, 3] rfl) hP hD hS
      · replace h := if_t h c_3
        obtain ⟨l2_4, el2_4⟩ : ∃ y : Int32, y = l2 + 1 := ⟨_, rfl⟩
        replace h := nm_s h el2_4
        refine lv_iinc (v := l2_4) (lv' := [(2, .int l2_4), (0, .ref a_this), (1, .int l1), (3, .int l3)]) hx hb d_MM_countOf_22 hl (k := 2) rfl (by rw [el2_4]; rfl) (by decide) rfl (fun ls hl => ?_)
        exact w_MM_countOf_b25 ⟨hx, hb, hml, hown, hts, hK, hA⟩ hret ih _ _ h H locs ls (lv_sub hl [1, 2, 0, 3] rfl) hP hD hS
set_option maxHeartbeats 4000000 in
set_option maxRecDepth 100000 in
theorem w_MM_countOf_b0 {p : Program} {l : Launch} {e : Env} {s : State} {m : MethodId} {args : Array Value} {below : List Frame} {meth : Method} {c : Code} {Q : State → Prop} {A : Nat → Prop} {D : va_G} {cI cL cZ : ClassId} {a_this : Nat} {a_weight : Nat} {o_in : Nat} {o_out : Nat} {o_counts : Nat} {o_length : Nat} {o_symbolOf : Nat} {o_draft : Nat} {o_knot : Nat} {o_inSum : Nat} {o_halved : Nat} {o_made : Nat} {o_points : Nat} {o_cutOff : Nat} {o_had : Nat} {o_placeOf : Nat} {i_inLong : Int32} {i_goesOn : Int32} {i_outLong : Int32} {i_greatest : Int32} {i_knots : Int32} {i_bitsMade : Int32} {i_weights : Int32} {i_order : Int32} {i_bit : Int32} {i_bitEnd : Int32} {v_weight : Nat → Int32} {l1 : Int32} {N : Nat} {res : Int32}  (C : Cx p s m args c b_MM_countOf 4 "PrefixMillModel" D [(cI, .int), (cL, .long), (cZ, .boolean)] A) (hret : E_MM_countOf p l e s m args below meth c Q A D cI cL cZ a_this a_weight o_in o_out o_counts o_length o_symbolOf o_draft o_knot o_inSum o_halved o_made o_points o_cutOff o_had o_placeOf i_inLong i_goesOn i_outLong i_greatest i_knots i_bitsMade i_weights i_order i_bit i_bitEnd v_weight l1 res)  : I_MM_countOf_b0 p l e s m args below meth c Q A D cI cL cZ a_this a_weight o_in o_out o_counts o_length o_symbolOf o_draft o_knot o_inSum o_halved o_made o_points o_cutOff o_had o_placeOf i_inLong i_goesOn i_outLong i_greatest i_knots i_bitsMade i_weights i_order i_bit i_bitEnd v_weight l1 res (f_MM_countOf N i_weights v_weight l1 ) := by
  obtain ⟨hx, hb, hml, hown, hts, hK, hA⟩ := C
  intro _ h H locs ls hl hP hD hS
  unfold f_MM_countOf at h
  refine lv_iconst (v := 0) hx hb d_MM_countOf_0 (by decide) ?_
  refine lv_istore_n (lv' := [(2, .int 0), (0, .ref a_this), (1, .int l1)]) hx hb d_MM_countOf_1 rfl hl (by decide) rfl (fun ls hl => ?_)
  refine lv_iconst (v := 0) hx hb d_MM_countOf_2 (by decide) ?_
  refine lv_istore_n (lv' := [(3, .int 0), (2, .int 0), (0, .ref a_this), (1, .int l1)]) hx hb d_MM_countOf_3 rfl hl (by decide) rfl (fun ls hl => ?_)
  exact w_MM_countOf_b4 ⟨hx, hb, hml, hown, hts, hK, hA⟩ hret  N _ _ h H locs ls (lv_sub hl [2, 3, 1, 0] rfl) hP hD hS
set_option maxHeartbeats 4000000 in
set_option maxRecDepth 100000 in
theorem c_MM_countOf (l : Launch) (D : va_G) (cI cL cZ : ClassId) (sz N : Nat) (a_this : Nat) (a_weight : Nat) (o_in : Nat) (o_out : Nat) (o_counts : Nat) (o_length : Nat) (o_symbolOf : Nat) (o_draft : Nat) (o_knot : Nat) (o_inSum : Nat) (o_halved : Nat) (o_made : Nat) (o_points : Nat) (o_cutOff : Nat) (o_had : Nat) (o_placeOf : Nat) (i_inLong : Int32) (i_goesOn : Int32) (i_outLong : Int32) (i_greatest : Int32) (i_knots : Int32) (i_bitsMade : Int32) (i_weights : Int32) (i_order : Int32) (i_bit : Int32) (i_bitEnd : Int32) (v_weight : Nat → Int32) (l1 : Int32) (rv : Int32) (h : f_MM_countOf N i_weights v_weight l1  = some (rv)) : Met l ({ cls := "PrefixMillModel", name := "countOf", desc := "(I)I" } : Jvm.MethodName) ws_MM_countOf R_MM_countOf (va_Pc [.ref a_this, .int l1] (fun U => U.heap.size = sz ∧ va_P D classes [(a_this, .inr (1, [.ref o_in, .int i_inLong, .int i_goesOn, .ref o_out, .int i_outLong, .ref o_counts, .int i_greatest, .ref o_length, .ref o_symbolOf, .ref o_draft, .ref o_knot, .ref o_inSum, .int i_knots, .ref o_halved, .ref o_made, .int i_bitsMade, .ref a_weight, .int i_weights, .int i_order, .ref o_points, .ref o_cutOff, .ref o_had, .ref o_placeOf, .int i_bit, .int i_bitEnd])), (a_weight, .inl (cI, 256, .inl v_weight))] U.heap ∧ va_K D classes [(cI, .int), (cL, .long), (cZ, .boolean)] U ∧ va_D (fun _ => True) [(a_this, .inr (1, [.ref o_in, .int i_inLong, .int i_goesOn, .ref o_out, .int i_outLong, .ref o_counts, .int i_greatest, .ref o_length, .ref o_symbolOf, .ref o_draft, .ref o_knot, .ref o_inSum, .int i_knots, .ref o_halved, .ref o_made, .int i_bitsMade, .ref a_weight, .int i_weights, .int i_order, .ref o_points, .ref o_cutOff, .ref o_had, .ref o_placeOf, .int i_bit, .int i_bitEnd])), (a_weight, .inl (cI, 256, .inl v_weight))])) (va_Qi (fun (r0 : Int32) (_ : Unit) => rv = r0) (fun _ t => va_P D classes [(a_this, .inr (1, [.ref o_in, .int i_inLong, .int i_goesOn, .ref o_out, .int i_outLong, .ref o_counts, .int i_greatest, .ref o_length, .ref o_symbolOf, .ref o_draft, .ref o_knot, .ref o_inSum, .int i_knots, .ref o_halved, .ref o_made, .int i_bitsMade, .ref a_weight, .int i_weights, .int i_order, .ref o_points, .ref o_cutOff, .ref o_had, .ref o_placeOf, .int i_bit, .int i_bitEnd])), (a_weight, .inl (cI, 256, .inl v_weight))] t.heap ∧ va_K D classes [(cI, .int), (cL, .long), (cZ, .boolean)] t ∧ va_D (va_A [(a_this, .inr (1, [.ref o_in, .int i_inLong, .int i_goesOn, .ref o_out, .int i_outLong, .ref o_counts, .int i_greatest, .ref o_length, .ref o_symbolOf, .ref o_draft, .ref o_knot, .ref o_inSum, .int i_knots, .ref o_halved, .ref o_made, .int i_bitsMade, .ref a_weight, .int i_weights, .int i_order, .ref o_points, .ref o_cutOff, .ref o_had, .ref o_placeOf, .int i_bit, .int i_bitEnd])), (a_weight, .inl (cI, 256, .inl v_weight))] sz) [(a_this, .inr (1, [.ref o_in, .int i_inLong, .int i_goesOn, .ref o_out, .int i_outLong, .ref o_counts, .int i_greatest, .ref o_length, .ref o_symbolOf, .ref o_draft, .ref o_knot, .ref o_inSum, .int i_knots, .ref o_halved, .ref o_made, .int i_bitsMade, .ref a_weight, .int i_weights, .int i_order, .ref o_points, .ref o_cutOff, .ref o_had, .ref o_placeOf, .int i_bit, .int i_bitEnd])), (a_weight, .inl (cI, 256, .inl v_weight))]) (va_A [(a_this, .inr (1, [.ref o_in, .int i_inLong, .int i_goesOn, .ref o_out, .int i_outLong, .ref o_counts, .int i_greatest, .ref o_length, .ref o_symbolOf, .ref o_draft, .ref o_knot, .ref o_inSum, .int i_knots, .ref o_halved, .ref o_made, .int i_bitsMade, .ref a_weight, .int i_weights, .int i_order, .ref o_points, .ref o_cutOff, .ref o_had, .ref o_placeOf, .int i_bit, .int i_bitEnd])), (a_weight, .inl (cI, 256, .inl v_weight))] sz)) 0 0 (va_A [(a_this, .inr (1, [.ref o_in, .int i_inLong, .int i_goesOn, .ref o_out, .int i_outLong, .ref o_counts, .int i_greatest, .ref o_length, .ref o_symbolOf, .ref o_draft, .ref o_knot, .ref o_inSum, .int i_knots, .ref o_halved, .ref o_made, .int i_bitsMade, .ref a_weight, .int i_weights, .int i_order, .ref o_points, .ref o_cutOff, .ref o_had, .ref o_placeOf, .int i_bit, .int i_bitEnd])), (a_weight, .inl (cI, 256, .inl v_weight))] sz) := by
  refine Met.ofW (cc := b_MM_countOf) (maxL := 4) (ret := (some .int)) (by decide) rfl ?_
  intro p e s m args below meth c s₁ B hml hv
  obtain ⟨rfl, hsz, hP, hK, hD0⟩ := hv
  have hx := B.exec
  have hb := B.bytes
  have hr := B.returns
  have hts0 := atoms_spec (ws := ws_MM_countOf) B.pre
  have hts := gd_tl hts0
  clear hts0
  have hown : s.vm.findClass "PrefixMillModel" = some m.cls := findClass_of_methodNamed B.named
  have hlocks := B.notSynchronized
  subst hsz
  have hD := hD0.self (sz := s.heap.size)
  generalize hAe : va_A [(a_this, .inr (1, [.ref o_in, .int i_inLong, .int i_goesOn, .ref o_out, .int i_outLong, .ref o_counts, .int i_greatest, .ref o_length, .ref o_symbolOf, .ref o_draft, .ref o_knot, .ref o_inSum, .int i_knots, .ref o_halved, .ref o_made, .int i_bitsMade, .ref a_weight, .int i_weights, .int i_order, .ref o_points, .ref o_cutOff, .ref o_had, .ref o_placeOf, .int i_bit, .int i_bitEnd])), (a_weight, .inl (cI, 256, .inl v_weight))] s.heap.size = A at hD ⊢
  have hA : ∀ q : Nat, s.heap.size ≤ q → A q := fun q h => by rw [← hAe]; exact Or.inr h
  have hS : va_S A s.heap s.heap [] := va_S.rf
  have hP : va_P D classes [(a_this, .inr (1, [.ref o_in, .int i_inLong, .int i_goesOn, .ref o_out, .int i_outLong, .ref o_counts, .int i_greatest, .ref o_length, .ref o_symbolOf, .ref o_draft, .ref o_knot, .ref o_inSum, .int i_knots, .ref o_halved, .ref o_made, .int i_bitsMade, .ref a_weight, .int i_weights, .int i_order, .ref o_points, .ref o_cutOff, .ref o_had, .ref o_placeOf, .int i_bit, .int i_bitEnd])), (a_weight, .inl (cI, 256, .inl v_weight))] s.heap := hP
  have hl := lv_entry ([.ref a_this, .int l1]) (n := 4) (Nat.le_of_ble_eq_true rfl)
  rw [lg_entry_eq]
  generalize (lg_sl ([.ref a_this, .int l1]) ++ List.replicate (4 - (lg_sl ([.ref a_this, .int l1])).length) Slot.unset).toArray = ls at hl ⊢
  have hl : lv_has ls 4 [(0, .ref a_this), (1, .int l1)] := hl
  have C : Cx p s m ([.ref a_this, .int l1] : List Value).toArray c b_MM_countOf 4 "PrefixMillModel" D [(cI, .int), (cL, .long), (cZ, .boolean)] A := ⟨hx, hb, hml, hown, hts, hK, hA⟩
  refine w_MM_countOf_b0 (res := (rv)) C ?_ () h s.heap [] ls hl hP hD hS
  intro pc9 H9 locs9 ls9 rv9 e9 d9 hP9 hD9 hS9
  cases e9
  exact W.iret (v := rv) hx hb hr (fun t ht hW => ⟨⟨rv, (), rfl, rfl, by rw [ht]; exact hP9, va_K.moved hW.alike hK, hD9⟩, hS9.F ht⟩) hS9.2.2 d9
abbrev b_MM_nextToGet : ByteArray := prog_12_method_34_code
def ws_MM_nextToGet : List Cond := .code ({ cls := "PrefixMillModel", name := "nextToGet", desc := "()I" } : Jvm.MethodName) b_MM_nextToGet 3 (some .int) :: tt
theorem d_MM_nextToGet_0 : decode b_MM_nextToGet 0 = .ok (.iconst (-1), 1) := by decide +kernel
theorem d_MM_nextToGet_1 : decode b_MM_nextToGet 1 = .ok (.istore_n 1, 1) := by decide +kernel
theorem d_MM_nextToGet_2 : decode b_MM_nextToGet 2 = .ok (.iconst 0, 1) := by decide +kernel
theorem d_MM_nextToGet_3 : decode b_MM_nextToGet 3 = .ok (.istore_n 2, 1) := by decide +kernel
theorem d_MM_nextToGet_4 : decode b_MM_nextToGet 4 = .ok (.iload_n 2, 1) := by decide +kernel
theorem d_MM_nextToGet_5 : decode b_MM_nextToGet 5 = .ok (.bipush 12, 2) := by decide +kernel
theorem d_MM_nextToGet_7 : decode b_MM_nextToGet 7 = .ok (.if_icmp .ge 50, 3) := by decide +kernel
theorem d_MM_nextToGet_10 : decode b_MM_nextToGet 10 = .ok (.aload_n 0, 1) := by decide +kernel
theorem d_MM_nextToGet_11 : decode b_MM_nextToGet 11 = .ok (.getfield 49, 3) := by decide +kernel
theorem d_MM_nextToGet_14 : decode b_MM_nextToGet 14 = .ok (.iload_n 2, 1) := by decide +kernel
theorem d_MM_nextToGet_15 : decode b_MM_nextToGet 15 = .ok (.baload, 1) := by decide +kernel
theorem d_MM_nextToGet_16 : decode b_MM_nextToGet 16 = .ok (.ifCond .ne 35, 3) := by decide +kernel
theorem d_MM_nextToGet_19 : decode b_MM_nextToGet 19 = .ok (.aload_n 0, 1) := by decide +kernel
theorem d_MM_nextToGet_20 : decode b_MM_nextToGet 20 = .ok (.getfield 43, 3) := by decide +kernel
theorem d_MM_nextToGet_23 : decode b_MM_nextToGet 23 = .ok (.iload_n 2, 1) := by decide +kernel
theorem d_MM_nextToGet_24 : decode b_MM_nextToGet 24 = .ok (.iaload, 1) := by decide +kernel
theorem d_MM_nextToGet_25 : decode b_MM_nextToGet 25 = .ok (.iconst 1, 1) := by decide +kernel
theorem d_MM_nextToGet_26 : decode b_MM_nextToGet 26 = .ok (.if_icmp .lt 25, 3) := by decide +kernel
theorem d_MM_nextToGet_29 : decode b_MM_nextToGet 29 = .ok (.iload_n 1, 1) := by decide +kernel
theorem d_MM_nextToGet_30 : decode b_MM_nextToGet 30 = .ok (.iconst (-1), 1) := by decide +kernel
theorem d_MM_nextToGet_31 : decode b_MM_nextToGet 31 = .ok (.if_icmp .eq 18, 3) := by decide +kernel
theorem d_MM_nextToGet_34 : decode b_MM_nextToGet 34 = .ok (.aload_n 0, 1) := by decide +kernel
theorem d_MM_nextToGet_35 : decode b_MM_nextToGet 35 = .ok (.getfield 46, 3) := by decide +kernel
theorem d_MM_nextToGet_38 : decode b_MM_nextToGet 38 = .ok (.iload_n 2, 1) := by decide +kernel
theorem d_MM_nextToGet_39 : decode b_MM_nextToGet 39 = .ok (.iaload, 1) := by decide +kernel
theorem d_MM_nextToGet_40 : decode b_MM_nextToGet 40 = .ok (.aload_n 0, 1) := by decide +kernel
theorem d_MM_nextToGet_41 : decode b_MM_nextToGet 41 = .ok (.getfield 46, 3) := by decide +kernel
theorem d_MM_nextToGet_44 : decode b_MM_nextToGet 44 = .ok (.iload_n 1, 1) := by decide +kernel
theorem d_MM_nextToGet_45 : decode b_MM_nextToGet 45 = .ok (.iaload, 1) := by decide +kernel
theorem d_MM_nextToGet_46 : decode b_MM_nextToGet 46 = .ok (.if_icmp .le 5, 3) := by decide +kernel
theorem d_MM_nextToGet_49 : decode b_MM_nextToGet 49 = .ok (.iload_n 2, 1) := by decide +kernel
theorem d_MM_nextToGet_50 : decode b_MM_nextToGet 50 = .ok (.istore_n 1, 1) := by decide +kernel
theorem d_MM_nextToGet_51 : decode b_MM_nextToGet 51 = .ok (.iinc 2 1, 3) := by decide +kernel
theorem d_MM_nextToGet_54 : decode b_MM_nextToGet 54 = .ok (.goto (-50), 3) := by decide +kernel
theorem d_MM_nextToGet_57 : decode b_MM_nextToGet 57 = .ok (.iload_n 1, 1) := by decide +kernel
theorem d_MM_nextToGet_58 : decode b_MM_nextToGet 58 = .ok (.ireturn, 1) := by decide +kernel
def f_MM_nextToGet_b51 (N : Nat) (v_points : Nat → Int32) (v_cutOff : Nat → Int32) (v_had : Nat → Int32) (k4 : Int32 → Int32 → Option (Int32)) (l1 : Int32) (l2 : Int32) : Option (Int32) :=
  nm (l2 + 1) fun l2_1 =>
  k4 l1 l2_1
def f_MM_nextToGet_b49 (N : Nat) (v_points : Nat → Int32) (v_cutOff : Nat → Int32) (v_had : Nat → Int32) (k4 : Int32 → Int32 → Option (Int32)) (l2 : Int32) : Option (Int32) :=
  f_MM_nextToGet_b51 N v_points v_cutOff v_had k4 l2 l2
def f_MM_nextToGet_b57 (N : Nat) (v_points : Nat → Int32) (v_cutOff : Nat → Int32) (v_had : Nat → Int32)  (l1 : Int32) : Option (Int32) :=
  some (l1)
def f_MM_nextToGet_b4 (N : Nat) (v_points : Nat → Int32) (v_cutOff : Nat → Int32) (v_had : Nat → Int32)  : Nat → Int32 → Int32 → Option (Int32)
  | 0, _, _ => none
  | z + 1, l1, l2 =>
  if 12 ≤ l2 then
  f_MM_nextToGet_b57 N v_points v_cutOff v_had  l1
  else
  ck (inb l2 12) <|
  if (v_had (Int32.toNatClampNeg l2)) = 0 then
  ck (inb l2 12) <|
  if (v_points (Int32.toNatClampNeg l2)) < 1 then
  f_MM_nextToGet_b51 N v_points v_cutOff v_had (f_MM_nextToGet_b4 N v_points v_cutOff v_had  z) l1 l2
  else
  if l1 = (-1) then
  f_MM_nextToGet_b49 N v_points v_cutOff v_had (f_MM_nextToGet_b4 N v_points v_cutOff v_had  z) l2
  else
  ck (inb l2 12) <|
  ck (inb l1 12) <|
  if (v_cutOff (Int32.toNatClampNeg l2)) ≤ (v_cutOff (Int32.toNatClampNeg l1)) then
  f_MM_nextToGet_b51 N v_points v_cutOff v_had (f_MM_nextToGet_b4 N v_points v_cutOff v_had  z) l1 l2
  else
  f_MM_nextToGet_b49 N v_points v_cutOff v_had (f_MM_nextToGet_b4 N v_points v_cutOff v_had  z) l2
  else
  f_MM_nextToGet_b51 N v_points v_cutOff v_had (f_MM_nextToGet_b4 N v_points v_cutOff v_had  z) l1 l2
def f_MM_nextToGet (N : Nat) (v_points : Nat → Int32) (v_cutOff : Nat → Int32) (v_had : Nat → Int32)   : Option (Int32) :=
  f_MM_nextToGet_b4 N v_points v_cutOff v_had  N (-1) 0
abbrev R_MM_nextToGet : Room := ({ frames := 0, cells := 0, slots := 0, locals := 0 } : Room)
def E_MM_nextToGet (p : Program) (l : Launch) (e : Env) (s : State) (m : MethodId) (args : Array Value) (below : List Frame) (meth : Method) (c : Code) (Q : State → Prop) (A : Nat → Prop) (D : va_G) (cI cL cZ : ClassId) (a_this : Nat) (a_points : Nat) (a_cutOff : Nat) (a_had : Nat) (o_in : Nat) (o_out : Nat) (o_counts : Nat) (o_length : Nat) (o_symbolOf : Nat) (o_draft : Nat) (o_knot : Nat) (o_inSum : Nat) (o_halved : Nat) (o_made : Nat) (o_weight : Nat) (o_placeOf : Nat) (i_inLong : Int32) (i_goesOn : Int32) (i_outLong : Int32) (i_greatest : Int32) (i_knots : Int32) (i_bitsMade : Int32) (i_weights : Int32) (i_order : Int32) (i_bit : Int32) (i_bitEnd : Int32) (v_points : Nat → Int32) (v_cutOff : Nat → Int32) (v_had : Nat → Int32) (res : Int32) : Prop := ∀ (pc : Nat) (H : Heap) (locs : List Loc) (ls : Array Slot) (rv : Int32), some (rv) = some res → decode b_MM_nextToGet pc = .ok (.ireturn, 1) → va_P D classes [(a_this, .inr (1, [.ref o_in, .int i_inLong, .int i_goesOn, .ref o_out, .int i_outLong, .ref o_counts, .int i_greatest, .ref o_length, .ref o_symbolOf, .ref o_draft, .ref o_knot, .ref o_inSum, .int i_knots, .ref o_halved, .ref o_made, .int i_bitsMade, .ref o_weight, .int i_weights, .int i_order, .ref a_points, .ref a_cutOff, .ref a_had, .ref o_placeOf, .int i_bit, .int i_bitEnd])), (a_points, .inl (cI, 12, .inl v_points)), (a_cutOff, .inl (cI, 12, .inl v_cutOff)), (a_had, .inl (cZ, 12, .inl v_had))] H → va_D A [(a_this, .inr (1, [.ref o_in, .int i_inLong, .int i_goesOn, .ref o_out, .int i_outLong, .ref o_counts, .int i_greatest, .ref o_length, .ref o_symbolOf, .ref o_draft, .ref o_knot, .ref o_inSum, .int i_knots, .ref o_halved, .ref o_made, .int i_bitsMade, .ref o_weight, .int i_weights, .int i_order, .ref a_points, .ref a_cutOff, .ref a_had, .ref o_placeOf, .int i_bit, .int i_bitEnd])), (a_points, .inl (cI, 12, .inl v_points)), (a_cutOff, .inl (cI, 12, .inl v_cutOff)), (a_had, .inl (cZ, 12, .inl v_had))] → va_S A s.heap H locs → W p l e R_MM_nextToGet s m args below meth c H locs 0 0 Q (F0 m pc ls [.int rv])
def I_MM_nextToGet_b51 (p : Program) (l : Launch) (e : Env) (s : State) (m : MethodId) (args : Array Value) (below : List Frame) (meth : Method) (c : Code) (Q : State → Prop) (A : Nat → Prop) (D : va_G) (cI cL cZ : ClassId) (a_this : Nat) (a_points : Nat) (a_cutOff : Nat) (a_had : Nat) (o_in : Nat) (o_out : Nat) (o_counts : Nat) (o_length : Nat) (o_symbolOf : Nat) (o_draft : Nat) (o_knot : Nat) (o_inSum : Nat) (o_halved : Nat) (o_made : Nat) (o_weight : Nat) (o_placeOf : Nat) (i_inLong : Int32) (i_goesOn : Int32) (i_outLong : Int32) (i_greatest : Int32) (i_knots : Int32) (i_bitsMade : Int32) (i_weights : Int32) (i_order : Int32) (i_bit : Int32) (i_bitEnd : Int32) (v_points : Nat → Int32) (v_cutOff : Nat → Int32) (v_had : Nat → Int32) (res : Int32) (kf : Int32 → Int32 → Option (Int32)) : Prop := ∀ (l1 : Int32) (l2 : Int32), kf l1 l2 = some res → ∀ (H : Heap) (locs : List Loc) (ls : Array Slot), lv_has ls 3 [(0, .ref a_this), (1, .int l1), (2, .int l2)] → va_P D classes [(a_this, .inr (1, [.ref o_in, .int i_inLong, .int i_goesOn, .ref o_out, .int i_outLong, .ref o_counts, .int i_greatest, .ref o_length, .ref o_symbolOf, .ref o_draft, .ref o_knot, .ref o_inSum, .int i_knots, .ref o_halved, .ref o_made, .int i_bitsMade, .ref o_weight, .int i_weights, .int i_order, .ref a_points, .ref a_cutOff, .ref a_had, .ref o_placeOf, .int i_bit, .int i_bitEnd])), (a_points, .inl (cI, 12, .inl v_points)), (a_cutOff, .inl (cI, 12, .inl v_cutOff)), (a_had, .inl (cZ, 12, .inl v_had))] H → va_D A [(a_this, .inr (1, [.ref o_in, .int i_inLong, .int i_goesOn, .ref o_out, .int i_outLong, .ref o_counts, .int i_greatest, .ref o_length, .ref o_symbolOf, .ref o_draft, .ref o_knot, .ref o_inSum, .int i_knots, .ref o_halved, .ref o_made, .int i_bitsMade, .ref o_weight, .int i_weights, .int i_order, .ref a_points, .ref a_cutOff, .ref a_had, .ref o_placeOf, .int i_bit, .int i_bitEnd])), (a_points, .inl (cI, 12, .inl v_points)), (a_cutOff, .inl (cI, 12, .inl v_cutOff)), (a_had, .inl (cZ, 12, .inl v_had))] → va_S A s.heap H locs → W p l e R_MM_nextToGet s m args below meth c H locs 0 0 Q (F0 m 51 ls [])
def I_MM_nextToGet_b49 (p : Program) (l : Launch) (e : Env) (s : State) (m : MethodId) (args : Array Value) (below : List Frame) (meth : Method) (c : Code) (Q : State → Prop) (A : Nat → Prop) (D : va_G) (cI cL cZ : ClassId) (a_this : Nat) (a_points : Nat) (a_cutOff : Nat) (a_had : Nat) (o_in : Nat) (o_out : Nat) (o_counts : Nat) (o_length : Nat) (o_symbolOf : Nat) (o_draft : Nat) (o_knot : Nat) (o_inSum : Nat) (o_halved : Nat) (o_made : Nat) (o_weight : Nat) (o_placeOf : Nat) (i_inLong : Int32) (i_goesOn : Int32) (i_outLong : Int32) (i_greatest : Int32) (i_knots : Int32) (i_bitsMade : Int32) (i_weights : Int32) (i_order : Int32) (i_bit : Int32) (i_bitEnd : Int32) (v_points : Nat → Int32) (v_cutOff : Nat → Int32) (v_had : Nat → Int32) (res : Int32) (kf : Int32 → Option (Int32)) : Prop := ∀ (l2 : Int32), kf l2 = some res → ∀ (H : Heap) (locs : List Loc) (ls : Array Slot), lv_has ls 3 [(0, .ref a_this), (2, .int l2)] → va_P D classes [(a_this, .inr (1, [.ref o_in, .int i_inLong, .int i_goesOn, .ref o_out, .int i_outLong, .ref o_counts, .int i_greatest, .ref o_length, .ref o_symbolOf, .ref o_draft, .ref o_knot, .ref o_inSum, .int i_knots, .ref o_halved, .ref o_made, .int i_bitsMade, .ref o_weight, .int i_weights, .int i_order, .ref a_points, .ref a_cutOff, .ref a_had, .ref o_placeOf, .int i_bit, .int i_bitEnd])), (a_points, .inl (cI, 12, .inl v_points)), (a_cutOff, .inl (cI, 12, .inl v_cutOff)), (a_had, .inl (cZ, 12, .inl v_had))] H → va_D A [(a_this, .inr (1, [.ref o_in, .int i_inLong, .int i_goesOn, .ref o_out, .int i_outLong, .ref o_counts, .int i_greatest, .ref o_length, .ref o_symbolOf, .ref o_draft, .ref o_knot, .ref o_inSum, .int i_knots, .ref o_halved, .ref o_made, .int i_bitsMade, .ref o_weight, .int i_weights, .int i_order, .ref a_points, .ref a_cutOff, .ref a_had, .ref o_placeOf, .int i_bit, .int i_bitEnd])), (a_points, .inl (cI, 12, .inl v_points)), (a_cutOff, .inl (cI, 12, .inl v_cutOff)), (a_had, .inl (cZ, 12, .inl v_had))] → va_S A s.heap H locs → W p l e R_MM_nextToGet s m args below meth c H locs 0 0 Q (F0 m 49 ls [])
def I_MM_nextToGet_b57 (p : Program) (l : Launch) (e : Env) (s : State) (m : MethodId) (args : Array Value) (below : List Frame) (meth : Method) (c : Code) (Q : State → Prop) (A : Nat → Prop) (D : va_G) (cI cL cZ : ClassId) (a_this : Nat) (a_points : Nat) (a_cutOff : Nat) (a_had : Nat) (o_in : Nat) (o_out : Nat) (o_counts : Nat) (o_length : Nat) (o_symbolOf : Nat) (o_draft : Nat) (o_knot : Nat) (o_inSum : Nat) (o_halved : Nat) (o_made : Nat) (o_weight : Nat) (o_placeOf : Nat) (i_inLong : Int32) (i_goesOn : Int32) (i_outLong : Int32) (i_greatest : Int32) (i_knots : Int32) (i_bitsMade : Int32) (i_weights : Int32) (i_order : Int32) (i_bit : Int32) (i_bitEnd : Int32) (v_points : Nat → Int32) (v_cutOff : Nat → Int32) (v_had : Nat → Int32) (res : Int32) (kf : Int32 → Option (Int32)) : Prop := ∀ (l1 : Int32), kf l1 = some res → ∀ (H : Heap) (locs : List Loc) (ls : Array Slot), lv_has ls 3 [(1, .int l1)] → va_P D classes [(a_this, .inr (1, [.ref o_in, .int i_inLong, .int i_goesOn, .ref o_out, .int i_outLong, .ref o_counts, .int i_greatest, .ref o_length, .ref o_symbolOf, .ref o_draft, .ref o_knot, .ref o_inSum, .int i_knots, .ref o_halved, .ref o_made, .int i_bitsMade, .ref o_weight, .int i_weights, .int i_order, .ref a_points, .ref a_cutOff, .ref a_had, .ref o_placeOf, .int i_bit, .int i_bitEnd])), (a_points, .inl (cI, 12, .inl v_points)), (a_cutOff, .inl (cI, 12, .inl v_cutOff)), (a_had, .inl (cZ, 12, .inl v_had))] H → va_D A [(a_this, .inr (1, [.ref o_in, .int i_inLong, .int i_goesOn, .ref o_out, .int i_outLong, .ref o_counts, .int i_greatest, .ref o_length, .ref o_symbolOf, .ref o_draft, .ref o_knot, .ref o_inSum, .int i_knots, .ref o_halved, .ref o_made, .int i_bitsMade, .ref o_weight, .int i_weights, .int i_order, .ref a_points, .ref a_cutOff, .ref a_had, .ref o_placeOf, .int i_bit, .int i_bitEnd])), (a_points, .inl (cI, 12, .inl v_points)), (a_cutOff, .inl (cI, 12, .inl v_cutOff)), (a_had, .inl (cZ, 12, .inl v_had))] → va_S A s.heap H locs → W p l e R_MM_nextToGet s m args below meth c H locs 0 0 Q (F0 m 57 ls [])
def I_MM_nextToGet_b4 (p : Program) (l : Launch) (e : Env) (s : State) (m : MethodId) (args : Array Value) (below : List Frame) (meth : Method) (c : Code) (Q : State → Prop) (A : Nat → Prop) (D : va_G) (cI cL cZ : ClassId) (a_this : Nat) (a_points : Nat) (a_cutOff : Nat) (a_had : Nat) (o_in : Nat) (o_out : Nat) (o_counts : Nat) (o_length : Nat) (o_symbolOf : Nat) (o_draft : Nat) (o_knot : Nat) (o_inSum : Nat) (o_halved : Nat) (o_made : Nat) (o_weight : Nat) (o_placeOf : Nat) (i_inLong : Int32) (i_goesOn : Int32) (i_outLong : Int32) (i_greatest : Int32) (i_knots : Int32) (i_bitsMade : Int32) (i_weights : Int32) (i_order : Int32) (i_bit : Int32) (i_bitEnd : Int32) (v_points : Nat → Int32) (v_cutOff : Nat → Int32) (v_had : Nat → Int32) (res : Int32) (kf : Int32 → Int32 → Option (Int32)) : Prop := ∀ (l1 : Int32) (l2 : Int32), kf l1 l2 = some res → ∀ (H : Heap) (locs : List Loc) (ls : Array Slot), lv_has ls 3 [(0, .ref a_this), (1, .int l1), (2, .int l2)] → va_P D classes [(a_this, .inr (1, [.ref o_in, .int i_inLong, .int i_goesOn, .ref o_out, .int i_outLong, .ref o_counts, .int i_greatest, .ref o_length, .ref o_symbolOf, .ref o_draft, .ref o_knot, .ref o_inSum, .int i_knots, .ref o_halved, .ref o_made, .int i_bitsMade, .ref o_weight, .int i_weights, .int i_order, .ref a_points, .ref a_cutOff, .ref a_had, .ref o_placeOf, .int i_bit, .int i_bitEnd])), (a_points, .inl (cI, 12, .inl v_points)), (a_cutOff, .inl (cI, 12, .inl v_cutOff)), (a_had, .inl (cZ, 12, .inl v_had))] H → va_D A [(a_this, .inr (1, [.ref o_in, .int i_inLong, .int i_goesOn, .ref o_out, .int i_outLong, .ref o_counts, .int i_greatest, .ref o_length, .ref o_symbolOf, .ref o_draft, .ref o_knot, .ref o_inSum, .int i_knots, .ref o_halved, .ref o_made, .int i_bitsMade, .ref o_weight, .int i_weights, .int i_order, .ref a_points, .ref a_cutOff, .ref a_had, .ref o_placeOf, .int i_bit, .int i_bitEnd])), (a_points, .inl (cI, 12, .inl v_points)), (a_cutOff, .inl (cI, 12, .inl v_cutOff)), (a_had, .inl (cZ, 12, .inl v_had))] → va_S A s.heap H locs → W p l e R_MM_nextToGet s m args below meth c H locs 0 0 Q (F0 m 4 ls [])
def I_MM_nextToGet_b0 (p : Program) (l : Launch) (e : Env) (s : State) (m : MethodId) (args : Array Value) (below : List Frame) (meth : Method) (c : Code) (Q : State → Prop) (A : Nat → Prop) (D : va_G) (cI cL cZ : ClassId) (a_this : Nat) (a_points : Nat) (a_cutOff : Nat) (a_had : Nat) (o_in : Nat) (o_out : Nat) (o_counts : Nat) (o_length : Nat) (o_symbolOf : Nat) (o_draft : Nat) (o_knot : Nat) (o_inSum : Nat) (o_halved : Nat) (o_made : Nat) (o_weight : Nat) (o_placeOf : Nat) (i_inLong : Int32) (i_goesOn : Int32) (i_outLong : Int32) (i_greatest : Int32) (i_knots : Int32) (i_bitsMade : Int32) (i_weights : Int32) (i_order : Int32) (i_bit : Int32) (i_bitEnd : Int32) (v_points : Nat → Int32) (v_cutOff : Nat → Int32) (v_had : Nat → Int32) (res : Int32) (kf : Option (Int32)) : Prop := ∀ (_ : Unit), kf  = some res → ∀ (H : Heap) (locs : List Loc) (ls : Array Slot), lv_has ls 3 [(0, .ref a_this)] → va_P D classes [(a_this, .inr (1, [.ref o_in, .int i_inLong, .int i_goesOn, .ref o_out, .int i_outLong, .ref o_counts, .int i_greatest, .ref o_length, .ref o_symbolOf, .ref o_draft, .ref o_knot, .ref o_inSum, .int i_knots, .ref o_halved, .ref o_made, .int i_bitsMade, .ref o_weight, .int i_weights, .int i_order, .ref a_points, .ref a_cutOff, .ref a_had, .ref o_placeOf, .int i_bit, .int i_bitEnd])), (a_points, .inl (cI, 12, .inl v_points)), (a_cutOff, .inl (cI, 12, .inl v_cutOff)), (a_had, .inl (cZ, 12, .inl v_had))] H → va_D A [(a_this, .inr (1, [.ref o_in, .int i_inLong, .int i_goesOn, .ref o_out, .int i_outLong, .ref o_counts, .int i_greatest, .ref o_length, .ref o_symbolOf, .ref o_draft, .ref o_knot, .ref o_inSum, .int i_knots, .ref o_halved, .ref o_made, .int i_bitsMade, .ref o_weight, .int i_weights, .int i_order, .ref a_points, .ref a_cutOff, .ref a_had, .ref o_placeOf, .int i_bit, .int i_bitEnd])), (a_points, .inl (cI, 12, .inl v_points)), (a_cutOff, .inl (cI, 12, .inl v_cutOff)), (a_had, .inl (cZ, 12, .inl v_had))] → va_S A s.heap H locs → W p l e R_MM_nextToGet s m args below meth c H locs 0 0 Q (F0 m 0 ls [])
set_option maxHeartbeats 4000000 in
set_option maxRecDepth 100000 in
theorem w_MM_nextToGet_b51 {p : Program} {l : Launch} {e : Env} {s : State} {m : MethodId} {args : Array Value} {below : List Frame} {meth : Method} {c : Code} {Q : State → Prop} {A : Nat → Prop} {D : va_G} {cI cL cZ : ClassId} {a_this : Nat} {a_points : Nat} {a_cutOff : Nat} {a_had : Nat} {o_in : Nat} {o_out : Nat} {o_counts : Nat} {o_length : Nat} {o_symbolOf : Nat} {o_draft : Nat} {o_knot : Nat} {o_inSum : Nat} {o_halved : Nat} {o_made : Nat} {o_weight : Nat} {o_placeOf : Nat} {i_inLong : Int32} {i_goesOn : Int32} {i_outLong : Int32} {i_greatest : Int32} {i_knots : Int32} {i_bitsMade : Int32} {i_weights : Int32} {i_order : Int32} {i_bit : Int32} {i_bitEnd : Int32} {v_points : Nat → Int32} {v_cutOff : Nat → Int32} {v_had : Nat → Int32} {N : Nat} {res : Int32} {k4 : Int32 → Int32 → Option (Int32)} (C : Cx p s m args c b_MM_nextToGet 3 "PrefixMillModel" D [(cI, .int), (cL, .long), (cZ, .boolean)] A) (hret : E_MM_nextToGet p l e s m args below meth c Q A D cI cL cZ a_this a_points a_cutOff a_had o_in o_out o_counts o_length o_symbolOf o_draft o_knot o_inSum o_halved o_made o_weight o_placeOf i_inLong i_goesOn i_outLong i_greatest i_knots i_bitsMade i_weights i_order i_bit i_bitEnd v_points v_cutOff v_had res) (hk4 : I_MM_nextToGet_b4 p l e s m args below meth c Q A D cI cL cZ a_this a_points a_cutOff a_had o_in o_out o_counts o_length o_symbolOf o_draft o_knot o_inSum o_halved o_made o_weight o_placeOf i_inLong i_goesOn i_outLong i_greatest i_knots i_bitsMade i_weights i_order i_bit i_bitEnd v_points v_cutOff v_had res k4) : I_MM_nextToGet_b51 p l e s m args below meth c Q A D cI cL cZ a_this a_points a_cutOff a_had o_in o_out o_counts o_length o_symbolOf o_draft o_knot o_inSum o_halved o_made o_weight o_placeOf i_inLong i_goesOn i_outLong i_greatest i_knots i_bitsMade i_weights i_order i_bit i_bitEnd v_points v_cutOff v_had res (f_MM_nextToGet_b51 N v_points v_cutOff v_had k4) := by
  obtain ⟨hx, hb, hml, hown, hts, hK, hA⟩ := C
  intro l1 l2 h H locs ls hl hP hD hS
  unfold f_MM_nextToGet_b51 at h
  obtain ⟨l2_1, el2_1⟩ : ∃ y : Int32, y = l2 + 1 := ⟨_, rfl⟩
  replace h := nm_s h el2_1
  refine lv_iinc (v := l2_1) (lv' := [(2, .int l2_1), (0, .ref a_this), (1, .int l1)]) hx hb d_MM_nextToGet_51 hl (k := 2) rfl (by rw [el2_1]; rfl) (by decide) rfl (fun ls hl => ?_)
  refine lv_goto (tgt := 4) hx hb d_MM_nextToGet_54 (by decide) ?_
  exact hk4 _ _ h H locs ls (lv_sub hl [1, 2, 0] rfl) hP hD hS
set_option maxHeartbeats 4000000 in
set_option maxRecDepth 100000 in
theorem w_MM_nextToGet_b49 {p : Program} {l : Launch} {e : Env} {s : State} {m : MethodId} {args : Array Value} {below : List Frame} {meth : Method} {c : Code} {Q : State → Prop} {A : Nat → Prop} {D : va_G} {cI cL cZ : ClassId} {a_this : Nat} {a_points : Nat} {a_cutOff : Nat} {a_had : Nat} {o_in : Nat} {o_out : Nat} {o_counts : Nat} {o_length : Nat} {o_symbolOf : Nat} {o_draft : Nat} {o_knot : Nat} {o_inSum : Nat} {o_halved : Nat} {o_made : Nat} {o_weight : Nat} {o_placeOf : Nat} {i_inLong : Int32} {i_goesOn : Int32} {i_outLong : Int32} {i_greatest : Int32} {i_knots : Int32} {i_bitsMade : Int32} {i_weights : Int32} {i_order : Int32} {i_bit : Int32} {i_bitEnd : Int32} {v_points : Nat → Int32} {v_cutOff : Nat → Int32} {v_had : Nat → Int32} {N : Nat} {res : Int32} {k4 : Int32 → Int32 → Option (Int32)} (C : Cx p s m args c b_MM_nextToGet 3 "PrefixMillModel" D [(cI, .int), (cL, .long), (cZ, .boolean)] A) (hret : E_MM_nextToGet p l e s m args below meth c Q A D cI cL cZ a_this a_points a_cutOff a_had o_in o_out o_counts o_length o_symbolOf o_draft o_knot o_inSum o_halved o_made o_weight o_placeOf i_inLong i_goesOn i_outLong i_greatest i_knots i_bitsMade i_weights i_order i_bit i_bitEnd v_points v_cutOff v_had res) (hk4 : I_MM_nextToGet_b4 p l e s m args below meth c Q A D cI cL cZ a_this a_points a_cutOff a_had o_in o_out o_counts o_length o_symbolOf o_draft o_knot o_inSum o_halved o_made o_weight o_placeOf i_inLong i_goesOn i_outLong i_greatest i_knots i_bitsMade i_weights i_order i_bit i_bitEnd v_points v_cutOff v_had res k4) : I_MM_nextToGet_b49 p l e s m args below meth c Q A D cI cL cZ a_this a_points a_cutOff a_had o_in o_out o_counts o_length o_symbolOf o_draft o_knot o_inSum o_halved o_made o_weight o_placeOf i_inLong i_goesOn i_outLong i_greatest i_knots i_bitsMade i_weights i_order i_bit i_bitEnd v_points v_cutOff v_had res (f_MM_nextToGet_b49 N v_points v_cutOff v_had k4) := by
  obtain ⟨hx, hb, hml, hown, hts, hK, hA⟩ := C
  intro l2 h H locs ls hl hP hD hS
  unfold f_MM_nextToGet_b49 at h
  refine lv_iload_n hx hb d_MM_nextToGet_49 rfl (lv_at hl 1 rfl) ?_
  refine lv_istore_n (lv' := [(1, .int l2), (0, .ref a_this), (2, .int l2)]) hx hb d_MM_nextToGet_50 rfl hl (by decide) rfl (fun ls hl => ?_)
  exact w_MM_nextToGet_b51 ⟨hx, hb, hml, hown, hts, hK, hA⟩ hret hk4 _ _ h H locs ls (lv_sub hl [1, 0, 2] rfl) hP hD hS
set_option maxHeartbeats 4000000 in
set_option maxRecDepth 100000 in
theorem w_MM_nextToGet_b57 {p : Program} {l : Launch} {e : Env} {s : State} {m : MethodId} {args : Array Value} {below : List Frame} {meth : Method} {c : Code} {Q : State → Prop} {A : Nat → Prop} {D : va_G} {cI cL cZ : ClassId} {a_this : Nat} {a_points : Nat} {a_cutOff : Nat} {a_had : Nat} {o_in : Nat} {o_out : Nat} {o_counts : Nat} {o_length : Nat} {o_symbolOf : Nat} {o_draft : Nat} {o_knot : Nat} {o_inSum : Nat} {o_halved : Nat} {o_made : Nat} {o_weight : Nat} {o_placeOf : Nat} {i_inLong : Int32} {i_goesOn : Int32} {i_outLong : Int32} {i_greatest : Int32} {i_knots : Int32} {i_bitsMade : Int32} {i_weights : Int32} {i_order : Int32} {i_bit : Int32} {i_bitEnd : Int32} {v_points : Nat → Int32} {v_cutOff : Nat → Int32} {v_had : Nat → Int32} {N : Nat} {res : Int32}  (C : Cx p s m args c b_MM_nextToGet 3 "PrefixMillModel" D [(cI, .int), (cL, .long), (cZ, .boolean)] A) (hret : E_MM_nextToGet p l e s m args below meth c Q A D cI cL cZ a_this a_points a_cutOff a_had o_in o_out o_counts o_length o_symbolOf o_draft o_knot o_inSum o_halved o_made o_weight o_placeOf i_inLong i_goesOn i_outLong i_greatest i_knots i_bitsMade i_weights i_order i_bit i_bitEnd v_points v_cutOff v_had res)  : I_MM_nextToGet_b57 p l e s m args below meth c Q A D cI cL cZ a_this a_points a_cutOff a_had o_in o_out o_counts o_length o_symbolOf o_draft o_knot o_inSum o_halved o_made o_weight o_placeOf i_inLong i_goesOn i_outLong i_greatest i_knots i_bitsMade i_weights i_order i_bit i_bitEnd v_points v_cutOff v_had res (f_MM_nextToGet_b57 N v_points v_cutOff v_had ) := by
  obtain ⟨hx, hb, hml, hown, hts, hK, hA⟩ := C
  intro l1 h H locs ls hl hP hD hS
  unfold f_MM_nextToGet_b57 at h
  refine lv_iload_n hx hb d_MM_nextToGet_57 rfl (lv_at hl 0 rfl) ?_
  exact hret _ _ _ _ l1  h d_MM_nextToGet_58 hP hD hS
set_option maxHeartbeats 4000000 in
set_option maxRecDepth 100000 in
theorem w_MM_nextToGet_b4 {p : Program} {l : Launch} {e : Env} {s : State} {m : MethodId} {args : Array Value} {below : List Frame} {meth : Method} {c : Code} {Q : State → Prop} {A : Nat → Prop} {D : va_G} {cI cL cZ : ClassId} {a_this : Nat} {a_points : Nat} {a_cutOff : Nat} {a_had : Nat} {o_in : Nat} {o_out : Nat} {o_counts : Nat} {o_length : Nat} {o_symbolOf : Nat} {o_draft : Nat} {o_knot : Nat} {o_inSum : Nat} {o_halved : Nat} {o_made : Nat} {o_weight : Nat} {o_placeOf : Nat} {i_inLong : Int32} {i_goesOn : Int32} {i_outLong : Int32} {i_greatest : Int32} {i_knots : Int32} {i_bitsMade : Int32} {i_weights : Int32} {i_order : Int32} {i_bit : Int32} {i_bitEnd : Int32} {v_points : Nat → Int32} {v_cutOff : Nat → Int32} {v_had : Nat → Int32} {N : Nat} {res : Int32}  (C : Cx p s m args c b_MM_nextToGet 3 "PrefixMillModel" D [(cI, .int), (cL, .long), (cZ, .boolean)] A) (hret : E_MM_nextToGet p l e s m args below meth c Q A D cI cL cZ a_this a_points a_cutOff a_had o_in o_out o_counts o_length o_symbolOf o_draft o_knot o_inSum o_halved o_made o_weight o_placeOf i_inLong i_goesOn i_outLong i_greatest i_knots i_bitsMade i_weights i_order i_bit i_bitEnd v_points v_cutOff v_had res)  : ∀ z : Nat, I_MM_nextToGet_b4 p l e s m args below meth c Q A D cI cL cZ a_this a_points a_cutOff a_had o_in o_out o_counts o_length o_symbolOf o_draft o_knot o_inSum o_halved o_made o_weight o_placeOf i_inLong i_goesOn i_outLong i_greatest i_knots i_bitsMade i_weights i_order i_bit i_bitEnd v_points v_cutOff v_had res (f_MM_nextToGet_b4 N v_points v_cutOff v_had  z) := by
  obtain ⟨hx, hb, hml, hown, hts, hK, hA⟩ := C
  intro z
  induction z with
  | zero => intro l1 l2 h; cases h
  | succ z ih =>
    intro l1 l2 h H locs ls hl hP hD hS
    refine lv_iload_n hx hb d_MM_nextToGet_4 rfl (lv_at hl 2 rfl) ?_
    refine lv_bipush (v := 12) hx hb d_MM_nextToGet_5 (by decide) ?_
    refine lv_icmp_ge (tgt := 57) hx hb d_MM_nextToGet_7 (by decide) (fun c_1 => ?_) (fun c_1 => ?_)
    · replace h := if_t h c_1
      exact w_MM_nextToGet_b57 ⟨hx, hb, hml, hown, hts, hK, hA⟩ hret  _ h H locs ls (lv_sub hl [1] rfl) hP hD hS
    · replace h := if_f h c_1
      refine lv_aload_n hx hb d_MM_nextToGet_10 rfl (lv_at hl 0 rfl) ?_
      refine va_get hx hb hts in_MM hown hK hP 0 rfl rfl 21 (by decide) (hts _ m_774) (fun _ h9 => h9) rfl d_MM_nextToGet_11 ?_
      refine lv_iload_n hx hb d_MM_nextToGet_14 rfl (lv_at hl 2 rfl) ?_
      obtain ⟨g_2, h⟩ := ck_s h
      refine va_zald hx hb hK hP 3 2 rfl rfl (inb_s g_2) d_MM_nextToGet_15 ?_
      refine lv_if_ne (tgt := 51) hx hb d_MM_nextToGet_16 (by decide) (fun c_3 => ?_) (fun c_3 => ?_)
      · replace h := if_f h c_3
        exact w_MM_nextToGet_b51 ⟨hx, hb, hml, hown, hts, hK, hA⟩ hret ih _ _ h H locs ls (lv_sub hl [0, 1, 2] rfl) hP hD hS
      · replace h := if_t h c_3
        refine lv_aload_n hx hb d_MM_nextToGet_19 rfl (lv_at hl 0 rfl) ?_
        refine va_get hx hb hts in_MM hown hK hP 0 rfl rfl 19 (by decide) (hts _ m_772) (fun _ h9 => h9) rfl d_MM_nextToGet_20 ?_
        refine lv_iload_n hx hb d_MM_nextToGet_23 rfl (lv_at hl 2 rfl) ?_
        obtain ⟨g_4, h⟩ := ck_s h
        refine va_iald hx hb hK hP 1 0 rfl rfl (inb_s g_4) d_MM_nextToGet_24 ?_
        refine lv_iconst (v := 1) hx hb d_MM_nextToGet_25 (by decide) ?_
        refine lv_icmp_lt (tgt := 51) hx hb d_MM_nextToGet_26 (by decide) (fun c_5 => ?_) (fun c_5 => ?_)
        · replace h := if_t h c_5
          exact w_MM_nextToGet_b51 ⟨hx, hb, hml, hown, hts, hK, hA⟩ hret ih _ _ h H locs ls (lv_sub hl [0, 1, 2] rfl) hP hD hS
        · replace h := if_f h c_5
          refine lv_iload_n hx hb d_MM_nextToGet_29 rfl (lv_at hl 1 rfl) ?_
          refine lv_iconst (v := (-1)) hx hb d_MM_nextToGet_30 (by decide) ?_
          refine lv_icmp_eq (tgt := 49) hx hb d_MM_nextToGet_31 (by decide) (fun c_6 => ?_) (fun c_6 => ?_)
          · replace h := if_t h c_6
            exact w_MM_nextToGet_b49 ⟨hx, hb, hml, hown, hts, hK, hA⟩ hret ih _ h H locs ls (lv_sub hl [0, 2] rfl) hP hD hS
          · replace h := if_f h c_6
            refine lv_aload_n hx hb d_MM_nextToGet_34 rfl (lv_at hl 0 rfl) ?_
            refine va_get hx hb hts in_MM hown hK hP 0 rfl rfl 20 (by decide) (hts _ m_773) (fun _ h9 => h9) rfl d_MM_nextToGet_35 ?_
            refine lv_iload_n hx hb d_MM_nextToGet_38 rfl (lv_at hl 2 rfl) ?_
            obtain ⟨g_7, h⟩ := ck_s h
            refine va_iald hx hb hK hP 2 0 rfl rfl (inb_s g_7) d_MM_nextToGet_39 ?_
            refine lv_aload_n hx hb d_MM_nextToGet_40 rfl (lv_at hl 0 rfl) ?_
            refine va_get hx hb hts in_MM hown hK hP 0 rfl rfl 20 (by decide) (hts _ m_773) (fun _ h9 => h9) rfl d_MM_nextToGet_41 ?_
            refine lv_iload_n hx hb d_MM_nextToGet_44 rfl (lv_at hl 1 rfl) ?_
            obtain ⟨g_8, h⟩ := ck_s h
            refine va_iald hx hb hK hP 2 0 rfl rfl (inb_s g_8) d_MM_nextToGet_45 ?_
            refine lv_icmp_le (tgt := 51) hx hb d_MM_nextToGet_46 (by decide) (fun c_9 => ?_) (fun c_9 => ?_)
            · replace h := if_t h c_9
              exact w_MM_nextToGet_b51 ⟨hx, hb, hml, hown, hts, hK, hA⟩ hret ih _ _ h H locs ls (lv_sub hl [0, 1, 2] rfl) hP hD hS
            · replace h := if_f h c_9
              exact w_MM_nextToGet_b49 ⟨hx, hb, hml, hown, hts, hK, hA⟩ hret ih _ h H locs ls (lv_sub hl [0, 2] rfl) hP hD hS
set_option maxHeartbeats 4000000 in
set_option maxRecDepth 100000 in
theorem w_MM_nextToGet_b0 {p : Program} {l : Launch} {e : Env} {s : State} {m : MethodId} {args : Array Value} {below : List Frame} {meth : Method} {c : Code} {Q : State → Prop} {A : Nat → Prop} {D : va_G} {cI cL cZ : ClassId} {a_this : Nat} {a_points : Nat} {a_cutOff : Nat} {a_had : Nat} {o_in : Nat} {o_out : Nat} {o_counts : Nat} {o_length : Nat} {o_symbolOf : Nat} {o_draft : Nat} {o_knot : Nat} {o_inSum : Nat} {o_halved : Nat} {o_made : Nat} {o_weight : Nat} {o_placeOf : Nat} {i_inLong : Int32} {i_goesOn : Int32} {i_outLong : Int32} {i_greatest : Int32} {i_knots : Int32} {i_bitsMade : Int32} {i_weights : Int32} {i_order : Int32} {i_bit : Int32} {i_bitEnd : Int32} {v_points : Nat → Int32} {v_cutOff : Nat → Int32} {v_had : Nat → Int32} {N : Nat} {res : Int32}  (C : Cx p s m args c b_MM_nextToGet 3 "PrefixMillModel" D [(cI, .int), (cL, .long), (cZ, .boolean)] A) (hret : E_MM_nextToGet p l e s m args below meth c Q A D cI cL cZ a_this a_points a_cutOff a_had o_in o_out o_counts o_length o_symbolOf o_draft o_knot o_inSum o_halved o_made o_weight o_placeOf i_inLong i_goesOn i_outLong i_greatest i_knots i_bitsMade i_weights i_order i_bit i_bitEnd v_points v_cutOff v_had res)  : I_MM_nextToGet_b0 p l e s m args below meth c Q A D cI cL cZ a_this a_points a_cutOff a_had o_in o_out o_counts o_length o_symbolOf o_draft o_knot o_inSum o_halved o_made o_weight o_placeOf i_inLong i_goesOn i_outLong i_greatest i_knots i_bitsMade i_weights i_order i_bit i_bitEnd v_points v_cutOff v_had res (f_MM_nextToGet N v_points v_cutOff v_had ) := by
  obtain ⟨hx, hb, hml, hown, hts, hK, hA⟩ := C
  intro _ h H locs ls hl hP hD hS
  unfold f_MM_nextToGet at h
  refine lv_iconst (v := (-1)) hx hb d_MM_nextToGet_0 (by decide) ?_
  refine lv_istore_n (lv' := [(1, .int (-1)), (0, .ref a_this)]) hx hb d_MM_nextToGet_1 rfl hl (by decide) rfl (fun ls hl => ?_)
  refine lv_iconst (v := 0) hx hb d_MM_nextToGet_2 (by decide) ?_
  refine lv_istore_n (lv' := [(2, .int 0), (1, .int (-1)), (0, .ref a_this)]) hx hb d_MM_nextToGet_3 rfl hl (by decide) rfl (fun ls hl => ?_)
  exact w_MM_nextToGet_b4 ⟨hx, hb, hml, hown, hts, hK, hA⟩ hret  N _ _ h H locs ls (lv_sub hl [2, 1, 0] rfl) hP hD hS
set_option maxHeartbeats 4000000 in
set_option maxRecDepth 100000 in
theorem c_MM_nextToGet (l : Launch) (D : va_G) (cI cL cZ : ClassId) (sz N : Nat) (a_this : Nat) (a_points : Nat) (a_cutOff : Nat) (a_had : Nat) (o_in : Nat) (o_out : Nat) (o_counts : Nat) (o_length : Nat) (o_symbolOf : Nat) (o_draft : Nat) (o_knot : Nat) (o_inSum : Nat) (o_halved : Nat) (o_made : Nat) (o_weight : Nat) (o_placeOf : Nat) (i_inLong : Int32) (i_goesOn : Int32) (i_outLong : Int32) (i_greatest : Int32) (i_knots : Int32) (i_bitsMade : Int32) (i_weights : Int32) (i_order : Int32) (i_bit : Int32) (i_bitEnd : Int32) (v_points : Nat → Int32) (v_cutOff : Nat → Int32) (v_had : Nat → Int32) (rv : Int32) (h : f_MM_nextToGet N v_points v_cutOff v_had  = some (rv)) : Met l ({ cls := "PrefixMillModel", name := "nextToGet", desc := "()I" } : Jvm.MethodName) ws_MM_nextToGet R_MM_nextToGet (va_Pc [.ref a_this] (fun U => U.heap.size = sz ∧ va_P D classes [(a_this, .inr (1, [.ref o_in, .int i_inLong, .int i_goesOn, .ref o_out, .int i_outLong, .ref o_counts, .int i_greatest, .ref o_length, .ref o_symbolOf, .ref o_draft, .ref o_knot, .ref o_inSum, .int i_knots, .ref o_halved, .ref o_made, .int i_bitsMade, .ref o_weight, .int i_weights, .int i_order, .ref a_points, .ref a_cutOff, .ref a_had, .ref o_placeOf, .int i_bit, .int i_bitEnd])), (a_points, .inl (cI, 12, .inl v_points)), (a_cutOff, .inl (cI, 12, .inl v_cutOff)), (a_had, .inl (cZ, 12, .inl v_had))] U.heap ∧ va_K D classes [(cI, .int), (cL, .long), (cZ, .boolean)] U ∧ va_D (fun _ => True) [(a_this, .inr (1, [.ref o_in, .int i_inLong, .int i_goesOn, .ref o_out, .int i_outLong, .ref o_counts, .int i_greatest, .ref o_length, .ref o_symbolOf, .ref o_draft, .ref o_knot, .ref o_inSum, .int i_knots, .ref o_halved, .ref o_made, .int i_bitsMade, .ref o_weight, .int i_weights, .int i_order, .ref a_points, .ref a_cutOff, .ref a_had, .ref o_placeOf, .int i_bit, .int i_bitEnd])), (a_points, .inl (cI, 12, .inl v_points)), (a_cutOff, .inl (cI, 12, .inl v_cutOff)), (a_had, .inl (cZ, 12, .inl v_had))])) (va_Qi (fun (r0 : Int32) (_ : Unit) => rv = r0) (fun _ t => va_P D classes [(a_this, .inr (1, [.ref o_in, .int i_inLong, .int i_goesOn, .ref o_out, .int i_outLong, .ref o_counts, .int i_greatest, .ref o_length, .ref o_symbolOf, .ref o_draft, .ref o_knot, .ref o_inSum, .int i_knots, .ref o_halved, .ref o_made, .int i_bitsMade, .ref o_weight, .int i_weights, .int i_order, .ref a_points, .ref a_cutOff, .ref a_had, .ref o_placeOf, .int i_bit, .int i_bitEnd])), (a_points, .inl (cI, 12, .inl v_points)), (a_cutOff, .inl (cI, 12, .inl v_cutOff)), (a_had, .inl (cZ, 12, .inl v_had))] t.heap ∧ va_K D classes [(cI, .int), (cL, .long), (cZ, .boolean)] t ∧ va_D (va_A [(a_this, .inr (1, [.ref o_in, .int i_inLong, .int i_goesOn, .ref o_out, .int i_outLong, .ref o_counts, .int i_greatest, .ref o_length, .ref o_symbolOf, .ref o_draft, .ref o_knot, .ref o_inSum, .int i_knots, .ref o_halved, .ref o_made, .int i_bitsMade, .ref o_weight, .int i_weights, .int i_order, .ref a_points, .ref a_cutOff, .ref a_had, .ref o_placeOf, .int i_bit, .int i_bitEnd])), (a_points, .inl (cI, 12, .inl v_points)), (a_cutOff, .inl (cI, 12, .inl v_cutOff)), (a_had, .inl (cZ, 12, .inl v_had))] sz) [(a_this, .inr (1, [.ref o_in, .int i_inLong, .int i_goesOn, .ref o_out, .int i_outLong, .ref o_counts, .int i_greatest, .ref o_length, .ref o_symbolOf, .ref o_draft, .ref o_knot, .ref o_inSum, .int i_knots, .ref o_halved, .ref o_made, .int i_bitsMade, .ref o_weight, .int i_weights, .int i_order, .ref a_points, .ref a_cutOff, .ref a_had, .ref o_placeOf, .int i_bit, .int i_bitEnd])), (a_points, .inl (cI, 12, .inl v_points)), (a_cutOff, .inl (cI, 12, .inl v_cutOff)), (a_had, .inl (cZ, 12, .inl v_had))]) (va_A [(a_this, .inr (1, [.ref o_in, .int i_inLong, .int i_goesOn, .ref o_out, .int i_outLong, .ref o_counts, .int i_greatest, .ref o_length, .ref o_symbolOf, .ref o_draft, .ref o_knot, .ref o_inSum, .int i_knots, .ref o_halved, .ref o_made, .int i_bitsMade, .ref o_weight, .int i_weights, .int i_order, .ref a_points, .ref a_cutOff, .ref a_had, .ref o_placeOf, .int i_bit, .int i_bitEnd])), (a_points, .inl (cI, 12, .inl v_points)), (a_cutOff, .inl (cI, 12, .inl v_cutOff)), (a_had, .inl (cZ, 12, .inl v_had))] sz)) 0 0 (va_A [(a_this, .inr (1, [.ref o_in, .int i_inLong, .int i_goesOn, .ref o_out, .int i_outLong, .ref o_counts, .int i_greatest, .ref o_length, .ref o_symbolOf, .ref o_draft, .ref o_knot, .ref o_inSum, .int i_knots, .ref o_halved, .ref o_made, .int i_bitsMade, .ref o_weight, .int i_weights, .int i_order, .ref a_points, .ref a_cutOff, .ref a_had, .ref o_placeOf, .int i_bit, .int i_bitEnd])), (a_points, .inl (cI, 12, .inl v_points)), (a_cutOff, .inl (cI, 12, .inl v_cutOff)), (a_had, .inl (cZ, 12, .inl v_had))] sz) := by
  refine Met.ofW (cc := b_MM_nextToGet) (maxL := 3) (ret := (some .int)) (by decide) rfl ?_
  intro p e s m args below meth c s₁ B hml hv
  obtain ⟨rfl, hsz, hP, hK, hD0⟩ := hv
  have hx := B.exec
  have hb := B.bytes
  have hr := B.returns
  have hts0 := atoms_spec (ws := ws_MM_nextToGet) B.pre
  have hts := gd_tl hts0
  clear hts0
  have hown : s.vm.findClass "PrefixMillModel" = some m.cls := findClass_of_methodNamed B.named
  have hlocks := B.notSynchronized
  subst hsz
  have hD := hD0.self (sz := s.heap.size)
  generalize hAe : va_A [(a_this, .inr (1, [.ref o_in, .int i_inLong, .int i_goesOn, .ref o_out, .int i_outLong, .ref o_counts, .int i_greatest, .ref o_length, .ref o_symbolOf, .ref o_draft, .ref o_knot, .ref o_inSum, .int i_knots, .ref o_halved, .ref o_made, .int i_bitsMade, .ref o_weight, .int i_weights, .int i_order, .ref a_points, .ref a_cutOff, .ref a_had, .ref o_placeOf, .int i_bit, .int i_bitEnd])), (a_points, .inl (cI, 12, .inl v_points)), (a_cutOff, .inl (cI, 12, .inl v_cutOff)), (a_had, .inl (cZ, 12, .inl v_had))] s.heap.size = A at hD ⊢
  have hA : ∀ q : Nat, s.heap.size ≤ q → A q := fun q h => by rw [← hAe]; exact Or.inr h
  have hS : va_S A s.heap s.heap [] := va_S.rf
  have hP : va_P D classes [(a_this, .inr (1, [.ref o_in, .int i_inLong, .int i_goesOn, .ref o_out, .int i_outLong, .ref o_counts, .int i_greatest, .ref o_length, .ref o_symbolOf, .ref o_draft, .ref o_knot, .ref o_inSum, .int i_knots, .ref o_halved, .ref o_made, .int i_bitsMade, .ref o_weight, .int i_weights, .int i_order, .ref a_points, .ref a_cutOff, .ref a_had, .ref o_placeOf, .int i_bit, .int i_bitEnd])), (a_points, .inl (cI, 12, .inl v_points)), (a_cutOff, .inl (cI, 12, .inl v_cutOff)), (a_had, .inl (cZ, 12, .inl v_had))] s.heap := hP
  have hl := lv_entry ([.ref a_this]) (n := 3) (Nat.le_of_ble_eq_true rfl)
  rw [lg_entry_eq]
  generalize (lg_sl ([.ref a_this]) ++ List.replicate (3 - (lg_sl ([.ref a_this])).length) Slot.unset).toArray = ls at hl ⊢
  have hl : lv_has ls 3 [(0, .ref a_this)] := hl
  have C : Cx p s m ([.ref a_this] : List Value).toArray c b_MM_nextToGet 3 "PrefixMillModel" D [(cI, .int), (cL, .long), (cZ, .boolean)] A := ⟨hx, hb, hml, hown, hts, hK, hA⟩
  refine w_MM_nextToGet_b0 (res := (rv)) C ?_ () h s.heap [] ls hl hP hD hS
  intro pc9 H9 locs9 ls9 rv9 e9 d9 hP9 hD9 hS9
  cases e9
  exact W.iret (v := rv) hx hb hr (fun t ht hW => ⟨⟨rv, (), rfl, rfl, by rw [ht]; exact hP9, va_K.moved hW.alike hK, hD9⟩, hS9.F ht⟩) hS9.2.2 d9
abbrev b_MM_newRound : ByteArray := prog_12_method_35_code
def ws_MM_newRound : List Cond := .code ({ cls := "PrefixMillModel", name := "newRound", desc := "()V" } : Jvm.MethodName) b_MM_newRound 2 none :: tt
theorem d_MM_newRound_0 : decode b_MM_newRound 0 = .ok (.iconst 0, 1) := by decide +kernel
theorem d_MM_newRound_1 : decode b_MM_newRound 1 = .ok (.istore_n 1, 1) := by decide +kernel
theorem d_MM_newRound_2 : decode b_MM_newRound 2 = .ok (.iload_n 1, 1) := by decide +kernel
theorem d_MM_newRound_3 : decode b_MM_newRound 3 = .ok (.bipush 12, 2) := by decide +kernel
theorem d_MM_newRound_5 : decode b_MM_newRound 5 = .ok (.if_icmp .ge 16, 3) := by decide +kernel
theorem d_MM_newRound_8 : decode b_MM_newRound 8 = .ok (.aload_n 0, 1) := by decide +kernel
theorem d_MM_newRound_9 : decode b_MM_newRound 9 = .ok (.getfield 49, 3) := by decide +kernel
theorem d_MM_newRound_12 : decode b_MM_newRound 12 = .ok (.iload_n 1, 1) := by decide +kernel
theorem d_MM_newRound_13 : decode b_MM_newRound 13 = .ok (.iconst 0, 1) := by decide +kernel
theorem d_MM_newRound_14 : decode b_MM_newRound 14 = .ok (.bastore, 1) := by decide +kernel
theorem d_MM_newRound_15 : decode b_MM_newRound 15 = .ok (.iinc 1 1, 3) := by decide +kernel
theorem d_MM_newRound_18 : decode b_MM_newRound 18 = .ok (.goto (-16), 3) := by decide +kernel
theorem d_MM_newRound_21 : decode b_MM_newRound 21 = .ok (.return_, 1) := by decide +kernel
def f_MM_newRound_b2 (N : Nat)   : Nat → Int32 → (Nat → Int32) → Option ((Nat → Int32))
  | 0, _, _ => none
  | z + 1, l1, v_had =>
  if 12 ≤ l1 then
  some (v_had)
  else
  ck (inb l1 12) <|
  nm (upd v_had (Int32.toNatClampNeg l1) (vp_nar .boolean 0)) fun v_had_3 =>
  nm (l1 + 1) fun l1_4 =>
  f_MM_newRound_b2 N   z l1_4 v_had_3
def f_MM_newRound (N : Nat)   (v_had : Nat → Int32) : Option ((Nat → Int32)) :=
  f_MM_newRound_b2 N   N 0 v_had
abbrev R_MM_newRound : Room := ({ frames := 0, cells := 0, slots := 0, locals := 0 } : Room)
def E_MM_newRound (p : Program) (l : Launch) (e : Env) (s : State) (m : MethodId) (args : Array Value) (below : List Frame) (meth : Method) (c : Code) (Q : State → Prop) (A : Nat → Prop) (D : va_G) (cI cL cZ : ClassId) (a_this : Nat) (a_had : Nat) (o_in : Nat) (o_out : Nat) (o_counts : Nat) (o_length : Nat) (o_symbolOf : Nat) (o_draft : Nat) (o_knot : Nat) (o_inSum : Nat) (o_halved : Nat) (o_made : Nat) (o_weight : Nat) (o_points : Nat) (o_cutOff : Nat) (o_placeOf : Nat) (i_inLong : Int32) (i_goesOn : Int32) (i_outLong : Int32) (i_greatest : Int32) (i_knots : Int32) (i_bitsMade : Int32) (i_weights : Int32) (i_order : Int32) (i_bit : Int32) (i_bitEnd : Int32) (res : (Nat → Int32)) : Prop := ∀ (pc : Nat) (H : Heap) (locs : List Loc) (ls : Array Slot) (v_had : Nat → Int32), some (v_had) = some res → decode b_MM_newRound pc = .ok (.return_, 1) → va_P D classes [(a_this, .inr (1, [.ref o_in, .int i_inLong, .int i_goesOn, .ref o_out, .int i_outLong, .ref o_counts, .int i_greatest, .ref o_length, .ref o_symbolOf, .ref o_draft, .ref o_knot, .ref o_inSum, .int i_knots, .ref o_halved, .ref o_made, .int i_bitsMade, .ref o_weight, .int i_weights, .int i_order, .ref o_points, .ref o_cutOff, .ref a_had, .ref o_placeOf, .int i_bit, .int i_bitEnd])), (a_had, .inl (cZ, 12, .inl v_had))] H → va_D A [(a_this, .inr (1, [.ref o_in, .int i_inLong, .int i_goesOn, .ref o_out, .int i_outLong, .ref o_counts, .int i_greatest, .ref o_length, .ref o_symbolOf, .ref o_draft, .ref o_knot, .ref o_inSum, .int i_knots, .ref o_halved, .ref o_made, .int i_bitsMade, .ref o_weight, .int i_weights, .int i_order, .ref o_points, .ref o_cutOff, .ref a_had, .ref o_placeOf, .int i_bit, .int i_bitEnd])), (a_had, .inl (cZ, 12, .inl v_had))] → va_S A s.heap H locs → W p l e R_MM_newRound s m args below meth c H locs 0 0 Q (F0 m pc ls [])
def I_MM_newRound_b2 (p : Program) (l : Launch) (e : Env) (s : State) (m : MethodId) (args : Array Value) (below : List Frame) (meth : Method) (c : Code) (Q : State → Prop) (A : Nat → Prop) (D : va_G) (cI cL cZ : ClassId) (a_this : Nat) (a_had : Nat) (o_in : Nat) (o_out : Nat) (o_counts : Nat) (o_length : Nat) (o_symbolOf : Nat) (o_draft : Nat) (o_knot : Nat) (o_inSum : Nat) (o_halved : Nat) (o_made : Nat) (o_weight : Nat) (o_points : Nat) (o_cutOff : Nat) (o_placeOf : Nat) (i_inLong : Int32) (i_goesOn : Int32) (i_outLong : Int32) (i_greatest : Int32) (i_knots : Int32) (i_bitsMade : Int32) (i_weights : Int32) (i_order : Int32) (i_bit : Int32) (i_bitEnd : Int32) (res : (Nat → Int32)) (kf : Int32 → (Nat → Int32) → Option ((Nat → Int32))) : Prop := ∀ (l1 : Int32) (v_had : Nat → Int32), kf l1 v_had = some res → ∀ (H : Heap) (locs : List Loc) (ls : Array Slot), lv_has ls 2 [(0, .ref a_this), (1, .int l1)] → va_P D classes [(a_this, .inr (1, [.ref o_in, .int i_inLong, .int i_goesOn, .ref o_out, .int i_outLong, .ref o_counts, .int i_greatest, .ref o_length, .ref o_symbolOf, .ref o_draft, .ref o_knot, .ref o_inSum, .int i_knots, .ref o_halved, .ref o_made, .int i_bitsMade, .ref o_weight, .int i_weights, .int i_order, .ref o_points, .ref o_cutOff, .ref a_had, .ref o_placeOf, .int i_bit, .int i_bitEnd])), (a_had, .inl (cZ, 12, .inl v_had))] H → va_D A [(a_this, .inr (1, [.ref o_in, .int i_inLong, .int i_goesOn, .ref o_out, .int i_outLong, .ref o_counts, .int i_greatest, .ref o_length, .ref o_symbolOf, .ref o_draft, .ref o_knot, .ref o_inSum, .int i_knots, .ref o_halved, .ref o_made, .int i_bitsMade, .ref o_weight, .int i_weights, .int i_order, .ref o_points, .ref o_cutOff, .ref a_had, .ref o_placeOf, .int i_bit, .int i_bitEnd])), (a_had, .inl (cZ, 12, .inl v_had))] → va_S A s.heap H locs → W p l e R_MM_newRound s m args below meth c H locs 0 0 Q (F0 m 2 ls [])
def I_MM_newRound_b0 (p : Program) (l : Launch) (e : Env) (s : State) (m : MethodId) (args : Array Value) (below : List Frame) (meth : Method) (c : Code) (Q : State → Prop) (A : Nat → Prop) (D : va_G) (cI cL cZ : ClassId) (a_this : Nat) (a_had : Nat) (o_in : Nat) (o_out : Nat) (o_counts : Nat) (o_length : Nat) (o_symbolOf : Nat) (o_draft : Nat) (o_knot : Nat) (o_inSum : Nat) (o_halved : Nat) (o_made : Nat) (o_weight : Nat) (o_points : Nat) (o_cutOff : Nat) (o_placeOf : Nat) (i_inLong : Int32) (i_goesOn : Int32) (i_outLong : Int32) (i_greatest : Int32) (i_knots : Int32) (i_bitsMade : Int32) (i_weights : Int32) (i_order : Int32) (i_bit : Int32) (i_bitEnd : Int32) (res : (Nat → Int32)) (kf : (Nat → Int32) → Option ((Nat → Int32))) : Prop := ∀ (v_had : Nat → Int32), kf v_had = some res → ∀ (H : Heap) (locs : List Loc) (ls : Array Slot), lv_has ls 2 [(0, .ref a_this)] → va_P D classes [(a_this, .inr (1, [.ref o_in, .int i_inLong, .int i_goesOn, .ref o_out, .int i_outLong, .ref o_counts, .int i_greatest, .ref o_length, .ref o_symbolOf, .ref o_draft, .ref o_knot, .ref o_inSum, .int i_knots, .ref o_halved, .ref o_made, .int i_bitsMade, .ref o_weight, .int i_weights, .int i_order, .ref o_points, .ref o_cutOff, .ref a_had, .ref o_placeOf, .int i_bit, .int i_bitEnd])), (a_had, .inl (cZ, 12, .inl v_had))] H → va_D A [(a_this, .inr (1, [.ref o_in, .int i_inLong, .int i_goesOn, .ref o_out, .int i_outLong, .ref o_counts, .int i_greatest, .ref o_length, .ref o_symbolOf, .ref o_draft, .ref o_knot, .ref o_inSum, .int i_knots, .ref o_halved, .ref o_made, .int i_bitsMade, .ref o_weight, .int i_weights, .int i_order, .ref o_points, .ref o_cutOff, .ref a_had, .ref o_placeOf, .int i_bit, .int i_bitEnd])), (a_had, .inl (cZ, 12, .inl v_had))] → va_S A s.heap H locs → W p l e R_MM_newRound s m args below meth c H locs 0 0 Q (F0 m 0 ls [])
set_option maxHeartbeats 4000000 in
set_option maxRecDepth 100000 in
theorem w_MM_newRound_b2 {p : Program} {l : Launch} {e : Env} {s : State} {m : MethodId} {args : Array Value} {below : List Frame} {meth : Method} {c : Code} {Q : State → Prop} {A : Nat → Prop} {D : va_G} {cI cL cZ : ClassId} {a_this : Nat} {a_had : Nat} {o_in : Nat} {o_out : Nat} {o_counts : Nat} {o_length : Nat} {o_symbolOf : Nat} {o_draft : Nat} {o_knot : Nat} {o_inSum : Nat} {o_halved : Nat} {o_made : Nat} {o_weight : Nat} {o_points : Nat} {o_cutOff : Nat} {o_placeOf : Nat} {i_inLong : Int32} {i_goesOn : Int32} {i_outLong : Int32} {i_greatest : Int32} {i_knots : Int32} {i_bitsMade : Int32} {i_weights : Int32} {i_order : Int32} {i_bit : Int32} {i_bitEnd : Int32} {N : Nat} {res : (Nat → Int32)}  (C : Cx p s m args c b_MM_newRound 2 "PrefixMillModel" D [(cI, .int), (cL, .long), (cZ, .boolean)] A) (hret : E_MM_newRound p l e s m args below meth c Q A D cI cL cZ a_this a_had o_in o_out o_counts o_length o_symbolOf o_draft o_knot o_inSum o_halved o_made o_weight o_points o_cutOff o_placeOf i_inLong i_goesOn i_outLong i_greatest i_knots i_bitsMade i_weights i_order i_bit i_bitEnd res)  : ∀ z : Nat, I_MM_newRound_b2 p l e s m args below meth c Q A D cI cL cZ a_this a_had o_in o_out o_counts o_length o_symbolOf o_draft o_knot o_inSum o_halved o_made o_weight o_points o_cutOff o_placeOf i_inLong i_goesOn i_outLong i_greatest i_knots i_bitsMade i_weights i_order i_bit i_bitEnd res (f_MM_newRound_b2 N   z) := by
  obtain ⟨hx, hb, hml, hown, hts, hK, hA⟩ := C
  intro z
  induction z with
  | zero => intro l1 v_had h; cases h
  | succ z ih =>
    intro l1 v_had h H locs ls hl hP hD hS
    refine lv_iload_n hx hb d_MM_newRound_2 rfl (lv_at hl 1 rfl) ?_
    refine lv_bipush (v := 12) hx hb d_MM_newRound_3 (by decide) ?_
    refine lv_icmp_ge (tgt := 21) hx hb d_MM_newRound_5 (by decide) (fun c_1 => ?_) (fun c_1 => ?_)
    · replace h := if_t h c_1
      exact hret _ _ _ _ v_had h d_MM_newRound_21 hP hD hS
    · replace h := if_f h c_1
      refine lv_aload_n hx hb d_MM_newRound_8 rfl (lv_at hl 0 rfl) ?_
      refine va_get hx hb hts in_MM hown hK hP 0 rfl rfl 21 (by decide) (hts _ m_774) (fun _ h9 => h9) rfl d_MM_newRound_9 ?_
      refine lv_iload_n hx hb d_MM_newRound_12 rfl (lv_at hl 1 rfl) ?_
      refine lv_iconst (v := 0) hx hb d_MM_newRound_13 (by decide) ?_
      obtain ⟨g_2, h⟩ := ck_s h
      refine va_zast hx hb hK hP hD hS 1 2 rfl rfl (inb_s g_2) d_MM_newRound_14 (fun H locs hP hD hS => ?_)
      obtain ⟨v_had_3, ev_had_3⟩ : ∃ y, y = (upd v_had (Int32.toNatClampNeg l1) (vp_nar .boolean 0)) := ⟨_, rfl⟩
      replace h := nm_s h ev_had_3
      have hP : va_P D classes [(a_this, .inr (1, [.ref o_in, .int i_inLong, .int i_goesOn, .ref o_out, .int i_outLong, .ref o_counts, .int i_greatest, .ref o_length, .ref o_symbolOf, .ref o_draft, .ref o_knot, .ref o_inSum, .int i_knots, .ref o_halved, .ref o_made, .int i_bitsMade, .ref o_weight, .int i_weights, .int i_order, .ref o_points, .ref o_cutOff, .ref a_had, .ref o_placeOf, .int i_bit, .int i_bitEnd])), (a_had, .inl (cZ, 12, .inl v_had_3))] H := by rw [ev_had_3]; exact hP
      have hD : va_D A [(a_this, .inr (1, [.ref o_in, .int i_inLong, .int i_goesOn, .ref o_out, .int i_outLong, .ref o_counts, .int i_greatest, .ref o_length, .ref o_symbolOf, .ref o_draft, .ref o_knot, .ref o_inSum, .int i_knots, .ref o_halved, .ref o_made, .int i_bitsMade, .ref o_weight, .int i_weights, .int i_order, .ref o_points, .ref o_cutOff, .ref a_had, .ref o_placeOf, .int i_bit, .int i_bitEnd])), (a_had, .inl (cZ, 12, .inl v_had_3))] := by rw [ev_had_3]; exact hD
      obtain ⟨l1_4, el1_4⟩ : ∃ y : Int32, y = l1 + 1 := ⟨_, rfl⟩
      replace h := nm_s h el1_4
      refine lv_iinc (v := l1_4) (lv' := [(1, .int l1_4), (0, .ref a_this)]) hx hb d_MM_newRound_15 hl (k := 1) rfl (by rw [el1_4]; rfl) (by decide) rfl (fun ls hl => ?_)
      refine lv_goto (tgt := 2) hx hb d_MM_newRound_18 (by decide) ?_
      exact ih _ _ h H locs ls (lv_sub hl [1, 0] rfl) hP hD hS
set_option maxHeartbeats 4000000 in
set_option maxRecDepth 100000 in
theorem w_MM_newRound_b0 {p : Program} {l : Launch} {e : Env} {s : State} {m : MethodId} {args : Array Value} {below : List Frame} {meth : Method} {c : Code} {Q : State → Prop} {A : Nat → Prop} {D : va_G} {cI cL cZ : ClassId} {a_this : Nat} {a_had : Nat} {o_in : Nat} {o_out : Nat} {o_counts : Nat} {o_length : Nat} {o_symbolOf : Nat} {o_draft : Nat} {o_knot : Nat} {o_inSum : Nat} {o_halved : Nat} {o_made : Nat} {o_weight : Nat} {o_points : Nat} {o_cutOff : Nat} {o_placeOf : Nat} {i_inLong : Int32} {i_goesOn : Int32} {i_outLong : Int32} {i_greatest : Int32} {i_knots : Int32} {i_bitsMade : Int32} {i_weights : Int32} {i_order : Int32} {i_bit : Int32} {i_bitEnd : Int32} {N : Nat} {res : (Nat → Int32)}  (C : Cx p s m args c b_MM_newRound 2 "PrefixMillModel" D [(cI, .int), (cL, .long), (cZ, .boolean)] A) (hret : E_MM_newRound p l e s m args below meth c Q A D cI cL cZ a_this a_had o_in o_out o_counts o_length o_symbolOf o_draft o_knot o_inSum o_halved o_made o_weight o_points o_cutOff o_placeOf i_inLong i_goesOn i_outLong i_greatest i_knots i_bitsMade i_weights i_order i_bit i_bitEnd res)  : I_MM_newRound_b0 p l e s m args below meth c Q A D cI cL cZ a_this a_had o_in o_out o_counts o_length o_symbolOf o_draft o_knot o_inSum o_halved o_made o_weight o_points o_cutOff o_placeOf i_inLong i_goesOn i_outLong i_greatest i_knots i_bitsMade i_weights i_order i_bit i_bitEnd res (f_MM_newRound N  ) := by
  obtain ⟨hx, hb, hml, hown, hts, hK, hA⟩ := C
  intro v_had h H locs ls hl hP hD hS
  unfold f_MM_newRound at h
  refine lv_iconst (v := 0) hx hb d_MM_newRound_0 (by decide) ?_
  refine lv_istore_n (lv' := [(1, .int 0), (0, .ref a_this)]) hx hb d_MM_newRound_1 rfl hl (by decide) rfl (fun ls hl => ?_)
  exact w_MM_newRound_b2 ⟨hx, hb, hml, hown, hts, hK, hA⟩ hret  N _ _ h H locs ls (lv_sub hl [1, 0] rfl) hP hD hS
set_option maxHeartbeats 4000000 in
set_option maxRecDepth 100000 in
theorem c_MM_newRound (l : Launch) (D : va_G) (cI cL cZ : ClassId) (sz N : Nat) (a_this : Nat) (a_had : Nat) (o_in : Nat) (o_out : Nat) (o_counts : Nat) (o_length : Nat) (o_symbolOf : Nat) (o_draft : Nat) (o_knot : Nat) (o_inSum : Nat) (o_halved : Nat) (o_made : Nat) (o_weight : Nat) (o_points : Nat) (o_cutOff : Nat) (o_placeOf : Nat) (i_inLong : Int32) (i_goesOn : Int32) (i_outLong : Int32) (i_greatest : Int32) (i_knots : Int32) (i_bitsMade : Int32) (i_weights : Int32) (i_order : Int32) (i_bit : Int32) (i_bitEnd : Int32) (v_had : Nat → Int32) (v_had' : Nat → Int32) (h : f_MM_newRound N  v_had = some (v_had')) : Met l ({ cls := "PrefixMillModel", name := "newRound", desc := "()V" } : Jvm.MethodName) ws_MM_newRound R_MM_newRound (va_Pc [.ref a_this] (fun U => U.heap.size = sz ∧ va_P D classes [(a_this, .inr (1, [.ref o_in, .int i_inLong, .int i_goesOn, .ref o_out, .int i_outLong, .ref o_counts, .int i_greatest, .ref o_length, .ref o_symbolOf, .ref o_draft, .ref o_knot, .ref o_inSum, .int i_knots, .ref o_halved, .ref o_made, .int i_bitsMade, .ref o_weight, .int i_weights, .int i_order, .ref o_points, .ref o_cutOff, .ref a_had, .ref o_placeOf, .int i_bit, .int i_bitEnd])), (a_had, .inl (cZ, 12, .inl v_had))] U.heap ∧ va_K D classes [(cI, .int), (cL, .long), (cZ, .boolean)] U ∧ va_D (fun _ => True) [(a_this, .inr (1, [.ref o_in, .int i_inLong, .int i_goesOn, .ref o_out, .int i_outLong, .ref o_counts, .int i_greatest, .ref o_length, .ref o_symbolOf, .ref o_draft, .ref o_knot, .ref o_inSum, .int i_knots, .ref o_halved, .ref o_made, .int i_bitsMade, .ref o_weight, .int i_weights, .int i_order, .ref o_points, .ref o_cutOff, .ref a_had, .ref o_placeOf, .int i_bit, .int i_bitEnd])), (a_had, .inl (cZ, 12, .inl v_had))])) (va_Qv (fun _ : Unit => True) (fun _ t => va_P D classes [(a_this, .inr (1, [.ref o_in, .int i_inLong, .int i_goesOn, .ref o_out, .int i_outLong, .ref o_counts, .int i_greatest, .ref o_length, .ref o_symbolOf, .ref o_draft, .ref o_knot, .ref o_inSum, .int i_knots, .ref o_halved, .ref o_made, .int i_bitsMade, .ref o_weight, .int i_weights, .int i_order, .ref o_points, .ref o_cutOff, .ref a_had, .ref o_placeOf, .int i_bit, .int i_bitEnd])), (a_had, .inl (cZ, 12, .inl v_had'))] t.heap ∧ va_K D classes [(cI, .int), (cL, .long), (cZ, .boolean)] t ∧ va_D (va_A [(a_this, .inr (1, [.ref o_in, .int i_inLong, .int i_goesOn, .ref o_out, .int i_outLong, .ref o_counts, .int i_greatest, .ref o_length, .ref o_symbolOf, .ref o_draft, .ref o_knot, .ref o_inSum, .int i_knots, .ref o_halved, .ref o_made, .int i_bitsMade, .ref o_weight, .int i_weights, .int i_order, .ref o_points, .ref o_cutOff, .ref a_had, .ref o_placeOf, .int i_bit, .int i_bitEnd])), (a_had, .inl (cZ, 12, .inl v_had))] sz) [(a_this, .inr (1, [.ref o_in, .int i_inLong, .int i_goesOn, .ref o_out, .int i_outLong, .ref o_counts, .int i_greatest, .ref o_length, .ref o_symbolOf, .ref o_draft, .ref o_knot, .ref o_inSum, .int i_knots, .ref o_halved, .ref o_made, .int i_bitsMade, .ref o_weight, .int i_weights, .int i_order, .ref o_points, .ref o_cutOff, .ref a_had, .ref o_placeOf, .int i_bit, .int i_bitEnd])), (a_had, .inl (cZ, 12, .inl v_had'))]) (va_A [(a_this, .inr (1, [.ref o_in, .int i_inLong, .int i_goesOn, .ref o_out, .int i_outLong, .ref o_counts, .int i_greatest, .ref o_length, .ref o_symbolOf, .ref o_draft, .ref o_knot, .ref o_inSum, .int i_knots, .ref o_halved, .ref o_made, .int i_bitsMade, .ref o_weight, .int i_weights, .int i_order, .ref o_points, .ref o_cutOff, .ref a_had, .ref o_placeOf, .int i_bit, .int i_bitEnd])), (a_had, .inl (cZ, 12, .inl v_had))] sz)) 0 0 (va_A [(a_this, .inr (1, [.ref o_in, .int i_inLong, .int i_goesOn, .ref o_out, .int i_outLong, .ref o_counts, .int i_greatest, .ref o_length, .ref o_symbolOf, .ref o_draft, .ref o_knot, .ref o_inSum, .int i_knots, .ref o_halved, .ref o_made, .int i_bitsMade, .ref o_weight, .int i_weights, .int i_order, .ref o_points, .ref o_cutOff, .ref a_had, .ref o_placeOf, .int i_bit, .int i_bitEnd])), (a_had, .inl (cZ, 12, .inl v_had))] sz) := by
  refine Met.ofW (cc := b_MM_newRound) (maxL := 2) (ret := none) (by decide) rfl ?_
  intro p e s m args below meth c s₁ B hml hv
  obtain ⟨rfl, hsz, hP, hK, hD0⟩ := hv
  have hx := B.exec
  have hb := B.bytes
  have hr := B.returns
  have hts0 := atoms_spec (ws := ws_MM_newRound) B.pre
  have hts := gd_tl hts0
  clear hts0
  have hown : s.vm.findClass "PrefixMillModel" = some m.cls := findClass_of_methodNamed B.named
  have hlocks := B.notSynchronized
  subst hsz
  have hD := hD0.self (sz := s.heap.size)
  generalize hAe : va_A [(a_this, .inr (1, [.ref o_in, .int i_inLong, .int i_goesOn, .ref o_out, .int i_outLong, .ref o_counts, .int i_greatest, .ref o_length, .ref o_symbolOf, .ref o_draft, .ref o_knot, .ref o_inSum, .int i_knots, .ref o_halved, .ref o_made, .int i_bitsMade, .ref o_weight, .int i_weights, .int i_order, .ref o_points, .ref o_cutOff, .ref a_had, .ref o_placeOf, .int i_bit, .int i_bitEnd])), (a_had, .inl (cZ, 12, .inl v_had))] s.heap.size = A at hD ⊢
  have hA : ∀ q : Nat, s.heap.size ≤ q → A q := fun q h => by rw [← hAe]; exact Or.inr h
  have hS : va_S A s.heap s.heap [] := va_S.rf
  have hP : va_P D classes [(a_this, .inr (1, [.ref o_in, .int i_inLong, .int i_goesOn, .ref o_out, .int i_outLong, .ref o_counts, .int i_greatest, .ref o_length, .ref o_symbolOf, .ref o_draft, .ref o_knot, .ref o_inSum, .int i_knots, .ref o_halved, .ref o_made, .int i_bitsMade, .ref o_weight, .int i_weights, .int i_order, .ref o_points, .ref o_cutOff, .ref a_had, .ref o_placeOf, .int i_bit, .int i_bitEnd])), (a_had, .inl (cZ, 12, .inl v_had))] s.heap := hP
  have hl := lv_entry ([.ref a_this]) (n := 2) (Nat.le_of_ble_eq_true rfl)
  rw [lg_entry_eq]
  generalize (lg_sl ([.ref a_this]) ++ List.replicate (2 - (lg_sl ([.ref a_this])).length) Slot.unset).toArray = ls at hl ⊢
  have hl : lv_has ls 2 [(0, .ref a_this)] := hl
  have C : Cx p s m ([.ref a_this] : List Value).toArray c b_MM_newRound 2 "PrefixMillModel" D [(cI, .int), (cL, .long), (cZ, .boolean)] A := ⟨hx, hb, hml, hown, hts, hK, hA⟩
  refine w_MM_newRound_b0 (res := (v_had')) C ?_ _ h s.heap [] ls hl hP hD hS
  intro pc9 H9 locs9 ls9 v_had9 e9 d9 hP9 hD9 hS9
  cases e9
  exact W.vret hx hb hr (fun t ht hW => ⟨⟨(), rfl, trivial, by rw [ht]; exact hP9, va_K.moved hW.alike hK, hD9⟩, hS9.F ht⟩) hS9.2.2 d9
abbrev b_MM_givePlaces : ByteArray := prog_12_method_37_code
def ws_MM_givePlaces : List Cond := .code ({ cls := "PrefixMillModel", name := "givePlaces", desc := "()V" } : Jvm.MethodName) b_MM_givePlaces 7 none :: tt
theorem d_MM_givePlaces_0 : decode b_MM_givePlaces 0 = .ok (.iconst 1, 1) := by decide +kernel
theorem d_MM_givePlaces_1 : decode b_MM_givePlaces 1 = .ok (.aload_n 0, 1) := by decide +kernel
theorem d_MM_givePlaces_2 : decode b_MM_givePlaces 2 = .ok (.getfield 131, 3) := by decide +kernel
theorem d_MM_givePlaces_5 : decode b_MM_givePlaces 5 = .ok (.ishl, 1) := by decide +kernel
theorem d_MM_givePlaces_6 : decode b_MM_givePlaces 6 = .ok (.istore_n 1, 1) := by decide +kernel
theorem d_MM_givePlaces_7 : decode b_MM_givePlaces 7 = .ok (.iload_n 1, 1) := by decide +kernel
theorem d_MM_givePlaces_8 : decode b_MM_givePlaces 8 = .ok (.istore_n 2, 1) := by decide +kernel
theorem d_MM_givePlaces_9 : decode b_MM_givePlaces 9 = .ok (.iconst 0, 1) := by decide +kernel
theorem d_MM_givePlaces_10 : decode b_MM_givePlaces 10 = .ok (.istore_n 3, 1) := by decide +kernel
theorem d_MM_givePlaces_11 : decode b_MM_givePlaces 11 = .ok (.iload_n 3, 1) := by decide +kernel
theorem d_MM_givePlaces_12 : decode b_MM_givePlaces 12 = .ok (.bipush 12, 2) := by decide +kernel
theorem d_MM_givePlaces_14 : decode b_MM_givePlaces 14 = .ok (.if_icmp .ge 29, 3) := by decide +kernel
theorem d_MM_givePlaces_17 : decode b_MM_givePlaces 17 = .ok (.aload_n 0, 1) := by decide +kernel
theorem d_MM_givePlaces_18 : decode b_MM_givePlaces 18 = .ok (.getfield 43, 3) := by decide +kernel
theorem d_MM_givePlaces_21 : decode b_MM_givePlaces 21 = .ok (.iload_n 3, 1) := by decide +kernel
theorem d_MM_givePlaces_22 : decode b_MM_givePlaces 22 = .ok (.iaload, 1) := by decide +kernel
theorem d_MM_givePlaces_23 : decode b_MM_givePlaces 23 = .ok (.iconst (-1), 1) := by decide +kernel
theorem d_MM_givePlaces_24 : decode b_MM_givePlaces 24 = .ok (.if_icmp .ne 13, 3) := by decide +kernel
theorem d_MM_givePlaces_27 : decode b_MM_givePlaces 27 = .ok (.iinc 2 (-1), 3) := by decide +kernel
theorem d_MM_givePlaces_30 : decode b_MM_givePlaces 30 = .ok (.aload_n 0, 1) := by decide +kernel
theorem d_MM_givePlaces_31 : decode b_MM_givePlaces 31 = .ok (.getfield 53, 3) := by decide +kernel
theorem d_MM_givePlaces_34 : decode b_MM_givePlaces 34 = .ok (.iload_n 2, 1) := by decide +kernel
theorem d_MM_givePlaces_35 : decode b_MM_givePlaces 35 = .ok (.iload_n 3, 1) := by decide +kernel
theorem d_MM_givePlaces_36 : decode b_MM_givePlaces 36 = .ok (.iastore, 1) := by decide +kernel
theorem d_MM_givePlaces_37 : decode b_MM_givePlaces 37 = .ok (.iinc 3 1, 3) := by decide +kernel
theorem d_MM_givePlaces_40 : decode b_MM_givePlaces 40 = .ok (.goto (-29), 3) := by decide +kernel
theorem d_MM_givePlaces_43 : decode b_MM_givePlaces 43 = .ok (.iconst 0, 1) := by decide +kernel
theorem d_MM_givePlaces_44 : decode b_MM_givePlaces 44 = .ok (.istore_n 3, 1) := by decide +kernel
theorem d_MM_givePlaces_45 : decode b_MM_givePlaces 45 = .ok (.iconst 0, 1) := by decide +kernel
theorem d_MM_givePlaces_46 : decode b_MM_givePlaces 46 = .ok (.istore 4, 2) := by decide +kernel
theorem d_MM_givePlaces_48 : decode b_MM_givePlaces 48 = .ok (.iconst 0, 1) := by decide +kernel
theorem d_MM_givePlaces_49 : decode b_MM_givePlaces 49 = .ok (.istore 5, 2) := by decide +kernel
theorem d_MM_givePlaces_51 : decode b_MM_givePlaces 51 = .ok (.iload 5, 2) := by decide +kernel
theorem d_MM_givePlaces_53 : decode b_MM_givePlaces 53 = .ok (.iload_n 1, 1) := by decide +kernel
theorem d_MM_givePlaces_54 : decode b_MM_givePlaces 54 = .ok (.if_icmp .ge 68, 3) := by decide +kernel
theorem d_MM_givePlaces_57 : decode b_MM_givePlaces 57 = .ok (.iload 5, 2) := by decide +kernel
theorem d_MM_givePlaces_59 : decode b_MM_givePlaces 59 = .ok (.iload_n 1, 1) := by decide +kernel
theorem d_MM_givePlaces_60 : decode b_MM_givePlaces 60 = .ok (.iconst 1, 1) := by decide +kernel
theorem d_MM_givePlaces_61 : decode b_MM_givePlaces 61 = .ok (.ishr, 1) := by decide +kernel
theorem d_MM_givePlaces_62 : decode b_MM_givePlaces 62 = .ok (.iload_n 1, 1) := by decide +kernel
theorem d_MM_givePlaces_63 : decode b_MM_givePlaces 63 = .ok (.iconst 3, 1) := by decide +kernel
theorem d_MM_givePlaces_64 : decode b_MM_givePlaces 64 = .ok (.ishr, 1) := by decide +kernel
theorem d_MM_givePlaces_65 : decode b_MM_givePlaces 65 = .ok (.iadd, 1) := by decide +kernel
theorem d_MM_givePlaces_66 : decode b_MM_givePlaces 66 = .ok (.iconst 3, 1) := by decide +kernel
theorem d_MM_givePlaces_67 : decode b_MM_givePlaces 67 = .ok (.iadd, 1) := by decide +kernel
theorem d_MM_givePlaces_68 : decode b_MM_givePlaces 68 = .ok (.imul, 1) := by decide +kernel
theorem d_MM_givePlaces_69 : decode b_MM_givePlaces 69 = .ok (.iload_n 1, 1) := by decide +kernel
theorem d_MM_givePlaces_70 : decode b_MM_givePlaces 70 = .ok (.irem, 1) := by decide +kernel
theorem d_MM_givePlaces_71 : decode b_MM_givePlaces 71 = .ok (.istore 6, 2) := by decide +kernel
theorem d_MM_givePlaces_73 : decode b_MM_givePlaces 73 = .ok (.iload 6, 2) := by decide +kernel
theorem d_MM_givePlaces_75 : decode b_MM_givePlaces 75 = .ok (.iload_n 2, 1) := by decide +kernel
theorem d_MM_givePlaces_76 : decode b_MM_givePlaces 76 = .ok (.if_icmp .ge 40, 3) := by decide +kernel
theorem d_MM_givePlaces_79 : decode b_MM_givePlaces 79 = .ok (.iload_n 3, 1) := by decide +kernel
theorem d_MM_givePlaces_80 : decode b_MM_givePlaces 80 = .ok (.bipush 11, 2) := by decide +kernel
theorem d_MM_givePlaces_82 : decode b_MM_givePlaces 82 = .ok (.if_icmp .ge 23, 3) := by decide +kernel
theorem d_MM_givePlaces_85 : decode b_MM_givePlaces 85 = .ok (.iload 4, 2) := by decide +kernel
theorem d_MM_givePlaces_87 : decode b_MM_givePlaces 87 = .ok (.aload_n 0, 1) := by decide +kernel
theorem d_MM_givePlaces_88 : decode b_MM_givePlaces 88 = .ok (.getfield 43, 3) := by decide +kernel
theorem d_MM_givePlaces_91 : decode b_MM_givePlaces 91 = .ok (.iload_n 3, 1) := by decide +kernel
theorem d_MM_givePlaces_92 : decode b_MM_givePlaces 92 = .ok (.iaload, 1) := by decide +kernel
theorem d_MM_givePlaces_93 : decode b_MM_givePlaces 93 = .ok (.if_icmp .lt 12, 3) := by decide +kernel
theorem d_MM_givePlaces_96 : decode b_MM_givePlaces 96 = .ok (.iinc 3 1, 3) := by decide +kernel
theorem d_MM_givePlaces_99 : decode b_MM_givePlaces 99 = .ok (.iconst 0, 1) := by decide +kernel
theorem d_MM_givePlaces_100 : decode b_MM_givePlaces 100 = .ok (.istore 4, 2) := by decide +kernel
theorem d_MM_givePlaces_102 : decode b_MM_givePlaces 102 = .ok (.goto (-23), 3) := by decide +kernel
theorem d_MM_givePlaces_105 : decode b_MM_givePlaces 105 = .ok (.aload_n 0, 1) := by decide +kernel
theorem d_MM_givePlaces_106 : decode b_MM_givePlaces 106 = .ok (.getfield 53, 3) := by decide +kernel
theorem d_MM_givePlaces_109 : decode b_MM_givePlaces 109 = .ok (.iload 6, 2) := by decide +kernel
theorem d_MM_givePlaces_111 : decode b_MM_givePlaces 111 = .ok (.iload_n 3, 1) := by decide +kernel
theorem d_MM_givePlaces_112 : decode b_MM_givePlaces 112 = .ok (.iastore, 1) := by decide +kernel
theorem d_MM_givePlaces_113 : decode b_MM_givePlaces 113 = .ok (.iinc 4 1, 3) := by decide +kernel
theorem d_MM_givePlaces_116 : decode b_MM_givePlaces 116 = .ok (.iinc 5 1, 3) := by decide +kernel
theorem d_MM_givePlaces_119 : decode b_MM_givePlaces 119 = .ok (.goto (-68), 3) := by decide +kernel
theorem d_MM_givePlaces_122 : decode b_MM_givePlaces 122 = .ok (.return_, 1) := by decide +kernel
def f_MM_givePlaces_b37 (N : Nat) (i_order : Int32) (v_points : Nat → Int32) (k11 : Int32 → Int32 → Int32 → (Nat → Int32) → Option ((Nat → Int32))) (l1 : Int32) (l2 : Int32) (l3 : Int32) (v_placeOf : Nat → Int32) : Option ((Nat → Int32)) :=
  nm (l3 + 1) fun l3_1 =>
  k11 l1 l2 l3_1 v_placeOf
def f_MM_givePlaces_b116 (N : Nat) (i_order : Int32) (v_points : Nat → Int32) (k51 : Int32 → Int32 → Int32 → Int32 → Int32 → (Nat → Int32) → Option ((Nat → Int32))) (l1 : Int32) (l2 : Int32) (l3 : Int32) (l4 : Int32) (l5 : Int32) (v_placeOf : Nat → Int32) : Option ((Nat → Int32)) :=
  nm (l5 + 1) fun l5_1 =>
  k51 l1 l2 l3 l4 l5_1 v_placeOf
def f_MM_givePlaces_b105 (N : Nat) (i_order : Int32) (v_points : Nat → Int32) (k51 : Int32 → Int32 → Int32 → Int32 → Int32 → (Nat → Int32) → Option ((Nat → Int32))) (l1 : Int32) (l2 : Int32) (l3 : Int32) (l4 : Int32) (l5 : Int32) (l6 : Int32) (v_placeOf : Nat → Int32) : Option ((Nat → Int32)) :=
  ck (inb l6 64) <|
  nm (upd v_placeOf (Int32.toNatClampNeg l6) l3) fun v_placeOf_2 =>
  nm (l4 + 1) fun l4_3 =>
  f_MM_givePlaces_b116 N i_order v_points k51 l1 l2 l3 l4_3 l5 v_placeOf_2
def f_MM_givePlaces_b79 (N : Nat) (i_order : Int32) (v_points : Nat → Int32) (k51 : Int32 → Int32 → Int32 → Int32 → Int32 → (Nat → Int32) → Option ((Nat → Int32))) : Nat → Int32 → Int32 → Int32 → Int32 → Int32 → Int32 → (Nat → Int32) → Option ((Nat → Int32))
  | 0, _, _, _, _, _, _, _ => none
  | z + 1, l1, l2, l3, l4, l5, l6, v_placeOf =>
  if 11 ≤ l3 then
  f_MM_givePlaces_b105 N i_order v_points k51 l1 l2 l3 l4 l5 l6 v_placeOf
  else
  ck (inb l3 12) <|
  if l4 < (v_points (Int32.toNatClampNeg l3)) then
  f_MM_givePlaces_b105 N i_order v_points k51 l1 l2 l3 l4 l5 l6 v_placeOf
  else
  nm (l3 + 1) fun l3_4 =>
  f_MM_givePlaces_b79 N i_order v_points k51 z l1 l2 l3_4 0 l5 l6 v_placeOf
def f_MM_givePlaces_b51 (N : Nat) (i_order : Int32) (v_points : Nat → Int32)  : Nat → Int32 → Int32 → Int32 → Int32 → Int32 → (Nat → Int32) → Option ((Nat → Int32))
  | 0, _, _, _, _, _, _ => none
  | z + 1, l1, l2, l3, l4, l5, v_placeOf =>
  if l1 ≤ l5 then
  some (v_placeOf)
  else
  ck (nz l1) <|
  nm ((l5 * (((l1 >>> ((1 : Int32) &&& 31)) + (l1 >>> ((3 : Int32) &&& 31))) + 3)) - (l5 * (((l1 >>> ((1 : Int32) &&& 31)) + (l1 >>> ((3 : Int32) &&& 31))) + 3)) / l1 * l1) fun l6_3 =>
  if l2 ≤ l6_3 then
  f_MM_givePlaces_b116 N i_order v_points (f_MM_givePlaces_b51 N i_order v_points  z) l1 l2 l3 l4 l5 v_placeOf
  else
  f_MM_givePlaces_b79 N i_order v_points (f_MM_givePlaces_b51 N i_order v_points  z) N l1 l2 l3 l4 l5 l6_3 v_placeOf
def f_MM_givePlaces_b43 (N : Nat) (i_order : Int32) (v_points : Nat → Int32)  (l1 : Int32) (l2 : Int32) (v_placeOf : Nat → Int32) : Option ((Nat → Int32)) :=
  f_MM_givePlaces_b51 N i_order v_points  N l1 l2 0 0 0 v_placeOf
def f_MM_givePlaces_b11 (N : Nat) (i_order : Int32) (v_points : Nat → Int32)  : Nat → Int32 → Int32 → Int32 → (Nat → Int32) → Option ((Nat → Int32))
  | 0, _, _, _, _ => none
  | z + 1, l1, l2, l3, v_placeOf =>
  if 12 ≤ l3 then
  f_MM_givePlaces_b43 N i_order v_points  l1 l2 v_placeOf
  else
  ck (inb l3 12) <|
  if (v_points (Int32.toNatClampNeg l3)) = (-1) then
  nm (l2 + (-1)) fun l2_4 =>
  ck (inb l2_4 64) <|
  nm (upd v_placeOf (Int32.toNatClampNeg l2_4) l3) fun v_placeOf_6 =>
  f_MM_givePlaces_b37 N i_order v_points (f_MM_givePlaces_b11 N i_order v_points  z) l1 l2_4 l3 v_placeOf_6
  else
  f_MM_givePlaces_b37 N i_order v_points (f_MM_givePlaces_b11 N i_order v_points  z) l1 l2 l3 v_placeOf
def f_MM_givePlaces (N : Nat) (i_order : Int32) (v_points : Nat → Int32)  (v_placeOf : Nat → Int32) : Option ((Nat → Int32)) :=
  nm (1 <<< (i_order &&& 31)) fun l1_1 =>
  f_MM_givePlaces_b11 N i_order v_points  N l1_1 l1_1 0 v_placeOf
abbrev R_MM_givePlaces : Room := ({ frames := 0, cells := 0, slots := 0, locals := 0 } : Room)
def E_MM_givePlaces (p : Program) (l : Launch) (e : Env) (s : State) (m : MethodId) (args : Array Value) (below : List Frame) (meth : Method) (c : Code) (Q : State → Prop) (A : Nat → Prop) (D : va_G) (cI cL cZ : ClassId) (a_this : Nat) (a_points : Nat) (a_placeOf : Nat) (o_in : Nat) (o_out : Nat) (o_counts : Nat) (o_length : Nat) (o_symbolOf : Nat) (o_draft : Nat) (o_knot : Nat) (o_inSum : Nat) (o_halved : Nat) (o_made : Nat) (o_weight : Nat) (o_cutOff : Nat) (o_had : Nat) (i_inLong : Int32) (i_goesOn : Int32) (i_outLong : Int32) (i_greatest : Int32) (i_knots : Int32) (i_bitsMade : Int32) (i_weights : Int32) (i_order : Int32) (i_bit : Int32) (i_bitEnd : Int32) (v_points : Nat → Int32) (res : (Nat → Int32)) : Prop := ∀ (pc : Nat) (H : Heap) (locs : List Loc) (ls : Array Slot) (v_placeOf : Nat → Int32), some (v_placeOf) = some res → decode b_MM_givePlaces pc = .ok (.return_, 1) → va_P D classes [(a_this, .inr (1, [.ref o_in, .int i_inLong, .int i_goesOn, .ref o_out, .int i_outLong, .ref o_counts, .int i_greatest, .ref o_length, .ref o_symbolOf, .ref o_draft, .ref o_knot, .ref o_inSum, .int i_knots, .ref o_halved, .ref o_made, .int i_bitsMade, .ref o_weight, .int i_weights, .int i_order, .ref a_points, .ref o_cutOff, .ref o_had, .ref a_placeOf, .int i_bit, .int i_bitEnd])), (a_points, .inl (cI, 12, .inl v_points)), (a_placeOf, .inl (cI, 64, .inl v_placeOf))] H → va_D A [(a_this, .inr (1, [.ref o_in, .int i_inLong, .int i_goesOn, .ref o_out, .int i_outLong, .ref o_counts, .int i_greatest, .ref o_length, .ref o_symbolOf, .ref o_draft, .ref o_knot, .ref o_inSum, .int i_knots, .ref o_halved, .ref o_made, .int i_bitsMade, .ref o_weight, .int i_weights, .int i_order, .ref a_points, .ref o_cutOff, .ref o_had, .ref a_placeOf, .int i_bit, .int i_bitEnd])), (a_points, .inl (cI, 12, .inl v_points)), (a_placeOf, .inl (cI, 64, .inl v_placeOf))] → va_S A s.heap H locs → W p l e R_MM_givePlaces s m args below meth c H locs 0 0 Q (F0 m pc ls [])
def I_MM_givePlaces_b37 (p : Program) (l : Launch) (e : Env) (s : State) (m : MethodId) (args : Array Value) (below : List Frame) (meth : Method) (c : Code) (Q : State → Prop) (A : Nat → Prop) (D : va_G) (cI cL cZ : ClassId) (a_this : Nat) (a_points : Nat) (a_placeOf : Nat) (o_in : Nat) (o_out : Nat) (o_counts : Nat) (o_length : Nat) (o_symbolOf : Nat) (o_draft : Nat) (o_knot : Nat) (o_inSum : Nat) (o_halved : Nat) (o_made : Nat) (o_weight : Nat) (o_cutOff : Nat) (o_had : Nat) (i_inLong : Int32) (i_goesOn : Int32) (i_outLong : Int32) (i_greatest : Int32) (i_knots : Int32) (i_bitsMade : Int32) (i_weights : Int32) (i_order : Int32) (i_bit : Int32) (i_bitEnd : Int32) (v_points : Nat → Int32) (res : (Nat → Int32)) (kf : Int32 → Int32 → Int32 → (Nat → Int32) → Option ((Nat → Int32))) : Prop := ∀ (l1 : Int32) (l2 : Int32) (l3 : Int32) (v_placeOf : Nat → Int32), kf l1 l2 l3 v_placeOf = some res → ∀ (H : Heap) (locs : List Loc) (ls : Array Slot), lv_has ls 7 [(0, .ref a_this), (1, .int l1), (2, .int l2), (3, .int l3)] → va_P D classes [(a_this, .inr (1, [.ref o_in, .int i_inLong, .int i_goesOn, .ref o_out, .int i_outLong, .ref o_counts, .int i_greatest, .ref o_length, .ref o_symbolOf, .ref o_draft, .ref o_knot, .ref o_inSum, .int i_knots, .ref o_halved, .ref o_made, .int i_bitsMade, .ref o_weight, .int i_weights, .int i_order, .ref a_points, .ref o_cutOff, .ref o_had, .ref a_placeOf, .int i_bit, .int i_bitEnd])), (a_points, .inl (cI, 12, .inl v_points)), (a_placeOf, .inl (cI, 64, .inl v_placeOf))] H → va_D A [(a_this, .inr (1, [.ref o_in, .int i_inLong, .int i_goesOn, .ref o_out, .int i_outLong, .ref o_counts, .int i_greatest, .ref o_length, .ref o_symbolOf, .ref o_draft, .ref o_knot, .ref o_inSum, .int i_knots, .ref o_halved, .ref o_made, .int i_bitsMade, .ref o_weight, .int i_weights, .int i_order, .ref a_points, .ref o_cutOff, .ref o_had, .ref a_placeOf, .int i_bit, .int i_bitEnd])), (a_points, .inl (cI, 12, .inl v_points)), (a_placeOf, .inl (cI, 64, .inl v_placeOf))] → va_S A s.heap H locs → W p l e R_MM_givePlaces s m args below meth c H locs 0 0 Q (F0 m 37 ls [])
def I_MM_givePlaces_b116 (p : Program) (l : Launch) (e : Env) (s : State) (m : MethodId) (args : Array Value) (below : List Frame) (meth : Method) (c : Code) (Q : State → Prop) (A : Nat → Prop) (D : va_G) (cI cL cZ : ClassId) (a_this : Nat) (a_points : Nat) (a_placeOf : Nat) (o_in : Nat) (o_out : Nat) (o_counts : Nat) (o_length : Nat) (o_symbolOf : Nat) (o_draft : Nat) (o_knot : Nat) (o_inSum : Nat) (o_halved : Nat) (o_made : Nat) (o_weight : Nat) (o_cutOff : Nat) (o_had : Nat) (i_inLong : Int32) (i_goesOn : Int32) (i_outLong : Int32) (i_greatest : Int32) (i_knots : Int32) (i_bitsMade : Int32) (i_weights : Int32) (i_order : Int32) (i_bit : Int32) (i_bitEnd : Int32) (v_points : Nat → Int32) (res : (Nat → Int32)) (kf : Int32 → Int32 → Int32 → Int32 → Int32 → (Nat → Int32) → Option ((Nat → Int32))) : Prop := ∀ (l1 : Int32) (l2 : Int32) (l3 : Int32) (l4 : Int32) (l5 : Int32) (v_placeOf : Nat → Int32), kf l1 l2 l3 l4 l5 v_placeOf = some res → ∀ (H : Heap) (locs : List Loc) (ls : Array Slot), lv_has ls 7 [(0, .ref a_this), (1, .int l1), (2, .int l2), (3, .int l3), (4, .int l4), (5, .int l5)] → va_P D classes [(a_this, .inr (1, [.ref o_in, .int i_inLong, .int i_goesOn, .ref o_out, .int i_outLong, .ref o_counts, .int i_greatest, .ref o_length, .ref o_symbolOf, .ref o_draft, .ref o_knot, .ref o_inSum, .int i_knots, .ref o_halved, .ref o_made, .int i_bitsMade, .ref o_weight, .int i_weights, .int i_order, .ref a_points, .ref o_cutOff, .ref o_had, .ref a_placeOf, .int i_bit, .int i_bitEnd])), (a_points, .inl (cI, 12, .inl v_points)), (a_placeOf, .inl (cI, 64, .inl v_placeOf))] H → va_D A [(a_this, .inr (1, [.ref o_in, .int i_inLong, .int i_goesOn, .ref o_out, .int i_outLong, .ref o_counts, .int i_greatest, .ref o_length, .ref o_symbolOf, .ref o_draft, .ref o_knot, .ref o_inSum, .int i_knots, .ref o_halved, .ref o_made, .int i_bitsMade, .ref o_weight, .int i_weights, .int i_order, .ref a_points, .ref o_cutOff, .ref o_had, .ref a_placeOf, .int i_bit, .int i_bitEnd])), (a_points, .inl (cI, 12, .inl v_points)), (a_placeOf, .inl (cI, 64, .inl v_placeOf))] → va_S A s.heap H locs → W p l e R_MM_givePlaces s m args below meth c H locs 0 0 Q (F0 m 116 ls [])
def I_MM_givePlaces_b105 (p : Program) (l : Launch) (e : Env) (s : State) (m : MethodId) (args : Array Value) (below : List Frame) (meth : Method) (c : Code) (Q : State → Prop) (A : Nat → Prop) (D : va_G) (cI cL cZ : ClassId) (a_this : Nat) (a_points : Nat) (a_placeOf : Nat) (o_in : Nat) (o_out : Nat) (o_counts : Nat) (o_length : Nat) (o_symbolOf : Nat) (o_draft : Nat) (o_knot : Nat) (o_inSum : Nat) (o_halved : Nat) (o_made : Nat) (o_weight : Nat) (o_cutOff : Nat) (o_had : Nat) (i_inLong : Int32) (i_goesOn : Int32) (i_outLong : Int32) (i_greatest : Int32) (i_knots : Int32) (i_bitsMade : Int32) (i_weights : Int32) (i_order : Int32) (i_bit : Int32) (i_bitEnd : Int32) (v_points : Nat → Int32) (res : (Nat → Int32)) (kf : Int32 → Int32 → Int32 → Int32 → Int32 → Int32 → (Nat → Int32) → Option ((Nat → Int32))) : Prop := ∀ (l1 : Int32) (l2 : Int32) (l3 : Int32) (l4 : Int32) (l5 : Int32) (l6 : Int32) (v_placeOf : Nat → Int32), kf l1 l2 l3 l4 l5 l6 v_placeOf = some res → ∀ (H : Heap) (locs : List Loc) (ls : Array Slot), lv_has ls 7 [(0, .ref a_this), (1, .int l1), (2, .int l2), (3, .int l3), (4, .int l4), (5, .int l5), (6, .int l6)] → va_P D classes [(a_this, .inr (1, [.ref o_in, .int i_inLong, .int i_goesOn, .ref o_out, .int i_outLong, .ref o_counts, .int i_greatest, .ref o_length, .ref o_symbolOf, .ref o_draft, .ref o_knot, .ref o_inSum, .int i_knots, .ref o_halved, .ref o_made, .int i_bitsMade, .ref o_weight, .int i_weights, .int i_order, .ref a_points, .ref o_cutOff, .ref o_had, .ref a_placeOf, .int i_bit, .int i_bitEnd])), (a_points, .inl (cI, 12, .inl v_points)), (a_placeOf, .inl (cI, 64, .inl v_placeOf))] H → va_D A [(a_this, .inr (1, [.ref o_in, .int i_inLong, .int i_goesOn, .ref o_out, .int i_outLong, .ref o_counts, .int i_greatest, .ref o_length, .ref o_symbolOf, .ref o_draft, .ref o_knot, .ref o_inSum, .int i_knots, .ref o_halved, .ref o_made, .int i_bitsMade, .ref o_weight, .int i_weights, .int i_order, .ref a_points, .ref o_cutOff, .ref o_had, .ref a_placeOf, .int i_bit, .int i_bitEnd])), (a_points, .inl (cI, 12, .inl v_points)), (a_placeOf, .inl (cI, 64, .inl v_placeOf))] → va_S A s.heap H locs → W p l e R_MM_givePlaces s m args below meth c H locs 0 0 Q (F0 m 105 ls [])
def I_MM_givePlaces_b79 (p : Program) (l : Launch) (e : Env) (s : State) (m : MethodId) (args : Array Value) (below : List Frame) (meth : Method) (c : Code) (Q : State → Prop) (A : Nat → Prop) (D : va_G) (cI cL cZ : ClassId) (a_this : Nat) (a_points : Nat) (a_placeOf : Nat) (o_in : Nat) (o_out : Nat) (o_counts : Nat) (o_length : Nat) (o_symbolOf : Nat) (o_draft : Nat) (o_knot : Nat) (o_inSum : Nat) (o_halved : Nat) (o_made : Nat) (o_weight : Nat) (o_cutOff : Nat) (o_had : Nat) (i_inLong : Int32) (i_goesOn : Int32) (i_outLong : Int32) (i_greatest : Int32) (i_knots : Int32) (i_bitsMade : Int32) (i_weights : Int32) (i_order : Int32) (i_bit : Int32) (i_bitEnd : Int32) (v_points : Nat → Int32) (res : (Nat → Int32)) (kf : Int32 → Int32 → Int32 → Int32 → Int32 → Int32 → (Nat → Int32) → Option ((Nat → Int32))) : Prop := ∀ (l1 : Int32) (l2 : Int32) (l3 : Int32) (l4 : Int32) (l5 : Int32) (l6 : Int32) (v_placeOf : Nat → Int32), kf l1 l2 l3 l4 l5 l6 v_placeOf = some res → ∀ (H : Heap) (locs : List Loc) (ls : Array Slot), lv_has ls 7 [(0, .ref a_this), (1, .int l1), (2, .int l2), (3, .int l3), (4, .int l4), (5, .int l5), (6, .int l6)] → va_P D classes [(a_this, .inr (1, [.ref o_in, .int i_inLong, .int i_goesOn, .ref o_out, .int i_outLong, .ref o_counts, .int i_greatest, .ref o_length, .ref o_symbolOf, .ref o_draft, .ref o_knot, .ref o_inSum, .int i_knots, .ref o_halved, .ref o_made, .int i_bitsMade, .ref o_weight, .int i_weights, .int i_order, .ref a_points, .ref o_cutOff, .ref o_had, .ref a_placeOf, .int i_bit, .int i_bitEnd])), (a_points, .inl (cI, 12, .inl v_points)), (a_placeOf, .inl (cI, 64, .inl v_placeOf))] H → va_D A [(a_this, .inr (1, [.ref o_in, .int i_inLong, .int i_goesOn, .ref o_out, .int i_outLong, .ref o_counts, .int i_greatest, .ref o_length, .ref o_symbolOf, .ref o_draft, .ref o_knot, .ref o_inSum, .int i_knots, .ref o_halved, .ref o_made, .int i_bitsMade, .ref o_weight, .int i_weights, .int i_order, .ref a_points, .ref o_cutOff, .ref o_had, .ref a_placeOf, .int i_bit, .int i_bitEnd])), (a_points, .inl (cI, 12, .inl v_points)), (a_placeOf, .inl (cI, 64, .inl v_placeOf))] → va_S A s.heap H locs → W p l e R_MM_givePlaces s m args below meth c H locs 0 0 Q (F0 m 79 ls [])
def I_MM_givePlaces_b51 (p : Program) (l : Launch) (e : Env) (s : State) (m : MethodId) (args : Array Value) (below : List Frame) (meth : Method) (c : Code) (Q : State → Prop) (A : Nat → Prop) (D : va_G) (cI cL cZ : ClassId) (a_this : Nat) (a_points : Nat) (a_placeOf : Nat) (o_in : Nat) (o_out : Nat) (o_counts : Nat) (o_length : Nat) (o_symbolOf : Nat) (o_draft : Nat) (o_knot : Nat) (o_inSum : Nat) (o_halved : Nat) (o_made : Nat) (o_weight : Nat) (o_cutOff : Nat) (o_had : Nat) (i_inLong : Int32) (i_goesOn : Int32) (i_outLong : Int32) (i_greatest : Int32) (i_knots : Int32) (i_bitsMade : Int32) (i_weights : Int32) (i_order : Int32) (i_bit : Int32) (i_bitEnd : Int32) (v_points : Nat → Int32) (res : (Nat → Int32)) (kf : Int32 → Int32 → Int32 → Int32 → Int32 → (Nat → Int32) → Option ((Nat → Int32))) : Prop := ∀ (l1 : Int32) (l2 : Int32) (l3 : Int32) (l4 : Int32) (l5 : Int32) (v_placeOf : Nat → Int32), kf l1 l2 l3 l4 l5 v_placeOf = some res → ∀ (H : Heap) (locs : List Loc) (ls : Array Slot), lv_has ls 7 [(0, .ref a_this), (1, .int l1), (2, .int l2), (3, .int l3), (4, .int l4), (5, .int l5)] → va_P D classes [(a_this, .inr (1, [.ref o_in, .int i_inLong, .int i_goesOn, .ref o_out, .int i_outLong, .ref o_counts, .int i_greatest, .ref o_length, .ref o_symbolOf, .ref o_draft, .ref o_knot, .ref o_inSum, .int i_knots, .ref o_halved, .ref o_made, .int i_bitsMade, .ref o_weight, .int i_weights, .int i_order, .ref a_points, .ref o_cutOff, .ref o_had, .ref a_placeOf, .int i_bit, .int i_bitEnd])), (a_points, .inl (cI, 12, .inl v_points)), (a_placeOf, .inl (cI, 64, .inl v_placeOf))] H → va_D A [(a_this, .inr (1, [.ref o_in, .int i_inLong, .int i_goesOn, .ref o_out, .int i_outLong, .ref o_counts, .int i_greatest, .ref o_length, .ref o_symbolOf, .ref o_draft, .ref o_knot, .ref o_inSum, .int i_knots, .ref o_halved, .ref o_made, .int i_bitsMade, .ref o_weight, .int i_weights, .int i_order, .ref a_points, .ref o_cutOff, .ref o_had, .ref a_placeOf, .int i_bit, .int i_bitEnd])), (a_points, .inl (cI, 12, .inl v_points)), (a_placeOf, .inl (cI, 64, .inl v_placeOf))] → va_S A s.heap H locs → W p l e R_MM_givePlaces s m args below meth c H locs 0 0 Q (F0 m 51 ls [])
def I_MM_givePlaces_b43 (p : Program) (l : Launch) (e : Env) (s : State) (m : MethodId) (args : Array Value) (below : List Frame) (meth : Method) (c : Code) (Q : State → Prop) (A : Nat → Prop) (D : va_G) (cI cL cZ : ClassId) (a_this : Nat) (a_points : Nat) (a_placeOf : Nat) (o_in : Nat) (o_out : Nat) (o_counts : Nat) (o_length : Nat) (o_symbolOf : Nat) (o_draft : Nat) (o_knot : Nat) (o_inSum : Nat) (o_halved : Nat) (o_made : Nat) (o_weight : Nat) (o_cutOff : Nat) (o_had : Nat) (i_inLong : Int32) (i_goesOn : Int32) (i_outLong : Int32) (i_greatest : Int32) (i_knots : Int32) (i_bitsMade : Int32) (i_weights : Int32) (i_order : Int32) (i_bit : Int32) (i_bitEnd : Int32) (v_points : Nat → Int32) (res : (Nat → Int32)) (kf : Int32 → Int32 → (Nat → Int32) → Option ((Nat → Int32))) : Prop := ∀ (l1 : Int32) (l2 : Int32) (v_placeOf : Nat → Int32), kf l1 l2 v_placeOf = some res → ∀ (H : Heap) (locs : List Loc) (ls : Array Slot), lv_has ls 7 [(0, .ref a_this), (1, .int l1), (2, .int l2)] → va_P D classes [(a_this, .inr (1, [.ref o_in, .int i_inLong, .int i_goesOn, .ref o_out, .int i_outLong, .ref o_counts, .int i_greatest, .ref o_length, .ref o_symbolOf, .ref o_draft, .ref o_knot, .ref o_inSum, .int i_knots, .ref o_halved, .ref o_made, .int i_bitsMade, .ref o_weight, .int i_weights, .int i_order, .ref a_points, .ref o_cutOff, .ref o_had, .ref a_placeOf, .int i_bit, .int i_bitEnd])), (a_points, .inl (cI, 12, .inl v_points)), (a_placeOf, .inl (cI, 64, .inl v_placeOf))] H → va_D A [(a_this, .inr (1, [.ref o_in, .int i_inLong, .int i_goesOn, .ref o_out, .int i_outLong, .ref o_counts, .int i_greatest, .ref o_length, .ref o_symbolOf, .ref o_draft, .ref o_knot, .ref o_inSum, .int i_knots, .ref o_halved, .ref o_made, .int i_bitsMade, .ref o_weight, .int i_weights, .int i_order, .ref a_points, .ref o_cutOff, .ref o_had, .ref a_placeOf, .int i_bit, .int i_bitEnd])), (a_points, .inl (cI, 12, .inl v_points)), (a_placeOf, .inl (cI, 64, .inl v_placeOf))] → va_S A s.heap H locs → W p l e R_MM_givePlaces s m args below meth c H locs 0 0 Q (F0 m 43 ls [])
def I_MM_givePlaces_b11 (p : Program) (l : Launch) (e : Env) (s : State) (m : MethodId) (args : Array Value) (below : List Frame) (meth : Method) (c : Code) (Q : State → Prop) (A : Nat → Prop) (D : va_G) (cI cL cZ : ClassId) (a_this : Nat) (a_points : Nat) (a_placeOf : Nat) (o_in : Nat) (o_out : Nat) (o_counts : Nat) (o_length : Nat) (o_symbolOf : Nat) (o_draft : Nat) (o_knot : Nat) (o_inSum : Nat) (o_halved : Nat) (o_made : Nat) (o_weight : Nat) (o_cutOff : Nat) (o_had : Nat) (i_inLong : Int32) (i_goesOn : Int32) (i_outLong : Int32) (i_greatest : Int32) (i_knots : Int32) (i_bitsMade : Int32) (i_weights : Int32) (i_order : Int32) (i_bit : Int32) (i_bitEnd : Int32) (v_points : Nat → Int32) (res : (Nat → Int32)) (kf : Int32 → Int32 → Int32 → (Nat → Int32) → Option ((Nat → Int32))) : Prop := ∀ (l1 : Int32) (l2 : Int32) (l3 : Int32) (v_placeOf : Nat → Int32), kf l1 l2 l3 v_placeOf = some res → ∀ (H : Heap) (locs : List Loc) (ls : Array Slot), lv_has ls 7 [(0, .ref a_this), (1, .int l1), (2, .int l2), (3, .int l3)] → va_P D classes [(a_this, .inr (1, [.ref o_in, .int i_inLong, .int i_goesOn, .ref o_out, .int i_outLong, .ref o_counts, .int i_greatest, .ref o_length, .ref o_symbolOf, .ref o_draft, .ref o_knot, .ref o_inSum, .int i_knots, .ref o_halved, .ref o_made, .int i_bitsMade, .ref o_weight, .int i_weights, .int i_order, .ref a_points, .ref o_cutOff, .ref o_had, .ref a_placeOf, .int i_bit, .int i_bitEnd])), (a_points, .inl (cI, 12, .inl v_points)), (a_placeOf, .inl (cI, 64, .inl v_placeOf))] H → va_D A [(a_this, .inr (1, [.ref o_in, .int i_inLong, .int i_goesOn, .ref o_out, .int i_outLong, .ref o_counts, .int i_greatest, .ref o_length, .ref o_symbolOf, .ref o_draft, .ref o_knot, .ref o_inSum, .int i_knots, .ref o_halved, .ref o_made, .int i_bitsMade, .ref o_weight, .int i_weights, .int i_order, .ref a_points, .ref o_cutOff, .ref o_had, .ref a_placeOf, .int i_bit, .int i_bitEnd])), (a_points, .inl (cI, 12, .inl v_points)), (a_placeOf, .inl (cI, 64, .inl v_placeOf))] → va_S A s.heap H locs → W p l e R_MM_givePlaces s m args below meth c H locs 0 0 Q (F0 m 11 ls [])
def I_MM_givePlaces_b0 (p : Program) (l : Launch) (e : Env) (s : State) (m : MethodId) (args : Array Value) (below : List Frame) (meth : Method) (c : Code) (Q : State → Prop) (A : Nat → Prop) (D : va_G) (cI cL cZ : ClassId) (a_this : Nat) (a_points : Nat) (a_placeOf : Nat) (o_in : Nat) (o_out : Nat) (o_counts : Nat) (o_length : Nat) (o_symbolOf : Nat) (o_draft : Nat) (o_knot : Nat) (o_inSum : Nat) (o_halved : Nat) (o_made : Nat) (o_weight : Nat) (o_cutOff : Nat) (o_had : Nat) (i_inLong : Int32) (i_goesOn : Int32) (i_outLong : Int32) (i_greatest : Int32) (i_knots : Int32) (i_bitsMade : Int32) (i_weights : Int32) (i_order : Int32) (i_bit : Int32) (i_bitEnd : Int32) (v_points : Nat → Int32) (res : (Nat → Int32)) (kf : (Nat → Int32) → Option ((Nat → Int32))) : Prop := ∀ (v_placeOf : Nat → Int32), kf v_placeOf = some res → ∀ (H : Heap) (locs : List Loc) (ls : Array Slot), lv_has ls 7 [(0, .ref a_this)] → va_P D classes [(a_this, .inr (1, [.ref o_in, .int i_inLong, .int i_goesOn, .ref o_out, .int i_outLong, .ref o_counts, .int i_greatest, .ref o_length, .ref o_symbolOf, .ref o_draft, .ref o_knot, .ref o_inSum, .int i_knots, .ref o_halved, .ref o_made, .int i_bitsMade, .ref o_weight, .int i_weights, .int i_order, .ref a_points, .ref o_cutOff, .ref o_had, .ref a_placeOf, .int i_bit, .int i_bitEnd])), (a_points, .inl (cI, 12, .inl v_points)), (a_placeOf, .inl (cI, 64, .inl v_placeOf))] H → va_D A [(a_this, .inr (1, [.ref o_in, .int i_inLong, .int i_goesOn, .ref o_out, .int i_outLong, .ref o_counts, .int i_greatest, .ref o_length, .ref o_symbolOf, .ref o_draft, .ref o_knot, .ref o_inSum, .int i_knots, .ref o_halved, .ref o_made, .int i_bitsMade, .ref o_weight, .int i_weights, .int i_order, .ref a_points, .ref o_cutOff, .ref o_had, .ref a_placeOf, .int i_bit, .int i_bitEnd])), (a_points, .inl (cI, 12, .inl v_points)), (a_placeOf, .inl (cI, 64, .inl v_placeOf))] → va_S A s.heap H locs → W p l e R_MM_givePlaces s m args below meth c H locs 0 0 Q (F0 m 0 ls [])
set_option maxHeartbeats 4000000 in
set_option maxRecDepth 100000 in
theorem w_MM_givePlaces_b37 {p : Program} {l : Launch} {e : Env} {s : State} {m : MethodId} {args : Array Value} {below : List Frame} {meth : Method} {c : Code} {Q : State → Prop} {A : Nat → Prop} {D : va_G} {cI cL cZ : ClassId} {a_this : Nat} {a_points : Nat} {a_placeOf : Nat} {o_in : Nat} {o_out : Nat} {o_counts : Nat} {o_length : Nat} {o_symbolOf : Nat} {o_draft : Nat} {o_knot : Nat} {o_inSum : Nat} {o_halved : Nat} {o_made : Nat} {o_weight : Nat} {o_cutOff : Nat} {o_had : Nat} {i_inLong : Int32} {i_goesOn : Int32} {i_outLong : Int32} {i_greatest : Int32} {i_knots : Int32} {i_bitsMade : Int32} {i_weights : Int32} {i_order : Int32} {i_bit : Int32} {i_bitEnd : Int32} {v_points : Nat → Int32} {N : Nat} {res : (Nat → Int32)} {k11 : Int32 → Int32 → Int32 → (Nat → Int32) → Option ((Nat → Int32))} (C : Cx p s m args c b_MM_givePlaces 7 "PrefixMillModel" D [(cI, .int), (cL, .long), (cZ, .boolean)] A) (hret : E_MM_givePlaces p l e s m args below meth c Q A D cI cL cZ a_this a_points a_placeOf o_in o_out o_counts o_length o_symbolOf o_draft o_knot o_inSum o_halved o_made o_weight o_cutOff o_had i_inLong i_goesOn i_outLong i_greatest i_knots i_bitsMade i_weights i_order i_bit i_bitEnd v_points res) (hk11 : I_MM_givePlaces_b11 p l e s m args below meth c Q A D cI cL cZ a_this a_points a_placeOf o_in o_out o_counts o_length o_symbolOf o_draft o_knot o_inSum o_halved o_made o_weight o_cutOff o_had i_inLong i_goesOn i_outLong i_greatest i_knots i_bitsMade i_weights i_order i_bit i_bitEnd v_points res k11) : I_MM_givePlaces_b37 p l e s m args below meth c Q A D cI cL cZ a_this a_points a_placeOf o_in o_out o_counts o_length o_symbolOf o_draft o_knot o_inSum o_halved o_made o_weight o_cutOff o_had i_inLong i_goesOn i_outLong i_greatest i_knots i_bitsMade i_weights i_order i_bit i_bitEnd v_points res (f_MM_givePlaces_b37 N i_order v_points k11) := by
  obtain ⟨hx, hb, hml, hown, hts, hK, hA⟩ := C
  intro l1 l2 l3 v_placeOf h H locs ls hl hP hD hS
  unfold f_MM_givePlaces_b37 at h
  obtain ⟨l3_1, el3_1⟩ : ∃ y : Int32, y = l3 + 1 := ⟨_, rfl⟩
  replace h := nm_s h el3_1
  refine lv_iinc (v := l3_1) (lv' := [(3, .int l3_1), (0, .ref a_this), (1, .int l1), (2, .int l2)]) hx hb d_MM_givePlaces_37 hl (k := 3) rfl (by rw [el3_1]; rfl) (by decide) rfl (fun ls hl => ?_)
  refine lv_goto (tgt := 11) hx hb d_MM_givePlaces_40 (by decide) ?_
  exact hk11 _ _ _ _ h H locs ls (lv_sub hl [1, 2, 3, 0] rfl) hP hD hS
set_option maxHeartbeats 4000000 in
set_option maxRecDepth 100000 in
theorem w_MM_givePlaces_b116 {p : Program} {l : Launch} {e : Env} {s : State} {m : MethodId} {args : Array Value} {below : List Frame} {meth : Method} {c : Code} {Q : State → Prop} {A : Nat → Prop} {D : va_G} {cI cL cZ : ClassId} {a_this : Nat} {a_points : Nat} {a_placeOf : Nat} {o_in : Nat} {o_out : Nat} {o_counts : Nat} {o_length : Nat} {o_symbolOf : Nat} {o_draft : Nat} {o_knot : Nat} {o_inSum : Nat} {o_halved : Nat} {o_made : Nat} {o_weight : Nat} {o_cutOff : Nat} {o_had : Nat} {i_inLong : Int32} {i_goesOn : Int32} {i_outLong : Int32} {i_greatest : Int32} {i_knots : Int32} {i_bitsMade : Int32} {i_weights : Int32} {i_order : Int32} {i_bit : Int32} {i_bitEnd : Int32} {v_points : Nat → Int32} {N : Nat} {res : (Nat → Int32)} {k51 : Int32 → Int32 → Int32 → Int32 → Int32 → (Nat → Int32) → Option ((Nat → Int32))} (C : Cx p s m args c b_MM_givePlaces 7 "PrefixMillModel" D [(cI, .int), (cL, .long), (cZ, .boolean)] A) (hret : E_MM_givePlaces p l e s m args below meth c Q A D cI cL cZ a_this a_points a_placeOf o_in o_out o_counts o_length o_symbolOf o_draft o_knot o_inSum o_halved o_made o_weight o_cutOff o_had i_inLong i_goesOn i_outLong i_greatest i_knots i_bitsMade i_weights i_order i_bit i_bitEnd v_points res) (hk51 : I_MM_givePlaces_b51 p l e s m args below meth c Q A D cI cL cZ a_this a_points a_placeOf o_in o_out o_counts o_length o_symbolOf o_draft o_knot o_inSum o_halved o_made o_weight o_cutOff o_had i_inLong i_goesOn i_outLong i_greatest i_knots i_bitsMade i_weights i_order i_bit i_bitEnd v_points res k51) : I_MM_givePlaces_b116 p l e s m args below meth c Q A D cI cL cZ a_this a_points a_placeOf o_in o_out o_counts o_length o_symbolOf o_draft o_knot o_inSum o_halved o_made o_weight o_cutOff o_had i_inLong i_goesOn i_outLong i_greatest i_knots i_bitsMade i_weights i_order i_bit i_bitEnd v_points res (f_MM_givePlaces_b116 N i_order v_points k51) := by
  obtain ⟨hx, hb, hml, hown, hts, hK, hA⟩ := C
  intro l1 l2 l3 l4 l5 v_placeOf h H locs ls hl hP hD hS
  unfold f_MM_givePlaces_b116 at h
  obtain ⟨l5_1, el5_1⟩ : ∃ y : Int32, y = l5 + 1 := ⟨_, rfl⟩
  replace h := nm_s h el5_1
  refine lv_iinc (v := l5_1) (lv' := [(5, .int l5_1), (0, .ref a_this), (1, .int l1), (2, .int l2), (3, .int l3), (4, .int l4)]) hx hb d_MM_givePlaces_116 hl (k := 5) rfl (by rw [el5_1]; rfl) (by decide) rfl (fun ls hl => ?_)
  refine lv_goto (tgt := 51) hx hb d_MM_givePlaces_119 (by decide) ?_
  exact hk51 _ _ _ _ _ _ h H locs ls (lv_sub hl [1, 2, 3, 4, 5, 0] rfl) hP hD hS
set_option maxHeartbeats 4000000 in
set_option maxRecDepth 100000 in
theorem w_MM_givePlaces_b105 {p : Program} {l : Launch} {e : Env} {s : State} {m : MethodId} {args : Array Value} {below : List Frame} {meth : Method} {c : Code} {Q : State → Prop} {A : Nat → Prop} {D : va_G} {cI cL cZ : ClassId} {a_this : Nat} {a_points : Nat} {a_placeOf : Nat} {o_in : Nat} {o_out : Nat} {o_counts : Nat} {o_length : Nat} {o_symbolOf : Nat} {o_draft : Nat} {o_knot : Nat} {o_inSum : Nat} {o_halved : Nat} {o_made : Nat} {o_weight : Nat} {o_cutOff : Nat} {o_had : Nat} {i_inLong : Int32} {i_goesOn : Int32} {i_outLong : Int32} {i_greatest : Int32} {i_knots : Int32} {i_bitsMade : Int32} {i_weights : Int32} {i_order : Int32} {i_bit : Int32} {i_bitEnd : Int32} {v_points : Nat → Int32} {N : Nat} {res : (Nat → Int32)} {k51 : Int32 → Int32 → Int32 → Int32 → Int32 → (Nat → Int32) → Option ((Nat → Int32))} (C : Cx p s m args c b_MM_givePlaces 7 "PrefixMillModel" D [(cI, .int), (cL, .long), (cZ, .boolean)] A) (hret : E_MM_givePlaces p l e s m args below meth c Q A D cI cL cZ a_this a_points a_placeOf o_in o_out o_counts o_length o_symbolOf o_draft o_knot o_inSum o_halved o_made o_weight o_cutOff o_had i_inLong i_goesOn i_outLong i_greatest i_knots i_bitsMade i_weights i_order i_bit i_bitEnd v_points res) (hk51 : I_MM_givePlaces_b51 p l e s m args below meth c Q A D cI cL cZ a_this a_points a_placeOf o_in o_out o_counts o_length o_symbolOf o_draft o_knot o_inSum o_halved o_made o_weight o_cutOff o_had i_inLong i_goesOn i_outLong i_greatest i_knots i_bitsMade i_weights i_order i_bit i_bitEnd v_points res k51) : I_MM_givePlaces_b105 p l e s m args below meth c Q A D cI cL cZ a_this a_points a_placeOf o_in o_out o_counts o_length o_symbolOf o_draft o_knot o_inSum o_halved o_made o_weight o_cutOff o_had i_inLong i_goesOn i_outLong i_greatest i_knots i_bitsMade i_weights i_order i_bit i_bitEnd v_points res (f_MM_givePlaces_b105 N i_order v_points k51) := by
  obtain ⟨hx, hb, hml, hown, hts, hK, hA⟩ := C
  intro l1 l2 l3 l4 l5 l6 v_placeOf h H locs ls hl hP hD hS
  unfold f_MM_givePlaces_b105 at h
  refine lv_aload_n hx hb d_MM_givePlaces_105 rfl (lv_at hl 0 rfl) ?_
  refine va_get hx hb hts in_MM hown hK hP 0 rfl rfl 22 (by decide) (hts _ m_775) (fun _ h9 => h9) rfl d_MM_givePlaces_106 ?_
  refine lv_iload hx hb d_MM_givePlaces_109 (lv_at hl 6 rfl) ?_
  refine lv_iload_n hx hb d_MM_givePlaces_111 rfl (lv_at hl 3 rfl) ?_
  obtain ⟨g_1, h⟩ := ck_s h
  refine va_iast hx hb hK hP hD hS 2 0 rfl rfl (inb_s g_1) d_MM_givePlaces_112 (fun H locs hP hD hS => ?_)
  obtain ⟨v_placeOf_2, ev_placeOf_2⟩ : ∃ y, y = (upd v_placeOf (Int32.toNatClampNeg l6) l3) := ⟨_, rfl⟩
  replace h := nm_s h ev_placeOf_2
  have hP : va_P D classes [(a_this, .inr (1, [.ref o_in, .int i_inLong, .int i_goesOn, .ref o_out, .int i_outLong, .ref o_counts, .int i_greatest, .ref o_length, .ref o_symbolOf, .ref o_draft, .ref o_knot, .ref o_inSum, .int i_knots, .ref o_halved, .ref o_made, .int i_bitsMade, .ref o_weight, .int i_weights, .int i_order, .ref a_points, .ref o_cutOff, .ref o_had, .ref a_placeOf, .int i_bit, .int i_bitEnd])), (a_points, .inl (cI, 12, .inl v_points)), (a_placeOf, .inl (cI, 64, .inl v_placeOf_2))] H := by rw [ev_placeOf_2]; exact hP
  have hD : va_D A [(a_this, .inr (1, [.ref o_in, .int i_inLong, .int i_goesOn, .ref o_out, .int i_outLong, .ref o_counts, .int i_greatest, .ref o_length, .ref o_symbolOf, .ref o_draft, .ref o_knot, .ref o_inSum, .int i_knots, .ref o_halved, .ref o_made, .int i_bitsMade, .ref o_weight, .int i_weights, .int i_order, .ref a_points, .ref o_cutOff, .ref o_had, .ref a_placeOf, .int i_bit, .int i_bitEnd])), (a_points, .inl (cI, 12, .inl v_points)), (a_placeOf, .inl (cI, 64, .inl v_placeOf_2))] := by rw [ev_placeOf_2]; exact hD
  obtain ⟨l4_3, el4_3⟩ : ∃ y : Int32, y = l4 + 1 := ⟨_, rfl⟩
  replace h := nm_s h el4_3
  refine lv_iinc (v := l4_3) (lv' := [(4, .int l4_3), (0, .ref a_this), (1, .int l1), (2, .int l2), (3, .int l3), (5, .int l5), (6, .int l6)]) hx hb d_MM_givePlaces_113 hl (k := 4) rfl (by rw [el4_3]; rfl) (by decide) rfl (fun ls hl => ?_)
  exact w_MM_givePlaces_b116 ⟨hx, hb, hml, hown, hts, hK, hA⟩ hret hk51 _ _ _ _ _ _ h H locs ls (lv_sub hl [1, 2, 3, 4, 0, 5] rfl) hP hD hS
set_option maxHeartbeats 4000000 in
set_option maxRecDepth 100000 in
theorem w_MM_givePlaces_b79 {p : Program} {l : Launch} {e : Env} {s : State} {m : MethodId} {args : Array Value} {below : List Frame} {meth : Method} {c : Code} {Q : State → Prop} {A : Nat → Prop} {D : va_G} {cI cL cZ : ClassId} {a_this : Nat} {a_points : Nat} {a_placeOf : Nat} {o_in : Nat} {o_out : Nat} {o_counts : Nat} {o_length : Nat} {o_symbolOf : Nat} {o_draft : Nat} {o_knot : Nat} {o_inSum : Nat} {o_halved : Nat} {o_made : Nat} {o_weight : Nat} {o_cutOff : Nat} {o_had : Nat} {i_inLong : Int32} {i_goesOn : Int32} {i_outLong : Int32} {i_greatest : Int32} {i_knots : Int32} {i_bitsMade : Int32} {i_weights : Int32} {i_order : Int32} {i_bit : Int32} {i_bitEnd : Int32} {v_points : Nat → Int32} {N : Nat} {res : (Nat → Int32)} {k51 : Int32 → Int32 → Int32 → Int32 → Int32 → (Nat → Int32) → Option ((Nat → Int32))} (C : Cx p s m args c b_MM_givePlaces 7 "PrefixMillModel" D [(cI, .int), (cL, .long), (cZ, .boolean)] A) (hret : E_MM_givePlaces p l e s m args below meth c Q A D cI cL cZ a_this a_points a_placeOf o_in o_out o_counts o_length o_symbolOf o_draft o_knot o_inSum o_halved o_made o_weight o_cutOff o_had i_inLong i_goesOn i_outLong i_greatest i_knots i_bitsMade i_weights i_order i_bit i_bitEnd v_points res) (hk51 : I_MM_givePlaces_b51 p l e s m args below meth c Q A D cI cL cZ a_this a_points a_placeOf o_in o_out o_counts o_length o_symbolOf o_draft o_knot o_inSum o_halved o_made o_weight o_cutOff o_had i_inLong i_goesOn i_outLong i_greatest i_knots i_bitsMade i_weights i_order i_bit i_bitEnd v_points res k51) : ∀ z : Nat, I_MM_givePlaces_b79 p l e s m args below meth c Q A D cI cL cZ a_this a_points a_placeOf o_in o_out o_counts o_length o_symbolOf o_draft o_knot o_inSum o_halved o_made o_weight o_cutOff o_had i_inLong i_goesOn i_outLong i_greatest i_knots i_bitsMade i_weights i_order i_bit i_bitEnd v_points res (f_MM_givePlaces_b79 N i_order v_points k51 z) := by
  obtain ⟨hx, hb, hml, hown, hts, hK, hA⟩ := C
  intro z
  induction z with
  | zero => intro l1 l2 l3 l4 l5 l6 v_placeOf h; cases h
  | succ z ih =>
    intro l1 l2 l3 l4 l5 l6 v_placeOf h H locs ls hl hP hD hS
    refine lv_iload_n hx hb d_MM_givePlaces_79 rfl (lv_at hl 3 rfl) ?_
    refine lv_bipush (v := 11) hx hb d_MM_givePlaces_80 (by decide) ?_
    refine lv_icmp_ge (tgt := 105) hx hb d_MM_givePlaces_82 (by decide) (fun c_1 => ?_) (fun c_1 => ?_)
    · replace h := if_t h c_1
      exact w_MM_givePlaces_b105 ⟨hx, hb, hml, hown, hts, hK, hA⟩ hret hk51 _ _ _ _ _ _ _ h H locs ls (lv_sub hl [0, 1, 2, 3, 4, 5, 6] rfl) hP hD hS
    · replace h := if_f h c_1
      refine lv_iload hx hb d_MM_givePlaces_85 (lv_at hl 4 rfl) ?_
      refine lv_aload_n hx hb d_MM_givePlaces_87 rfl (lv_at hl 0 rfl) ?_
      refine va_get hx hb hts in_MM hown hK hP 0 rfl rfl 19 (by decide) (hts _ m_772) (fun _ h9 => h9) rfl d_MM_givePlaces_88 ?_
      refine lv_iload_n hx hb d_MM_givePlaces_91 rfl (lv_at hl 3 rfl) ?_
      obtain ⟨g_2, h⟩ := ck_s h
      refine va_iald hx hb hK hP 1 0 rfl rfl (inb_s g_2) d_MM_givePlaces_92 ?_
      refine lv_icmp_lt (tgt := 105) hx hb d_MM_givePlaces_93 (by decide) (fun c_3 => ?_) (fun c_3 => ?_)
      · replace h := if_t h c_3
        exact w_MM_givePlaces_b105 ⟨hx, hb, hml, hown, hts, hK, hA⟩ hret hk51 _ _ _ _ _ _ _ h H locs ls (lv_sub hl [0, 1, 2, 3, 4, 5, 6] rfl) hP hD hS
      · replace h := if_f h c_3
        obtain ⟨l3_4, el3_4⟩ : ∃ y : Int32, y = l3 + 1 := ⟨_, rfl⟩
        replace h := nm_s h el3_4
        refine lv_iinc (v := l3_4) (lv' := [(3, .int l3_4), (0, .ref a_this), (1, .int l1), (2, .int l2), (4, .int l4), (5, .int l5), (6, .int l6)]) hx hb d_MM_givePlaces_96 hl (k := 3) rfl (by rw [el3_4]; rfl) (by decide) rfl (fun ls hl => ?_)
        refine lv_iconst (v := 0) hx hb d_MM_givePlaces_99 (by decide) ?_
        refine lv_istore (lv' := [(4, .int 0), (3, .int l3_4), (0, .ref a_this), (1, .int l1), (2, .int l2), (5, .int l5), (6, .int l6)]) hx hb d_MM_givePlaces_100 hl (by decide) rfl (fun ls hl => ?_)
        refine lv_goto (tgt := 79) hx hb d_MM_givePlaces_102 (by decide) ?_
        exact ih _ _ _ _ _ _ _ h H locs ls (lv_sub hl [2, 3, 4, 1, 0, 5, 6] rfl) hP hD hS
set_option maxHeartbeats 4000000 in
set_option maxRecDepth 100000 in
theorem w_MM_givePlaces_b51 {p : Program} {l : Launch} {e : Env} {s : State} {m : MethodId} {args : Array Value} {below : List Frame} {meth : Method} {c : Code} {Q : State → Prop} {A : Nat → Prop} {D : va_G} {cI cL cZ : ClassId} {a_this : Nat} {a_points : Nat} {a_placeOf : Nat} {o_in : Nat} {o_out : Nat} {o_counts : Nat} {o_length : Nat} {o_symbolOf : Nat} {o_draft : Nat} {o_knot : Nat} {o_inSum : Nat} {o_halved : Nat} {o_made : Nat} {o_weight : Nat} {o_cutOff : Nat} {o_had : Nat} {i_inLong : Int32} {i_goesOn : Int32} {i_outLong : Int32} {i_greatest : Int32} {i_knots : Int32} {i_bitsMade : Int32} {i_weights : Int32} {i_order : Int32} {i_bit : Int32} {i_bitEnd : Int32} {v_points : Nat → Int32} {N : Nat} {res : (Nat → Int32)}  (C : Cx p s m args c b_MM_givePlaces 7 "PrefixMillModel" D [(cI, .int), (cL, .long), (cZ, .boolean)] A) (hret : E_MM_givePlaces p l e s m args below meth c Q A D cI cL cZ a_this a_points a_placeOf o_in o_out o_counts o_length o_symbolOf o_draft o_knot o_inSum o_halved o_made o_weight o_cutOff o_had i_inLong i_goesOn i_outLong i_greatest i_knots i_bitsMade i_weights i_order i_bit i_bitEnd v_points res)  : ∀ z : Nat, I_MM_givePlaces_b51 p l e s m args below meth c Q A D cI cL cZ a_this a_points a_placeOf o_in o_out o_counts o_length o_symbolOf o_draft o_knot o_inSum o_halved o_made o_weight o_cutOff o_had i_inLong i_goesOn i_outLong i_greatest i_knots i_bitsMade i_weights i_order i_bit i_bitEnd v_points res (f_MM_givePlaces_b51 N i_order v_points  z) := by
  obtain ⟨hx, hb, hml, hown, hts, hK, hA⟩ := C
  intro z
  induction z with
  | zero => intro l1 l2 l3 l4 l5 v_placeOf h; cases h
  | succ z ih =>
    intro l1 l2 l3 l4 l5 v_placeOf h H locs ls hl hP hD hS
    refine lv_iload hx hb d_MM_givePlaces_51 (lv_at hl 5 rfl) ?_
    refine lv_iload_n hx hb d_MM_givePlaces_53 rfl (lv_at hl 1 rfl) ?_
    refine lv_icmp_ge (tgt := 122) hx hb d_MM_givePlaces_54 (by decide) (fun c_1 => ?_) (fun c_1 => ?_)
    · replace h := if_t h c_1
      exact hret _ _ _ _ v_placeOf h d_MM_givePlaces_122 hP hD hS
    · replace h := if_f h c_1
      refine lv_iload hx hb d_MM_givePlaces_57 (lv_at hl 5 rfl) ?_
      refine lv_iload_n hx hb d_MM_givePlaces_59 rfl (lv_at hl 1 rfl) ?_
      refine lv_iconst (v := 1) hx hb d_MM_givePlaces_60 (by decide) ?_
      refine lv_ishr hx hb d_MM_givePlaces_61 ?_
      refine lv_iload_n hx hb d_MM_givePlaces_62 rfl (lv_at hl 1 rfl) ?_
      refine lv_iconst (v := 3) hx hb d_MM_givePlaces_63 (by decide) ?_
      refine lv_ishr hx hb d_MM_givePlaces_64 ?_
      refine lv_iadd hx hb d_MM_givePlaces_65 ?_
      refine lv_iconst (v := 3) hx hb d_MM_givePlaces_66 (by decide) ?_
      refine lv_iadd hx hb d_MM_givePlaces_67 ?_
      refine lv_imul hx hb d_MM_givePlaces_68 ?_
      refine lv_iload_n hx hb d_MM_givePlaces_69 rfl (lv_at hl 1 rfl) ?_
      obtain ⟨g_2, h⟩ := ck_s h
      refine lv_irem hx hb d_MM_givePlaces_70 (nz_s g_2) ?_
      refine lv_topi (fun l6_3 el6_3 => ?_)
      replace h := nm_s h el6_3
      refine lv_istore (lv' := [(6, .int l6_3), (0, .ref a_this), (1, .int l1), (2, .int l2), (3, .int l3), (4, .int l4), (5, .int l5)]) hx hb d_MM_givePlaces_71 hl (by decide) rfl (fun ls hl => ?_)
      refine lv_iload hx hb d_MM_givePlaces_73 (lv_at hl 0 rfl) ?_
      refine lv_iload_n hx hb d_MM_givePlaces_75 rfl (lv_at hl 3 rfl) ?_
      refine lv_icmp_ge (tgt := 116) hx hb d_MM_givePlaces_76 (by decide) (fun c_4 => ?_) (fun c_4 => ?_)
      · replace h := if_t h c_4
        exact w_MM_givePlaces_b116 ⟨hx, hb, hml, hown, hts, hK, hA⟩ hret ih _ _ _ _ _ _ h H locs ls (lv_sub hl [1, 2, 3, 4, 5, 6] rfl) hP hD hS
      · replace h := if_f h c_4
        exact w_MM_givePlaces_b79 ⟨hx, hb, hml, hown, hts, hK, hA⟩ hret ih N _ _ _ _ _ _ _ h H locs ls (lv_sub hl [1, 2, 3, 4, 5, 6, 0] rfl) hP hD hS
set_option maxHeartbeats 4000000 in
set_option maxRecDepth 100000 in
theorem w_MM_givePlaces_b43 {p : Program} {l : Launch} {e : Env} {s : State} {m : MethodId} {args : Array Value} {below : List Frame} {meth : Method} {c : Code} {Q : State → Prop} {A : Nat → Prop} {D : va_G} {cI cL cZ : ClassId} {a_this : Nat} {a_points : Nat} {a_placeOf : Nat} {o_in : Nat} {o_out : Nat} {o_counts : Nat} {o_length : Nat} {o_symbolOf : Nat} {o_draft : Nat} {o_knot : Nat} {o_inSum : Nat} {o_halved : Nat} {o_made : Nat} {o_weight : Nat} {o_cutOff : Nat} {o_had : Nat} {i_inLong : Int32} {i_goesOn : Int32} {i_outLong : Int32} {i_greatest : Int32} {i_knots : Int32} {i_bitsMade : Int32} {i_weights : Int32} {i_order : Int32} {i_bit : Int32} {i_bitEnd : Int32} {v_points : Nat → Int32} {N : Nat} {res : (Nat → Int32)}  (C : Cx p s m args c b_MM_givePlaces 7 "PrefixMillModel" D [(cI, .int), (cL, .long), (cZ, .boolean)] A) (hret : E_MM_givePlaces p l e s m args below meth c Q A D cI cL cZ a_this a_points a_placeOf o_in o_out o_counts o_length o_symbolOf o_draft o_knot o_inSum o_halved o_made o_weight o_cutOff o_had i_inLong i_goesOn i_outLong i_greatest i_knots i_bitsMade i_weights i_order i_bit i_bitEnd v_points res)  : I_MM_givePlaces_b43 p l e s m args below meth c Q A D cI cL cZ a_this a_points a_placeOf o_in o_out o_counts o_length o_symbolOf o_draft o_knot o_inSum o_halved o_made o_weight o_cutOff o_had i_inLong i_goesOn i_outLong i_greatest i_knots i_bitsMade i_weights i_order i_bit i_bitEnd v_points res (f_MM_givePlaces_b43 N i_order v_points ) := by
  obtain ⟨hx, hb, hml, hown, hts, hK, hA⟩ := C
  intro l1 l2 v_placeOf h H locs ls hl hP hD hS
  unfold f_MM_givePlaces_b43 at h
  refine lv_iconst (v := 0) hx hb d_MM_givePlaces_43 (by decide) ?_
  refine lv_istore_n (lv' := [(3, .int 0), (0, .ref a_this), (1, .int l1), (2, .int l2)]) hx hb d_MM_givePlaces_44 rfl hl (by decide) rfl (fun ls hl => ?_)
  refine lv_iconst (v := 0) hx hb d_MM_givePlaces_45 (by decide) ?_
  refine lv_istore (lv' := [(4, .int 0), (3, .int 0), (0, .ref a_this), (1, .int l1), (2, .int l2)]) hx hb d_MM_givePlaces_46 hl (by decide) rfl (fun ls hl => ?_)
  refine lv_iconst (v := 0) hx hb d_MM_givePlaces_48 (by decide) ?_
  refine lv_istore (lv' := [(5, .int 0), (4, .int 0), (3, .int 0), (0, .ref a_this), (1, .int l1), (2, .int l2)]) hx hb d_MM_givePlaces_49 hl (by decide) rfl (fun ls hl => ?_)
  exact w_MM_givePlaces_b51 ⟨hx, hb, hml, hown, hts, hK, hA⟩ hret  N _ _ _ _ _ _ h H locs ls (lv_sub hl [3, 4, 5, 2, 1, 0] rfl) hP hD hS
set_option maxHeartbeats 4000000 in
set_option maxRecDepth 100000 in
theorem w_MM_givePlaces_b11 {p : Program} {l : Launch} {e : Env} {s : State} {m : MethodId} {args : Array Value} {below : List Frame} {meth : Method} {c : Code} {Q : State → Prop} {A : Nat → Prop} {D : va_G} {cI cL cZ : ClassId} {a_this : Nat} {a_points : Nat} {a_placeOf : Nat} {o_in : Nat} {o_out : Nat} {o_counts : Nat} {o_length : Nat} {o_symbolOf : Nat} {o_draft : Nat} {o_knot : Nat} {o_inSum : Nat} {o_halved : Nat} {o_made : Nat} {o_weight : Nat} {o_cutOff : Nat} {o_had : Nat} {i_inLong : Int32} {i_goesOn : Int32} {i_outLong : Int32} {i_greatest : Int32} {i_knots : Int32} {i_bitsMade : Int32} {i_weights : Int32} {i_order : Int32} {i_bit : Int32} {i_bitEnd : Int32} {v_points : Nat → Int32} {N : Nat} {res : (Nat → Int32)}  (C : Cx p s m args c b_MM_givePlaces 7 "PrefixMillModel" D [(cI, .int), (cL, .long), (cZ, .boolean)] A) (hret : E_MM_givePlaces p l e s m args below meth c Q A D cI cL cZ a_this a_points a_placeOf o_in o_out o_counts o_length o_symbolOf o_draft o_knot o_inSum o_halved o_made o_weight o_cutOff o_had i_inLong i_goesOn i_outLong i_greatest i_knots i_bitsMade i_weights i_order i_bit i_bitEnd v_points res)  : ∀ z : Nat, I_MM_givePlaces_b11 p l e s m args below meth c Q A D cI cL cZ a_this a_points a_placeOf o_in o_out o_counts o_length o_symbolOf o_draft o_knot o_inSum o_halved o_made o_weight o_cutOff o_had i_inLong i_goesOn i_outLong i_greatest i_knots i_bitsMade i_weights i_order i_bit i_bitEnd v_points res (f_MM_givePlaces_b11 N i_order v_points  z) := by
  obtain ⟨hx, hb, hml, hown, hts, hK, hA⟩ := C
  intro z
  induction z with
  | zero => intro l1 l2 l3 v_placeOf h; cases h
  | succ z ih =>
    intro l1 l2 l3 v_placeOf h H locs ls hl hP hD hS
    refine lv_iload_n hx hb d_MM_givePlaces_11 rfl (lv_at hl 3 rfl) ?_
    refine lv_bipush (v := 12) hx hb d_MM_givePlaces_12 (by decide) ?_
    refine lv_icmp_ge (tgt := 43) hx hb d_MM_givePlaces_14 (by decide) (fun c_1 => ?_) (fun c_1 => ?_)
    · replace h := if_t h c_1
      exact w_MM_givePlaces_b43 ⟨hx, hb, hml, hown, hts, hK, hA⟩ hret  _ _ _ h H locs ls (lv_sub hl [0, 1, 2] rfl) hP hD hS
    · replace h := if_f h c_1
      refine lv_aload_n hx hb d_MM_givePlaces_17 rfl (lv_at hl 0 rfl) ?_
      refine va_get hx hb hts in_MM hown hK hP 0 rfl rfl 19 (by decide) (hts _ m_772) (fun _ h9 => h9) rfl d_MM_givePlaces_18 ?_
      refine lv_iload_n hx hb d_MM_givePlaces_21 rfl (lv_at hl 3 rfl) ?_
      obtain ⟨g_2, h⟩ := ck_s h
      refine va_iald hx hb hK hP 1 0 rfl rfl (inb_s g_2) d_MM_givePlaces_22 ?_
      refine lv_iconst (v := (-1)) hx hb d_MM_givePlaces_23 (by decide) ?_
      refine lv_icmp_ne (tgt := 37) hx hb d_MM_givePlaces_24 (by decide) (fun c_3 => ?_) (fun c_3 => ?_)
      · replace h := if_f h c_3
        exact w_MM_givePlaces_b37 ⟨hx, hb, hml, hown, hts, hK, hA⟩ hret ih _ _ _ _ h H locs ls (lv_sub hl [0, 1, 2, 3] rfl) hP hD hS
      · replace h := if_t h c_3
        obtain ⟨l2_4, el2_4⟩ : ∃ y : Int32, y = l2 + (-1) := ⟨_, rfl⟩
        replace h := nm_s h el2_4
        refine lv_iinc (v := l2_4) (lv' := [(2, .int l2_4), (0, .ref a_this), (1, .int l1), (3, .int l3)]) hx hb d_MM_givePlaces_27 hl (k := 2) rfl (by rw [el2_4]; rfl) (by decide) rfl (fun ls hl => ?_)
        refine lv_aload_n hx hb d_MM_givePlaces_30 rfl (lv_at hl 1 rfl) ?_
        refine va_get hx hb hts in_MM hown hK hP 0 rfl rfl 22 (by decide) (hts _ m_775) (fun _ h9 => h9) rfl d_MM_givePlaces_31 ?_
        refine lv_iload_n hx hb d_MM_givePlaces_34 rfl (lv_at hl 0 rfl) ?_
        refine lv_iload_n hx hb d_MM_givePlaces_35 rfl (lv_at hl 3 rfl) ?_
        obtain ⟨g_5, h⟩ := ck_s h
        refine va_iast hx hb hK hP hD hS 2 0 rfl rfl (inb_s g_5) d_MM_givePlaces_36 (fun H locs hP hD hS => ?_)
        obtain ⟨v_placeOf_6, ev_placeOf_6⟩ : ∃ y, y = (upd v_placeOf (Int32.toNatClampNeg l2_4) l3) := ⟨_, rfl⟩
        replace h := nm_s h ev_placeOf_6
        have hP : va_P D classes [(a_this, .inr (1, [.ref o_in, .int i_inLong, .int i_goesOn, .ref o_out, .int i_outLong, .ref o_counts, .int i_greatest, .ref o_length, .ref o_symbolOf, .ref o_draft, .ref o_knot, .ref o_inSum, .int i_knots, .ref o_halved, .ref o_made, .int i_bitsMade, .ref o_weight, .int i_weights, .int i_order, .ref a_points, .ref o_cutOff, .ref o_had, .ref a_placeOf, .int i_bit, .int i_bitEnd])), (a_points, .inl (cI, 12, .inl v_points)), (a_placeOf, .inl (cI, 64, .inl v_placeOf_6))] H := by rw [ev_placeOf_6]; exact hP
        have hD : va_D A [(a_this, .inr (1, [.ref o_in, .int i_inLong, .int i_goesOn, .ref o_out, .int i_outLong, .ref o_counts, .int i_greatest, .ref o_length, .ref o_symbolOf, .ref o_draft, .ref o_knot, .ref o_inSum, .int i_knots, .ref o_halved, .ref o_made, .int i_bitsMade, .ref o_weight, .int i_weights, .int i_order, .ref a_points, .ref o_cutOff, .ref o_had, .ref a_placeOf, .int i_bit, .int i_bitEnd])), (a_points, .inl (cI, 12, .inl v_points)), (a_placeOf, .inl (cI, 64, .inl v_placeOf_6))] := by rw [ev_placeOf_6]; exact hD
        exact w_MM_givePlaces_b37 ⟨hx, hb, hml, hown, hts, hK, hA⟩ hret ih _ _ _ _ h H locs ls (lv_sub hl [1, 2, 0, 3] rfl) hP hD hS
set_option maxHeartbeats 4000000 in
set_option maxRecDepth 100000 in
theorem w_MM_givePlaces_b0 {p : Program} {l : Launch} {e : Env} {s : State} {m : MethodId} {args : Array Value} {below : List Frame} {meth : Method} {c : Code} {Q : State → Prop} {A : Nat → Prop} {D : va_G} {cI cL cZ : ClassId} {a_this : Nat} {a_points : Nat} {a_placeOf : Nat} {o_in : Nat} {o_out : Nat} {o_counts : Nat} {o_length : Nat} {o_symbolOf : Nat} {o_draft : Nat} {o_knot : Nat} {o_inSum : Nat} {o_halved : Nat} {o_made : Nat} {o_weight : Nat} {o_cutOff : Nat} {o_had : Nat} {i_inLong : Int32} {i_goesOn : Int32} {i_outLong : Int32} {i_greatest : Int32} {i_knots : Int32} {i_bitsMade : Int32} {i_weights : Int32} {i_order : Int32} {i_bit : Int32} {i_bitEnd : Int32} {v_points : Nat → Int32} {N : Nat} {res : (Nat → Int32)}  (C : Cx p s m args c b_MM_givePlaces 7 "PrefixMillModel" D [(cI, .int), (cL, .long), (cZ, .boolean)] A) (hret : E_MM_givePlaces p l e s m args below meth c Q A D cI cL cZ a_this a_points a_placeOf o_in o_out o_counts o_length o_symbolOf o_draft o_knot o_inSum o_halved o_made o_weight o_cutOff o_had i_inLong i_goesOn i_outLong i_greatest i_knots i_bitsMade i_weights i_order i_bit i_bitEnd v_points res)  : I_MM_givePlaces_b0 p l e s m args below meth c Q A D cI cL cZ a_this a_points a_placeOf o_in o_out o_counts o_length o_symbolOf o_draft o_knot o_inSum o_halved o_made o_weight o_cutOff o_had i_inLong i_goesOn i_outLong i_greatest i_knots i_bitsMade i_weights i_order i_bit i_bitEnd v_points res (f_MM_givePlaces N i_order v_points ) := by
  obtain ⟨hx, hb, hml, hown, hts, hK, hA⟩ := C
  intro v_placeOf h H locs ls hl hP hD hS
  unfold f_MM_givePlaces at h
  refine lv_iconst (v := 1) hx hb d_MM_givePlaces_0 (by decide) ?_
  refine lv_aload_n hx hb d_MM_givePlaces_1 rfl (lv_at hl 0 rfl) ?_
  refine va_get hx hb hts in_MM hown hK hP 0 rfl rfl 18 (by decide) (hts _ m_771) (fun _ h9 => h9) rfl d_MM_givePlaces_2 ?_
  refine lv_ishl hx hb d_MM_givePlaces_5 ?_
  refine lv_topi (fun l1_1 el1_1 => ?_)
  replace h := nm_s h el1_1
  refine lv_istore_n (lv' := [(1, .int l1_1), (0, .ref a_this)]) hx hb d_MM_givePlaces_6 rfl hl (by decide) rfl (fun ls hl => ?_)
  refine lv_iload_n hx hb d_MM_givePlaces_7 rfl (lv_at hl 0 rfl) ?_
  refine lv_istore_n (lv' := [(2, .int l1_1), (1, .int l1_1), (0, .ref a_this)]) hx hb d_MM_givePlaces_8 rfl hl (by decide) rfl (fun ls hl => ?_)
  refine lv_iconst (v := 0) hx hb d_MM_givePlaces_9 (by decide) ?_
  refine lv_istore_n (lv' := [(3, .int 0), (2, .int l1_1), (1, .int l1_1), (0, .ref a_this)]) hx hb d_MM_givePlaces_10 rfl hl (by decide) rfl (fun ls hl => ?_)
  exact w_MM_givePlaces_b11 ⟨hx, hb, hml, hown, hts, hK, hA⟩ hret  N _ _ _ _ h H locs ls (lv_sub hl [3, 2, 1, 0] rfl) hP hD hS
set_option maxHeartbeats 4000000 in
set_option maxRecDepth 100000 in
theorem c_MM_givePlaces (l : Launch) (D : va_G) (cI cL cZ : ClassId) (sz N : Nat) (a_this : Nat) (a_points : Nat) (a_placeOf : Nat) (o_in : Nat) (o_out : Nat) (o_counts : Nat) (o_length : Nat) (o_symbolOf : Nat) (o_draft : Nat) (o_knot : Nat) (o_inSum : Nat) (o_halved : Nat) (o_made : Nat) (o_weight : Nat) (o_cutOff : Nat) (o_had : Nat) (i_inLong : Int32) (i_goesOn : Int32) (i_outLong : Int32) (i_greatest : Int32) (i_knots : Int32) (i_bitsMade : Int32) (i_weights : Int32) (i_order : Int32) (i_bit : Int32) (i_bitEnd : Int32) (v_points : Nat → Int32) (v_placeOf : Nat → Int32) (v_placeOf' : Nat → Int32) (h : f_MM_givePlaces N i_order v_points v_placeOf = some (v_placeOf')) : Met l ({ cls := "PrefixMillModel", name := "givePlaces", desc := "()V" } : Jvm.MethodName) ws_MM_givePlaces R_MM_givePlaces (va_Pc [.ref a_this] (fun U => U.heap.size = sz ∧ va_P D classes [(a_this, .inr (1, [.ref o_in, .int i_inLong, .int i_goesOn, .ref o_out, .int i_outLong, .ref o_counts, .int i_greatest, .ref o_length, .ref o_symbolOf, .ref o_draft, .ref o_knot, .ref o_inSum, .int i_knots, .ref o_halved, .ref o_made, .int i_bitsMade, .ref o_weight, .int i_weights, .int i_order, .ref a_points, .ref o_cutOff, .ref o_had, .ref a_placeOf, .int i_bit, .int i_bitEnd])), (a_points, .inl (cI, 12, .inl v_points)), (a_placeOf, .inl (cI, 64, .inl v_placeOf))] U.heap ∧ va_K D classes [(cI, .int), (cL, .long), (cZ, .boolean)] U ∧ va_D (fun _ => True) [(a_this, .inr (1, [.ref o_in, .int i_inLong, .int i_goesOn, .ref o_out, .int i_outLong, .ref o_counts, .int i_greatest, .ref o_length, .ref o_symbolOf, .ref o_draft, .ref o_knot, .ref o_inSum, .int i_knots, .ref o_halved, .ref o_made, .int i_bitsMade, .ref o_weight, .int i_weights, .int i_order, .ref a_points, .ref o_cutOff, .ref o_had, .ref a_placeOf, .int i_bit, .int i_bitEnd])), (a_points, .inl (cI, 12, .inl v_points)), (a_placeOf, .inl (cI, 64, .inl v_placeOf))])) (va_Qv (fun _ : Unit => True) (fun _ t => va_P D classes [(a_this, .inr (1, [.ref o_in, .int i_inLong, .int i_goesOn, .ref o_out, .int i_outLong, .ref o_counts, .int i_greatest, .ref o_length, .ref o_symbolOf, .ref o_draft, .ref o_knot, .ref o_inSum, .int i_knots, .ref o_halved, .ref o_made, .int i_bitsMade, .ref o_weight, .int i_weights, .int i_order, .ref a_points, .ref o_cutOff, .ref o_had, .ref a_placeOf, .int i_bit, .int i_bitEnd])), (a_points, .inl (cI, 12, .inl v_points)), (a_placeOf, .inl (cI, 64, .inl v_placeOf'))] t.heap ∧ va_K D classes [(cI, .int), (cL, .long), (cZ, .boolean)] t ∧ va_D (va_A [(a_this, .inr (1, [.ref o_in, .int i_inLong, .int i_goesOn, .ref o_out, .int i_outLong, .ref o_counts, .int i_greatest, .ref o_length, .ref o_symbolOf, .ref o_draft, .ref o_knot, .ref o_inSum, .int i_knots, .ref o_halved, .ref o_made, .int i_bitsMade, .ref o_weight, .int i_weights, .int i_order, .ref a_points, .ref o_cutOff, .ref o_had, .ref a_placeOf, .int i_bit, .int i_bitEnd])), (a_points, .inl (cI, 12, .inl v_points)), (a_placeOf, .inl (cI, 64, .inl v_placeOf))] sz) [(a_this, .inr (1, [.ref o_in, .int i_inLong, .int i_goesOn, .ref o_out, .int i_outLong, .ref o_counts, .int i_greatest, .ref o_length, .ref o_symbolOf, .ref o_draft, .ref o_knot, .ref o_inSum, .int i_knots, .ref o_halved, .ref o_made, .int i_bitsMade, .ref o_weight, .int i_weights, .int i_order, .ref a_points, .ref o_cutOff, .ref o_had, .ref a_placeOf, .int i_bit, .int i_bitEnd])), (a_points, .inl (cI, 12, .inl v_points)), (a_placeOf, .inl (cI, 64, .inl v_placeOf'))]) (va_A [(a_this, .inr (1, [.ref o_in, .int i_inLong, .int i_goesOn, .ref o_out, .int i_outLong, .ref o_counts, .int i_greatest, .ref o_length, .ref o_symbolOf, .ref o_draft, .ref o_knot, .ref o_inSum, .int i_knots, .ref o_halved, .ref o_made, .int i_bitsMade, .ref o_weight, .int i_weights, .int i_order, .ref a_points, .ref o_cutOff, .ref o_had, .ref a_placeOf, .int i_bit, .int i_bitEnd])), (a_points, .inl (cI, 12, .inl v_points)), (a_placeOf, .inl (cI, 64, .inl v_placeOf))] sz)) 0 0 (va_A [(a_this, .inr (1, [.ref o_in, .int i_inLong, .int i_goesOn, .ref o_out, .int i_outLong, .ref o_counts, .int i_greatest, .ref o_length, .ref o_symbolOf, .ref o_draft, .ref o_knot, .ref o_inSum, .int i_knots, .ref o_halved, .ref o_made, .int i_bitsMade, .ref o_weight, .int i_weights, .int i_order, .ref a_points, .ref o_cutOff, .ref o_had, .ref a_placeOf, .int i_bit, .int i_bitEnd])), (a_points, .inl (cI, 12, .inl v_points)), (a_placeOf, .inl (cI, 64, .inl v_placeOf))] sz) := by
  refine Met.ofW (cc := b_MM_givePlaces) (maxL := 7) (ret := none) (by decide) rfl ?_
  intro p e s m args below meth c s₁ B hml hv
  obtain ⟨rfl, hsz, hP, hK, hD0⟩ := hv
  have hx := B.exec
  have hb := B.bytes
  have hr := B.returns
  have hts0 := atoms_spec (ws := ws_MM_givePlaces) B.pre
  have hts := gd_tl hts0
  clear hts0
  have hown : s.vm.findClass "PrefixMillModel" = some m.cls := findClass_of_methodNamed B.named
  have hlocks := B.notSynchronized
  subst hsz
  have hD := hD0.self (sz := s.heap.size)
  generalize hAe : va_A [(a_this, .inr (1, [.ref o_in, .int i_inLong, .int i_goesOn, .ref o_out, .int i_outLong, .ref o_counts, .int i_greatest, .ref o_length, .ref o_symbolOf, .ref o_draft, .ref o_knot, .ref o_inSum, .int i_knots, .ref o_halved, .ref o_made, .int i_bitsMade, .ref o_weight, .int i_weights, .int i_order, .ref a_points, .ref o_cutOff, .ref o_had, .ref a_placeOf, .int i_bit, .int i_bitEnd])), (a_points, .inl (cI, 12, .inl v_points)), (a_placeOf, .inl (cI, 64, .inl v_placeOf))] s.heap.size = A at hD ⊢
  have hA : ∀ q : Nat, s.heap.size ≤ q → A q := fun q h => by rw [← hAe]; exact Or.inr h
  have hS : va_S A s.heap s.heap [] := va_S.rf
  have hP : va_P D classes [(a_this, .inr (1, [.ref o_in, .int i_inLong, .int i_goesOn, .ref o_out, .int i_outLong, .ref o_counts, .int i_greatest, .ref o_length, .ref o_symbolOf, .ref o_draft, .ref o_knot, .ref o_inSum, .int i_knots, .ref o_halved, .ref o_made, .int i_bitsMade, .ref o_weight, .int i_weights, .int i_order, .ref a_points, .ref o_cutOff, .ref o_had, .ref a_placeOf, .int i_bit, .int i_bitEnd])), (a_points, .inl (cI, 12, .inl v_points)), (a_placeOf, .inl (cI, 64, .inl v_placeOf))] s.heap := hP
  have hl := lv_entry ([.ref a_this]) (n := 7) (Nat.le_of_ble_eq_true rfl)
  rw [lg_entry_eq]
  generalize (lg_sl ([.ref a_this]) ++ List.replicate (7 - (lg_sl ([.ref a_this])).length) Slot.unset).toArray = ls at hl ⊢
  have hl : lv_has ls 7 [(0, .ref a_this)] := hl
  have C : Cx p s m ([.ref a_this] : List Value).toArray c b_MM_givePlaces 7 "PrefixMillModel" D [(cI, .int), (cL, .long), (cZ, .boolean)] A := ⟨hx, hb, hml, hown, hts, hK, hA⟩
  refine w_MM_givePlaces_b0 (res := (v_placeOf')) C ?_ _ h s.heap [] ls hl hP hD hS
  intro pc9 H9 locs9 ls9 v_placeOf9 e9 d9 hP9 hD9 hS9
  cases e9
  exact W.vret hx hb hr (fun t ht hW => ⟨⟨(), rfl, trivial, by rw [ht]; exact hP9, va_K.moved hW.alike hK, hD9⟩, hS9.F ht⟩) hS9.2.2 d9
