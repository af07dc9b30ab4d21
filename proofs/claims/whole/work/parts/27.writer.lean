abbrev b_Writer_takeWeights : ByteArray := prog_10_method_3_code
def ws_Writer_takeWeights : List Cond := .code ({ cls := "PrefixMill$Writer", name := "takeWeights", desc := "(LPrefixMill$Codes;I)V" } : Jvm.MethodName) b_Writer_takeWeights 4 none :: tt
theorem d_Writer_takeWeights_0 : decode b_Writer_takeWeights 0 = .ok (.aload_n 0, 1) := by decide +kernel
theorem d_Writer_takeWeights_1 : decode b_Writer_takeWeights 1 = .ok (.getfield 27, 3) := by decide +kernel
theorem d_Writer_takeWeights_4 : decode b_Writer_takeWeights 4 = .ok (.iconst 0, 1) := by decide +kernel
theorem d_Writer_takeWeights_5 : decode b_Writer_takeWeights 5 = .ok (.invokestatic 64, 3) := by decide +kernel
theorem d_Writer_takeWeights_8 : decode b_Writer_takeWeights 8 = .ok (.iconst 0, 1) := by decide +kernel
theorem d_Writer_takeWeights_9 : decode b_Writer_takeWeights 9 = .ok (.istore_n 3, 1) := by decide +kernel
theorem d_Writer_takeWeights_10 : decode b_Writer_takeWeights 10 = .ok (.iload_n 3, 1) := by decide +kernel
theorem d_Writer_takeWeights_11 : decode b_Writer_takeWeights 11 = .ok (.iload_n 2, 1) := by decide +kernel
theorem d_Writer_takeWeights_12 : decode b_Writer_takeWeights 12 = .ok (.if_icmp .ge 35, 3) := by decide +kernel
theorem d_Writer_takeWeights_15 : decode b_Writer_takeWeights 15 = .ok (.aload_n 0, 1) := by decide +kernel
theorem d_Writer_takeWeights_16 : decode b_Writer_takeWeights 16 = .ok (.getfield 23, 3) := by decide +kernel
theorem d_Writer_takeWeights_19 : decode b_Writer_takeWeights 19 = .ok (.iload_n 3, 1) := by decide +kernel
theorem d_Writer_takeWeights_20 : decode b_Writer_takeWeights 20 = .ok (.aload_n 1, 1) := by decide +kernel
theorem d_Writer_takeWeights_21 : decode b_Writer_takeWeights 21 = .ok (.iload_n 3, 1) := by decide +kernel
theorem d_Writer_takeWeights_22 : decode b_Writer_takeWeights 22 = .ok (.invokevirtual 70, 3) := by decide +kernel
theorem d_Writer_takeWeights_25 : decode b_Writer_takeWeights 25 = .ok (.iastore, 1) := by decide +kernel
theorem d_Writer_takeWeights_26 : decode b_Writer_takeWeights 26 = .ok (.aload_n 0, 1) := by decide +kernel
theorem d_Writer_takeWeights_27 : decode b_Writer_takeWeights 27 = .ok (.getfield 27, 3) := by decide +kernel
theorem d_Writer_takeWeights_30 : decode b_Writer_takeWeights 30 = .ok (.aload_n 0, 1) := by decide +kernel
theorem d_Writer_takeWeights_31 : decode b_Writer_takeWeights 31 = .ok (.getfield 23, 3) := by decide +kernel
theorem d_Writer_takeWeights_34 : decode b_Writer_takeWeights 34 = .ok (.iload_n 3, 1) := by decide +kernel
theorem d_Writer_takeWeights_35 : decode b_Writer_takeWeights 35 = .ok (.iaload, 1) := by decide +kernel
theorem d_Writer_takeWeights_36 : decode b_Writer_takeWeights 36 = .ok (.dup2, 1) := by decide +kernel
theorem d_Writer_takeWeights_37 : decode b_Writer_takeWeights 37 = .ok (.iaload, 1) := by decide +kernel
theorem d_Writer_takeWeights_38 : decode b_Writer_takeWeights 38 = .ok (.iconst 1, 1) := by decide +kernel
theorem d_Writer_takeWeights_39 : decode b_Writer_takeWeights 39 = .ok (.iadd, 1) := by decide +kernel
theorem d_Writer_takeWeights_40 : decode b_Writer_takeWeights 40 = .ok (.iastore, 1) := by decide +kernel
theorem d_Writer_takeWeights_41 : decode b_Writer_takeWeights 41 = .ok (.iinc 3 1, 3) := by decide +kernel
theorem d_Writer_takeWeights_44 : decode b_Writer_takeWeights 44 = .ok (.goto (-34), 3) := by decide +kernel
theorem d_Writer_takeWeights_47 : decode b_Writer_takeWeights 47 = .ok (.return_, 1) := by decide +kernel
def f_Writer_takeWeights_b10 (N : Nat) (i_p1_greatest : Int32) (v_p1_lengths : Nat → Int32) (l2 : Int32)  : Nat → Int32 → (Nat → Int32) → (Nat → Int32) → Option ((Nat → Int32) × (Nat → Int32))
  | 0, _, _, _ => none
  | z + 1, l3, v_weights, v_counts =>
  if l2 ≤ l3 then
  some (v_weights, v_counts)
  else
  bd1 (f_Codes_weightOf N i_p1_greatest v_p1_lengths l3) fun r_2 =>
  ck (inb l3 256) <|
  nm (upd v_weights (Int32.toNatClampNeg l3) r_2) fun v_weights_5 =>
  ck (inb l3 256) <|
  ck (inb (v_weights_5 (Int32.toNatClampNeg l3)) 12) <|
  ck (inb (v_weights_5 (Int32.toNatClampNeg l3)) 12) <|
  nm (upd v_counts (Int32.toNatClampNeg (v_weights_5 (Int32.toNatClampNeg l3))) ((v_counts (Int32.toNatClampNeg (v_weights_5 (Int32.toNatClampNeg l3)))) + 1)) fun v_counts_9 =>
  nm (l3 + 1) fun l3_10 =>
  f_Writer_takeWeights_b10 N i_p1_greatest v_p1_lengths l2  z l3_10 v_weights_5 v_counts_9
def f_Writer_takeWeights (N : Nat) (i_p1_greatest : Int32) (v_p1_lengths : Nat → Int32) (l2 : Int32)  (v_weights : Nat → Int32) (v_counts : Nat → Int32) : Option ((Nat → Int32) × (Nat → Int32)) :=
  bd1 (f_JArr_fill N 12 0 v_counts) fun v_counts_1 =>
  f_Writer_takeWeights_b10 N i_p1_greatest v_p1_lengths l2  N 0 v_weights v_counts_1
abbrev R_Writer_takeWeights : Room := ({ frames := 1, cells := 0, slots := 0, locals := 23 } : Room)
def E_Writer_takeWeights (p : Program) (l : Launch) (e : Env) (s : State) (m : MethodId) (args : Array Value) (below : List Frame) (meth : Method) (c : Code) (Q : State → Prop) (A : Nat → Prop) (D : va_G) (cI cL cZ : ClassId) (a_this : Nat) (a_weights : Nat) (a_counts : Nat) (a_p1 : Nat) (a_p1_lengths : Nat) (o_five : Nat) (o_six : Nat) (o_p1_values : Nat) (o_p1_cells : Nat) (i_p1_greatest : Int32) (i_p1_known : Int32) (i_p1_highest : Int32) (v_p1_lengths : Nat → Int32) (l2 : Int32) (res : (Nat → Int32) × (Nat → Int32)) : Prop := ∀ (pc : Nat) (H : Heap) (locs : List Loc) (ls : Array Slot) (v_weights : Nat → Int32) (v_counts : Nat → Int32), some (v_weights, v_counts) = some res → decode b_Writer_takeWeights pc = .ok (.return_, 1) → va_P D classes [(a_this, .inr (10, [.ref o_five, .ref o_six, .ref a_weights, .ref a_counts])), (a_weights, .inl (cI, 256, .inl v_weights)), (a_counts, .inl (cI, 12, .inl v_counts)), (a_p1, .inr (2, [.ref a_p1_lengths, .ref o_p1_values, .ref o_p1_cells, .int i_p1_greatest, .int i_p1_known, .int i_p1_highest])), (a_p1_lengths, .inl (cI, 256, .inl v_p1_lengths))] H → va_D A [(a_this, .inr (10, [.ref o_five, .ref o_six, .ref a_weights, .ref a_counts])), (a_weights, .inl (cI, 256, .inl v_weights)), (a_counts, .inl (cI, 12, .inl v_counts)), (a_p1, .inr (2, [.ref a_p1_lengths, .ref o_p1_values, .ref o_p1_cells, .int i_p1_greatest, .int i_p1_known, .int i_p1_highest])), (a_p1_lengths, .inl (cI, 256, .inl v_p1_lengths))] → va_S A s.heap H locs → W p l e R_Writer_takeWeights s m args below meth c H locs 0 0 Q (F0 m pc ls [])
def I_Writer_takeWeights_b10 (p : Program) (l : Launch) (e : Env) (s : State) (m : MethodId) (args : Array Value) (below : List Frame) (meth : Method) (c : Code) (Q : State → Prop) (A : Nat → Prop) (D : va_G) (cI cL cZ : ClassId) (a_this : Nat) (a_weights : Nat) (a_counts : Nat) (a_p1 : Nat) (a_p1_lengths : Nat) (o_five : Nat) (o_six : Nat) (o_p1_values : Nat) (o_p1_cells : Nat) (i_p1_greatest : Int32) (i_p1_known : Int32) (i_p1_highest : Int32) (v_p1_lengths : Nat → Int32) (l2 : Int32) (res : (Nat → Int32) × (Nat → Int32)) (kf : Int32 → (Nat → Int32) → (Nat → Int32) → Option ((Nat → Int32) × (Nat → Int32))) : Prop := ∀ (l3 : Int32) (v_weights : Nat → Int32) (v_counts : Nat → Int32), kf l3 v_weights v_counts = some res → ∀ (H : Heap) (locs : List Loc) (ls : Array Slot), lv_has ls 4 [(0, .ref a_this), (1, .ref a_p1), (2, .int l2), (3, .int l3)] → va_P D classes [(a_this, .inr (10, [.ref o_five, .ref o_six, .ref a_weights, .ref a_counts])), (a_weights, .inl (cI, 256, .inl v_weights)), (a_counts, .inl (cI, 12, .inl v_counts)), (a_p1, .inr (2, [.ref a_p1_lengths, .ref o_p1_values, .ref o_p1_cells, .int i_p1_greatest, .int i_p1_known, .int i_p1_highest])), (a_p1_lengths, .inl (cI, 256, .inl v_p1_lengths))] H → va_D A [(a_this, .inr (10, [.ref o_five, .ref o_six, .ref a_weights, .ref a_counts])), (a_weights, .inl (cI, 256, .inl v_weights)), (a_counts, .inl (cI, 12, .inl v_counts)), (a_p1, .inr (2, [.ref a_p1_lengths, .ref o_p1_values, .ref o_p1_cells, .int i_p1_greatest, .int i_p1_known, .int i_p1_highest])), (a_p1_lengths, .inl (cI, 256, .inl v_p1_lengths))] → va_S A s.heap H locs → W p l e R_Writer_takeWeights s m args below meth c H locs 0 0 Q (F0 m 10 ls [])
def I_Writer_takeWeights_b0 (p : Program) (l : Launch) (e : Env) (s : State) (m : MethodId) (args : Array Value) (below : List Frame) (meth : Method) (c : Code) (Q : State → Prop) (A : Nat → Prop) (D : va_G) (cI cL cZ : ClassId) (a_this : Nat) (a_weights : Nat) (a_counts : Nat) (a_p1 : Nat) (a_p1_lengths : Nat) (o_five : Nat) (o_six : Nat) (o_p1_values : Nat) (o_p1_cells : Nat) (i_p1_greatest : Int32) (i_p1_known : Int32) (i_p1_highest : Int32) (v_p1_lengths : Nat → Int32) (l2 : Int32) (res : (Nat → Int32) × (Nat → Int32)) (kf : (Nat → Int32) → (Nat → Int32) → Option ((Nat → Int32) × (Nat → Int32))) : Prop := ∀ (v_weights : Nat → Int32) (v_counts : Nat → Int32), kf v_weights v_counts = some res → ∀ (H : Heap) (locs : List Loc) (ls : Array Slot), lv_has ls 4 [(0, .ref a_this), (1, .ref a_p1), (2, .int l2)] → va_P D classes [(a_this, .inr (10, [.ref o_five, .ref o_six, .ref a_weights, .ref a_counts])), (a_weights, .inl (cI, 256, .inl v_weights)), (a_counts, .inl (cI, 12, .inl v_counts)), (a_p1, .inr (2, [.ref a_p1_lengths, .ref o_p1_values, .ref o_p1_cells, .int i_p1_greatest, .int i_p1_known, .int i_p1_highest])), (a_p1_lengths, .inl (cI, 256, .inl v_p1_lengths))] H → va_D A [(a_this, .inr (10, [.ref o_five, .ref o_six, .ref a_weights, .ref a_counts])), (a_weights, .inl (cI, 256, .inl v_weights)), (a_counts, .inl (cI, 12, .inl v_counts)), (a_p1, .inr (2, [.ref a_p1_lengths, .ref o_p1_values, .ref o_p1_cells, .int i_p1_greatest, .int i_p1_known, .int i_p1_highest])), (a_p1_lengths, .inl (cI, 256, .inl v_p1_lengths))] → va_S A s.heap H locs → W p l e R_Writer_takeWeights s m args below meth c H locs 0 0 Q (F0 m 0 ls [])
set_option maxHeartbeats 4000000 in
set_option maxRecDepth 100000 in
theorem w_Writer_takeWeights_b10 {p : Program} {l : Launch} {e : Env} {s : State} {m : MethodId} {args : Array Value} {below : List Frame} {meth : Method} {c : Code} {Q : State → Prop} {A : Nat → Prop} {D : va_G} {cI cL cZ : ClassId} {a_this : Nat} {a_weights : Nat} {a_counts : Nat} {a_p1 : Nat} {a_p1_lengths : Nat} {o_five : Nat} {o_six : Nat} {o_p1_values : Nat} {o_p1_cells : Nat} {i_p1_greatest : Int32} {i_p1_known : Int32} {i_p1_highest : Int32} {v_p1_lengths : Nat → Int32} {l2 : Int32} {N : Nat} {res : (Nat → Int32) × (Nat → Int32)}  (C : Cx p s m args c b_Writer_takeWeights 4 "PrefixMill$Writer" D [(cI, .int), (cL, .long), (cZ, .boolean)] A) (hret : E_Writer_takeWeights p l e s m args below meth c Q A D cI cL cZ a_this a_weights a_counts a_p1 a_p1_lengths o_five o_six o_p1_values o_p1_cells i_p1_greatest i_p1_known i_p1_highest v_p1_lengths l2 res)  : ∀ z : Nat, I_Writer_takeWeights_b10 p l e s m args below meth c Q A D cI cL cZ a_this a_weights a_counts a_p1 a_p1_lengths o_five o_six o_p1_values o_p1_cells i_p1_greatest i_p1_known i_p1_highest v_p1_lengths l2 res (f_Writer_takeWeights_b10 N i_p1_greatest v_p1_lengths l2  z) := by
  obtain ⟨hx, hb, hml, hown, hts, hK, hA⟩ := C
  intro z
  induction z with
  | zero => intro l3 v_weights v_counts h; cases h
  | succ z ih =>
    intro l3 v_weights v_counts h H locs ls hl hP hD hS
    refine lv_iload_n hx hb d_Writer_takeWeights_10 rfl (lv_at hl 3 rfl) ?_
    refine lv_iload_n hx hb d_Writer_takeWeights_11 rfl (lv_at hl 2 rfl) ?_
    refine lv_icmp_ge (tgt := 47) hx hb d_Writer_takeWeights_12 (by decide) (fun c_1 => ?_) (fun c_1 => ?_)
    · replace h := if_t h c_1
      exact hret _ _ _ _ v_weights v_counts h d_Writer_takeWeights_47 hP hD hS
    · replace h := if_f h c_1
      refine lv_aload_n hx hb d_Writer_takeWeights_15 rfl (lv_at hl 0 rfl) ?_
      refine va_get hx hb hts in_Writer hown hK hP 0 rfl rfl 2 (by decide) (hts _ m_267) (fun _ h9 => h9) rfl d_Writer_takeWeights_16 ?_
      refine lv_iload_n hx hb d_Writer_takeWeights_19 rfl (lv_at hl 3 rfl) ?_
      refine lv_aload_n hx hb d_Writer_takeWeights_20 rfl (lv_at hl 1 rfl) ?_
      refine lv_iload_n hx hb d_Writer_takeWeights_21 rfl (lv_at hl 3 rfl) ?_
      obtain ⟨r_2, hc_3, h⟩ := bd1_s h
      have hPc := hP.sub (ws' := [(a_p1, .inr (2, [.ref a_p1_lengths, .ref o_p1_values, .ref o_p1_cells, .int i_p1_greatest, .int i_p1_known, .int i_p1_highest])), (a_p1_lengths, .inl (cI, 256, .inl v_p1_lengths))]) [3, 4] rfl
      have hDc := hD.sub (ws' := [(a_p1, .inr (2, [.ref a_p1_lengths, .ref o_p1_values, .ref o_p1_cells, .int i_p1_greatest, .int i_p1_known, .int i_p1_highest])), (a_p1_lengths, .inl (cI, 256, .inl v_p1_lengths))]) [3, 4] (by decide) rfl
      have hFc := va_free (wc := [(a_p1, .inr (2, [.ref a_p1_lengths, .ref o_p1_values, .ref o_p1_cells, .int i_p1_greatest, .int i_p1_known, .int i_p1_highest])), (a_p1_lengths, .inl (cI, 256, .inl v_p1_lengths))]) hD hS hA [3, 4] rfl
      refine va_calli (va_runV (As := [.int l3]) (rest := [.int l3, .ref a_weights]) ⟨hx, hb, hml, hown, hts⟩ (c_Codes_weightOf l D cI cL cZ H.size N a_p1 a_p1_lengths o_p1_values o_p1_cells i_p1_greatest i_p1_known i_p1_highest v_p1_lengths l3 r_2 hc_3) ⟨(my_cb 1 hts m_516 rfl rfl (hts _ m_68) (hts _ m_513) (by decide +kernel) ⟨Nat.le_of_ble_eq_true rfl, Nat.le_of_ble_eq_true rfl⟩), hts _ m_514, hts _ m_515⟩ ⟨fun a U g mk q => by obtain ⟨q0, q1, qP, qK, qD⟩ := q; exact ⟨q0, q1, qP, va_K.moved (u := U) (U := U.calling g mk a) (Vm.Alike.refl U.vm) qK, qD⟩, va_recv hK hPc (ci := 2) (q0 := 0) rfl rfl, fun U hU hW => ⟨rfl, by rw [hU], by rw [hU]; exact hPc, va_K.moved hW.alike hK, hDc.weaken (fun _ _ _ _ => trivial)⟩⟩ rfl rfl hl.1 rfl (lv_room (Nat.le_of_ble_eq_true rfl)) d_Writer_takeWeights_22 ⟨Nat.zero_le _, Nat.zero_le _⟩) hS (fun q _ h => hFc q h) hFc (fun rr u t H1 locs ht hvm hw hB hz1 hk1 hS => ?_)
      obtain ⟨hP1, hK1, hD1⟩ := hB
      rw [ht] at hP1
      subst hw
      obtain ⟨hP, hD⟩ := va_join (wr := [(a_this, .inr (10, [.ref o_five, .ref o_six, .ref a_weights, .ref a_counts])), (a_weights, .inl (cI, 256, .inl v_weights)), (a_counts, .inl (cI, 12, .inl v_counts))]) (w1 := [(a_p1, .inr (2, [.ref a_p1_lengths, .ref o_p1_values, .ref o_p1_cells, .int i_p1_greatest, .int i_p1_known, .int i_p1_highest])), (a_p1_lengths, .inl (cI, 256, .inl v_p1_lengths))]) hP hD [3, 4] [0, 1, 2] rfl rfl (by decide) (by decide) hk1 hFc hP1 hD1
      clear hPc hDc hFc hk1 hP1 hD1 hK1
      generalize H1 = H at hP hS ⊢
      have hP : va_P D classes [(a_this, .inr (10, [.ref o_five, .ref o_six, .ref a_weights, .ref a_counts])), (a_weights, .inl (cI, 256, .inl v_weights)), (a_counts, .inl (cI, 12, .inl v_counts)), (a_p1, .inr (2, [.ref a_p1_lengths, .ref o_p1_values, .ref o_p1_cells, .int i_p1_greatest, .int i_p1_known, .int i_p1_highest])), (a_p1_lengths, .inl (cI, 256, .inl v_p1_lengths))] H := hP.sub [0, 1, 2, 3, 4] rfl
      have hD : va_D A [(a_this, .inr (10, [.ref o_five, .ref o_six, .ref a_weights, .ref a_counts])), (a_weights, .inl (cI, 256, .inl v_weights)), (a_counts, .inl (cI, 12, .inl v_counts)), (a_p1, .inr (2, [.ref a_p1_lengths, .ref o_p1_values, .ref o_p1_cells, .int i_p1_greatest, .int i_p1_known, .int i_p1_highest])), (a_p1_lengths, .inl (cI, 256, .inl v_p1_lengths))] := hD.sub [0, 1, 2, 3, 4] (by decide) rfl
      obtain ⟨g_4, h⟩ := ck_s h
      refine va_iast hx hb hK hP hD hS 1 0 rfl rfl (inb_s g_4) d_Writer_takeWeights_25 (fun H locs hP hD hS => ?_)
      obtain ⟨v_weights_5, ev_weights_5⟩ : ∃ y, y = (upd v_weights (Int32.toNatClampNeg l3) r_2) := ⟨_, rfl⟩
      replace h := nm_s h ev_weights_5
      have hP : va_P D classes [(a_this, .inr (10, [.ref o_five, .ref o_six, .ref a_weights, .ref a_counts])), (a_weights, .inl (cI, 256, .inl v_weights_5)), (a_counts, .inl (cI, 12, .inl v_counts)), (a_p1, .inr (2, [.ref a_p1_lengths, .ref o_p1_values, .ref o_p1_cells, .int i_p1_greatest, .int i_p1_known, .int i_p1_highest])), (a_p1_lengths, .inl (cI, 256, .inl v_p1_lengths))] H := by rw [ev_weights_5]; exact hP
      have hD : va_D A [(a_this, .inr (10, [.ref o_five, .ref o_six, .ref a_weights, .ref a_counts])), (a_weights, .inl (cI, 256, .inl v_weights_5)), (a_counts, .inl (cI, 12, .inl v_counts)), (a_p1, .inr (2, [.ref a_p1_lengths, .ref o_p1_values, .ref o_p1_cells, .int i_p1_greatest, .int i_p1_known, .int i_p1_highest])), (a_p1_lengths, .inl (cI, 256, .inl v_p1_lengths))] := by rw [ev_weights_5]; exact hD
      refine lv_aload_n hx hb d_Writer_takeWeights_26 rfl (lv_at hl 0 rfl) ?_
      refine va_get hx hb hts in_Writer hown hK hP 0 rfl rfl 3 (by decide) (hts _ m_268) (fun _ h9 => h9) rfl d_Writer_takeWeights_27 ?_
      refine lv_aload_n hx hb d_Writer_takeWeights_30 rfl (lv_at hl 0 rfl) ?_
      refine va_get hx hb hts in_Writer hown hK hP 0 rfl rfl 2 (by decide) (hts _ m_267) (fun _ h9 => h9) rfl d_Writer_takeWeights_31 ?_
      refine lv_iload_n hx hb d_Writer_takeWeights_34 rfl (lv_at hl 3 rfl) ?_
      obtain ⟨g_6, h⟩ := ck_s h
      refine va_iald hx hb hK hP 1 0 rfl rfl (inb_s g_6) d_Writer_takeWeights_35 ?_
      refine lv_dup2_11 hx hb d_Writer_takeWeights_36 rfl rfl ?_
      obtain ⟨g_7, h⟩ := ck_s h
      refine va_iald hx hb hK hP 2 0 rfl rfl (inb_s g_7) d_Writer_takeWeights_37 ?_
      refine lv_iconst (v := 1) hx hb d_Writer_takeWeights_38 (by decide) ?_
      refine lv_iadd hx hb d_Writer_takeWeights_39 ?_
      obtain ⟨g_8, h⟩ := ck_s h
      refine va_iast hx hb hK hP hD hS 2 0 rfl rfl (inb_s g_8) d_Writer_takeWeights_40 (fun H locs hP hD hS => ?_)
      obtain ⟨v_counts_9, ev_counts_9⟩ : ∃ y, y = (upd v_counts (Int32.toNatClampNeg (v_weights_5 (Int32.toNatClampNeg l3))) ((v_counts (Int32.toNatClampNeg (v_weights_5 (Int32.toNatClampNeg l3)))) + 1)) := ⟨_, rfl⟩
      replace h := nm_s h ev_counts_9
      have hP : va_P D classes [(a_this, .inr (10, [.ref o_five, .ref o_six, .ref a_weights, .ref a_counts])), (a_weights, .inl (cI, 256, .inl v_weights_5)), (a_counts, .inl (cI, 12, .inl v_counts_9)), (a_p1, .inr (2, [.ref a_p1_lengths, .ref o_p1_values, .ref o_p1_cells, .int i_p1_greatest, .int i_p1_known, .int i_p1_highest])), (a_p1_lengths, .inl (cI, 256, .inl v_p1_lengths))] H := by rw [ev_counts_9]; exact hP
      have hD : va_D A [(a_this, .inr (10, [.ref o_five, .ref o_six, .ref a_weights, .ref a_counts])), (a_weights, .inl (cI, 256, .inl v_weights_5)), (a_counts, .inl (cI, 12, .inl v_counts_9)), (a_p1, .inr (2, [.ref a_p1_lengths, .ref o_p1_values, .ref o_p1_cells, .int i_p1_greatest, .int i_p1_known, .int i_p1_highest])), (a_p1_lengths, .inl (cI, 256, .inl v_p1_lengths))] := by rw [ev_counts_9]; exact hD
      obtain ⟨l3_10, el3_10⟩ : ∃ y : Int32, y = l3 + 1 := ⟨_, rfl⟩
      replace h := nm_s h el3_10
      refine lv_iinc (v := l3_10) (lv' := [(3, .int l3_10), (0, .ref a_this), (1, .ref a_p1), (2, .int l2)]) hx hb d_Writer_takeWeights_41 hl (k := 3) rfl (by rw [el3_10]; rfl) (by decide) rfl (fun ls hl => ?_)
      refine lv_goto (tgt := 10) hx hb d_Writer_takeWeights_44 (by decide) ?_
      exact ih _ _ _ h H locs ls (lv_sub hl [1, 2, 3, 0] rfl) hP hD hS
set_option maxHeartbeats 4000000 in
set_option maxRecDepth 100000 in
theorem w_Writer_takeWeights_b0 {p : Program} {l : Launch} {e : Env} {s : State} {m : MethodId} {args : Array Value} {below : List Frame} {meth : Method} {c : Code} {Q : State → Prop} {A : Nat → Prop} {D : va_G} {cI cL cZ : ClassId} {a_this : Nat} {a_weights : Nat} {a_counts : Nat} {a_p1 : Nat} {a_p1_lengths : Nat} {o_five : Nat} {o_six : Nat} {o_p1_values : Nat} {o_p1_cells : Nat} {i_p1_greatest : Int32} {i_p1_known : Int32} {i_p1_highest : Int32} {v_p1_lengths : Nat → Int32} {l2 : Int32} {N : Nat} {res : (Nat → Int32) × (Nat → Int32)}  (C : Cx p s m args c b_Writer_takeWeights 4 "PrefixMill$Writer" D [(cI, .int), (cL, .long), (cZ, .boolean)] A) (hret : E_Writer_takeWeights p l e s m args below meth c Q A D cI cL cZ a_this a_weights a_counts a_p1 a_p1_lengths o_five o_six o_p1_values o_p1_cells i_p1_greatest i_p1_known i_p1_highest v_p1_lengths l2 res)  : I_Writer_takeWeights_b0 p l e s m args below meth c Q A D cI cL cZ a_this a_weights a_counts a_p1 a_p1_lengths o_five o_six o_p1_values o_p1_cells i_p1_greatest i_p1_known i_p1_highest v_p1_lengths l2 res (f_Writer_takeWeights N i_p1_greatest v_p1_lengths l2 ) := by
  obtain ⟨hx, hb, hml, hown, hts, hK, hA⟩ := C
  intro v_weights v_counts h H locs ls hl hP hD hS
  unfold f_Writer_takeWeights at h
  refine lv_aload_n hx hb d_Writer_takeWeights_0 rfl (lv_at hl 0 rfl) ?_
  refine va_get hx hb hts in_Writer hown hK hP 0 rfl rfl 3 (by decide) (hts _ m_268) (fun _ h9 => h9) rfl d_Writer_takeWeights_1 ?_
  refine lv_iconst (v := 0) hx hb d_Writer_takeWeights_4 (by decide) ?_
  obtain ⟨v_counts_1, hc_2, h⟩ := bd1_s h
  have hPc := hP.sub (ws' := [(a_counts, .inl (cI, 12, .inl v_counts))]) [2] rfl
  have hDc := hD.sub (ws' := [(a_counts, .inl (cI, 12, .inl v_counts))]) [2] (by decide) rfl
  have hFc := va_free (wc := [(a_counts, .inl (cI, 12, .inl v_counts))]) hD hS hA [2] rfl
  refine va_callv (va_runS (As := [.ref a_counts, .int 0]) (rest := []) ⟨hx, hb, hml, hown, hts⟩ (c_JArr_fill l D cI cL cZ H.size N a_counts 12 v_counts 0 v_counts_1 hc_2) ⟨(my_cb 2 hts m_410 rfl rfl (hts _ m_79) (hts _ m_512) (by decide +kernel) ⟨Nat.le_of_ble_eq_true rfl, Nat.le_of_ble_eq_true rfl⟩), hts _ m_409⟩ ⟨fun a U g mk q => by obtain ⟨q0, q1, qP, qK, qD⟩ := q; exact ⟨q0, q1, qP, va_K.moved (u := U) (U := U.calling g mk a) (Vm.Alike.refl U.vm) qK, qD⟩, fun U hU hW => ⟨rfl, by rw [hU], by rw [hU]; exact hPc, va_K.moved hW.alike hK, hDc.weaken (fun _ _ _ _ => trivial)⟩⟩ rfl rfl hl.1 rfl (lv_room (Nat.le_of_ble_eq_true rfl)) d_Writer_takeWeights_5 ⟨Nat.zero_le _, Nat.zero_le _⟩) hS (fun q _ h => hFc q h) hFc (fun u t H1 locs ht hvm hw hB hz1 hk1 hS => ?_)
  obtain ⟨hP1, hK1, hD1⟩ := hB
  rw [ht] at hP1
  obtain ⟨hP, hD⟩ := va_join (wr := [(a_this, .inr (10, [.ref o_five, .ref o_six, .ref a_weights, .ref a_counts])), (a_weights, .inl (cI, 256, .inl v_weights)), (a_p1, .inr (2, [.ref a_p1_lengths, .ref o_p1_values, .ref o_p1_cells, .int i_p1_greatest, .int i_p1_known, .int i_p1_highest])), (a_p1_lengths, .inl (cI, 256, .inl v_p1_lengths))]) (w1 := [(a_counts, .inl (cI, 12, .inl v_counts_1))]) hP hD [2] [0, 1, 3, 4] rfl rfl (by decide) (by decide) hk1 hFc hP1 hD1
  clear hPc hDc hFc hk1 hP1 hD1 hK1
  generalize H1 = H at hP hS ⊢
  have hP : va_P D classes [(a_this, .inr (10, [.ref o_five, .ref o_six, .ref a_weights, .ref a_counts])), (a_weights, .inl (cI, 256, .inl v_weights)), (a_counts, .inl (cI, 12, .inl v_counts_1)), (a_p1, .inr (2, [.ref a_p1_lengths, .ref o_p1_values, .ref o_p1_cells, .int i_p1_greatest, .int i_p1_known, .int i_p1_highest])), (a_p1_lengths, .inl (cI, 256, .inl v_p1_lengths))] H := hP.sub [0, 1, 4, 2, 3] rfl
  have hD : va_D A [(a_this, .inr (10, [.ref o_five, .ref o_six, .ref a_weights, .ref a_counts])), (a_weights, .inl (cI, 256, .inl v_weights)), (a_counts, .inl (cI, 12, .inl v_counts_1)), (a_p1, .inr (2, [.ref a_p1_lengths, .ref o_p1_values, .ref o_p1_cells, .int i_p1_greatest, .int i_p1_known, .int i_p1_highest])), (a_p1_lengths, .inl (cI, 256, .inl v_p1_lengths))] := hD.sub [0, 1, 4, 2, 3] (by decide) rfl
  refine lv_iconst (v := 0) hx hb d_Writer_takeWeights_8 (by decide) ?_
  refine lv_istore_n (lv' := [(3, .int 0), (0, .ref a_this), (1, .ref a_p1), (2, .int l2)]) hx hb d_Writer_takeWeights_9 rfl hl (by decide) rfl (fun ls hl => ?_)
  exact w_Writer_takeWeights_b10 ⟨hx, hb, hml, hown, hts, hK, hA⟩ hret  N _ _ _ h H locs ls (lv_sub hl [1, 2, 3, 0] rfl) hP hD hS
set_option maxHeartbeats 4000000 in
set_option maxRecDepth 100000 in
theorem c_Writer_takeWeights (l : Launch) (D : va_G) (cI cL cZ : ClassId) (sz N : Nat) (a_this : Nat) (a_weights : Nat) (a_counts : Nat) (a_p1 : Nat) (a_p1_lengths : Nat) (o_five : Nat) (o_six : Nat) (o_p1_values : Nat) (o_p1_cells : Nat) (v_weights : Nat → Int32) (v_counts : Nat → Int32) (i_p1_greatest : Int32) (i_p1_known : Int32) (i_p1_highest : Int32) (v_p1_lengths : Nat → Int32) (l2 : Int32) (v_weights' : Nat → Int32) (v_counts' : Nat → Int32) (h : f_Writer_takeWeights N i_p1_greatest v_p1_lengths l2 v_weights v_counts = some (v_weights', v_counts')) : Met l ({ cls := "PrefixMill$Writer", name := "takeWeights", desc := "(LPrefixMill$Codes;I)V" } : Jvm.MethodName) ws_Writer_takeWeights R_Writer_takeWeights (va_Pc [.ref a_this, .ref a_p1, .int l2] (fun U => U.heap.size = sz ∧ va_P D classes [(a_this, .inr (10, [.ref o_five, .ref o_six, .ref a_weights, .ref a_counts])), (a_weights, .inl (cI, 256, .inl v_weights)), (a_counts, .inl (cI, 12, .inl v_counts)), (a_p1, .inr (2, [.ref a_p1_lengths, .ref o_p1_values, .ref o_p1_cells, .int i_p1_greatest, .int i_p1_known, .int i_p1_highest])), (a_p1_lengths, .inl (cI, 256, .inl v_p1_lengths))] U.heap ∧ va_K D classes [(cI, .int), (cL, .long), (cZ, .boolean)] U ∧ va_D (fun _ => True) [(a_this, .inr (10, [.ref o_five, .ref o_six, .ref a_weights, .ref a_counts])), (a_weights, .inl (cI, 256, .inl v_weights)), (a_counts, .inl (cI, 12, .inl v_counts)), (a_p1, .inr (2, [.ref a_p1_lengths, .ref o_p1_values, .ref o_p1_cells, .int i_p1_greatest, .int i_p1_known, .int i_p1_highest])), (a_p1_lengths, .inl (cI, 256, .inl v_p1_lengths))])) (va_Qv (fun _ : Unit => True) (fun _ t => va_P D classes [(a_this, .inr (10, [.ref o_five, .ref o_six, .ref a_weights, .ref a_counts])), (a_weights, .inl (cI, 256, .inl v_weights')), (a_counts, .inl (cI, 12, .inl v_counts')), (a_p1, .inr (2, [.ref a_p1_lengths, .ref o_p1_values, .ref o_p1_cells, .int i_p1_greatest, .int i_p1_known, .int i_p1_highest])), (a_p1_lengths, .inl (cI, 256, .inl v_p1_lengths))] t.heap ∧ va_K D classes [(cI, .int), (cL, .long), (cZ, .boolean)] t ∧ va_D (va_A [(a_this, .inr (10, [.ref o_five, .ref o_six, .ref a_weights, .ref a_counts])), (a_weights, .inl (cI, 256, .inl v_weights)), (a_counts, .inl (cI, 12, .inl v_counts)), (a_p1, .inr (2, [.ref a_p1_lengths, .ref o_p1_values, .ref o_p1_cells, .int i_p1_greatest, .int i_p1_known, .int i_p1_highest])), (a_p1_lengths, .inl (cI, 256, .inl v_p1_lengths))] sz) [(a_this, .inr (10, [.ref o_five, .ref o_six, .ref a_weights, .ref a_counts])), (a_weights, .inl (cI, 256, .inl v_weights')), (a_counts, .inl (cI, 12, .inl v_counts')), (a_p1, .inr (2, [.ref a_p1_lengths, .ref o_p1_values, .ref o_p1_cells, .int i_p1_greatest, .int i_p1_known, .int i_p1_highest])), (a_p1_lengths, .inl (cI, 256, .inl v_p1_lengths))]) (va_A [(a_this, .inr (10, [.ref o_five, .ref o_six, .ref a_weights, .ref a_counts])), (a_weights, .inl (cI, 256, .inl v_weights)), (a_counts, .inl (cI, 12, .inl v_counts)), (a_p1, .inr (2, [.ref a_p1_lengths, .ref o_p1_values, .ref o_p1_cells, .int i_p1_greatest, .int i_p1_known, .int i_p1_highest])), (a_p1_lengths, .inl (cI, 256, .inl v_p1_lengths))] sz)) 0 0 (va_A [(a_this, .inr (10, [.ref o_five, .ref o_six, .ref a_weights, .ref a_counts])), (a_weights, .inl (cI, 256, .inl v_weights)), (a_counts, .inl (cI, 12, .inl v_counts)), (a_p1, .inr (2, [.ref a_p1_lengths, .ref o_p1_values, .ref o_p1_cells, .int i_p1_greatest, .int i_p1_known, .int i_p1_highest])), (a_p1_lengths, .inl (cI, 256, .inl v_p1_lengths))] sz) := by
  refine Met.ofW (cc := b_Writer_takeWeights) (maxL := 4) (ret := none) (by decide) rfl ?_
  intro p e s m args below meth c s₁ B hml hv
  obtain ⟨rfl, hsz, hP, hK, hD0⟩ := hv
  have hx := B.exec
  have hb := B.bytes
  have hr := B.returns
  have hts0 := atoms_spec (ws := ws_Writer_takeWeights) B.pre
  have hts := gd_tl hts0
  clear hts0
  have hown : s.vm.findClass "PrefixMill$Writer" = some m.cls := findClass_of_methodNamed B.named
  have hlocks := B.notSynchronized
  subst hsz
  have hD := hD0.self (sz := s.heap.size)
  generalize hAe : va_A [(a_this, .inr (10, [.ref o_five, .ref o_six, .ref a_weights, .ref a_counts])), (a_weights, .inl (cI, 256, .inl v_weights)), (a_counts, .inl (cI, 12, .inl v_counts)), (a_p1, .inr (2, [.ref a_p1_lengths, .ref o_p1_values, .ref o_p1_cells, .int i_p1_greatest, .int i_p1_known, .int i_p1_highest])), (a_p1_lengths, .inl (cI, 256, .inl v_p1_lengths))] s.heap.size = A at hD ⊢
  have hA : ∀ q : Nat, s.heap.size ≤ q → A q := fun q h => by rw [← hAe]; exact Or.inr h
  have hS : va_S A s.heap s.heap [] := va_S.rf
  have hP : va_P D classes [(a_this, .inr (10, [.ref o_five, .ref o_six, .ref a_weights, .ref a_counts])), (a_weights, .inl (cI, 256, .inl v_weights)), (a_counts, .inl (cI, 12, .inl v_counts)), (a_p1, .inr (2, [.ref a_p1_lengths, .ref o_p1_values, .ref o_p1_cells, .int i_p1_greatest, .int i_p1_known, .int i_p1_highest])), (a_p1_lengths, .inl (cI, 256, .inl v_p1_lengths))] s.heap := hP
  have hl := lv_entry ([.ref a_this, .ref a_p1, .int l2]) (n := 4) (Nat.le_of_ble_eq_true rfl)
  rw [lg_entry_eq]
  generalize (lg_sl ([.ref a_this, .ref a_p1, .int l2]) ++ List.replicate (4 - (lg_sl ([.ref a_this, .ref a_p1, .int l2])).length) Slot.unset).toArray = ls at hl ⊢
  have hl : lv_has ls 4 [(0, .ref a_this), (1, .ref a_p1), (2, .int l2)] := hl
  have C : Cx p s m ([.ref a_this, .ref a_p1, .int l2] : List Value).toArray c b_Writer_takeWeights 4 "PrefixMill$Writer" D [(cI, .int), (cL, .long), (cZ, .boolean)] A := ⟨hx, hb, hml, hown, hts, hK, hA⟩
  refine w_Writer_takeWeights_b0 (res := (v_weights', v_counts')) C ?_ _ _ h s.heap [] ls hl hP hD hS
  intro pc9 H9 locs9 ls9 v_weights9 v_counts9 e9 d9 hP9 hD9 hS9
  cases e9
  exact W.vret hx hb hr (fun t ht hW => ⟨⟨(), rfl, trivial, by rw [ht]; exact hP9, va_K.moved hW.alike hK, hD9⟩, hS9.F ht⟩) hS9.2.2 d9
