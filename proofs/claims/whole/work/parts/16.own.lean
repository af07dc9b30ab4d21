abbrev b_PM_just : ByteArray := prog_1_method_11_code
def ws_PM_just : List Cond := .code ({ cls := "PrefixMill", name := "just", desc := "()I" } : Jvm.MethodName) b_PM_just 1 (some .int) :: tt
theorem d_PM_just_0 : decode b_PM_just 0 = .ok (.aload_n 0, 1) := by decide +kernel
theorem d_PM_just_1 : decode b_PM_just 1 = .ok (.getfield 21, 3) := by decide +kernel
theorem d_PM_just_4 : decode b_PM_just 4 = .ok (.invokestatic 105, 3) := by decide +kernel
theorem d_PM_just_7 : decode b_PM_just 7 = .ok (.ifCond .eq 17, 3) := by decide +kernel
theorem d_PM_just_10 : decode b_PM_just 10 = .ok (.aload_n 0, 1) := by decide +kernel
theorem d_PM_just_11 : decode b_PM_just 11 = .ok (.getfield 28, 3) := by decide +kernel
theorem d_PM_just_14 : decode b_PM_just 14 = .ok (.aload_n 0, 1) := by decide +kernel
theorem d_PM_just_15 : decode b_PM_just 15 = .ok (.getfield 21, 3) := by decide +kernel
theorem d_PM_just_18 : decode b_PM_just 18 = .ok (.invokevirtual 102, 3) := by decide +kernel
theorem d_PM_just_21 : decode b_PM_just 21 = .ok (.goto 4, 3) := by decide +kernel
theorem d_PM_just_24 : decode b_PM_just 24 = .ok (.iconst (-1), 1) := by decide +kernel
theorem d_PM_just_25 : decode b_PM_just 25 = .ok (.ireturn, 1) := by decide +kernel
abbrev R_PM_just : Room := ({ frames := 4, cells := 0, slots := 0, locals := 91 } : Room)
def E_PM_just (p : Program) (l : Launch) (e : Env) (s : State) (m : MethodId) (args : Array Value) (below : List Frame) (meth : Method) (c : Code) (Q : State → Prop) (A : Nat → Prop) (D : va_G) (cI cL cZ : ClassId) (a_this : Nat) (a_counts : Nat) (a_codes : Nat) (a_codes_lengths : Nat) (a_codes_values : Nat) (a_codes_cells : Nat) (o_in : Nat) (o_out : Nat) (o_tree : Nat) (o_writer : Nat) (o_reader : Nat) (o_streams : Nat) (i_place : Int32) (v_counts : Nat → Int32) (res : Int32 × Int32 × Int32 × Int32 × (Nat → Int32) × (Nat → Int32) × (Nat → Int32)) : Prop := ∀ (pc : Nat) (H : Heap) (locs : List Loc) (ls : Array Slot) (rv : Int32) (i_codes_greatest : Int32) (i_codes_known : Int32) (i_codes_highest : Int32) (v_codes_lengths : Nat → Int32) (v_codes_values : Nat → Int32) (v_codes_cells : Nat → Int32), some (rv, i_codes_greatest, i_codes_known, i_codes_highest, v_codes_lengths, v_codes_values, v_codes_cells) = some res → decode b_PM_just pc = .ok (.ireturn, 1) → va_P D classes [(a_this, .inr (0, [.ref o_in, .ref o_out, .ref a_counts, .ref a_codes, .ref o_tree, .ref o_writer, .ref o_reader, .ref o_streams, .int i_place])), (a_counts, .inl (cI, 256, .inl v_counts)), (a_codes, .inr (2, [.ref a_codes_lengths, .ref a_codes_values, .ref a_codes_cells, .int i_codes_greatest, .int i_codes_known, .int i_codes_highest])), (a_codes_lengths, .inl (cI, 256, .inl v_codes_lengths)), (a_codes_values, .inl (cI, 256, .inl v_codes_values)), (a_codes_cells, .inl (cI, 2048, .inl v_codes_cells))] H → va_D A [(a_this, .inr (0, [.ref o_in, .ref o_out, .ref a_counts, .ref a_codes, .ref o_tree, .ref o_writer, .ref o_reader, .ref o_streams, .int i_place])), (a_counts, .inl (cI, 256, .inl v_counts)), (a_codes, .inr (2, [.ref a_codes_lengths, .ref a_codes_values, .ref a_codes_cells, .int i_codes_greatest, .int i_codes_known, .int i_codes_highest])), (a_codes_lengths, .inl (cI, 256, .inl v_codes_lengths)), (a_codes_values, .inl (cI, 256, .inl v_codes_values)), (a_codes_cells, .inl (cI, 2048, .inl v_codes_cells))] → va_S A s.heap H locs → W p l e R_PM_just s m args below meth c H locs 0 0 Q (F0 m pc ls [.int rv])
def I_PM_just_b0 (p : Program) (l : Launch) (e : Env) (s : State) (m : MethodId) (args : Array Value) (below : List Frame) (meth : Method) (c : Code) (Q : State → Prop) (A : Nat → Prop) (D : va_G) (cI cL cZ : ClassId) (a_this : Nat) (a_counts : Nat) (a_codes : Nat) (a_codes_lengths : Nat) (a_codes_values : Nat) (a_codes_cells : Nat) (o_in : Nat) (o_out : Nat) (o_tree : Nat) (o_writer : Nat) (o_reader : Nat) (o_streams : Nat) (i_place : Int32) (v_counts : Nat → Int32) (res : Int32 × Int32 × Int32 × Int32 × (Nat → Int32) × (Nat → Int32) × (Nat → Int32)) (kf : Int32 → Int32 → Int32 → (Nat → Int32) → (Nat → Int32) → (Nat → Int32) → Option (Int32 × Int32 × Int32 × Int32 × (Nat → Int32) × (Nat → Int32) × (Nat → Int32))) : Prop := ∀ (i_codes_greatest : Int32) (i_codes_known : Int32) (i_codes_highest : Int32) (v_codes_lengths : Nat → Int32) (v_codes_values : Nat → Int32) (v_codes_cells : Nat → Int32), kf i_codes_greatest i_codes_known i_codes_highest v_codes_lengths v_codes_values v_codes_cells = some res → ∀ (H : Heap) (locs : List Loc) (ls : Array Slot), lv_has ls 1 [(0, .ref a_this)] → va_P D classes [(a_this, .inr (0, [.ref o_in, .ref o_out, .ref a_counts, .ref a_codes, .ref o_tree, .ref o_writer, .ref o_reader, .ref o_streams, .int i_place])), (a_counts, .inl (cI, 256, .inl v_counts)), (a_codes, .inr (2, [.ref a_codes_lengths, .ref a_codes_values, .ref a_codes_cells, .int i_codes_greatest, .int i_codes_known, .int i_codes_highest])), (a_codes_lengths, .inl (cI, 256, .inl v_codes_lengths)), (a_codes_values, .inl (cI, 256, .inl v_codes_values)), (a_codes_cells, .inl (cI, 2048, .inl v_codes_cells))] H → va_D A [(a_this, .inr (0, [.ref o_in, .ref o_out, .ref a_counts, .ref a_codes, .ref o_tree, .ref o_writer, .ref o_reader, .ref o_streams, .int i_place])), (a_counts, .inl (cI, 256, .inl v_counts)), (a_codes, .inr (2, [.ref a_codes_lengths, .ref a_codes_values, .ref a_codes_cells, .int i_codes_greatest, .int i_codes_known, .int i_codes_highest])), (a_codes_lengths, .inl (cI, 256, .inl v_codes_lengths)), (a_codes_values, .inl (cI, 256, .inl v_codes_values)), (a_codes_cells, .inl (cI, 2048, .inl v_codes_cells))] → va_S A s.heap H locs → W p l e R_PM_just s m args below meth c H locs 0 0 Q (F0 m 0 ls [])
set_option maxHeartbeats 4000000 in
set_option maxRecDepth 100000 in
theorem w_PM_just_b0 {p : Program} {l : Launch} {e : Env} {s : State} {m : MethodId} {args : Array Value} {below : List Frame} {meth : Method} {c : Code} {Q : State → Prop} {A : Nat → Prop} {D : va_G} {cI cL cZ : ClassId} {a_this : Nat} {a_counts : Nat} {a_codes : Nat} {a_codes_lengths : Nat} {a_codes_values : Nat} {a_codes_cells : Nat} {o_in : Nat} {o_out : Nat} {o_tree : Nat} {o_writer : Nat} {o_reader : Nat} {o_streams : Nat} {i_place : Int32} {v_counts : Nat → Int32} {N : Nat} {res : Int32 × Int32 × Int32 × Int32 × (Nat → Int32) × (Nat → Int32) × (Nat → Int32)}  (C : Cx p s m args c b_PM_just 1 "PrefixMill" D [(cI, .int), (cL, .long), (cZ, .boolean)] A) (hret : E_PM_just p l e s m args below meth c Q A D cI cL cZ a_this a_counts a_codes a_codes_lengths a_codes_values a_codes_cells o_in o_out o_tree o_writer o_reader o_streams i_place v_counts res)  : I_PM_just_b0 p l e s m args below meth c Q A D cI cL cZ a_this a_counts a_codes a_codes_lengths a_codes_values a_codes_cells o_in o_out o_tree o_writer o_reader o_streams i_place v_counts res (f_PM_just N v_counts ) := by
  obtain ⟨hx, hb, hml, hown, hts, hK, hA⟩ := C
  intro i_codes_greatest i_codes_known i_codes_highest v_codes_lengths v_codes_values v_codes_cells h H locs ls hl hP hD hS
  unfold f_PM_just at h
  refine lv_aload_n hx hb d_PM_just_0 rfl (lv_at hl 0 rfl) ?_
  refine va_get hx hb hts in_PM hown hK hP 0 rfl rfl 2 (by decide) (hts _ m_342) (fun _ h9 => h9) rfl d_PM_just_1 ?_
  obtain ⟨r_1, hc_2, h⟩ := bd1_s h
  have hPc := hP.sub (ws' := [(a_counts, .inl (cI, 256, .inl v_counts))]) [1] rfl
  have hDc := hD.sub (ws' := [(a_counts, .inl (cI, 256, .inl v_counts))]) [1] (by decide) rfl
  have hFc := va_free (wc := [(a_counts, .inl (cI, 256, .inl v_counts))]) hD hS hA [1] rfl
  refine va_calli (va_runS (As := [.ref a_counts]) (rest := []) ⟨hx, hb, hml, hown, hts⟩ (c_PM_areLengths l D cI cL cZ H.size N a_counts 256 v_counts r_1 hc_2) ⟨(my_cb 1 hts m_494 rfl rfl (hts _ m_66) (hts _ m_492) (by decide +kernel) ⟨Nat.le_of_ble_eq_true rfl, Nat.le_of_ble_eq_true rfl⟩), hts _ m_493⟩ ⟨fun a U g mk q => by obtain ⟨q0, q1, qP, qK, qD⟩ := q; exact ⟨q0, q1, qP, va_K.moved (u := U) (U := U.calling g mk a) (Vm.Alike.refl U.vm) qK, qD⟩, fun U hU hW => ⟨rfl, by rw [hU], by rw [hU]; exact hPc, va_K.moved hW.alike hK, hDc.weaken (fun _ _ _ _ => trivial)⟩⟩ rfl rfl hl.1 rfl (lv_room (Nat.le_of_ble_eq_true rfl)) d_PM_just_4 ⟨Nat.zero_le _, Nat.zero_le _⟩) hS (fun q _ h => hFc q h) hFc (fun rr u t H1 locs ht hvm hw hB hz1 hk1 hS => ?_)
  obtain ⟨hP1, hK1, hD1⟩ := hB
  rw [ht] at hP1
  subst hw
  obtain ⟨hP, hD⟩ := va_join (wr := [(a_this, .inr (0, [.ref o_in, .ref o_out, .ref a_counts, .ref a_codes, .ref o_tree, .ref o_writer, .ref o_reader, .ref o_streams, .int i_place])), (a_codes, .inr (2, [.ref a_codes_lengths, .ref a_codes_values, .ref a_codes_cells, .int i_codes_greatest, .int i_codes_known, .int i_codes_highest])), (a_codes_lengths, .inl (cI, 256, .inl v_codes_lengths)), (a_codes_values, .inl (cI, 256, .inl v_codes_values)), (a_codes_cells, .inl (cI, 2048, .inl v_codes_cells))]) (w1 := [(a_counts, .inl (cI, 256, .inl v_counts))]) hP hD [1] [0, 2, 3, 4, 5] rfl rfl (by decide) (by decide) hk1 hFc hP1 hD1
  clear hPc hDc hFc hk1 hP1 hD1 hK1
  generalize H1 = H at hP hS ⊢
  have hP : va_P D classes [(a_this, .inr (0, [.ref o_in, .ref o_out, .ref a_counts, .ref a_codes, .ref o_tree, .ref o_writer, .ref o_reader, .ref o_streams, .int i_place])), (a_counts, .inl (cI, 256, .inl v_counts)), (a_codes, .inr (2, [.ref a_codes_lengths, .ref a_codes_values, .ref a_codes_cells, .int i_codes_greatest, .int i_codes_known, .int i_codes_highest])), (a_codes_lengths, .inl (cI, 256, .inl v_codes_lengths)), (a_codes_values, .inl (cI, 256, .inl v_codes_values)), (a_codes_cells, .inl (cI, 2048, .inl v_codes_cells))] H := hP.sub [0, 5, 1, 2, 3, 4] rfl
  have hD : va_D A [(a_this, .inr (0, [.ref o_in, .ref o_out, .ref a_counts, .ref a_codes, .ref o_tree, .ref o_writer, .ref o_reader, .ref o_streams, .int i_place])), (a_counts, .inl (cI, 256, .inl v_counts)), (a_codes, .inr (2, [.ref a_codes_lengths, .ref a_codes_values, .ref a_codes_cells, .int i_codes_greatest, .int i_codes_known, .int i_codes_highest])), (a_codes_lengths, .inl (cI, 256, .inl v_codes_lengths)), (a_codes_values, .inl (cI, 256, .inl v_codes_values)), (a_codes_cells, .inl (cI, 2048, .inl v_codes_cells))] := hD.sub [0, 5, 1, 2, 3, 4] (by decide) rfl
  refine lv_if_eq (tgt := 24) hx hb d_PM_just_7 (by decide) (fun c_3 => ?_) (fun c_3 => ?_)
  · replace h := if_t h c_3
    refine lv_iconst (v := (-1)) hx hb d_PM_just_24 (by decide) ?_
    exact hret _ _ _ _ (-1) i_codes_greatest i_codes_known i_codes_highest v_codes_lengths v_codes_values v_codes_cells h d_PM_just_25 hP hD hS
  · replace h := if_f h c_3
    refine lv_aload_n hx hb d_PM_just_10 rfl (lv_at hl 0 rfl) ?_
    refine va_get hx hb hts in_PM hown hK hP 0 rfl rfl 3 (by decide) (hts _ m_343) (fun _ h9 => h9) rfl d_PM_just_11 ?_
    refine lv_aload_n hx hb d_PM_just_14 rfl (lv_at hl 0 rfl) ?_
    refine va_get hx hb hts in_PM hown hK hP 0 rfl rfl 2 (by decide) (hts _ m_342) (fun _ h9 => h9) rfl d_PM_just_15 ?_
    obtain ⟨r_4, i_codes_greatest_5, i_codes_known_6, i_codes_highest_7, v_codes_lengths_8, v_codes_values_9, v_codes_cells_10, hc_11, h⟩ := bd7_s h
    have hPc := hP.sub (ws' := [(a_codes, .inr (2, [.ref a_codes_lengths, .ref a_codes_values, .ref a_codes_cells, .int i_codes_greatest, .int i_codes_known, .int i_codes_highest])), (a_codes_lengths, .inl (cI, 256, .inl v_codes_lengths)), (a_codes_values, .inl (cI, 256, .inl v_codes_values)), (a_codes_cells, .inl (cI, 2048, .inl v_codes_cells)), (a_counts, .inl (cI, 256, .inl v_counts))]) [2, 3, 4, 5, 1] rfl
    have hDc := hD.sub (ws' := [(a_codes, .inr (2, [.ref a_codes_lengths, .ref a_codes_values, .ref a_codes_cells, .int i_codes_greatest, .int i_codes_known, .int i_codes_highest])), (a_codes_lengths, .inl (cI, 256, .inl v_codes_lengths)), (a_codes_values, .inl (cI, 256, .inl v_codes_values)), (a_codes_cells, .inl (cI, 2048, .inl v_codes_cells)), (a_counts, .inl (cI, 256, .inl v_counts))]) [2, 3, 4, 5, 1] (by decide) rfl
    have hFc := va_free (wc := [(a_codes, .inr (2, [.ref a_codes_lengths, .ref a_codes_values, .ref a_codes_cells, .int i_codes_greatest, .int i_codes_known, .int i_codes_highest])), (a_codes_lengths, .inl (cI, 256, .inl v_codes_lengths)), (a_codes_values, .inl (cI, 256, .inl v_codes_values)), (a_codes_cells, .inl (cI, 2048, .inl v_codes_cells)), (a_counts, .inl (cI, 256, .inl v_counts))]) hD hS hA [2, 3, 4, 5, 1] rfl
    refine va_calli (va_runV (As := [.ref a_counts]) (rest := []) ⟨hx, hb, hml, hown, hts⟩ (c_Codes_become l D cI cL cZ H.size N a_codes a_codes_lengths a_codes_values a_codes_cells a_counts i_codes_greatest i_codes_known i_codes_highest v_codes_lengths v_codes_values v_codes_cells 256 v_counts r_4 i_codes_greatest_5 i_codes_known_6 i_codes_highest_7 v_codes_lengths_8 v_codes_values_9 v_codes_cells_10 hc_11) ⟨(my_cb 1 hts m_477 rfl rfl (hts _ m_68) (hts _ m_474) (by decide +kernel) ⟨Nat.le_of_ble_eq_true rfl, Nat.le_of_ble_eq_true rfl⟩), hts _ m_475, hts _ m_476⟩ ⟨fun a U g mk q => by obtain ⟨q0, q1, qP, qK, qD⟩ := q; exact ⟨q0, q1, qP, va_K.moved (u := U) (U := U.calling g mk a) (Vm.Alike.refl U.vm) qK, qD⟩, va_recv hK hPc (ci := 2) (q0 := 0) rfl rfl, fun U hU hW => ⟨rfl, by rw [hU], by rw [hU]; exact hPc, va_K.moved hW.alike hK, hDc.weaken (fun _ _ _ _ => trivial)⟩⟩ rfl rfl hl.1 rfl (lv_room (Nat.le_of_ble_eq_true rfl)) d_PM_just_18 ⟨Nat.zero_le _, Nat.zero_le _⟩) hS (fun q _ h => hFc q h) hFc (fun rr u t H1 locs ht hvm hw hB hz1 hk1 hS => ?_)
    obtain ⟨hP1, hK1, hD1⟩ := hB
    rw [ht] at hP1
    subst hw
    obtain ⟨hP, hD⟩ := va_join (wr := [(a_this, .inr (0, [.ref o_in, .ref o_out, .ref a_counts, .ref a_codes, .ref o_tree, .ref o_writer, .ref o_reader, .ref o_streams, .int i_place]))]) (w1 := [(a_codes, .inr (2, [.ref a_codes_lengths, .ref a_codes_values, .ref a_codes_cells, .int i_codes_greatest_5, .int i_codes_known_6, .int i_codes_highest_7])), (a_codes_lengths, .inl (cI, 256, .inl v_codes_lengths_8)), (a_codes_values, .inl (cI, 256, .inl v_codes_values_9)), (a_codes_cells, .inl (cI, 2048, .inl v_codes_cells_10)), (a_counts, .inl (cI, 256, .inl v_counts))]) hP hD [2, 3, 4, 5, 1] [0] rfl rfl (by decide) (by decide) hk1 hFc hP1 hD1
    clear hPc hDc hFc hk1 hP1 hD1 hK1
    generalize H1 = H at hP hS ⊢
    have hP : va_P D classes [(a_this, .inr (0, [.ref o_in, .ref o_out, .ref a_counts, .ref a_codes, .ref o_tree, .ref o_writer, .ref o_reader, .ref o_streams, .int i_place])), (a_counts, .inl (cI, 256, .inl v_counts)), (a_codes, .inr (2, [.ref a_codes_lengths, .ref a_codes_values, .ref a_codes_cells, .int i_codes_greatest_5, .int i_codes_known_6, .int i_codes_highest_7])), (a_codes_lengths, .inl (cI, 256, .inl v_codes_lengths_8)), (a_codes_values, .inl (cI, 256, .inl v_codes_values_9)), (a_codes_cells, .inl (cI, 2048, .inl v_codes_cells_10))] H := hP.sub [0, 5, 1, 2, 3, 4] rfl
    have hD : va_D A [(a_this, .inr (0, [.ref o_in, .ref o_out, .ref a_counts, .ref a_codes, .ref o_tree, .ref o_writer, .ref o_reader, .ref o_streams, .int i_place])), (a_counts, .inl (cI, 256, .inl v_counts)), (a_codes, .inr (2, [.ref a_codes_lengths, .ref a_codes_values, .ref a_codes_cells, .int i_codes_greatest_5, .int i_codes_known_6, .int i_codes_highest_7])), (a_codes_lengths, .inl (cI, 256, .inl v_codes_lengths_8)), (a_codes_values, .inl (cI, 256, .inl v_codes_values_9)), (a_codes_cells, .inl (cI, 2048, .inl v_codes_cells_10))] := hD.sub [0, 5, 1, 2, 3, 4] (by decide) rfl
    refine lv_goto (tgt := 25) hx hb d_PM_just_21 (by decide) ?_
    exact hret _ _ _ _ r_4 i_codes_greatest_5 i_codes_known_6 i_codes_highest_7 v_codes_lengths_8 v_codes_values_9 v_codes_cells_10 h d_PM_just_25 hP hD hS
set_option maxHeartbeats 4000000 in
set_option maxRecDepth 100000 in
theorem c_PM_just (l : Launch) (D : va_G) (cI cL cZ : ClassId) (sz N : Nat) (a_this : Nat) (a_counts : Nat) (a_codes : Nat) (a_codes_lengths : Nat) (a_codes_values : Nat) (a_codes_cells : Nat) (o_in : Nat) (o_out : Nat) (o_tree : Nat) (o_writer : Nat) (o_reader : Nat) (o_streams : Nat) (i_place : Int32) (v_counts : Nat → Int32) (i_codes_greatest : Int32) (i_codes_known : Int32) (i_codes_highest : Int32) (v_codes_lengths : Nat → Int32) (v_codes_values : Nat → Int32) (v_codes_cells : Nat → Int32) (rv : Int32) (i_codes_greatest' : Int32) (i_codes_known' : Int32) (i_codes_highest' : Int32) (v_codes_lengths' : Nat → Int32) (v_codes_values' : Nat → Int32) (v_codes_cells' : Nat → Int32) (h : f_PM_just N v_counts i_codes_greatest i_codes_known i_codes_highest v_codes_lengths v_codes_values v_codes_cells = some (rv, i_codes_greatest', i_codes_known', i_codes_highest', v_codes_lengths', v_codes_values', v_codes_cells')) : Met l ({ cls := "PrefixMill", name := "just", desc := "()I" } : Jvm.MethodName) ws_PM_just R_PM_just (va_Pc [.ref a_this] (fun U => U.heap.size = sz ∧ va_P D classes [(a_this, .inr (0, [.ref o_in, .ref o_out, .ref a_counts, .ref a_codes, .ref o_tree, .ref o_writer, .ref o_reader, .ref o_streams, .int i_place])), (a_counts, .inl (cI, 256, .inl v_counts)), (a_codes, .inr (2, [.ref a_codes_lengths, .ref a_codes_values, .ref a_codes_cells, .int i_codes_greatest, .int i_codes_known, .int i_codes_highest])), (a_codes_lengths, .inl (cI, 256, .inl v_codes_lengths)), (a_codes_values, .inl (cI, 256, .inl v_codes_values)), (a_codes_cells, .inl (cI, 2048, .inl v_codes_cells))] U.heap ∧ va_K D classes [(cI, .int), (cL, .long), (cZ, .boolean)] U ∧ va_D (fun _ => True) [(a_this, .inr (0, [.ref o_in, .ref o_out, .ref a_counts, .ref a_codes, .ref o_tree, .ref o_writer, .ref o_reader, .ref o_streams, .int i_place])), (a_counts, .inl (cI, 256, .inl v_counts)), (a_codes, .inr (2, [.ref a_codes_lengths, .ref a_codes_values, .ref a_codes_cells, .int i_codes_greatest, .int i_codes_known, .int i_codes_highest])), (a_codes_lengths, .inl (cI, 256, .inl v_codes_lengths)), (a_codes_values, .inl (cI, 256, .inl v_codes_values)), (a_codes_cells, .inl (cI, 2048, .inl v_codes_cells))])) (va_Qi (fun (r0 : Int32) (_ : Unit) => rv = r0) (fun _ t => va_P D classes [(a_this, .inr (0, [.ref o_in, .ref o_out, .ref a_counts, .ref a_codes, .ref o_tree, .ref o_writer, .ref o_reader, .ref o_streams, .int i_place])), (a_counts, .inl (cI, 256, .inl v_counts)), (a_codes, .inr (2, [.ref a_codes_lengths, .ref a_codes_values, .ref a_codes_cells, .int i_codes_greatest', .int i_codes_known', .int i_codes_highest'])), (a_codes_lengths, .inl (cI, 256, .inl v_codes_lengths')), (a_codes_values, .inl (cI, 256, .inl v_codes_values')), (a_codes_cells, .inl (cI, 2048, .inl v_codes_cells'))] t.heap ∧ va_K D classes [(cI, .int), (cL, .long), (cZ, .boolean)] t ∧ va_D (va_A [(a_this, .inr (0, [.ref o_in, .ref o_out, .ref a_counts, .ref a_codes, .ref o_tree, .ref o_writer, .ref o_reader, .ref o_streams, .int i_place])), (a_counts, .inl (cI, 256, .inl v_counts)), (a_codes, .inr (2, [.ref a_codes_lengths, .ref a_codes_values, .ref a_codes_cells, .int i_codes_greatest, .int i_codes_known, .int i_codes_highest])), (a_codes_lengths, .inl (cI, 256, .inl v_codes_lengths)), (a_codes_values, .inl (cI, 256, .inl v_codes_values)), (a_codes_cells, .inl (cI, 2048, .inl v_codes_cells))] sz) [(a_this, .inr (0, [.ref o_in, .ref o_out, .ref a_counts, .ref a_codes, .ref o_tree, .ref o_writer, .ref o_reader, .ref o_streams, .int i_place])), (a_counts, .inl (cI, 256, .inl v_counts)), (a_codes, .inr (2, [.ref a_codes_lengths, .ref a_codes_values, .ref a_codes_cells, .int i_codes_greatest', .int i_codes_known', .int i_codes_highest'])), (a_codes_lengths, .inl (cI, 256, .inl v_codes_lengths')), (a_codes_values, .inl (cI, 256, .inl v_codes_values')), (a_codes_cells, .inl (cI, 2048, .inl v_codes_cells'))]) (va_A [(a_this, .inr (0, [.ref o_in, .ref o_out, .ref a_counts, .ref a_codes, .ref o_tree, .ref o_writer, .ref o_reader, .ref o_streams, .int i_place])), (a_counts, .inl (cI, 256, .inl v_counts)), (a_codes, .inr (2, [.ref a_codes_lengths, .ref a_codes_values, .ref a_codes_cells, .int i_codes_greatest, .int i_codes_known, .int i_codes_highest])), (a_codes_lengths, .inl (cI, 256, .inl v_codes_lengths)), (a_codes_values, .inl (cI, 256, .inl v_codes_values)), (a_codes_cells, .inl (cI, 2048, .inl v_codes_cells))] sz)) 0 0 (va_A [(a_this, .inr (0, [.ref o_in, .ref o_out, .ref a_counts, .ref a_codes, .ref o_tree, .ref o_writer, .ref o_reader, .ref o_streams, .int i_place])), (a_counts, .inl (cI, 256, .inl v_counts)), (a_codes, .inr (2, [.ref a_codes_lengths, .ref a_codes_values, .ref a_codes_cells, .int i_codes_greatest, .int i_codes_known, .int i_codes_highest])), (a_codes_lengths, .inl (cI, 256, .inl v_codes_lengths)), (a_codes_values, .inl (cI, 256, .inl v_codes_values)), (a_codes_cells, .inl (cI, 2048, .inl v_codes_cells))] sz) := by
  refine Met.ofW (cc := b_PM_just) (maxL := 1) (ret := (some .int)) (by decide) rfl ?_
  intro p e s m args below meth c s₁ B hml hv
  obtain ⟨rfl, hsz, hP, hK, hD0⟩ := hv
  have hx := B.exec
  have hb := B.bytes
  have hr := B.returns
  have hts0 := atoms_spec (ws := ws_PM_just) B.pre
  have hts := gd_tl hts0
  clear hts0
  have hown : s.vm.findClass "PrefixMill" = some m.cls := findClass_of_methodNamed B.named
  have hlocks := B.notSynchronized
  subst hsz
  have hD := hD0.self (sz := s.heap.size)
  generalize hAe : va_A [(a_this, .inr (0, [.ref o_in, .ref o_out, .ref a_counts, .ref a_codes, .ref o_tree, .ref o_writer, .ref o_reader, .ref o_streams, .int i_place])), (a_counts, .inl (cI, 256, .inl v_counts)), (a_codes, .inr (2, [.ref a_codes_lengths, .ref a_codes_values, .ref a_codes_cells, .int i_codes_greatest, .int i_codes_known, .int i_codes_highest])), (a_codes_lengths, .inl (cI, 256, .inl v_codes_lengths)), (a_codes_values, .inl (cI, 256, .inl v_codes_values)), (a_codes_cells, .inl (cI, 2048, .inl v_codes_cells))] s.heap.size = A at hD ⊢
  have hA : ∀ q : Nat, s.heap.size ≤ q → A q := fun q h => by rw [← hAe]; exact Or.inr h
  have hS : va_S A s.heap s.heap [] := va_S.rf
  have hP : va_P D classes [(a_this, .inr (0, [.ref o_in, .ref o_out, .ref a_counts, .ref a_codes, .ref o_tree, .ref o_writer, .ref o_reader, .ref o_streams, .int i_place])), (a_counts, .inl (cI, 256, .inl v_counts)), (a_codes, .inr (2, [.ref a_codes_lengths, .ref a_codes_values, .ref a_codes_cells, .int i_codes_greatest, .int i_codes_known, .int i_codes_highest])), (a_codes_lengths, .inl (cI, 256, .inl v_codes_lengths)), (a_codes_values, .inl (cI, 256, .inl v_codes_values)), (a_codes_cells, .inl (cI, 2048, .inl v_codes_cells))] s.heap := hP
  have hl := lv_entry ([.ref a_this]) (n := 1) (Nat.le_of_ble_eq_true rfl)
  rw [lg_entry_eq]
  generalize (lg_sl ([.ref a_this]) ++ List.replicate (1 - (lg_sl ([.ref a_this])).length) Slot.unset).toArray = ls at hl ⊢
  have hl : lv_has ls 1 [(0, .ref a_this)] := hl
  have C : Cx p s m ([.ref a_this] : List Value).toArray c b_PM_just 1 "PrefixMill" D [(cI, .int), (cL, .long), (cZ, .boolean)] A := ⟨hx, hb, hml, hown, hts, hK, hA⟩
  refine w_PM_just_b0 (res := (rv, i_codes_greatest', i_codes_known', i_codes_highest', v_codes_lengths', v_codes_values', v_codes_cells')) C ?_ _ _ _ _ _ _ h s.heap [] ls hl hP hD hS
  intro pc9 H9 locs9 ls9 rv9 i_codes_greatest9 i_codes_known9 i_codes_highest9 v_codes_lengths9 v_codes_values9 v_codes_cells9 e9 d9 hP9 hD9 hS9
  cases e9
  exact W.iret (v := rv) hx hb hr (fun t ht hW => ⟨⟨rv, (), rfl, rfl, by rw [ht]; exact hP9, va_K.moved hW.alike hK, hD9⟩, hS9.F ht⟩) hS9.2.2 d9
abbrev b_Codes_areThere : ByteArray := prog_2_method_2_code
def ws_Codes_areThere : List Cond := .code ({ cls := "PrefixMill$Codes", name := "areThere", desc := "()Z" } : Jvm.MethodName) b_Codes_areThere 1 (some .boolean) :: tt
theorem d_Codes_areThere_0 : decode b_Codes_areThere 0 = .ok (.aload_n 0, 1) := by decide +kernel
theorem d_Codes_areThere_1 : decode b_Codes_areThere 1 = .ok (.getfield 21, 3) := by decide +kernel
theorem d_Codes_areThere_4 : decode b_Codes_areThere 4 = .ok (.ifCond .le 7, 3) := by decide +kernel
theorem d_Codes_areThere_7 : decode b_Codes_areThere 7 = .ok (.iconst 1, 1) := by decide +kernel
theorem d_Codes_areThere_8 : decode b_Codes_areThere 8 = .ok (.goto 4, 3) := by decide +kernel
theorem d_Codes_areThere_11 : decode b_Codes_areThere 11 = .ok (.iconst 0, 1) := by decide +kernel
theorem d_Codes_areThere_12 : decode b_Codes_areThere 12 = .ok (.ireturn, 1) := by decide +kernel
abbrev R_Codes_areThere : Room := ({ frames := 0, cells := 0, slots := 0, locals := 0 } : Room)
def E_Codes_areThere (p : Program) (l : Launch) (e : Env) (s : State) (m : MethodId) (args : Array Value) (below : List Frame) (meth : Method) (c : Code) (Q : State → Prop) (A : Nat → Prop) (D : va_G) (cI cL cZ : ClassId) (a_this : Nat) (o_lengths : Nat) (o_values : Nat) (o_cells : Nat) (i_greatest : Int32) (i_known : Int32) (i_highest : Int32) (res : Int32) : Prop := ∀ (pc : Nat) (H : Heap) (locs : List Loc) (ls : Array Slot) (rv : Int32), some (rv) = some res → narrow .boolean (.int rv) = .int rv → decode b_Codes_areThere pc = .ok (.ireturn, 1) → va_P D classes [(a_this, .inr (2, [.ref o_lengths, .ref o_values, .ref o_cells, .int i_greatest, .int i_known, .int i_highest]))] H → va_D A [(a_this, .inr (2, [.ref o_lengths, .ref o_values, .ref o_cells, .int i_greatest, .int i_known, .int i_highest]))] → va_S A s.heap H locs → W p l e R_Codes_areThere s m args below meth c H locs 0 0 Q (F0 m pc ls [.int rv])
def I_Codes_areThere_b0 (p : Program) (l : Launch) (e : Env) (s : State) (m : MethodId) (args : Array Value) (below : List Frame) (meth : Method) (c : Code) (Q : State → Prop) (A : Nat → Prop) (D : va_G) (cI cL cZ : ClassId) (a_this : Nat) (o_lengths : Nat) (o_values : Nat) (o_cells : Nat) (i_greatest : Int32) (i_known : Int32) (i_highest : Int32) (res : Int32) (kf : Option (Int32)) : Prop := ∀ (_ : Unit), kf  = some res → ∀ (H : Heap) (locs : List Loc) (ls : Array Slot), lv_has ls 1 [(0, .ref a_this)] → va_P D classes [(a_this, .inr (2, [.ref o_lengths, .ref o_values, .ref o_cells, .int i_greatest, .int i_known, .int i_highest]))] H → va_D A [(a_this, .inr (2, [.ref o_lengths, .ref o_values, .ref o_cells, .int i_greatest, .int i_known, .int i_highest]))] → va_S A s.heap H locs → W p l e R_Codes_areThere s m args below meth c H locs 0 0 Q (F0 m 0 ls [])
set_option maxHeartbeats 4000000 in
set_option maxRecDepth 100000 in
theorem w_Codes_areThere_b0 {p : Program} {l : Launch} {e : Env} {s : State} {m : MethodId} {args : Array Value} {below : List Frame} {meth : Method} {c : Code} {Q : State → Prop} {A : Nat → Prop} {D : va_G} {cI cL cZ : ClassId} {a_this : Nat} {o_lengths : Nat} {o_values : Nat} {o_cells : Nat} {i_greatest : Int32} {i_known : Int32} {i_highest : Int32} {N : Nat} {res : Int32}  (C : Cx p s m args c b_Codes_areThere 1 "PrefixMill$Codes" D [(cI, .int), (cL, .long), (cZ, .boolean)] A) (hret : E_Codes_areThere p l e s m args below meth c Q A D cI cL cZ a_this o_lengths o_values o_cells i_greatest i_known i_highest res)  : I_Codes_areThere_b0 p l e s m args below meth c Q A D cI cL cZ a_this o_lengths o_values o_cells i_greatest i_known i_highest res (f_Codes_areThere N i_greatest ) := by
  obtain ⟨hx, hb, hml, hown, hts, hK, hA⟩ := C
  intro _ h H locs ls hl hP hD hS
  unfold f_Codes_areThere at h
  refine lv_aload_n hx hb d_Codes_areThere_0 rfl (lv_at hl 0 rfl) ?_
  refine va_get hx hb hts in_Codes hown hK hP 0 rfl rfl 3 (by decide) (hts _ m_129) (fun _ h9 => h9) rfl d_Codes_areThere_1 ?_
  refine lv_if_le (tgt := 11) hx hb d_Codes_areThere_4 (by decide) (fun c_1 => ?_) (fun c_1 => ?_)
  · replace h := if_t h c_1
    refine lv_iconst (v := 0) hx hb d_Codes_areThere_11 (by decide) ?_
    exact hret _ _ _ _ 0  h rfl d_Codes_areThere_12 hP hD hS
  · replace h := if_f h c_1
    refine lv_iconst (v := 1) hx hb d_Codes_areThere_7 (by decide) ?_
    refine lv_goto (tgt := 12) hx hb d_Codes_areThere_8 (by decide) ?_
    exact hret _ _ _ _ 1  h rfl d_Codes_areThere_12 hP hD hS
set_option maxHeartbeats 4000000 in
set_option maxRecDepth 100000 in
theorem c_Codes_areThere (l : Launch) (D : va_G) (cI cL cZ : ClassId) (sz N : Nat) (a_this : Nat) (o_lengths : Nat) (o_values : Nat) (o_cells : Nat) (i_greatest : Int32) (i_known : Int32) (i_highest : Int32) (rv : Int32) (h : f_Codes_areThere N i_greatest  = some (rv)) : Met l ({ cls := "PrefixMill$Codes", name := "areThere", desc := "()Z" } : Jvm.MethodName) ws_Codes_areThere R_Codes_areThere (va_Pc [.ref a_this] (fun U => U.heap.size = sz ∧ va_P D classes [(a_this, .inr (2, [.ref o_lengths, .ref o_values, .ref o_cells, .int i_greatest, .int i_known, .int i_highest]))] U.heap ∧ va_K D classes [(cI, .int), (cL, .long), (cZ, .boolean)] U ∧ va_D (fun _ => True) [(a_this, .inr (2, [.ref o_lengths, .ref o_values, .ref o_cells, .int i_greatest, .int i_known, .int i_highest]))])) (va_Qi (fun (r0 : Int32) (_ : Unit) => rv = r0) (fun _ t => va_P D classes [(a_this, .inr (2, [.ref o_lengths, .ref o_values, .ref o_cells, .int i_greatest, .int i_known, .int i_highest]))] t.heap ∧ va_K D classes [(cI, .int), (cL, .long), (cZ, .boolean)] t ∧ va_D (va_A [(a_this, .inr (2, [.ref o_lengths, .ref o_values, .ref o_cells, .int i_greatest, .int i_known, .int i_highest]))] sz) [(a_this, .inr (2, [.ref o_lengths, .ref o_values, .ref o_cells, .int i_greatest, .int i_known, .int i_highest]))]) (va_A [(a_this, .inr (2, [.ref o_lengths, .ref o_values, .ref o_cells, .int i_greatest, .int i_known, .int i_highest]))] sz)) 0 0 (va_A [(a_this, .inr (2, [.ref o_lengths, .ref o_values, .ref o_cells, .int i_greatest, .int i_known, .int i_highest]))] sz) := by
  refine Met.ofW (cc := b_Codes_areThere) (maxL := 1) (ret := (some .boolean)) (by decide) rfl ?_
  intro p e s m args below meth c s₁ B hml hv
  obtain ⟨rfl, hsz, hP, hK, hD0⟩ := hv
  have hx := B.exec
  have hb := B.bytes
  have hr := B.returns
  have hts0 := atoms_spec (ws := ws_Codes_areThere) B.pre
  have hts := gd_tl hts0
  clear hts0
  have hown : s.vm.findClass "PrefixMill$Codes" = some m.cls := findClass_of_methodNamed B.named
  have hlocks := B.notSynchronized
  subst hsz
  have hD := hD0.self (sz := s.heap.size)
  generalize hAe : va_A [(a_this, .inr (2, [.ref o_lengths, .ref o_values, .ref o_cells, .int i_greatest, .int i_known, .int i_highest]))] s.heap.size = A at hD ⊢
  have hA : ∀ q : Nat, s.heap.size ≤ q → A q := fun q h => by rw [← hAe]; exact Or.inr h
  have hS : va_S A s.heap s.heap [] := va_S.rf
  have hP : va_P D classes [(a_this, .inr (2, [.ref o_lengths, .ref o_values, .ref o_cells, .int i_greatest, .int i_known, .int i_highest]))] s.heap := hP
  have hl := lv_entry ([.ref a_this]) (n := 1) (Nat.le_of_ble_eq_true rfl)
  rw [lg_entry_eq]
  generalize (lg_sl ([.ref a_this]) ++ List.replicate (1 - (lg_sl ([.ref a_this])).length) Slot.unset).toArray = ls at hl ⊢
  have hl : lv_has ls 1 [(0, .ref a_this)] := hl
  have C : Cx p s m ([.ref a_this] : List Value).toArray c b_Codes_areThere 1 "PrefixMill$Codes" D [(cI, .int), (cL, .long), (cZ, .boolean)] A := ⟨hx, hb, hml, hown, hts, hK, hA⟩
  refine w_Codes_areThere_b0 (res := (rv)) C ?_ () h s.heap [] ls hl hP hD hS
  intro pc9 H9 locs9 ls9 rv9 e9 z9 d9 hP9 hD9 hS9
  cases e9
  exact W.zret (v := rv) hx hb hr z9 (fun t ht hW => ⟨⟨rv, (), rfl, rfl, by rw [ht]; exact hP9, va_K.moved hW.alike hK, hD9⟩, hS9.F ht⟩) hS9.2.2 d9
abbrev b_Codes_weightOf : ByteArray := prog_2_method_6_code
def ws_Codes_weightOf : List Cond := .code ({ cls := "PrefixMill$Codes", name := "weightOf", desc := "(I)I" } : Jvm.MethodName) b_Codes_weightOf 2 (some .int) :: tt
theorem d_Codes_weightOf_0 : decode b_Codes_weightOf 0 = .ok (.aload_n 0, 1) := by decide +kernel
theorem d_Codes_weightOf_1 : decode b_Codes_weightOf 1 = .ok (.getfield 9, 3) := by decide +kernel
theorem d_Codes_weightOf_4 : decode b_Codes_weightOf 4 = .ok (.iload_n 1, 1) := by decide +kernel
theorem d_Codes_weightOf_5 : decode b_Codes_weightOf 5 = .ok (.iaload, 1) := by decide +kernel
theorem d_Codes_weightOf_6 : decode b_Codes_weightOf 6 = .ok (.ifCond .ne 7, 3) := by decide +kernel
theorem d_Codes_weightOf_9 : decode b_Codes_weightOf 9 = .ok (.iconst 0, 1) := by decide +kernel
theorem d_Codes_weightOf_10 : decode b_Codes_weightOf 10 = .ok (.goto 16, 3) := by decide +kernel
theorem d_Codes_weightOf_13 : decode b_Codes_weightOf 13 = .ok (.aload_n 0, 1) := by decide +kernel
theorem d_Codes_weightOf_14 : decode b_Codes_weightOf 14 = .ok (.getfield 21, 3) := by decide +kernel
theorem d_Codes_weightOf_17 : decode b_Codes_weightOf 17 = .ok (.iconst 1, 1) := by decide +kernel
theorem d_Codes_weightOf_18 : decode b_Codes_weightOf 18 = .ok (.iadd, 1) := by decide +kernel
theorem d_Codes_weightOf_19 : decode b_Codes_weightOf 19 = .ok (.aload_n 0, 1) := by decide +kernel
theorem d_Codes_weightOf_20 : decode b_Codes_weightOf 20 = .ok (.getfield 9, 3) := by decide +kernel
theorem d_Codes_weightOf_23 : decode b_Codes_weightOf 23 = .ok (.iload_n 1, 1) := by decide +kernel
theorem d_Codes_weightOf_24 : decode b_Codes_weightOf 24 = .ok (.iaload, 1) := by decide +kernel
theorem d_Codes_weightOf_25 : decode b_Codes_weightOf 25 = .ok (.isub, 1) := by decide +kernel
theorem d_Codes_weightOf_26 : decode b_Codes_weightOf 26 = .ok (.ireturn, 1) := by decide +kernel
abbrev R_Codes_weightOf : Room := ({ frames := 0, cells := 0, slots := 0, locals := 0 } : Room)
def E_Codes_weightOf (p : Program) (l : Launch) (e : Env) (s : State) (m : MethodId) (args : Array Value) (below : List Frame) (meth : Method) (c : Code) (Q : State → Prop) (A : Nat → Prop) (D : va_G) (cI cL cZ : ClassId) (a_this : Nat) (a_lengths : Nat) (o_values : Nat) (o_cells : Nat) (i_greatest : Int32) (i_known : Int32) (i_highest : Int32) (v_lengths : Nat → Int32) (l1 : Int32) (res : Int32) : Prop := ∀ (pc : Nat) (H : Heap) (locs : List Loc) (ls : Array Slot) (rv : Int32), some (rv) = some res → decode b_Codes_weightOf pc = .ok (.ireturn, 1) → va_P D classes [(a_this, .inr (2, [.ref a_lengths, .ref o_values, .ref o_cells, .int i_greatest, .int i_known, .int i_highest])), (a_lengths, .inl (cI, 256, .inl v_lengths))] H → va_D A [(a_this, .inr (2, [.ref a_lengths, .ref o_values, .ref o_cells, .int i_greatest, .int i_known, .int i_highest])), (a_lengths, .inl (cI, 256, .inl v_lengths))] → va_S A s.heap H locs → W p l e R_Codes_weightOf s m args below meth c H locs 0 0 Q (F0 m pc ls [.int rv])
def I_Codes_weightOf_b0 (p : Program) (l : Launch) (e : Env) (s : State) (m : MethodId) (args : Array Value) (below : List Frame) (meth : Method) (c : Code) (Q : State → Prop) (A : Nat → Prop) (D : va_G) (cI cL cZ : ClassId) (a_this : Nat) (a_lengths : Nat) (o_values : Nat) (o_cells : Nat) (i_greatest : Int32) (i_known : Int32) (i_highest : Int32) (v_lengths : Nat → Int32) (l1 : Int32) (res : Int32) (kf : Option (Int32)) : Prop := ∀ (_ : Unit), kf  = some res → ∀ (H : Heap) (locs : List Loc) (ls : Array Slot), lv_has ls 2 [(0, .ref a_this), (1, .int l1)] → va_P D classes [(a_this, .inr (2, [.ref a_lengths, .ref o_values, .ref o_cells, .int i_greatest, .int i_known, .int i_highest])), (a_lengths, .inl (cI, 256, .inl v_lengths))] H → va_D A [(a_this, .inr (2, [.ref a_lengths, .ref o_values, .ref o_cells, .int i_greatest, .int i_known, .int i_highest])), (a_lengths, .inl (cI, 256, .inl v_lengths))] → va_S A s.heap H locs → W p l e R_Codes_weightOf s m args below meth c H locs 0 0 Q (F0 m 0 ls [])
set_option maxHeartbeats 4000000 in
set_option maxRecDepth 100000 in
theorem w_Codes_weightOf_b0 {p : Program} {l : Launch} {e : Env} {s : State} {m : MethodId} {args : Array Value} {below : List Frame} {meth : Method} {c : Code} {Q : State → Prop} {A : Nat → Prop} {D : va_G} {cI cL cZ : ClassId} {a_this : Nat} {a_lengths : Nat} {o_values : Nat} {o_cells : Nat} {i_greatest : Int32} {i_known : Int32} {i_highest : Int32} {v_lengths : Nat → Int32} {l1 : Int32} {N : Nat} {res : Int32}  (C : Cx p s m args c b_Codes_weightOf 2 "PrefixMill$Codes" D [(cI, .int), (cL, .long), (cZ, .boolean)] A) (hret : E_Codes_weightOf p l e s m args below meth c Q A D cI cL cZ a_this a_lengths o_values o_cells i_greatest i_known i_highest v_lengths l1 res)  : I_Codes_weightOf_b0 p l e s m args below meth c Q A D cI cL cZ a_this a_lengths o_values o_cells i_greatest i_known i_highest v_lengths l1 res (f_Codes_weightOf N i_greatest v_lengths l1 ) := by
  obtain ⟨hx, hb, hml, hown, hts, hK, hA⟩ := C
  intro _ h H locs ls hl hP hD hS
  unfold f_Codes_weightOf at h
  refine lv_aload_n hx hb d_Codes_weightOf_0 rfl (lv_at hl 0 rfl) ?_
  refine va_get hx hb hts in_Codes hown hK hP 0 rfl rfl 0 (by decide) (hts _ m_121) (fun _ h9 => h9) rfl d_Codes_weightOf_1 ?_
  refine lv_iload_n hx hb d_Codes_weightOf_4 rfl (lv_at hl 1 rfl) ?_
  obtain ⟨g_1, h⟩ := ck_s h
  refine va_iald hx hb hK hP 1 0 rfl rfl (inb_s g_1) d_Codes_weightOf_5 ?_
  refine lv_if_ne (tgt := 13) hx hb d_Codes_weightOf_6 (by decide) (fun c_2 => ?_) (fun c_2 => ?_)
  · replace h := if_f h c_2
    refine lv_aload_n hx hb d_Codes_weightOf_13 rfl (lv_at hl 0 rfl) ?_
    refine va_get hx hb hts in_Codes hown hK hP 0 rfl rfl 3 (by decide) (hts _ m_129) (fun _ h9 => h9) rfl d_Codes_weightOf_14 ?_
    refine lv_iconst (v := 1) hx hb d_Codes_weightOf_17 (by decide) ?_
    refine lv_iadd hx hb d_Codes_weightOf_18 ?_
    refine lv_aload_n hx hb d_Codes_weightOf_19 rfl (lv_at hl 0 rfl) ?_
    refine va_get hx hb hts in_Codes hown hK hP 0 rfl rfl 0 (by decide) (hts _ m_121) (fun _ h9 => h9) rfl d_Codes_weightOf_20 ?_
    refine lv_iload_n hx hb d_Codes_weightOf_23 rfl (lv_at hl 1 rfl) ?_
    obtain ⟨g_3, h⟩ := ck_s h
    refine va_iald hx hb hK hP 1 0 rfl rfl (inb_s g_3) d_Codes_weightOf_24 ?_
    refine lv_isub hx hb d_Codes_weightOf_25 ?_
    exact hret _ _ _ _ ((i_greatest + 1) - (v_lengths (Int32.toNatClampNeg l1)))  h d_Codes_weightOf_26 hP hD hS
  · replace h := if_t h c_2
    refine lv_iconst (v := 0) hx hb d_Codes_weightOf_9 (by decide) ?_
    refine lv_goto (tgt := 26) hx hb d_Codes_weightOf_10 (by decide) ?_
    exact hret _ _ _ _ 0  h d_Codes_weightOf_26 hP hD hS
set_option maxHeartbeats 4000000 in
set_option maxRecDepth 100000 in
theorem c_Codes_weightOf (l : Launch) (D : va_G) (cI cL cZ : ClassId) (sz N : Nat) (a_this : Nat) (a_lengths : Nat) (o_values : Nat) (o_cells : Nat) (i_greatest : Int32) (i_known : Int32) (i_highest : Int32) (v_lengths : Nat → Int32) (l1 : Int32) (rv : Int32) (h : f_Codes_weightOf N i_greatest v_lengths l1  = some (rv)) : Met l ({ cls := "PrefixMill$Codes", name := "weightOf", desc := "(I)I" } : Jvm.MethodName) ws_Codes_weightOf R_Codes_weightOf (va_Pc [.ref a_this, .int l1] (fun U => U.heap.size = sz ∧ va_P D classes [(a_this, .inr (2, [.ref a_lengths, .ref o_values, .ref o_cells, .int i_greatest, .int i_known, .int i_highest])), (a_lengths, .inl (cI, 256, .inl v_lengths))] U.heap ∧ va_K D classes [(cI, .int), (cL, .long), (cZ, .boolean)] U ∧ va_D (fun _ => True) [(a_this, .inr (2, [.ref a_lengths, .ref o_values, .ref o_cells, .int i_greatest, .int i_known, .int i_highest])), (a_lengths, .inl (cI, 256, .inl v_lengths))])) (va_Qi (fun (r0 : Int32) (_ : Unit) => rv = r0) (fun _ t => va_P D classes [(a_this, .inr (2, [.ref a_lengths, .ref o_values, .ref o_cells, .int i_greatest, .int i_known, .int i_highest])), (a_lengths, .inl (cI, 256, .inl v_lengths))] t.heap ∧ va_K D classes [(cI, .int), (cL, .long), (cZ, .boolean)] t ∧ va_D (va_A [(a_this, .inr (2, [.ref a_lengths, .ref o_values, .ref o_cells, .int i_greatest, .int i_known, .int i_highest])), (a_lengths, .inl (cI, 256, .inl v_lengths))] sz) [(a_this, .inr (2, [.ref a_lengths, .ref o_values, .ref o_cells, .int i_greatest, .int i_known, .int i_highest])), (a_lengths, .inl (cI, 256, .inl v_lengths))]) (va_A [(a_this, .inr (2, [.ref a_lengths, .ref o_values, .ref o_cells, .int i_greatest, .int i_known, .int i_highest])), (a_lengths, .inl (cI, 256, .inl v_lengths))] sz)) 0 0 (va_A [(a_this, .inr (2, [.ref a_lengths, .ref o_values, .ref o_cells, .int i_greatest, .int i_known, .int i_highest])), (a_lengths, .inl (cI, 256, .inl v_lengths))] sz) := by
  refine Met.ofW (cc := b_Codes_weightOf) (maxL := 2) (ret := (some .int)) (by decide) rfl ?_
  intro p e s m args below meth c s₁ B hml hv
  obtain ⟨rfl, hsz, hP, hK, hD0⟩ := hv
  have hx := B.exec
  have hb := B.bytes
  have hr := B.returns
  have hts0 := atoms_spec (ws := ws_Codes_weightOf) B.pre
  have hts := gd_tl hts0
  clear hts0
  have hown : s.vm.findClass "PrefixMill$Codes" = some m.cls := findClass_of_methodNamed B.named
  have hlocks := B.notSynchronized
  subst hsz
  have hD := hD0.self (sz := s.heap.size)
  generalize hAe : va_A [(a_this, .inr (2, [.ref a_lengths, .ref o_values, .ref o_cells, .int i_greatest, .int i_known, .int i_highest])), (a_lengths, .inl (cI, 256, .inl v_lengths))] s.heap.size = A at hD ⊢
  have hA : ∀ q : Nat, s.heap.size ≤ q → A q := fun q h => by rw [← hAe]; exact Or.inr h
  have hS : va_S A s.heap s.heap [] := va_S.rf
  have hP : va_P D classes [(a_this, .inr (2, [.ref a_lengths, .ref o_values, .ref o_cells, .int i_greatest, .int i_known, .int i_highest])), (a_lengths, .inl (cI, 256, .inl v_lengths))] s.heap := hP
  have hl := lv_entry ([.ref a_this, .int l1]) (n := 2) (Nat.le_of_ble_eq_true rfl)
  rw [lg_entry_eq]
  generalize (lg_sl ([.ref a_this, .int l1]) ++ List.replicate (2 - (lg_sl ([.ref a_this, .int l1])).length) Slot.unset).toArray = ls at hl ⊢
  have hl : lv_has ls 2 [(0, .ref a_this), (1, .int l1)] := hl
  have C : Cx p s m ([.ref a_this, .int l1] : List Value).toArray c b_Codes_weightOf 2 "PrefixMill$Codes" D [(cI, .int), (cL, .long), (cZ, .boolean)] A := ⟨hx, hb, hml, hown, hts, hK, hA⟩
  refine w_Codes_weightOf_b0 (res := (rv)) C ?_ () h s.heap [] ls hl hP hD hS
  intro pc9 H9 locs9 ls9 rv9 e9 d9 hP9 hD9 hS9
  cases e9
  exact W.iret (v := rv) hx hb hr (fun t ht hW => ⟨⟨rv, (), rfl, rfl, by rw [ht]; exact hP9, va_K.moved hW.alike hK, hD9⟩, hS9.F ht⟩) hS9.2.2 d9
abbrev b_Writer_takeWeights : ByteArray := prog_10_method_3_code
def ws_Writer_takeWeights : List Cond := .code ({ cls := "PrefixMill$Writer", name := "takeWeights", desc := "(LPrefixMill$Codes;I)V" } : Jvm.MethodName) b_Writer_takeWeights 4 none :: tt
theorem d_Writer_takeWeights_0 : decode b_Writer_takeWeights 0 = .ok (.aload_n 0, 1) := by decide +kernel
theorem d_Writer_takeWeights_1 : decode b_Writer_takeWeights 1 = .ok (.getfield 27, 3) := by decide +kernel
theorem d_Writer_takeWeights_4 : decode b_Writer_takeWeights 4 = .ok (.iconst 0, 1) := by decide +kernel
theorem d_Writer_takeWeights_5 : decode b_Writer_takeWeights 5 = .ok (.invokestatic 64, 3) := by decide +kernel
theorem d_Writer_takeWeights_8 : decode b_Writer_takeWeights 8 = .ok (.iconst 0, 1) := by decide +kernel
theorem d_Writer_takeWeights_9 : decode b_Writer_takeWeights 9 = .ok (.istore_n 3, 1) := by decide +kernel
theorem d_Writer_takeWeights_10 : decode b_Writer_takeWeights 10 = .ok (.iload_n 3, 1) := by decide +kernel
theorem d_Writer_takeWeights_11 : decode b_Writer_takeWeights 11 = .ok (.iload_n 2, 1) := by decide +kernel
theorem d_Writer_takeWeights_12 : decode b_Writer_takeWeights 12 = .ok (.if_icmp .ge 35, 3) := by decide +kernel
theorem d_Writer_takeWeights_15 : decode b_Writer_takeWeights 15 = .ok (.aload_n 0, 1) := by decide +kernel
theorem d_Writer_takeWeights_16 : decode b_Writer_takeWeights 16 = .ok (.getfield 23, 3) := by decide +kernel
theorem d_Writer_takeWeights_19 : decode b_Writer_takeWeights 19 = .ok (.iload_n 3, 1) := by decide +kernel
theorem d_Writer_takeWeights_20 : decode b_Writer_takeWeights 20 = .ok (.aload_n 1, 1) := by decide +kernel
theorem d_Writer_takeWeights_21 : decode b_Writer_takeWeights 21 = .ok (.iload_n 3, 1) := by decide +kernel
theorem d_Writer_takeWeights_22 : decode b_Writer_takeWeights 22 = .ok (.invokevirtual 70, 3) := by decide +kernel
theorem d_Writer_takeWeights_25 : decode b_Writer_takeWeights 25 = .ok (.iastore, 1) := by decide +kernel
theorem d_Writer_takeWeights_26 : decode b_Writer_takeWeights 26 = .ok (.aload_n 0, 1) := by decide +kernel
theorem d_Writer_takeWeights_27 : decode b_Writer_takeWeights 27 = .ok (.getfield 27, 3) := by decide +kernel
theorem d_Writer_takeWeights_30 : decode b_Writer_takeWeights 30 = .ok (.aload_n 0, 1) := by decide +kernel
theorem d_Writer_takeWeights_31 : decode b_Writer_takeWeights 31 = .ok (.getfield 23, 3) := by decide +kernel
theorem d_Writer_takeWeights_34 : decode b_Writer_takeWeights 34 = .ok (.iload_n 3, 1) := by decide +kernel
theorem d_Writer_takeWeights_35 : decode b_Writer_takeWeights 35 = .ok (.iaload, 1) := by decide +kernel
theorem d_Writer_takeWeights_36 : decode b_Writer_takeWeights 36 = .ok (.dup2, 1) := by decide +kernel
theorem d_Writer_takeWeights_37 : decode b_Writer_takeWeights 37 = .ok (.iaload, 1) := by decide +kernel
theorem d_Writer_takeWeights_38 : decode b_Writer_takeWeights 38 = .ok (.iconst 1, 1) := by decide +kernel
theorem d_Writer_takeWeights_39 : decode b_Writer_takeWeights 39 = .ok (.iadd, 1) := by decide +kernel
theorem d_Writer_takeWeights_40 : decode b_Writer_takeWeights 40 = .ok (.iastore, 1) := by decide +kernel
theorem d_Writer_takeWeights_41 : decode b_Writer_takeWeights 41 = .ok (.iinc 3 1, 3) := by decide +kernel
theorem d_Writer_takeWeights_44 : decode b_Writer_takeWeights 44 = .ok (.goto (-34), 3) := by decide +kernel
theorem d_Writer_takeWeights_47 : decode b_Writer_takeWeights 47 = .ok (.return_, 1) := by decide +kernel
abbrev R_Writer_takeWeights : Room := ({ frames := 1, cells := 0, slots := 0, locals := 23 } : Room)
def E_Writer_takeWeights (p : Program) (l : Launch) (e : Env) (s : State) (m : MethodId) (args : Array Value) (below : List Frame) (meth : Method) (c : Code) (Q : State → Prop) (A : Nat → Prop) (D : va_G) (cI cL cZ : ClassId) (a_this : Nat) (a_weights : Nat) (a_counts : Nat) (a_p1 : Nat) (a_p1_lengths : Nat) (o_five : Nat) (o_six : Nat) (o_p1_values : Nat) (o_p1_cells : Nat) (i_p1_greatest : Int32) (i_p1_known : Int32) (i_p1_highest : Int32) (v_p1_lengths : Nat → Int32) (l2 : Int32) (res : (Nat → Int32) × (Nat → Int32)) : Prop := ∀ (pc : Nat) (H : Heap) (locs : List Loc) (ls : Array Slot) (v_weights : Nat → Int32) (v_counts : Nat → Int32), some (v_weights, v_counts) = some res → decode b_Writer_takeWeights pc = .ok (.return_, 1) → va_P D classes [(a_this, .inr (10, [.ref o_five, .ref o_six, .ref a_weights, .ref a_counts])), (a_weights, .inl (cI, 256, .inl v_weights)), (a_counts, .inl (cI, 12, .inl v_counts)), (a_p1, .inr (2, [.ref a_p1_lengths, .ref o_p1_values, .ref o_p1_cells, .int i_p1_greatest, .int i_p1_known, .int i_p1_highest])), (a_p1_lengths, .inl (cI, 256, .inl v_p1_lengths))] H → va_D A [(a_this, .inr (10, [.ref o_five, .ref o_six, .ref a_weights, .ref a_counts])), (a_weights, .inl (cI, 256, .inl v_weights)), (a_counts, .inl (cI, 12, .inl v_counts)), (a_p1, .inr (2, [.ref a_p1_lengths, .ref o_p1_values, .ref o_p1_cells, .int i_p1_greatest, .int i_p1_known, .int i_p1_highest])), (a_p1_lengths, .inl (cI, 256, .inl v_p1_lengths))] → va_S A s.heap H locs → W p l e R_Writer_takeWeights s m args below meth c H locs 0 0 Q (F0 m pc ls [])
def I_Writer_takeWeights_b10 (p : Program) (l : Launch) (e : Env) (s : State) (m : MethodId) (args : Array Value) (below : List Frame) (meth : Method) (c : Code) (Q : State → Prop) (A : Nat → Prop) (D : va_G) (cI cL cZ : ClassId) (a_this : Nat) (a_weights : Nat) (a_counts : Nat) (a_p1 : Nat) (a_p1_lengths : Nat) (o_five : Nat) (o_six : Nat) (o_p1_values : Nat) (o_p1_cells : Nat) (i_p1_greatest : Int32) (i_p1_known : Int32) (i_p1_highest : Int32) (v_p1_lengths : Nat → Int32) (l2 : Int32) (res : (Nat → Int32) × (Nat → Int32)) (kf : Int32 → (Nat → Int32) → (Nat → Int32) → Option ((Nat → Int32) × (Nat → Int32))) : Prop := ∀ (l3 : Int32) (v_weights : Nat → Int32) (v_counts : Nat → Int32), kf l3 v_weights v_counts = some res → ∀ (H : Heap) (locs : List Loc) (ls : Array Slot), lv_has ls 4 [(0, .ref a_this), (1, .ref a_p1), (2, .int l2), (3, .int l3)] → va_P D classes [(a_this, .inr (10, [.ref o_five, .ref o_six, .ref a_weights, .ref a_counts])), (a_weights, .inl (cI, 256, .inl v_weights)), (a_counts, .inl (cI, 12, .inl v_counts)), (a_p1, .inr (2, [.ref a_p1_lengths, .ref o_p1_values, .ref o_p1_cells, .int i_p1_greatest, .int i_p1_known, .int i_p1_highest])), (a_p1_lengths, .inl (cI, 256, .inl v_p1_lengths))] H → va_D A [(a_this, .inr (10, [.ref o_five, .ref o_six, .ref a_weights, .ref a_counts])), (a_weights, .inl (cI, 256, .inl v_weights)), (a_counts, .inl (cI, 12, .inl v_counts)), (a_p1, .inr (2, [.ref a_p1_lengths, .ref o_p1_values, .ref o_p1_cells, .int i_p1_greatest, .int i_p1_known, .int i_p1_highest])), (a_p1_lengths, .inl (cI, 256, .inl v_p1_lengths))] → va_S A s.heap H locs → W p l e R_Writer_takeWeights s m args below meth c H locs 0 0 Q (F0 m 10 ls [])
def I_Writer_takeWeights_b0 (p : Program) (l : Launch) (e : Env) (s : State) (m : MethodId) (args : Array Value) (below : List Frame) (meth : Method) (c : Code) (Q : State → Prop) (A : Nat → Prop) (D : va_G) (cI cL cZ : ClassId) (a_this : Nat) (a_weights : Nat) (a_counts : Nat) (a_p1 : Nat) (a_p1_lengths : Nat) (o_five : Nat) (o_six : Nat) (o_p1_values : Nat) (o_p1_cells : Nat) (i_p1_greatest : Int32) (i_p1_known : Int32) (i_p1_highest : Int32) (v_p1_lengths : Nat → Int32) (l2 : Int32) (res : (Nat → Int32) × (Nat → Int32)) (kf : (Nat → Int32) → (Nat → Int32) → Option ((Nat → Int32) × (Nat → Int32))) : Prop := ∀ (v_weights : Nat → Int32) (v_counts : Nat → Int32), kf v_weights v_counts = some res → ∀ (H : Heap) (locs : List Loc) (ls : Array Slot), lv_has ls 4 [(0, .ref a_this), (1, .ref a_p1), (2, .int l2)] → va_P D classes [(a_this, .inr (10, [.ref o_five, .ref o_six, .ref a_weights, .ref a_counts])), (a_weights, .inl (cI, 256, .inl v_weights)), (a_counts, .inl (cI, 12, .inl v_counts)), (a_p1, .inr (2, [.ref a_p1_lengths, .ref o_p1_values, .ref o_p1_cells, .int i_p1_greatest, .int i_p1_known, .int i_p1_highest])), (a_p1_lengths, .inl (cI, 256, .inl v_p1_lengths))] H → va_D A [(a_this, .inr (10, [.ref o_five, .ref o_six, .ref a_weights, .ref a_counts])), (a_weights, .inl (cI, 256, .inl v_weights)), (a_counts, .inl (cI, 12, .inl v_counts)), (a_p1, .inr (2, [.ref a_p1_lengths, .ref o_p1_values, .ref o_p1_cells, .int i_p1_greatest, .int i_p1_known, .int i_p1_highest])), (a_p1_lengths, .inl (cI, 256, .inl v_p1_lengths))] → va_S A s.heap H locs → W p l e R_Writer_takeWeights s m args below meth c H locs 0 0 Q (F0 m 0 ls [])
set_option maxHeartbeats 4000000 in
set_option maxRecDepth 100000 in
theorem w_Writer_takeWeights_b10 {p : Program} {l : Launch} {e : Env} {s : State} {m : MethodId} {args : Array Value} {below : List Frame} {meth : Method} {c : Code} {Q : State → Prop} {A : Nat → Prop} {D : va_G} {cI cL cZ : ClassId} {a_this : Nat} {a_weights : Nat} {a_counts : Nat} {a_p1 : Nat} {a_p1_lengths : Nat} {o_five : Nat} {o_six : Nat} {o_p1_values : Nat} {o_p1_cells : Nat} {i_p1_greatest : Int32} {i_p1_known : Int32} {i_p1_highest : Int32} {v_p1_lengths : Nat → Int32} {l2 : Int32} {N : Nat} {res : (Nat → Int32) × (Nat → Int32)}  (C : Cx p s m args c b_Writer_takeWeights 4 "PrefixMill$Writer" D [(cI, .int), (cL, .long), (cZ, .boolean)] A) (hret : E_Writer_takeWeights p l e s m args below meth c Q A D cI cL cZ a_this a_weights a_counts a_p1 a_p1_lengths o_five o_six o_p1_values o_p1_cells i_p1_greatest i_p1_known i_p1_highest v_p1_lengths l2 res)  : ∀ z : Nat, I_Writer_takeWeights_b10 p l e s m args below meth c Q A D cI cL cZ a_this a_weights a_counts a_p1 a_p1_lengths o_five o_six o_p1_values o_p1_cells i_p1_greatest i_p1_known i_p1_highest v_p1_lengths l2 res (f_Writer_takeWeights_b10 N i_p1_greatest v_p1_lengths l2  z) := by
  obtain ⟨hx, hb, hml, hown, hts, hK, hA⟩ := C
  intro z
  induction z with
  | zero => intro l3 v_weights v_counts h; cases h
  | succ z ih =>
    intro l3 v_weights v_counts h H locs ls hl hP hD hS
    refine lv_iload_n hx hb d_Writer_takeWeights_10 rfl (lv_at hl 3 rfl) ?_
    refine lv_iload_n hx hb d_Writer_takeWeights_11 rfl (lv_at hl 2 rfl) ?_
    refine lv_icmp_ge (tgt := 47) hx hb d_Writer_takeWeights_12 (by decide) (fun c_1 => ?_) (fun c_1 => ?_)
    · replace h := if_t h c_1
      exact hret _ _ _ _ v_weights v_counts h d_Writer_takeWeights_47 hP hD hS
    · replace h := if_f h c_1
      refine lv_aload_n hx hb d_Writer_takeWeights_15 rfl (lv_at hl 0 rfl) ?_
      refine va_get hx hb hts in_Writer hown hK hP 0 rfl rfl 2 (by decide) (hts _ m_267) (fun _ h9 => h9) rfl d_Writer_takeWeights_16 ?_
      refine lv_iload_n hx hb d_Writer_takeWeights_19 rfl (lv_at hl 3 rfl) ?_
      refine lv_aload_n hx hb d_Writer_takeWeights_20 rfl (lv_at hl 1 rfl) ?_
      refine lv_iload_n hx hb d_Writer_takeWeights_21 rfl (lv_at hl 3 rfl) ?_
      obtain ⟨r_2, hc_3, h⟩ := bd1_s h
      have hPc := hP.sub (ws' := [(a_p1, .inr (2, [.ref a_p1_lengths, .ref o_p1_values, .ref o_p1_cells, .int i_p1_greatest, .int i_p1_known, .int i_p1_highest])), (a_p1_lengths, .inl (cI, 256, .inl v_p1_lengths))]) [3, 4] rfl
      have hDc := hD.sub (ws' := [(a_p1, .inr (2, [.ref a_p1_lengths, .ref o_p1_values, .ref o_p1_cells, .int i_p1_greatest, .int i_p1_known, .int i_p1_highest])), (a_p1_lengths, .inl (cI, 256, .inl v_p1_lengths))]) [3, 4] (by decide) rfl
      have hFc := va_free (wc := [(a_p1, .inr (2, [.ref a_p1_lengths, .ref o_p1_values, .ref o_p1_cells, .int i_p1_greatest, .int i_p1_known, .int i_p1_highest])), (a_p1_lengths, .inl (cI, 256, .inl v_p1_lengths))]) hD hS hA [3, 4] rfl
      refine va_calli (va_runV (As := [.int l3]) (rest := [.int l3, .ref a_weights]) ⟨hx, hb, hml, hown, hts⟩ (c_Codes_weightOf l D cI cL cZ H.size N a_p1 a_p1_lengths o_p1_values o_p1_cells i_p1_greatest i_p1_known i_p1_highest v_p1_lengths l3 r_2 hc_3) ⟨(my_cb 1 hts m_516 rfl rfl (hts _ m_68) (hts _ m_513) (by decide +kernel) ⟨Nat.le_of_ble_eq_true rfl, Nat.le_of_ble_eq_true rfl⟩), hts _ m_514, hts _ m_515⟩ ⟨fun a U g mk q => by obtain ⟨q0, q1, qP, qK, qD⟩ := q; exact ⟨q0, q1, qP, va_K.moved (u := U) (U := U.calling g mk a) (Vm.Alike.refl U.vm) qK, qD⟩, va_recv hK hPc (ci := 2) (q0 := 0) rfl rfl, fun U hU hW => ⟨rfl, by rw [hU], by rw [hU]; exact hPc, va_K.moved hW.alike hK, hDc.weaken (fun _ _ _ _ => trivial)⟩⟩ rfl rfl hl.1 rfl (lv_room (Nat.le_of_ble_eq_true rfl)) d_Writer_takeWeights_22 ⟨Nat.zero_le _, Nat.zero_le _⟩) hS (fun q _ h => hFc q h) hFc (fun rr u t H1 locs ht hvm hw hB hz1 hk1 hS => ?_)
      obtain ⟨hP1, hK1, hD1⟩ := hB
      rw [ht] at hP1
      subst hw
      obtain ⟨hP, hD⟩ := va_join (wr := [(a_this, .inr (10, [.ref o_five, .ref o_six, .ref a_weights, .ref a_counts])), (a_weights, .inl (cI, 256, .inl v_weights)), (a_counts, .inl (cI, 12, .inl v_counts))]) (w1 := [(a_p1, .inr (2, [.ref a_p1_lengths, .ref o_p1_values, .ref o_p1_cells, .int i_p1_greatest, .int i_p1_known, .int i_p1_highest])), (a_p1_lengths, .inl (cI, 256, .inl v_p1_lengths))]) hP hD [3, 4] [0, 1, 2] rfl rfl (by decide) (by decide) hk1 hFc hP1 hD1
      clear hPc hDc hFc hk1 hP1 hD1 hK1
      generalize H1 = H at hP hS ⊢
      have hP : va_P D classes [(a_this, .inr (10, [.ref o_five, .ref o_six, .ref a_weights, .ref a_counts])), (a_weights, .inl (cI, 256, .inl v_weights)), (a_counts, .inl (cI, 12, .inl v_counts)), (a_p1, .inr (2, [.ref a_p1_lengths, .ref o_p1_values, .ref o_p1_cells, .int i_p1_greatest, .int i_p1_known, .int i_p1_highest])), (a_p1_lengths, .inl (cI, 256, .inl v_p1_lengths))] H := hP.sub [0, 1, 2, 3, 4] rfl
      have hD : va_D A [(a_this, .inr (10, [.ref o_five, .ref o_six, .ref a_weights, .ref a_counts])), (a_weights, .inl (cI, 256, .inl v_weights)), (a_counts, .inl (cI, 12, .inl v_counts)), (a_p1, .inr (2, [.ref a_p1_lengths, .ref o_p1_values, .ref o_p1_cells, .int i_p1_greatest, .int i_p1_known, .int i_p1_highest])), (a_p1_lengths, .inl (cI, 256, .inl v_p1_lengths))] := hD.sub [0, 1, 2, 3, 4] (by decide) rfl
      obtain ⟨g_4, h⟩ := ck_s h
      refine va_iast hx hb hK hP hD hS 1 0 rfl rfl (inb_s g_4) d_Writer_takeWeights_25 (fun H locs hP hD hS => ?_)
      obtain ⟨v_weights_5, ev_weights_5⟩ : ∃ y, y = (upd v_weights (Int32.toNatClampNeg l3) r_2) := ⟨_, rfl⟩
      replace h := nm_s h ev_weights_5
      have hP : va_P D classes [(a_this, .inr (10, [.ref o_five, .ref o_six, .ref a_weights, .ref a_counts])), (a_weights, .inl (cI, 256, .inl v_weights_5)), (a_counts, .inl (cI, 12, .inl v_counts)), (a_p1, .inr (2, [.ref a_p1_lengths, .ref o_p1_values, .ref o_p1_cells, .int i_p1_greatest, .int i_p1_known, .int i_p1_highest])), (a_p1_lengths, .inl (cI, 256, .inl v_p1_lengths))] H := by rw [ev_weights_5]; exact hP
      have hD : va_D A [(a_this, .inr (10, [.ref o_five, .ref o_six, .ref a_weights, .ref a_counts])), (a_weights, .inl (cI, 256, .inl v_weights_5)), (a_counts, .inl (cI, 12, .inl v_counts)), (a_p1, .inr (2, [.ref a_p1_lengths, .ref o_p1_values, .ref o_p1_cells, .int i_p1_greatest, .int i_p1_known, .int i_p1_highest])), (a_p1_lengths, .inl (cI, 256, .inl v_p1_lengths))] := by rw [ev_weights_5]; exact hD
      refine lv_aload_n hx hb d_Writer_takeWeights_26 rfl (lv_at hl 0 rfl) ?_
      refine va_get hx hb hts in_Writer hown hK hP 0 rfl rfl 3 (by decide) (hts _ m_268) (fun _ h9 => h9) rfl d_Writer_takeWeights_27 ?_
      refine lv_aload_n hx hb d_Writer_takeWeights_30 rfl (lv_at hl 0 rfl) ?_
      refine va_get hx hb hts in_Writer hown hK hP 0 rfl rfl 2 (by decide) (hts _ m_267) (fun _ h9 => h9) rfl d_Writer_takeWeights_31 ?_
      refine lv_iload_n hx hb d_Writer_takeWeights_34 rfl (lv_at hl 3 rfl) ?_
      obtain ⟨g_6, h⟩ := ck_s h
      refine va_iald hx hb hK hP 1 0 rfl rfl (inb_s g_6) d_Writer_takeWeights_35 ?_
      refine lv_dup2_11 hx hb d_Writer_takeWeights_36 rfl rfl ?_
      obtain ⟨g_7, h⟩ := ck_s h
      refine va_iald hx hb hK hP 2 0 rfl rfl (inb_s g_7) d_Writer_takeWeights_37 ?_
      refine lv_iconst (v := 1) hx hb d_Writer_takeWeights_38 (by decide) ?_
      refine lv_iadd hx hb d_Writer_takeWeights_39 ?_
      obtain ⟨g_8, h⟩ := ck_s h
      refine va_iast hx hb hK hP hD hS 2 0 rfl rfl (inb_s g_8) d_Writer_takeWeights_40 (fun H locs hP hD hS => ?_)
      obtain ⟨v_counts_9, ev_counts_9⟩ : ∃ y, y = (upd v_counts (Int32.toNatClampNeg (v_weights_5 (Int32.toNatClampNeg l3))) ((v_counts (Int32.toNatClampNeg (v_weights_5 (Int32.toNatClampNeg l3)))) + 1)) := ⟨_, rfl⟩
      replace h := nm_s h ev_counts_9
      have hP : va_P D classes [(a_this, .inr (10, [.ref o_five, .ref o_six, .ref a_weights, .ref a_counts])), (a_weights, .inl (cI, 256, .inl v_weights_5)), (a_counts, .inl (cI, 12, .inl v_counts_9)), (a_p1, .inr (2, [.ref a_p1_lengths, .ref o_p1_values, .ref o_p1_cells, .int i_p1_greatest, .int i_p1_known, .int i_p1_highest])), (a_p1_lengths, .inl (cI, 256, .inl v_p1_lengths))] H := by rw [ev_counts_9]; exact hP
      have hD : va_D A [(a_this, .inr (10, [.ref o_five, .ref o_six, .ref a_weights, .ref a_counts])), (a_weights, .inl (cI, 256, .inl v_weights_5)), (a_counts, .inl (cI, 12, .inl v_counts_9)), (a_p1, .inr (2, [.ref a_p1_lengths, .ref o_p1_values, .ref o_p1_cells, .int i_p1_greatest, .int i_p1_known, .int i_p1_highest])), (a_p1_lengths, .inl (cI, 256, .inl v_p1_lengths))] := by rw [ev_counts_9]; exact hD
      obtain ⟨l3_10, el3_10⟩ : ∃ y : Int32, y = l3 + 1 := ⟨_, rfl⟩
      replace h := nm_s h el3_10
      refine lv_iinc (v := l3_10) (lv' := [(3, .int l3_10), (0, .ref a_this), (1, .ref a_p1), (2, .int l2)]) hx hb d_Writer_takeWeights_41 hl (k := 3) rfl (by rw [el3_10]; rfl) (by decide) rfl (fun ls hl => ?_)
      refine lv_goto (tgt := 10) hx hb d_Writer_takeWeights_44 (by decide) ?_
      exact ih _ _ _ h H locs ls (lv_sub hl [1, 2, 3, 0] rfl) hP hD hS
set_option maxHeartbeats 4000000 in
set_option maxRecDepth 100000 in
theorem w_Writer_takeWeights_b0 {p : Program} {l : Launch} {e : Env} {s : State} {m : MethodId} {args : Array Value} {below : List Frame} {meth : Method} {c : Code} {Q : State → Prop} {A : Nat → Prop} {D : va_G} {cI cL cZ : ClassId} {a_this : Nat} {a_weights : Nat} {a_counts : Nat} {a_p1 : Nat} {a_p1_lengths : Nat} {o_five : Nat} {o_six : Nat} {o_p1_values : Nat} {o_p1_cells : Nat} {i_p1_greatest : Int32} {i_p1_known : Int32} {i_p1_highest : Int32} {v_p1_lengths : Nat → Int32} {l2 : Int32} {N : Nat} {res : (Nat → Int32) × (Nat → Int32)}  (C : Cx p s m args c b_Writer_takeWeights 4 "PrefixMill$Writer" D [(cI, .int), (cL, .long), (cZ, .boolean)] A) (hret : E_Writer_takeWeights p l e s m args below meth c Q A D cI cL cZ a_this a_weights a_counts a_p1 a_p1_lengths o_five o_six o_p1_values o_p1_cells i_p1_greatest i_p1_known i_p1_highest v_p1_lengths l2 res)  : I_Writer_takeWeights_b0 p l e s m args below meth c Q A D cI cL cZ a_this a_weights a_counts a_p1 a_p1_lengths o_five o_six o_p1_values o_p1_cells i_p1_greatest i_p1_known i_p1_highest v_p1_lengths l2 res (f_Writer_takeWeights N i_p1_greatest v_p1_lengths l2 ) := by
  obtain ⟨hx, hb, hml, hown, hts, hK, hA⟩ := C
  intro v_weights v_counts h H locs ls hl hP hD hS
  unfold f_Writer_takeWeights at h
  refine lv_aload_n hx hb d_Writer_takeWeights_0 rfl (lv_at hl 0 rfl) ?_
  refine va_get hx hb hts in_Writer hown hK hP 0 rfl rfl 3 (by decide) (hts _ m_268) (fun _ h9 => h9) rfl d_Writer_takeWeights_1 ?_
  refine lv_iconst (v := 0) hx hb d_Writer_takeWeights_4 (by decide) ?_
  obtain ⟨v_counts_1, hc_2, h⟩ := bd1_s h
  have hPc := hP.sub (ws' := [(a_counts, .inl (cI, 12, .inl v_counts))]) [2] rfl
  have hDc := hD.sub (ws' := [(a_counts, .inl (cI, 12, .inl v_counts))]) [2] (by decide) rfl
  have hFc := va_free (wc := [(a_counts, .inl (cI, 12, .inl v_counts))]) hD hS hA [2] rfl
  refine va_callv (va_runS (As := [.ref a_counts, .int 0]) (rest := []) ⟨hx, hb, hml, hown, hts⟩ (c_JArr_fill l D cI cL cZ H.size N a_counts 12 v_counts 0 v_counts_1 hc_2) ⟨(my_cb 2 hts m_410 rfl rfl (hts _ m_79) (hts _ m_512) (by decide +kernel) ⟨Nat.le_of_ble_eq_true rfl, Nat.le_of_ble_eq_true rfl⟩), hts _ m_409⟩ ⟨fun a U g mk q => by obtain ⟨q0, q1, qP, qK, qD⟩ := q; exact ⟨q0, q1, qP, va_K.moved (u := U) (U := U.calling g mk a) (Vm.Alike.refl U.vm) qK, qD⟩, fun U hU hW => ⟨rfl, by rw [hU], by rw [hU]; exact hPc, va_K.moved hW.alike hK, hDc.weaken (fun _ _ _ _ => trivial)⟩⟩ rfl rfl hl.1 rfl (lv_room (Nat.le_of_ble_eq_true rfl)) d_Writer_takeWeights_5 ⟨Nat.zero_le _, Nat.zero_le _⟩) hS (fun q _ h => hFc q h) hFc (fun u t H1 locs ht hvm hw hB hz1 hk1 hS => ?_)
  obtain ⟨hP1, hK1, hD1⟩ := hB
  rw [ht] at hP1
  obtain ⟨hP, hD⟩ := va_join (wr := [(a_this, .inr (10, [.ref o_five, .ref o_six, .ref a_weights, .ref a_counts])), (a_weights, .inl (cI, 256, .inl v_weights)), (a_p1, .inr (2, [.ref a_p1_lengths, .ref o_p1_values, .ref o_p1_cells, .int i_p1_greatest, .int i_p1_known, .int i_p1_highest])), (a_p1_lengths, .inl (cI, 256, .inl v_p1_lengths))]) (w1 := [(a_counts, .inl (cI, 12, .inl v_counts_1))]) hP hD [2] [0, 1, 3, 4] rfl rfl (by decide) (by decide) hk1 hFc hP1 hD1
  clear hPc hDc hFc hk1 hP1 hD1 hK1
  generalize H1 = H at hP hS ⊢
  have hP : va_P D classes [(a_this, .inr (10, [.ref o_five, .ref o_six, .ref a_weights, .ref a_counts])), (a_weights, .inl (cI, 256, .inl v_weights)), (a_counts, .inl (cI, 12, .inl v_counts_1)), (a_p1, .inr (2, [.ref a_p1_lengths, .ref o_p1_values, .ref o_p1_cells, .int i_p1_greatest, .int i_p1_known, .int i_p1_highest])), (a_p1_lengths, .inl (cI, 256, .inl v_p1_lengths))] H := hP.sub [0, 1, 4, 2, 3] rfl
  have hD : va_D A [(a_this, .inr (10, [.ref o_five, .ref o_six, .ref a_weights, .ref a_counts])), (a_weights, .inl (cI, 256, .inl v_weights)), (a_counts, .inl (cI, 12, .inl v_counts_1)), (a_p1, .inr (2, [.ref a_p1_lengths, .ref o_p1_values, .ref o_p1_cells, .int i_p1_greatest, .int i_p1_known, .int i_p1_highest])), (a_p1_lengths, .inl (cI, 256, .inl v_p1_lengths))] := hD.sub [0, 1, 4, 2, 3] (by decide) rfl
  refine lv_iconst (v := 0) hx hb d_Writer_takeWeights_8 (by decide) ?_
  refine lv_istore_n (lv' := [(3, .int 0), (0, .ref a_this), (1, .ref a_p1), (2, .int l2)]) hx hb d_Writer_takeWeights_9 rfl hl (by decide) rfl (fun ls hl => ?_)
  exact w_Writer_takeWeights_b10 ⟨hx, hb, hml, hown, hts, hK, hA⟩ hret  N _ _ _ h H locs ls (lv_sub hl [1, 2, 3, 0] rfl) hP hD hS
set_option maxHeartbeats 4000000 in
set_option maxRecDepth 100000 in
theorem c_Writer_takeWeights (l : Launch) (D : va_G) (cI cL cZ : ClassId) (sz N : Nat) (a_this : Nat) (a_weights : Nat) (a_counts : Nat) (a_p1 : Nat) (a_p1_lengths : Nat) (o_five : Nat) (o_six : Nat) (o_p1_values : Nat) (o_p1_cells : Nat) (v_weights : Nat → Int32) (v_counts : Nat → Int32) (i_p1_greatest : Int32) (i_p1_known : Int32) (i_p1_highest : Int32) (v_p1_lengths : Nat → Int32) (l2 : Int32) (v_weights' : Nat → Int32) (v_counts' : Nat → Int32) (h : f_Writer_takeWeights N i_p1_greatest v_p1_lengths l2 v_weights v_counts = some (v_weights', v_counts')) : Met l ({ cls := "PrefixMill$Writer", name := "takeWeights", desc := "(LPrefixMill$Codes;I)V" } : Jvm.MethodName) ws_Writer_takeWeights R_Writer_takeWeights (va_Pc [.ref a_this, .ref a_p1, .int l2] (fun U => U.heap.size = sz ∧ va_P D classes [(a_this, .inr (10, [.ref o_five, .ref o_six, .ref a_weights, .ref a_counts])), (a_weights, .inl (cI, 256, .inl v_weights)), (a_counts, .inl (cI, 12, .inl v_counts)), (a_p1, .inr (2, [.ref a_p1_lengths, .ref o_p1_values, .ref o_p1_cells, .int i_p1_greatest, .int i_p1_known, .int i_p1_highest])), (a_p1_lengths, .inl (cI, 256, .inl v_p1_lengths))] U.heap ∧ va_K D classes [(cI, .int), (cL, .long), (cZ, .boolean)] U ∧ va_D (fun _ => True) [(a_this, .inr (10, [.ref o_five, .ref o_six, .ref a_weights, .ref a_counts])), (a_weights, .inl (cI, 256, .inl v_weights)), (a_counts, .inl (cI, 12, .inl v_counts)), (a_p1, .inr (2, [.ref a_p1_lengths, .ref o_p1_values, .ref o_p1_cells, .int i_p1_greatest, .int i_p1_known, .int i_p1_highest])), (a_p1_lengths, .inl (cI, 256, .inl v_p1_lengths))])) (va_Qv (fun _ : Unit => True) (fun _ t => va_P D classes [(a_this, .inr (10, [.ref o_five, .ref o_six, .ref a_weights, .ref a_counts])), (a_weights, .inl (cI, 256, .inl v_weights')), (a_counts, .inl (cI, 12, .inl v_counts')), (a_p1, .inr (2, [.ref a_p1_lengths, .ref o_p1_values, .ref o_p1_cells, .int i_p1_greatest, .int i_p1_known, .int i_p1_highest])), (a_p1_lengths, .inl (cI, 256, .inl v_p1_lengths))] t.heap ∧ va_K D classes [(cI, .int), (cL, .long), (cZ, .boolean)] t ∧ va_D (va_A [(a_this, .inr (10, [.ref o_five, .ref o_six, .ref a_weights, .ref a_counts])), (a_weights, .inl (cI, 256, .inl v_weights)), (a_counts, .inl (cI, 12, .inl v_counts)), (a_p1, .inr (2, [.ref a_p1_lengths, .ref o_p1_values, .ref o_p1_cells, .int i_p1_greatest, .int i_p1_known, .int i_p1_highest])), (a_p1_lengths, .inl (cI, 256, .inl v_p1_lengths))] sz) [(a_this, .inr (10, [.ref o_five, .ref o_six, .ref a_weights, .ref a_counts])), (a_weights, .inl (cI, 256, .inl v_weights')), (a_counts, .inl (cI, 12, .inl v_counts')), (a_p1, .inr (2, [.ref a_p1_lengths, .ref o_p1_values, .ref o_p1_cells, .int i_p1_greatest, .int i_p1_known, .int i_p1_highest])), (a_p1_lengths, .inl (cI, 256, .inl v_p1_lengths))]) (va_A [(a_this, .inr (10, [.ref o_five, .ref o_six, .ref a_weights, .ref a_counts])), (a_weights, .inl (cI, 256, .inl v_weights)), (a_counts, .inl (cI, 12, .inl v_counts)), (a_p1, .inr (2, [.ref a_p1_lengths, .ref o_p1_values, .ref o_p1_cells, .int i_p1_greatest, .int i_p1_known, .int i_p1_highest])), (a_p1_lengths, .inl (cI, 256, .inl v_p1_lengths))] sz)) 0 0 (va_A [(a_this, .inr (10, [.ref o_five, .ref o_six, .ref a_weights, .ref a_counts])), (a_weights, .inl (cI, 256, .inl v_weights)), (a_counts, .inl (cI, 12, .inl v_counts)), (a_p1, .inr (2, [.ref a_p1_lengths, .ref o_p1_values, .ref o_p1_cells, .int i_p1_greatest, .int i_p1_known, .int i_p1_highest])), (a_p1_lengths, .inl (cI, 256, .inl v_p1_lengths))] sz) := by
  refine Met.ofW (cc := b_Writer_takeWeights) (maxL := 4) (ret := none) (by decide) rfl ?_
  intro p e s m args below meth c s₁ B hml hv
  obtain ⟨rfl, hsz, hP, hK, hD0⟩ := hv
  have hx := B.exec
  have hb := B.bytes
  have hr := B.returns
  have hts0 := atoms_spec (ws := ws_Writer_takeWeights) B.pre
  have hts := gd_tl hts0
  clear hts0
  have hown : s.vm.findClass "PrefixMill$Writer" = some m.cls := findClass_of_methodNamed B.named
  have hlocks := B.notSynchronized
  subst hsz
  have hD := hD0.self (sz := s.heap.size)
  generalize hAe : va_A [(a_this, .inr (10, [.ref o_five, .ref o_six, .ref a_weights, .ref a_counts])), (a_weights, .inl (cI, 256, .inl v_weights)), (a_counts, .inl (cI, 12, .inl v_counts)), (a_p1, .inr (2, [.ref a_p1_lengths, .ref o_p1_values, .ref o_p1_cells, .int i_p1_greatest, .int i_p1_known, .int i_p1_highest])), (a_p1_lengths, .inl (cI, 256, .inl v_p1_lengths))] s.heap.size = A at hD ⊢
  have hA : ∀ q : Nat, s.heap.size ≤ q → A q := fun q h => by rw [← hAe]; exact Or.inr h
  have hS : va_S A s.heap s.heap [] := va_S.rf
  have hP : va_P D classes [(a_this, .inr (10, [.ref o_five, .ref o_six, .ref a_weights, .ref a_counts])), (a_weights, .inl (cI, 256, .inl v_weights)), (a_counts, .inl (cI, 12, .inl v_counts)), (a_p1, .inr (2, [.ref a_p1_lengths, .ref o_p1_values, .ref o_p1_cells, .int i_p1_greatest, .int i_p1_known, .int i_p1_highest])), (a_p1_lengths, .inl (cI, 256, .inl v_p1_lengths))] s.heap := hP
  have hl := lv_entry ([.ref a_this, .ref a_p1, .int l2]) (n := 4) (Nat.le_of_ble_eq_true rfl)
  rw [lg_entry_eq]
  generalize (lg_sl ([.ref a_this, .ref a_p1, .int l2]) ++ List.replicate (4 - (lg_sl ([.ref a_this, .ref a_p1, .int l2])).length) Slot.unset).toArray = ls at hl ⊢
  have hl : lv_has ls 4 [(0, .ref a_this), (1, .ref a_p1), (2, .int l2)] := hl
  have C : Cx p s m ([.ref a_this, .ref a_p1, .int l2] : List Value).toArray c b_Writer_takeWeights 4 "PrefixMill$Writer" D [(cI, .int), (cL, .long), (cZ, .boolean)] A := ⟨hx, hb, hml, hown, hts, hK, hA⟩
  refine w_Writer_takeWeights_b0 (res := (v_weights', v_counts')) C ?_ _ _ h s.heap [] ls hl hP hD hS
  intro pc9 H9 locs9 ls9 v_weights9 v_counts9 e9 d9 hP9 hD9 hS9
  cases e9
  exact W.vret hx hb hr (fun t ht hW => ⟨⟨(), rfl, trivial, by rw [ht]; exact hP9, va_K.moved hW.alike hK, hD9⟩, hS9.F ht⟩) hS9.2.2 d9
abbrev b_Share_massOf : ByteArray := prog_6_method_2_code
def ws_Share_massOf : List Cond := .code ({ cls := "PrefixMill$Share", name := "massOf", desc := "(I)I" } : Jvm.MethodName) b_Share_massOf 2 (some .int) :: tt
theorem d_Share_massOf_0 : decode b_Share_massOf 0 = .ok (.aload_n 0, 1) := by decide +kernel
theorem d_Share_massOf_1 : decode b_Share_massOf 1 = .ok (.getfield 9, 3) := by decide +kernel
theorem d_Share_massOf_4 : decode b_Share_massOf 4 = .ok (.iload_n 1, 1) := by decide +kernel
theorem d_Share_massOf_5 : decode b_Share_massOf 5 = .ok (.iaload, 1) := by decide +kernel
theorem d_Share_massOf_6 : decode b_Share_massOf 6 = .ok (.ifCond .ge 7, 3) := by decide +kernel
theorem d_Share_massOf_9 : decode b_Share_massOf 9 = .ok (.iconst 1, 1) := by decide +kernel
theorem d_Share_massOf_10 : decode b_Share_massOf 10 = .ok (.goto 9, 3) := by decide +kernel
theorem d_Share_massOf_13 : decode b_Share_massOf 13 = .ok (.aload_n 0, 1) := by decide +kernel
theorem d_Share_massOf_14 : decode b_Share_massOf 14 = .ok (.getfield 9, 3) := by decide +kernel
theorem d_Share_massOf_17 : decode b_Share_massOf 17 = .ok (.iload_n 1, 1) := by decide +kernel
theorem d_Share_massOf_18 : decode b_Share_massOf 18 = .ok (.iaload, 1) := by decide +kernel
theorem d_Share_massOf_19 : decode b_Share_massOf 19 = .ok (.ireturn, 1) := by decide +kernel
abbrev R_Share_massOf : Room := ({ frames := 0, cells := 0, slots := 0, locals := 0 } : Room)
def E_Share_massOf (p : Program) (l : Launch) (e : Env) (s : State) (m : MethodId) (args : Array Value) (below : List Frame) (meth : Method) (c : Code) (Q : State → Prop) (A : Nat → Prop) (D : va_G) (cI cL cZ : ClassId) (a_this : Nat) (a_points : Nat) (o_cuts : Nat) (o_queue : Nat) (o_owners : Nat) (o_takes : Nat) (o_bases : Nat) (o_ranked : Nat) (o_starts : Nat) (o_numbers : Nat) (o_walk : Nat) (i_order : Int32) (i_next : Int32) (v_points : Nat → Int32) (l1 : Int32) (res : Int32) : Prop := ∀ (pc : Nat) (H : Heap) (locs : List Loc) (ls : Array Slot) (rv : Int32), some (rv) = some res → decode b_Share_massOf pc = .ok (.ireturn, 1) → va_P D classes [(a_this, .inr (6, [.ref a_points, .ref o_cuts, .ref o_queue, .ref o_owners, .ref o_takes, .ref o_bases, .ref o_ranked, .ref o_starts, .ref o_numbers, .ref o_walk, .int i_order, .int i_next])), (a_points, .inl (cI, 12, .inl v_points))] H → va_D A [(a_this, .inr (6, [.ref a_points, .ref o_cuts, .ref o_queue, .ref o_owners, .ref o_takes, .ref o_bases, .ref o_ranked, .ref o_starts, .ref o_numbers, .ref o_walk, .int i_order, .int i_next])), (a_points, .inl (cI, 12, .inl v_points))] → va_S A s.heap H locs → W p l e R_Share_massOf s m args below meth c H locs 0 0 Q (F0 m pc ls [.int rv])
def I_Share_massOf_b0 (p : Program) (l : Launch) (e : Env) (s : State) (m : MethodId) (args : Array Value) (below : List Frame) (meth : Method) (c : Code) (Q : State → Prop) (A : Nat → Prop) (D : va_G) (cI cL cZ : ClassId) (a_this : Nat) (a_points : Nat) (o_cuts : Nat) (o_queue : Nat) (o_owners : Nat) (o_takes : Nat) (o_bases : Nat) (o_ranked : Nat) (o_starts : Nat) (o_numbers : Nat) (o_walk : Nat) (i_order : Int32) (i_next : Int32) (v_points : Nat → Int32) (l1 : Int32) (res : Int32) (kf : Option (Int32)) : Prop := ∀ (_ : Unit), kf  = some res → ∀ (H : Heap) (locs : List Loc) (ls : Array Slot), lv_has ls 2 [(0, .ref a_this), (1, .int l1)] → va_P D classes [(a_this, .inr (6, [.ref a_points, .ref o_cuts, .ref o_queue, .ref o_owners, .ref o_takes, .ref o_bases, .ref o_ranked, .ref o_starts, .ref o_numbers, .ref o_walk, .int i_order, .int i_next])), (a_points, .inl (cI, 12, .inl v_points))] H → va_D A [(a_this, .inr (6, [.ref a_points, .ref o_cuts, .ref o_queue, .ref o_owners, .ref o_takes, .ref o_bases, .ref o_ranked, .ref o_starts, .ref o_numbers, .ref o_walk, .int i_order, .int i_next])), (a_points, .inl (cI, 12, .inl v_points))] → va_S A s.heap H locs → W p l e R_Share_massOf s m args below meth c H locs 0 0 Q (F0 m 0 ls [])
set_option maxHeartbeats 4000000 in
set_option maxRecDepth 100000 in
theorem w_Share_massOf_b0 {p : Program} {l : Launch} {e : Env} {s : State} {m : MethodId} {args : Array Value} {below : List Frame} {meth : Method} {c : Code} {Q : State → Prop} {A : Nat → Prop} {D : va_G} {cI cL cZ : ClassId} {a_this : Nat} {a_points : Nat} {o_cuts : Nat} {o_queue : Nat} {o_owners : Nat} {o_takes : Nat} {o_bases : Nat} {o_ranked : Nat} {o_starts : Nat} {o_numbers : Nat} {o_walk : Nat} {i_order : Int32} {i_next : Int32} {v_points : Nat → Int32} {l1 : Int32} {N : Nat} {res : Int32}  (C : Cx p s m args c b_Share_massOf 2 "PrefixMill$Share" D [(cI, .int), (cL, .long), (cZ, .boolean)] A) (hret : E_Share_massOf p l e s m args below meth c Q A D cI cL cZ a_this a_points o_cuts o_queue o_owners o_takes o_bases o_ranked o_starts o_numbers o_walk i_order i_next v_points l1 res)  : I_Share_massOf_b0 p l e s m args below meth c Q A D cI cL cZ a_this a_points o_cuts o_queue o_owners o_takes o_bases o_ranked o_starts o_numbers o_walk i_order i_next v_points l1 res (f_Share_massOf N v_points l1 ) := by
  obtain ⟨hx, hb, hml, hown, hts, hK, hA⟩ := C
  intro _ h H locs ls hl hP hD hS
  unfold f_Share_massOf at h
  refine lv_aload_n hx hb d_Share_massOf_0 rfl (lv_at hl 0 rfl) ?_
  refine va_get hx hb hts in_Share hown hK hP 0 rfl rfl 0 (by decide) (hts _ m_211) (fun _ h9 => h9) rfl d_Share_massOf_1 ?_
  refine lv_iload_n hx hb d_Share_massOf_4 rfl (lv_at hl 1 rfl) ?_
  obtain ⟨g_1, h⟩ := ck_s h
  refine va_iald hx hb hK hP 1 0 rfl rfl (inb_s g_1) d_Share_massOf_5 ?_
  refine lv_if_ge (tgt := 13) hx hb d_Share_massOf_6 (by decide) (fun c_2 => ?_) (fun c_2 => ?_)
  · replace h := if_t h c_2
    refine lv_aload_n hx hb d_Share_massOf_13 rfl (lv_at hl 0 rfl) ?_
    refine va_get hx hb hts in_Share hown hK hP 0 rfl rfl 0 (by decide) (hts _ m_211) (fun _ h9 => h9) rfl d_Share_massOf_14 ?_
    refine lv_iload_n hx hb d_Share_massOf_17 rfl (lv_at hl 1 rfl) ?_
    obtain ⟨g_3, h⟩ := ck_s h
    refine va_iald hx hb hK hP 1 0 rfl rfl (inb_s g_3) d_Share_massOf_18 ?_
    exact hret _ _ _ _ (v_points (Int32.toNatClampNeg l1))  h d_Share_massOf_19 hP hD hS
  · replace h := if_f h c_2
    refine lv_iconst (v := 1) hx hb d_Share_massOf_9 (by decide) ?_
    refine lv_goto (tgt := 19) hx hb d_Share_massOf_10 (by decide) ?_
    exact hret _ _ _ _ 1  h d_Share_massOf_19 hP hD hS
set_option maxHeartbeats 4000000 in
set_option maxRecDepth 100000 in
theorem c_Share_massOf (l : Launch) (D : va_G) (cI cL cZ : ClassId) (sz N : Nat) (a_this : Nat) (a_points : Nat) (o_cuts : Nat) (o_queue : Nat) (o_owners : Nat) (o_takes : Nat) (o_bases : Nat) (o_ranked : Nat) (o_starts : Nat) (o_numbers : Nat) (o_walk : Nat) (i_order : Int32) (i_next : Int32) (v_points : Nat → Int32) (l1 : Int32) (rv : Int32) (h : f_Share_massOf N v_points l1  = some (rv)) : Met l ({ cls := "PrefixMill$Share", name := "massOf", desc := "(I)I" } : Jvm.MethodName) ws_Share_massOf R_Share_massOf (va_Pc [.ref a_this, .int l1] (fun U => U.heap.size = sz ∧ va_P D classes [(a_this, .inr (6, [.ref a_points, .ref o_cuts, .ref o_queue, .ref o_owners, .ref o_takes, .ref o_bases, .ref o_ranked, .ref o_starts, .ref o_numbers, .ref o_walk, .int i_order, .int i_next])), (a_points, .inl (cI, 12, .inl v_points))] U.heap ∧ va_K D classes [(cI, .int), (cL, .long), (cZ, .boolean)] U ∧ va_D (fun _ => True) [(a_this, .inr (6, [.ref a_points, .ref o_cuts, .ref o_queue, .ref o_owners, .ref o_takes, .ref o_bases, .ref o_ranked, .ref o_starts, .ref o_numbers, .ref o_walk, .int i_order, .int i_next])), (a_points, .inl (cI, 12, .inl v_points))])) (va_Qi (fun (r0 : Int32) (_ : Unit) => rv = r0) (fun _ t => va_P D classes [(a_this, .inr (6, [.ref a_points, .ref o_cuts, .ref o_queue, .ref o_owners, .ref o_takes, .ref o_bases, .ref o_ranked, .ref o_starts, .ref o_numbers, .ref o_walk, .int i_order, .int i_next])), (a_points, .inl (cI, 12, .inl v_points))] t.heap ∧ va_K D classes [(cI, .int), (cL, .long), (cZ, .boolean)] t ∧ va_D (va_A [(a_this, .inr (6, [.ref a_points, .ref o_cuts, .ref o_queue, .ref o_owners, .ref o_takes, .ref o_bases, .ref o_ranked, .ref o_starts, .ref o_numbers, .ref o_walk, .int i_order, .int i_next])), (a_points, .inl (cI, 12, .inl v_points))] sz) [(a_this, .inr (6, [.ref a_points, .ref o_cuts, .ref o_queue, .ref o_owners, .ref o_takes, .ref o_bases, .ref o_ranked, .ref o_starts, .ref o_numbers, .ref o_walk, .int i_order, .int i_next])), (a_points, .inl (cI, 12, .inl v_points))]) (va_A [(a_this, .inr (6, [.ref a_points, .ref o_cuts, .ref o_queue, .ref o_owners, .ref o_takes, .ref o_bases, .ref o_ranked, .ref o_starts, .ref o_numbers, .ref o_walk, .int i_order, .int i_next])), (a_points, .inl (cI, 12, .inl v_points))] sz)) 0 0 (va_A [(a_this, .inr (6, [.ref a_points, .ref o_cuts, .ref o_queue, .ref o_owners, .ref o_takes, .ref o_bases, .ref o_ranked, .ref o_starts, .ref o_numbers, .ref o_walk, .int i_order, .int i_next])), (a_points, .inl (cI, 12, .inl v_points))] sz) := by
  refine Met.ofW (cc := b_Share_massOf) (maxL := 2) (ret := (some .int)) (by decide) rfl ?_
  intro p e s m args below meth c s₁ B hml hv
  obtain ⟨rfl, hsz, hP, hK, hD0⟩ := hv
  have hx := B.exec
  have hb := B.bytes
  have hr := B.returns
  have hts0 := atoms_spec (ws := ws_Share_massOf) B.pre
  have hts := gd_tl hts0
  clear hts0
  have hown : s.vm.findClass "PrefixMill$Share" = some m.cls := findClass_of_methodNamed B.named
  have hlocks := B.notSynchronized
  subst hsz
  have hD := hD0.self (sz := s.heap.size)
  generalize hAe : va_A [(a_this, .inr (6, [.ref a_points, .ref o_cuts, .ref o_queue, .ref o_owners, .ref o_takes, .ref o_bases, .ref o_ranked, .ref o_starts, .ref o_numbers, .ref o_walk, .int i_order, .int i_next])), (a_points, .inl (cI, 12, .inl v_points))] s.heap.size = A at hD ⊢
  have hA : ∀ q : Nat, s.heap.size ≤ q → A q := fun q h => by rw [← hAe]; exact Or.inr h
  have hS : va_S A s.heap s.heap [] := va_S.rf
  have hP : va_P D classes [(a_this, .inr (6, [.ref a_points, .ref o_cuts, .ref o_queue, .ref o_owners, .ref o_takes, .ref o_bases, .ref o_ranked, .ref o_starts, .ref o_numbers, .ref o_walk, .int i_order, .int i_next])), (a_points, .inl (cI, 12, .inl v_points))] s.heap := hP
  have hl := lv_entry ([.ref a_this, .int l1]) (n := 2) (Nat.le_of_ble_eq_true rfl)
  rw [lg_entry_eq]
  generalize (lg_sl ([.ref a_this, .int l1]) ++ List.replicate (2 - (lg_sl ([.ref a_this, .int l1])).length) Slot.unset).toArray = ls at hl ⊢
  have hl : lv_has ls 2 [(0, .ref a_this), (1, .int l1)] := hl
  have C : Cx p s m ([.ref a_this, .int l1] : List Value).toArray c b_Share_massOf 2 "PrefixMill$Share" D [(cI, .int), (cL, .long), (cZ, .boolean)] A := ⟨hx, hb, hml, hown, hts, hK, hA⟩
  refine w_Share_massOf_b0 (res := (rv)) C ?_ () h s.heap [] ls hl hP hD hS
  intro pc9 H9 locs9 ls9 rv9 e9 d9 hP9 hD9 hS9
  cases e9
  exact W.iret (v := rv) hx hb hr (fun t ht hW => ⟨⟨rv, (), rfl, rfl, by rw [ht]; exact hP9, va_K.moved hW.alike hK, hD9⟩, hS9.F ht⟩) hS9.2.2 d9
abbrev b_Share_lacking : ByteArray := prog_6_method_3_code
def ws_Share_lacking : List Cond := .code ({ cls := "PrefixMill$Share", name := "lacking", desc := "()I" } : Jvm.MethodName) b_Share_lacking 3 (some .int) :: tt
theorem d_Share_lacking_0 : decode b_Share_lacking 0 = .ok (.iconst 1, 1) := by decide +kernel
theorem d_Share_lacking_1 : decode b_Share_lacking 1 = .ok (.aload_n 0, 1) := by decide +kernel
theorem d_Share_lacking_2 : decode b_Share_lacking 2 = .ok (.getfield 42, 3) := by decide +kernel
theorem d_Share_lacking_5 : decode b_Share_lacking 5 = .ok (.ishl, 1) := by decide +kernel
theorem d_Share_lacking_6 : decode b_Share_lacking 6 = .ok (.istore_n 1, 1) := by decide +kernel
theorem d_Share_lacking_7 : decode b_Share_lacking 7 = .ok (.iconst 0, 1) := by decide +kernel
theorem d_Share_lacking_8 : decode b_Share_lacking 8 = .ok (.istore_n 2, 1) := by decide +kernel
theorem d_Share_lacking_9 : decode b_Share_lacking 9 = .ok (.iload_n 2, 1) := by decide +kernel
theorem d_Share_lacking_10 : decode b_Share_lacking 10 = .ok (.bipush 12, 2) := by decide +kernel
theorem d_Share_lacking_12 : decode b_Share_lacking 12 = .ok (.if_icmp .ge 17, 3) := by decide +kernel
theorem d_Share_lacking_15 : decode b_Share_lacking 15 = .ok (.iload_n 1, 1) := by decide +kernel
theorem d_Share_lacking_16 : decode b_Share_lacking 16 = .ok (.aload_n 0, 1) := by decide +kernel
theorem d_Share_lacking_17 : decode b_Share_lacking 17 = .ok (.iload_n 2, 1) := by decide +kernel
theorem d_Share_lacking_18 : decode b_Share_lacking 18 = .ok (.invokevirtual 46, 3) := by decide +kernel
theorem d_Share_lacking_21 : decode b_Share_lacking 21 = .ok (.isub, 1) := by decide +kernel
theorem d_Share_lacking_22 : decode b_Share_lacking 22 = .ok (.istore_n 1, 1) := by decide +kernel
theorem d_Share_lacking_23 : decode b_Share_lacking 23 = .ok (.iinc 2 1, 3) := by decide +kernel
theorem d_Share_lacking_26 : decode b_Share_lacking 26 = .ok (.goto (-17), 3) := by decide +kernel
theorem d_Share_lacking_29 : decode b_Share_lacking 29 = .ok (.iload_n 1, 1) := by decide +kernel
theorem d_Share_lacking_30 : decode b_Share_lacking 30 = .ok (.ireturn, 1) := by decide +kernel
abbrev R_Share_lacking : Room := ({ frames := 1, cells := 0, slots := 0, locals := 21 } : Room)
def E_Share_lacking (p : Program) (l : Launch) (e : Env) (s : State) (m : MethodId) (args : Array Value) (below : List Frame) (meth : Method) (c : Code) (Q : State → Prop) (A : Nat → Prop) (D : va_G) (cI cL cZ : ClassId) (a_this : Nat) (a_points : Nat) (o_cuts : Nat) (o_queue : Nat) (o_owners : Nat) (o_takes : Nat) (o_bases : Nat) (o_ranked : Nat) (o_starts : Nat) (o_numbers : Nat) (o_walk : Nat) (i_order : Int32) (i_next : Int32) (v_points : Nat → Int32) (res : Int32) : Prop := ∀ (pc : Nat) (H : Heap) (locs : List Loc) (ls : Array Slot) (rv : Int32), some (rv) = some res → decode b_Share_lacking pc = .ok (.ireturn, 1) → va_P D classes [(a_this, .inr (6, [.ref a_points, .ref o_cuts, .ref o_queue, .ref o_owners, .ref o_takes, .ref o_bases, .ref o_ranked, .ref o_starts, .ref o_numbers, .ref o_walk, .int i_order, .int i_next])), (a_points, .inl (cI, 12, .inl v_points))] H → va_D A [(a_this, .inr (6, [.ref a_points, .ref o_cuts, .ref o_queue, .ref o_owners, .ref o_takes, .ref o_bases, .ref o_ranked, .ref o_starts, .ref o_numbers, .ref o_walk, .int i_order, .int i_next])), (a_points, .inl (cI, 12, .inl v_points))] → va_S A s.heap H locs → W p l e R_Share_lacking s m args below meth c H locs 0 0 Q (F0 m pc ls [.int rv])
def I_Share_lacking_b29 (p : Program) (l : Launch) (e : Env) (s : State) (m : MethodId) (args : Array Value) (below : List Frame) (meth : Method) (c : Code) (Q : State → Prop) (A : Nat → Prop) (D : va_G) (cI cL cZ : ClassId) (a_this : Nat) (a_points : Nat) (o_cuts : Nat) (o_queue : Nat) (o_owners : Nat) (o_takes : Nat) (o_bases : Nat) (o_ranked : Nat) (o_starts : Nat) (o_numbers : Nat) (o_walk : Nat) (i_order : Int32) (i_next : Int32) (v_points : Nat → Int32) (res : Int32) (kf : Int32 → Option (Int32)) : Prop := ∀ (l1 : Int32), kf l1 = some res → ∀ (H : Heap) (locs : List Loc) (ls : Array Slot), lv_has ls 3 [(1, .int l1)] → va_P D classes [(a_this, .inr (6, [.ref a_points, .ref o_cuts, .ref o_queue, .ref o_owners, .ref o_takes, .ref o_bases, .ref o_ranked, .ref o_starts, .ref o_numbers, .ref o_walk, .int i_order, .int i_next])), (a_points, .inl (cI, 12, .inl v_points))] H → va_D A [(a_this, .inr (6, [.ref a_points, .ref o_cuts, .ref o_queue, .ref o_owners, .ref o_takes, .ref o_bases, .ref o_ranked, .ref o_starts, .ref o_numbers, .ref o_walk, .int i_order, .int i_next])), (a_points, .inl (cI, 12, .inl v_points))] → va_S A s.heap H locs → W p l e R_Share_lacking s m args below meth c H locs 0 0 Q (F0 m 29 ls [])
def I_Share_lacking_b9 (p : Program) (l : Launch) (e : Env) (s : State) (m : MethodId) (args : Array Value) (below : List Frame) (meth : Method) (c : Code) (Q : State → Prop) (A : Nat → Prop) (D : va_G) (cI cL cZ : ClassId) (a_this : Nat) (a_points : Nat) (o_cuts : Nat) (o_queue : Nat) (o_owners : Nat) (o_takes : Nat) (o_bases : Nat) (o_ranked : Nat) (o_starts : Nat) (o_numbers : Nat) (o_walk : Nat) (i_order : Int32) (i_next : Int32) (v_points : Nat → Int32) (res : Int32) (kf : Int32 → Int32 → Option (Int32)) : Prop := ∀ (l1 : Int32) (l2 : Int32), kf l1 l2 = some res → ∀ (H : Heap) (locs : List Loc) (ls : Array Slot), lv_has ls 3 [(0, .ref a_this), (1, .int l1), (2, .int l2)] → va_P D classes [(a_this, .inr (6, [.ref a_points, .ref o_cuts, .ref o_queue, .ref o_owners, .ref o_takes, .ref o_bases, .ref o_ranked, .ref o_starts, .ref o_numbers, .ref o_walk, .int i_order, .int i_next])), (a_points, .inl (cI, 12, .inl v_points))] H → va_D A [(a_this, .inr (6, [.ref a_points, .ref o_cuts, .ref o_queue, .ref o_owners, .ref o_takes, .ref o_bases, .ref o_ranked, .ref o_starts, .ref o_numbers, .ref o_walk, .int i_order, .int i_next])), (a_points, .inl (cI, 12, .inl v_points))] → va_S A s.heap H locs → W p l e R_Share_lacking s m args below meth c H locs 0 0 Q (F0 m 9 ls [])
def I_Share_lacking_b0 (p : Program) (l : Launch) (e : Env) (s : State) (m : MethodId) (args : Array Value) (below : List Frame) (meth : Method) (c : Code) (Q : State → Prop) (A : Nat → Prop) (D : va_G) (cI cL cZ : ClassId) (a_this : Nat) (a_points : Nat) (o_cuts : Nat) (o_queue : Nat) (o_owners : Nat) (o_takes : Nat) (o_bases : Nat) (o_ranked : Nat) (o_starts : Nat) (o_numbers : Nat) (o_walk : Nat) (i_order : Int32) (i_next : Int32) (v_points : Nat → Int32) (res : Int32) (kf : Option (Int32)) : Prop := ∀ (_ : Unit), kf  = some res → ∀ (H : Heap) (locs : List Loc) (ls : Array Slot), lv_has ls 3 [(0, .ref a_this)] → va_P D classes [(a_this, .inr (6, [.ref a_points, .ref o_cuts, .ref o_queue, .ref o_owners, .ref o_takes, .ref o_bases, .ref o_ranked, .ref o_starts, .ref o_numbers, .ref o_walk, .int i_order, .int i_next])), (a_points, .inl (cI, 12, .inl v_points))] H → va_D A [(a_this, .inr (6, [.ref a_points, .ref o_cuts, .ref o_queue, .ref o_owners, .ref o_takes, .ref o_bases, .ref o_ranked, .ref o_starts, .ref o_numbers, .ref o_walk, .int i_order, .int i_next])), (a_points, .inl (cI, 12, .inl v_points))] → va_S A s.heap H locs → W p l e R_Share_lacking s m args below meth c H locs 0 0 Q (F0 m 0 ls [])
set_option maxHeartbeats 4000000 in
set_option maxRecDepth 100000 in
theorem w_Share_lacking_b29 {p : Program} {l : Launch} {e : Env} {s : State} {m : MethodId} {args : Array Value} {below : List Frame} {meth : Method} {c : Code} {Q : State → Prop} {A : Nat → Prop} {D : va_G} {cI cL cZ : ClassId} {a_this : Nat} {a_points : Nat} {o_cuts : Nat} {o_queue : Nat} {o_owners : Nat} {o_takes : Nat} {o_bases : Nat} {o_ranked : Nat} {o_starts : Nat} {o_numbers : Nat} {o_walk : Nat} {i_order : Int32} {i_next : Int32} {v_points : Nat → Int32} {N : Nat} {res : Int32}  (C : Cx p s m args c b_Share_lacking 3 "PrefixMill$Share" D [(cI, .int), (cL, .long), (cZ, .boolean)] A) (hret : E_Share_lacking p l e s m args below meth c Q A D cI cL cZ a_this a_points o_cuts o_queue o_owners o_takes o_bases o_ranked o_starts o_numbers o_walk i_order i_next v_points res)  : I_Share_lacking_b29 p l e s m args below meth c Q A D cI cL cZ a_this a_points o_cuts o_queue o_owners o_takes o_bases o_ranked o_starts o_numbers o_walk i_order i_next v_points res (f_Share_lacking_b29 N i_order v_points ) := by
  obtain ⟨hx, hb, hml, hown, hts, hK, hA⟩ := C
  intro l1 h H locs ls hl hP hD hS
  unfold f_Share_lacking_b29 at h
  refine lv_iload_n hx hb d_Share_lacking_29 rfl (lv_at hl 0 rfl) ?_
  exact hret _ _ _ _ l1  h d_Share_lacking_30 hP hD hS
set_option maxHeartbeats 4000000 in
set_option maxRecDepth 100000 in
theorem w_Share_lacking_b9 {p : Program} {l : Launch} {e : Env} {s : State} {m : MethodId} {args : Array Value} {below : List Frame} {meth : Method} {c : Code} {Q : State → Prop} {A : Nat → Prop} {D : va_G} {cI cL cZ : ClassId} {a_this : Nat} {a_points : Nat} {o_cuts : Nat} {o_queue : Nat} {o_owners : Nat} {o_takes : Nat} {o_bases : Nat} {o_ranked : Nat} {o_starts : Nat} {o_numbers : Nat} {o_walk : Nat} {i_order : Int32} {i_next : Int32} {v_points : Nat → Int32} {N : Nat} {res : Int32}  (C : Cx p s m args c b_Share_lacking 3 "PrefixMill$Share" D [(cI, .int), (cL, .long), (cZ, .boolean)] A) (hret : E_Share_lacking p l e s m args below meth c Q A D cI cL cZ a_this a_points o_cuts o_queue o_owners o_takes o_bases o_ranked o_starts o_numbers o_walk i_order i_next v_points res)  : ∀ z : Nat, I_Share_lacking_b9 p l e s m args below meth c Q A D cI cL cZ a_this a_points o_cuts o_queue o_owners o_takes o_bases o_ranked o_starts o_numbers o_walk i_order i_next v_points res (f_Share_lacking_b9 N i_order v_points  z) := by
  obtain ⟨hx, hb, hml, hown, hts, hK, hA⟩ := C
  intro z
  induction z with
  | zero => intro l1 l2 h; cases h
  | succ z ih =>
    intro l1 l2 h H locs ls hl hP hD hS
    refine lv_iload_n hx hb d_Share_lacking_9 rfl (lv_at hl 2 rfl) ?_
    refine lv_bipush (v := 12) hx hb d_Share_lacking_10 (by decide) ?_
    refine lv_icmp_ge (tgt := 29) hx hb d_Share_lacking_12 (by decide) (fun c_1 => ?_) (fun c_1 => ?_)
    · replace h := if_t h c_1
      exact w_Share_lacking_b29 ⟨hx, hb, hml, hown, hts, hK, hA⟩ hret  _ h H locs ls (lv_sub hl [1] rfl) hP hD hS
    · replace h := if_f h c_1
      refine lv_iload_n hx hb d_Share_lacking_15 rfl (lv_at hl 1 rfl) ?_
      refine lv_aload_n hx hb d_Share_lacking_16 rfl (lv_at hl 0 rfl) ?_
      refine lv_iload_n hx hb d_Share_lacking_17 rfl (lv_at hl 2 rfl) ?_
      obtain ⟨r_2, hc_3, h⟩ := bd1_s h
      have hPc := hP.sub (ws' := [(a_this, .inr (6, [.ref a_points, .ref o_cuts, .ref o_queue, .ref o_owners, .ref o_takes, .ref o_bases, .ref o_ranked, .ref o_starts, .ref o_numbers, .ref o_walk, .int i_order, .int i_next])), (a_points, .inl (cI, 12, .inl v_points))]) [0, 1] rfl
      have hDc := hD.sub (ws' := [(a_this, .inr (6, [.ref a_points, .ref o_cuts, .ref o_queue, .ref o_owners, .ref o_takes, .ref o_bases, .ref o_ranked, .ref o_starts, .ref o_numbers, .ref o_walk, .int i_order, .int i_next])), (a_points, .inl (cI, 12, .inl v_points))]) [0, 1] (by decide) rfl
      have hFc := va_free (wc := [(a_this, .inr (6, [.ref a_points, .ref o_cuts, .ref o_queue, .ref o_owners, .ref o_takes, .ref o_bases, .ref o_ranked, .ref o_starts, .ref o_numbers, .ref o_walk, .int i_order, .int i_next])), (a_points, .inl (cI, 12, .inl v_points))]) hD hS hA [0, 1] rfl
      refine va_calli (va_runV (As := [.int l2]) (rest := [.int l1]) ⟨hx, hb, hml, hown, hts⟩ (c_Share_massOf l D cI cL cZ H.size N a_this a_points o_cuts o_queue o_owners o_takes o_bases o_ranked o_starts o_numbers o_walk i_order i_next v_points l2 r_2 hc_3) ⟨(my_cb 1 hts m_534 rfl rfl (hts _ m_72) (hts _ m_531) (by decide +kernel) ⟨Nat.le_of_ble_eq_true rfl, Nat.le_of_ble_eq_true rfl⟩), hts _ m_533, hts _ m_10⟩ ⟨fun a U g mk q => by obtain ⟨q0, q1, qP, qK, qD⟩ := q; exact ⟨q0, q1, qP, va_K.moved (u := U) (U := U.calling g mk a) (Vm.Alike.refl U.vm) qK, qD⟩, va_recv hK hPc (ci := 6) (q0 := 0) rfl rfl, fun U hU hW => ⟨rfl, by rw [hU], by rw [hU]; exact hPc, va_K.moved hW.alike hK, hDc.weaken (fun _ _ _ _ => trivial)⟩⟩ rfl rfl hl.1 rfl (lv_room (Nat.le_of_ble_eq_true rfl)) d_Share_lacking_18 ⟨Nat.zero_le _, Nat.zero_le _⟩) hS (fun q _ h => hFc q h) hFc (fun rr u t H1 locs ht hvm hw hB hz1 hk1 hS => ?_)
      obtain ⟨hP1, hK1, hD1⟩ := hB
      rw [ht] at hP1
      subst hw
      obtain ⟨hP, hD⟩ := va_join (wr := []) (w1 := [(a_this, .inr (6, [.ref a_points, .ref o_cuts, .ref o_queue, .ref o_owners, .ref o_takes, .ref o_bases, .ref o_ranked, .ref o_starts, .ref o_numbers, .ref o_walk, .int i_order, .int i_next])), (a_points, .inl (cI, 12, .inl v_points))]) hP hD [0, 1] [] rfl rfl (by decide) (by decide) hk1 hFc hP1 hD1
      clear hPc hDc hFc hk1 hP1 hD1 hK1
      generalize H1 = H at hP hS ⊢
      have hP : va_P D classes [(a_this, .inr (6, [.ref a_points, .ref o_cuts, .ref o_queue, .ref o_owners, .ref o_takes, .ref o_bases, .ref o_ranked, .ref o_starts, .ref o_numbers, .ref o_walk, .int i_order, .int i_next])), (a_points, .inl (cI, 12, .inl v_points))] H := hP.sub [0, 1] rfl
      have hD : va_D A [(a_this, .inr (6, [.ref a_points, .ref o_cuts, .ref o_queue, .ref o_owners, .ref o_takes, .ref o_bases, .ref o_ranked, .ref o_starts, .ref o_numbers, .ref o_walk, .int i_order, .int i_next])), (a_points, .inl (cI, 12, .inl v_points))] := hD.sub [0, 1] (by decide) rfl
      refine lv_isub hx hb d_Share_lacking_21 ?_
      refine lv_topi (fun l1_4 el1_4 => ?_)
      replace h := nm_s h el1_4
      refine lv_istore_n (lv' := [(1, .int l1_4), (0, .ref a_this), (2, .int l2)]) hx hb d_Share_lacking_22 rfl hl (by decide) rfl (fun ls hl => ?_)
      obtain ⟨l2_5, el2_5⟩ : ∃ y : Int32, y = l2 + 1 := ⟨_, rfl⟩
      replace h := nm_s h el2_5
      refine lv_iinc (v := l2_5) (lv' := [(2, .int l2_5), (1, .int l1_4), (0, .ref a_this)]) hx hb d_Share_lacking_23 hl (k := 2) rfl (by rw [el2_5]; rfl) (by decide) rfl (fun ls hl => ?_)
      refine lv_goto (tgt := 9) hx hb d_Share_lacking_26 (by decide) ?_
      exact ih _ _ h H locs ls (lv_sub hl [2, 1, 0] rfl) hP hD hS
set_option maxHeartbeats 4000000 in
set_option maxRecDepth 100000 in
theorem w_Share_lacking_b0 {p : Program} {l : Launch} {e : Env} {s : State} {m : MethodId} {args : Array Value} {below : List Frame} {meth : Method} {c : Code} {Q : State → Prop} {A : Nat → Prop} {D : va_G} {cI cL cZ : ClassId} {a_this : Nat} {a_points : Nat} {o_cuts : Nat} {o_queue : Nat} {o_owners : Nat} {o_takes : Nat} {o_bases : Nat} {o_ranked : Nat} {o_starts : Nat} {o_numbers : Nat} {o_walk : Nat} {i_order : Int32} {i_next : Int32} {v_points : Nat → Int32} {N : Nat} {res : Int32}  (C : Cx p s m args c b_Share_lacking 3 "PrefixMill$Share" D [(cI, .int), (cL, .long), (cZ, .boolean)] A) (hret : E_Share_lacking p l e s m args below meth c Q A D cI cL cZ a_this a_points o_cuts o_queue o_owners o_takes o_bases o_ranked o_starts o_numbers o_walk i_order i_next v_points res)  : I_Share_lacking_b0 p l e s m args below meth c Q A D cI cL cZ a_this a_points o_cuts o_queue o_owners o_takes o_bases o_ranked o_starts o_numbers o_walk i_order i_next v_points res (f_Share_lacking N i_order v_points ) := by
  obtain ⟨hx, hb, hml, hown, hts, hK, hA⟩ := C
  intro _ h H locs ls hl hP hD hS
  unfold f_Share_lacking at h
  refine lv_iconst (v := 1) hx hb d_Share_lacking_0 (by decide) ?_
  refine lv_aload_n hx hb d_Share_lacking_1 rfl (lv_at hl 0 rfl) ?_
  refine va_get hx hb hts in_Share hown hK hP 0 rfl rfl 10 (by decide) (hts _ m_226) (fun _ h9 => h9) rfl d_Share_lacking_2 ?_
  refine lv_ishl hx hb d_Share_lacking_5 ?_
  refine lv_topi (fun l1_1 el1_1 => ?_)
  replace h := nm_s h el1_1
  refine lv_istore_n (lv' := [(1, .int l1_1), (0, .ref a_this)]) hx hb d_Share_lacking_6 rfl hl (by decide) rfl (fun ls hl => ?_)
  refine lv_iconst (v := 0) hx hb d_Share_lacking_7 (by decide) ?_
  refine lv_istore_n (lv' := [(2, .int 0), (1, .int l1_1), (0, .ref a_this)]) hx hb d_Share_lacking_8 rfl hl (by decide) rfl (fun ls hl => ?_)
  exact w_Share_lacking_b9 ⟨hx, hb, hml, hown, hts, hK, hA⟩ hret  N _ _ h H locs ls (lv_sub hl [2, 1, 0] rfl) hP hD hS
set_option maxHeartbeats 4000000 in
set_option maxRecDepth 100000 in
theorem c_Share_lacking (l : Launch) (D : va_G) (cI cL cZ : ClassId) (sz N : Nat) (a_this : Nat) (a_points : Nat) (o_cuts : Nat) (o_queue : Nat) (o_owners : Nat) (o_takes : Nat) (o_bases : Nat) (o_ranked : Nat) (o_starts : Nat) (o_numbers : Nat) (o_walk : Nat) (i_order : Int32) (i_next : Int32) (v_points : Nat → Int32) (rv : Int32) (h : f_Share_lacking N i_order v_points  = some (rv)) : Met l ({ cls := "PrefixMill$Share", name := "lacking", desc := "()I" } : Jvm.MethodName) ws_Share_lacking R_Share_lacking (va_Pc [.ref a_this] (fun U => U.heap.size = sz ∧ va_P D classes [(a_this, .inr (6, [.ref a_points, .ref o_cuts, .ref o_queue, .ref o_owners, .ref o_takes, .ref o_bases, .ref o_ranked, .ref o_starts, .ref o_numbers, .ref o_walk, .int i_order, .int i_next])), (a_points, .inl (cI, 12, .inl v_points))] U.heap ∧ va_K D classes [(cI, .int), (cL, .long), (cZ, .boolean)] U ∧ va_D (fun _ => True) [(a_this, .inr (6, [.ref a_points, .ref o_cuts, .ref o_queue, .ref o_owners, .ref o_takes, .ref o_bases, .ref o_ranked, .ref o_starts, .ref o_numbers, .ref o_walk, .int i_order, .int i_next])), (a_points, .inl (cI, 12, .inl v_points))])) (va_Qi (fun (r0 : Int32) (_ : Unit) => rv = r0) (fun _ t => va_P D classes [(a_this, .inr (6, [.ref a_points, .ref o_cuts, .ref o_queue, .ref o_owners, .ref o_takes, .ref o_bases, .ref o_ranked, .ref o_starts, .ref o_numbers, .ref o_walk, .int i_order, .int i_next])), (a_points, .inl (cI, 12, .inl v_points))] t.heap ∧ va_K D classes [(cI, .int), (cL, .long), (cZ, .boolean)] t ∧ va_D (va_A [(a_this, .inr (6, [.ref a_points, .ref o_cuts, .ref o_queue, .ref o_owners, .ref o_takes, .ref o_bases, .ref o_ranked, .ref o_starts, .ref o_numbers, .ref o_walk, .int i_order, .int i_next])), (a_points, .inl (cI, 12, .inl v_points))] sz) [(a_this, .inr (6, [.ref a_points, .ref o_cuts, .ref o_queue, .ref o_owners, .ref o_takes, .ref o_bases, .ref o_ranked, .ref o_starts, .ref o_numbers, .ref o_walk, .int i_order, .int i_next])), (a_points, .inl (cI, 12, .inl v_points))]) (va_A [(a_this, .inr (6, [.ref a_points, .ref o_cuts, .ref o_queue, .ref o_owners, .ref o_takes, .ref o_bases, .ref o_ranked, .ref o_starts, .ref o_numbers, .ref o_walk, .int i_order, .int i_next])), (a_points, .inl (cI, 12, .inl v_points))] sz)) 0 0 (va_A [(a_this, .inr (6, [.ref a_points, .ref o_cuts, .ref o_queue, .ref o_owners, .ref o_takes, .ref o_bases, .ref o_ranked, .ref o_starts, .ref o_numbers, .ref o_walk, .int i_order, .int i_next])), (a_points, .inl (cI, 12, .inl v_points))] sz) := by
  refine Met.ofW (cc := b_Share_lacking) (maxL := 3) (ret := (some .int)) (by decide) rfl ?_
  intro p e s m args below meth c s₁ B hml hv
  obtain ⟨rfl, hsz, hP, hK, hD0⟩ := hv
  have hx := B.exec
  have hb := B.bytes
  have hr := B.returns
  have hts0 := atoms_spec (ws := ws_Share_lacking) B.pre
  have hts := gd_tl hts0
  clear hts0
  have hown : s.vm.findClass "PrefixMill$Share" = some m.cls := findClass_of_methodNamed B.named
  have hlocks := B.notSynchronized
  subst hsz
  have hD := hD0.self (sz := s.heap.size)
  generalize hAe : va_A [(a_this, .inr (6, [.ref a_points, .ref o_cuts, .ref o_queue, .ref o_owners, .ref o_takes, .ref o_bases, .ref o_ranked, .ref o_starts, .ref o_numbers, .ref o_walk, .int i_order, .int i_next])), (a_points, .inl (cI, 12, .inl v_points))] s.heap.size = A at hD ⊢
  have hA : ∀ q : Nat, s.heap.size ≤ q → A q := fun q h => by rw [← hAe]; exact Or.inr h
  have hS : va_S A s.heap s.heap [] := va_S.rf
  have hP : va_P D classes [(a_this, .inr (6, [.ref a_points, .ref o_cuts, .ref o_queue, .ref o_owners, .ref o_takes, .ref o_bases, .ref o_ranked, .ref o_starts, .ref o_numbers, .ref o_walk, .int i_order, .int i_next])), (a_points, .inl (cI, 12, .inl v_points))] s.heap := hP
  have hl := lv_entry ([.ref a_this]) (n := 3) (Nat.le_of_ble_eq_true rfl)
  rw [lg_entry_eq]
  generalize (lg_sl ([.ref a_this]) ++ List.replicate (3 - (lg_sl ([.ref a_this])).length) Slot.unset).toArray = ls at hl ⊢
  have hl : lv_has ls 3 [(0, .ref a_this)] := hl
  have C : Cx p s m ([.ref a_this] : List Value).toArray c b_Share_lacking 3 "PrefixMill$Share" D [(cI, .int), (cL, .long), (cZ, .boolean)] A := ⟨hx, hb, hml, hown, hts, hK, hA⟩
  refine w_Share_lacking_b0 (res := (rv)) C ?_ () h s.heap [] ls hl hP hD hS
  intro pc9 H9 locs9 ls9 rv9 e9 d9 hP9 hD9 hS9
  cases e9
  exact W.iret (v := rv) hx hb hr (fun t ht hW => ⟨⟨rv, (), rfl, rfl, by rw [ht]; exact hP9, va_K.moved hW.alike hK, hD9⟩, hS9.F ht⟩) hS9.2.2 d9
abbrev b_Share_queueByCuts : ByteArray := prog_6_method_6_code
def ws_Share_queueByCuts : List Cond := .code ({ cls := "PrefixMill$Share", name := "queueByCuts", desc := "()I" } : Jvm.MethodName) b_Share_queueByCuts 4 (some .int) :: tt
theorem d_Share_queueByCuts_0 : decode b_Share_queueByCuts 0 = .ok (.iconst 0, 1) := by decide +kernel
theorem d_Share_queueByCuts_1 : decode b_Share_queueByCuts 1 = .ok (.istore_n 1, 1) := by decide +kernel
theorem d_Share_queueByCuts_2 : decode b_Share_queueByCuts 2 = .ok (.iconst 0, 1) := by decide +kernel
theorem d_Share_queueByCuts_3 : decode b_Share_queueByCuts 3 = .ok (.istore_n 2, 1) := by decide +kernel
theorem d_Share_queueByCuts_4 : decode b_Share_queueByCuts 4 = .ok (.iload_n 2, 1) := by decide +kernel
theorem d_Share_queueByCuts_5 : decode b_Share_queueByCuts 5 = .ok (.bipush 12, 2) := by decide +kernel
theorem d_Share_queueByCuts_7 : decode b_Share_queueByCuts 7 = .ok (.if_icmp .ge 76, 3) := by decide +kernel
theorem d_Share_queueByCuts_10 : decode b_Share_queueByCuts 10 = .ok (.aload_n 0, 1) := by decide +kernel
theorem d_Share_queueByCuts_11 : decode b_Share_queueByCuts 11 = .ok (.getfield 9, 3) := by decide +kernel
theorem d_Share_queueByCuts_14 : decode b_Share_queueByCuts 14 = .ok (.iload_n 2, 1) := by decide +kernel
theorem d_Share_queueByCuts_15 : decode b_Share_queueByCuts 15 = .ok (.iaload, 1) := by decide +kernel
theorem d_Share_queueByCuts_16 : decode b_Share_queueByCuts 16 = .ok (.ifCond .le 61, 3) := by decide +kernel
theorem d_Share_queueByCuts_19 : decode b_Share_queueByCuts 19 = .ok (.iload_n 1, 1) := by decide +kernel
theorem d_Share_queueByCuts_20 : decode b_Share_queueByCuts 20 = .ok (.istore_n 3, 1) := by decide +kernel
theorem d_Share_queueByCuts_21 : decode b_Share_queueByCuts 21 = .ok (.iload_n 3, 1) := by decide +kernel
theorem d_Share_queueByCuts_22 : decode b_Share_queueByCuts 22 = .ok (.ifCond .le 45, 3) := by decide +kernel
theorem d_Share_queueByCuts_25 : decode b_Share_queueByCuts 25 = .ok (.aload_n 0, 1) := by decide +kernel
theorem d_Share_queueByCuts_26 : decode b_Share_queueByCuts 26 = .ok (.getfield 15, 3) := by decide +kernel
theorem d_Share_queueByCuts_29 : decode b_Share_queueByCuts 29 = .ok (.aload_n 0, 1) := by decide +kernel
theorem d_Share_queueByCuts_30 : decode b_Share_queueByCuts 30 = .ok (.getfield 18, 3) := by decide +kernel
theorem d_Share_queueByCuts_33 : decode b_Share_queueByCuts 33 = .ok (.iload_n 3, 1) := by decide +kernel
theorem d_Share_queueByCuts_34 : decode b_Share_queueByCuts 34 = .ok (.iconst 1, 1) := by decide +kernel
theorem d_Share_queueByCuts_35 : decode b_Share_queueByCuts 35 = .ok (.isub, 1) := by decide +kernel
theorem d_Share_queueByCuts_36 : decode b_Share_queueByCuts 36 = .ok (.iaload, 1) := by decide +kernel
theorem d_Share_queueByCuts_37 : decode b_Share_queueByCuts 37 = .ok (.iaload, 1) := by decide +kernel
theorem d_Share_queueByCuts_38 : decode b_Share_queueByCuts 38 = .ok (.aload_n 0, 1) := by decide +kernel
theorem d_Share_queueByCuts_39 : decode b_Share_queueByCuts 39 = .ok (.getfield 15, 3) := by decide +kernel
theorem d_Share_queueByCuts_42 : decode b_Share_queueByCuts 42 = .ok (.iload_n 2, 1) := by decide +kernel
theorem d_Share_queueByCuts_43 : decode b_Share_queueByCuts 43 = .ok (.iaload, 1) := by decide +kernel
theorem d_Share_queueByCuts_44 : decode b_Share_queueByCuts 44 = .ok (.if_icmp .ge 23, 3) := by decide +kernel
theorem d_Share_queueByCuts_47 : decode b_Share_queueByCuts 47 = .ok (.aload_n 0, 1) := by decide +kernel
theorem d_Share_queueByCuts_48 : decode b_Share_queueByCuts 48 = .ok (.getfield 18, 3) := by decide +kernel
theorem d_Share_queueByCuts_51 : decode b_Share_queueByCuts 51 = .ok (.iload_n 3, 1) := by decide +kernel
theorem d_Share_queueByCuts_52 : decode b_Share_queueByCuts 52 = .ok (.aload_n 0, 1) := by decide +kernel
theorem d_Share_queueByCuts_53 : decode b_Share_queueByCuts 53 = .ok (.getfield 18, 3) := by decide +kernel
theorem d_Share_queueByCuts_56 : decode b_Share_queueByCuts 56 = .ok (.iload_n 3, 1) := by decide +kernel
theorem d_Share_queueByCuts_57 : decode b_Share_queueByCuts 57 = .ok (.iconst 1, 1) := by decide +kernel
theorem d_Share_queueByCuts_58 : decode b_Share_queueByCuts 58 = .ok (.isub, 1) := by decide +kernel
theorem d_Share_queueByCuts_59 : decode b_Share_queueByCuts 59 = .ok (.iaload, 1) := by decide +kernel
theorem d_Share_queueByCuts_60 : decode b_Share_queueByCuts 60 = .ok (.iastore, 1) := by decide +kernel
theorem d_Share_queueByCuts_61 : decode b_Share_queueByCuts 61 = .ok (.iinc 3 (-1), 3) := by decide +kernel
theorem d_Share_queueByCuts_64 : decode b_Share_queueByCuts 64 = .ok (.goto (-43), 3) := by decide +kernel
theorem d_Share_queueByCuts_67 : decode b_Share_queueByCuts 67 = .ok (.aload_n 0, 1) := by decide +kernel
theorem d_Share_queueByCuts_68 : decode b_Share_queueByCuts 68 = .ok (.getfield 18, 3) := by decide +kernel
theorem d_Share_queueByCuts_71 : decode b_Share_queueByCuts 71 = .ok (.iload_n 3, 1) := by decide +kernel
theorem d_Share_queueByCuts_72 : decode b_Share_queueByCuts 72 = .ok (.iload_n 2, 1) := by decide +kernel
theorem d_Share_queueByCuts_73 : decode b_Share_queueByCuts 73 = .ok (.iastore, 1) := by decide +kernel
theorem d_Share_queueByCuts_74 : decode b_Share_queueByCuts 74 = .ok (.iinc 1 1, 3) := by decide +kernel
theorem d_Share_queueByCuts_77 : decode b_Share_queueByCuts 77 = .ok (.iinc 2 1, 3) := by decide +kernel
theorem d_Share_queueByCuts_80 : decode b_Share_queueByCuts 80 = .ok (.goto (-76), 3) := by decide +kernel
theorem d_Share_queueByCuts_83 : decode b_Share_queueByCuts 83 = .ok (.iload_n 1, 1) := by decide +kernel
theorem d_Share_queueByCuts_84 : decode b_Share_queueByCuts 84 = .ok (.ireturn, 1) := by decide +kernel
abbrev R_Share_queueByCuts : Room := ({ frames := 0, cells := 0, slots := 0, locals := 0 } : Room)
def E_Share_queueByCuts (p : Program) (l : Launch) (e : Env) (s : State) (m : MethodId) (args : Array Value) (below : List Frame) (meth : Method) (c : Code) (Q : State → Prop) (A : Nat → Prop) (D : va_G) (cI cL cZ : ClassId) (a_this : Nat) (a_points : Nat) (a_cuts : Nat) (a_queue : Nat) (o_owners : Nat) (o_takes : Nat) (o_bases : Nat) (o_ranked : Nat) (o_starts : Nat) (o_numbers : Nat) (o_walk : Nat) (i_order : Int32) (i_next : Int32) (v_points : Nat → Int32) (v_cuts : Nat → Int32) (res : Int32 × (Nat → Int32)) : Prop := ∀ (pc : Nat) (H : Heap) (locs : List Loc) (ls : Array Slot) (rv : Int32) (v_queue : Nat → Int32), some (rv, v_queue) = some res → decode b_Share_queueByCuts pc = .ok (.ireturn, 1) → va_P D classes [(a_this, .inr (6, [.ref a_points, .ref a_cuts, .ref a_queue, .ref o_owners, .ref o_takes, .ref o_bases, .ref o_ranked, .ref o_starts, .ref o_numbers, .ref o_walk, .int i_order, .int i_next])), (a_points, .inl (cI, 12, .inl v_points)), (a_cuts, .inl (cI, 12, .inl v_cuts)), (a_queue, .inl (cI, 12, .inl v_queue))] H → va_D A [(a_this, .inr (6, [.ref a_points, .ref a_cuts, .ref a_queue, .ref o_owners, .ref o_takes, .ref o_bases, .ref o_ranked, .ref o_starts, .ref o_numbers, .ref o_walk, .int i_order, .int i_next])), (a_points, .inl (cI, 12, .inl v_points)), (a_cuts, .inl (cI, 12, .inl v_cuts)), (a_queue, .inl (cI, 12, .inl v_queue))] → va_S A s.heap H locs → W p l e R_Share_queueByCuts s m args below meth c H locs 0 0 Q (F0 m pc ls [.int rv])
def I_Share_queueByCuts_b77 (p : Program) (l : Launch) (e : Env) (s : State) (m : MethodId) (args : Array Value) (below : List Frame) (meth : Method) (c : Code) (Q : State → Prop) (A : Nat → Prop) (D : va_G) (cI cL cZ : ClassId) (a_this : Nat) (a_points : Nat) (a_cuts : Nat) (a_queue : Nat) (o_owners : Nat) (o_takes : Nat) (o_bases : Nat) (o_ranked : Nat) (o_starts : Nat) (o_numbers : Nat) (o_walk : Nat) (i_order : Int32) (i_next : Int32) (v_points : Nat → Int32) (v_cuts : Nat → Int32) (res : Int32 × (Nat → Int32)) (kf : Int32 → Int32 → (Nat → Int32) → Option (Int32 × (Nat → Int32))) : Prop := ∀ (l1 : Int32) (l2 : Int32) (v_queue : Nat → Int32), kf l1 l2 v_queue = some res → ∀ (H : Heap) (locs : List Loc) (ls : Array Slot), lv_has ls 4 [(0, .ref a_this), (1, .int l1), (2, .int l2)] → va_P D classes [(a_this, .inr (6, [.ref a_points, .ref a_cuts, .ref a_queue, .ref o_owners, .ref o_takes, .ref o_bases, .ref o_ranked, .ref o_starts, .ref o_numbers, .ref o_walk, .int i_order, .int i_next])), (a_points, .inl (cI, 12, .inl v_points)), (a_cuts, .inl (cI, 12, .inl v_cuts)), (a_queue, .inl (cI, 12, .inl v_queue))] H → va_D A [(a_this, .inr (6, [.ref a_points, .ref a_cuts, .ref a_queue, .ref o_owners, .ref o_takes, .ref o_bases, .ref o_ranked, .ref o_starts, .ref o_numbers, .ref o_walk, .int i_order, .int i_next])), (a_points, .inl (cI, 12, .inl v_points)), (a_cuts, .inl (cI, 12, .inl v_cuts)), (a_queue, .inl (cI, 12, .inl v_queue))] → va_S A s.heap H locs → W p l e R_Share_queueByCuts s m args below meth c H locs 0 0 Q (F0 m 77 ls [])
def I_Share_queueByCuts_b67 (p : Program) (l : Launch) (e : Env) (s : State) (m : MethodId) (args : Array Value) (below : List Frame) (meth : Method) (c : Code) (Q : State → Prop) (A : Nat → Prop) (D : va_G) (cI cL cZ : ClassId) (a_this : Nat) (a_points : Nat) (a_cuts : Nat) (a_queue : Nat) (o_owners : Nat) (o_takes : Nat) (o_bases : Nat) (o_ranked : Nat) (o_starts : Nat) (o_numbers : Nat) (o_walk : Nat) (i_order : Int32) (i_next : Int32) (v_points : Nat → Int32) (v_cuts : Nat → Int32) (res : Int32 × (Nat → Int32)) (kf : Int32 → Int32 → Int32 → (Nat → Int32) → Option (Int32 × (Nat → Int32))) : Prop := ∀ (l1 : Int32) (l2 : Int32) (l3 : Int32) (v_queue : Nat → Int32), kf l1 l2 l3 v_queue = some res → ∀ (H : Heap) (locs : List Loc) (ls : Array Slot), lv_has ls 4 [(0, .ref a_this), (1, .int l1), (2, .int l2), (3, .int l3)] → va_P D classes [(a_this, .inr (6, [.ref a_points, .ref a_cuts, .ref a_queue, .ref o_owners, .ref o_takes, .ref o_bases, .ref o_ranked, .ref o_starts, .ref o_numbers, .ref o_walk, .int i_order, .int i_next])), (a_points, .inl (cI, 12, .inl v_points)), (a_cuts, .inl (cI, 12, .inl v_cuts)), (a_queue, .inl (cI, 12, .inl v_queue))] H → va_D A [(a_this, .inr (6, [.ref a_points, .ref a_cuts, .ref a_queue, .ref o_owners, .ref o_takes, .ref o_bases, .ref o_ranked, .ref o_starts, .ref o_numbers, .ref o_walk, .int i_order, .int i_next])), (a_points, .inl (cI, 12, .inl v_points)), (a_cuts, .inl (cI, 12, .inl v_cuts)), (a_queue, .inl (cI, 12, .inl v_queue))] → va_S A s.heap H locs → W p l e R_Share_queueByCuts s m args below meth c H locs 0 0 Q (F0 m 67 ls [])
def I_Share_queueByCuts_b21 (p : Program) (l : Launch) (e : Env) (s : State) (m : MethodId) (args : Array Value) (below : List Frame) (meth : Method) (c : Code) (Q : State → Prop) (A : Nat → Prop) (D : va_G) (cI cL cZ : ClassId) (a_this : Nat) (a_points : Nat) (a_cuts : Nat) (a_queue : Nat) (o_owners : Nat) (o_takes : Nat) (o_bases : Nat) (o_ranked : Nat) (o_starts : Nat) (o_numbers : Nat) (o_walk : Nat) (i_order : Int32) (i_next : Int32) (v_points : Nat → Int32) (v_cuts : Nat → Int32) (res : Int32 × (Nat → Int32)) (kf : Int32 → Int32 → Int32 → (Nat → Int32) → Option (Int32 × (Nat → Int32))) : Prop := ∀ (l1 : Int32) (l2 : Int32) (l3 : Int32) (v_queue : Nat → Int32), kf l1 l2 l3 v_queue = some res → ∀ (H : Heap) (locs : List Loc) (ls : Array Slot), lv_has ls 4 [(0, .ref a_this), (1, .int l1), (2, .int l2), (3, .int l3)] → va_P D classes [(a_this, .inr (6, [.ref a_points, .ref a_cuts, .ref a_queue, .ref o_owners, .ref o_takes, .ref o_bases, .ref o_ranked, .ref o_starts, .ref o_numbers, .ref o_walk, .int i_order, .int i_next])), (a_points, .inl (cI, 12, .inl v_points)), (a_cuts, .inl (cI, 12, .inl v_cuts)), (a_queue, .inl (cI, 12, .inl v_queue))] H → va_D A [(a_this, .inr (6, [.ref a_points, .ref a_cuts, .ref a_queue, .ref o_owners, .ref o_takes, .ref o_bases, .ref o_ranked, .ref o_starts, .ref o_numbers, .ref o_walk, .int i_order, .int i_next])), (a_points, .inl (cI, 12, .inl v_points)), (a_cuts, .inl (cI, 12, .inl v_cuts)), (a_queue, .inl (cI, 12, .inl v_queue))] → va_S A s.heap H locs → W p l e R_Share_queueByCuts s m args below meth c H locs 0 0 Q (F0 m 21 ls [])
def I_Share_queueByCuts_b83 (p : Program) (l : Launch) (e : Env) (s : State) (m : MethodId) (args : Array Value) (below : List Frame) (meth : Method) (c : Code) (Q : State → Prop) (A : Nat → Prop) (D : va_G) (cI cL cZ : ClassId) (a_this : Nat) (a_points : Nat) (a_cuts : Nat) (a_queue : Nat) (o_owners : Nat) (o_takes : Nat) (o_bases : Nat) (o_ranked : Nat) (o_starts : Nat) (o_numbers : Nat) (o_walk : Nat) (i_order : Int32) (i_next : Int32) (v_points : Nat → Int32) (v_cuts : Nat → Int32) (res : Int32 × (Nat → Int32)) (kf : Int32 → (Nat → Int32) → Option (Int32 × (Nat → Int32))) : Prop := ∀ (l1 : Int32) (v_queue : Nat → Int32), kf l1 v_queue = some res → ∀ (H : Heap) (locs : List Loc) (ls : Array Slot), lv_has ls 4 [(1, .int l1)] → va_P D classes [(a_this, .inr (6, [.ref a_points, .ref a_cuts, .ref a_queue, .ref o_owners, .ref o_takes, .ref o_bases, .ref o_ranked, .ref o_starts, .ref o_numbers, .ref o_walk, .int i_order, .int i_next])), (a_points, .inl (cI, 12, .inl v_points)), (a_cuts, .inl (cI, 12, .inl v_cuts)), (a_queue, .inl (cI, 12, .inl v_queue))] H → va_D A [(a_this, .inr (6, [.ref a_points, .ref a_cuts, .ref a_queue, .ref o_owners, .ref o_takes, .ref o_bases, .ref o_ranked, .ref o_starts, .ref o_numbers, .ref o_walk, .int i_order, .int i_next])), (a_points, .inl (cI, 12, .inl v_points)), (a_cuts, .inl (cI, 12, .inl v_cuts)), (a_queue, .inl (cI, 12, .inl v_queue))] → va_S A s.heap H locs → W p l e R_Share_queueByCuts s m args below meth c H locs 0 0 Q (F0 m 83 ls [])
def I_Share_queueByCuts_b4 (p : Program) (l : Launch) (e : Env) (s : State) (m : MethodId) (args : Array Value) (below : List Frame) (meth : Method) (c : Code) (Q : State → Prop) (A : Nat → Prop) (D : va_G) (cI cL cZ : ClassId) (a_this : Nat) (a_points : Nat) (a_cuts : Nat) (a_queue : Nat) (o_owners : Nat) (o_takes : Nat) (o_bases : Nat) (o_ranked : Nat) (o_starts : Nat) (o_numbers : Nat) (o_walk : Nat) (i_order : Int32) (i_next : Int32) (v_points : Nat → Int32) (v_cuts : Nat → Int32) (res : Int32 × (Nat → Int32)) (kf : Int32 → Int32 → (Nat → Int32) → Option (Int32 × (Nat → Int32))) : Prop := ∀ (l1 : Int32) (l2 : Int32) (v_queue : Nat → Int32), kf l1 l2 v_queue = some res → ∀ (H : Heap) (locs : List Loc) (ls : Array Slot), lv_has ls 4 [(0, .ref a_this), (1, .int l1), (2, .int l2)] → va_P D classes [(a_this, .inr (6, [.ref a_points, .ref a_cuts, .ref a_queue, .ref o_owners, .ref o_takes, .ref o_bases, .ref o_ranked, .ref o_starts, .ref o_numbers, .ref o_walk, .int i_order, .int i_next])), (a_points, .inl (cI, 12, .inl v_points)), (a_cuts, .inl (cI, 12, .inl v_cuts)), (a_queue, .inl (cI, 12, .inl v_queue))] H → va_D A [(a_this, .inr (6, [.ref a_points, .ref a_cuts, .ref a_queue, .ref o_owners, .ref o_takes, .ref o_bases, .ref o_ranked, .ref o_starts, .ref o_numbers, .ref o_walk, .int i_order, .int i_next])), (a_points, .inl (cI, 12, .inl v_points)), (a_cuts, .inl (cI, 12, .inl v_cuts)), (a_queue, .inl (cI, 12, .inl v_queue))] → va_S A s.heap H locs → W p l e R_Share_queueByCuts s m args below meth c H locs 0 0 Q (F0 m 4 ls [])
def I_Share_queueByCuts_b0 (p : Program) (l : Launch) (e : Env) (s : State) (m : MethodId) (args : Array Value) (below : List Frame) (meth : Method) (c : Code) (Q : State → Prop) (A : Nat → Prop) (D : va_G) (cI cL cZ : ClassId) (a_this : Nat) (a_points : Nat) (a_cuts : Nat) (a_queue : Nat) (o_owners : Nat) (o_takes : Nat) (o_bases : Nat) (o_ranked : Nat) (o_starts : Nat) (o_numbers : Nat) (o_walk : Nat) (i_order : Int32) (i_next : Int32) (v_points : Nat → Int32) (v_cuts : Nat → Int32) (res : Int32 × (Nat → Int32)) (kf : (Nat → Int32) → Option (Int32 × (Nat → Int32))) : Prop := ∀ (v_queue : Nat → Int32), kf v_queue = some res → ∀ (H : Heap) (locs : List Loc) (ls : Array Slot), lv_has ls 4 [(0, .ref a_this)] → va_P D classes [(a_this, .inr (6, [.ref a_points, .ref a_cuts, .ref a_queue, .ref o_owners, .ref o_takes, .ref o_bases, .ref o_ranked, .ref o_starts, .ref o_numbers, .ref o_walk, .int i_order, .int i_next])), (a_points, .inl (cI, 12, .inl v_points)), (a_cuts, .inl (cI, 12, .inl v_cuts)), (a_queue, .inl (cI, 12, .inl v_queue))] H → va_D A [(a_this, .inr (6, [.ref a_points, .ref a_cuts, .ref a_queue, .ref o_owners, .ref o_takes, .ref o_bases, .ref o_ranked, .ref o_starts, .ref o_numbers, .ref o_walk, .int i_order, .int i_next])), (a_points, .inl (cI, 12, .inl v_points)), (a_cuts, .inl (cI, 12, .inl v_cuts)), (a_queue, .inl (cI, 12, .inl v_queue))] → va_S A s.heap H locs → W p l e R_Share_queueByCuts s m args below meth c H locs 0 0 Q (F0 m 0 ls [])
set_option maxHeartbeats 4000000 in
set_option maxRecDepth 100000 in
theorem w_Share_queueByCuts_b77 {p : Program} {l : Launch} {e : Env} {s : State} {m : MethodId} {args : Array Value} {below : List Frame} {meth : Method} {c : Code} {Q : State → Prop} {A : Nat → Prop} {D : va_G} {cI cL cZ : ClassId} {a_this : Nat} {a_points : Nat} {a_cuts : Nat} {a_queue : Nat} {o_owners : Nat} {o_takes : Nat} {o_bases : Nat} {o_ranked : Nat} {o_starts : Nat} {o_numbers : Nat} {o_walk : Nat} {i_order : Int32} {i_next : Int32} {v_points : Nat → Int32} {v_cuts : Nat → Int32} {N : Nat} {res : Int32 × (Nat → Int32)} {k4 : Int32 → Int32 → (Nat → Int32) → Option (Int32 × (Nat → Int32))} (C : Cx p s m args c b_Share_queueByCuts 4 "PrefixMill$Share" D [(cI, .int), (cL, .long), (cZ, .boolean)] A) (hret : E_Share_queueByCuts p l e s m args below meth c Q A D cI cL cZ a_this a_points a_cuts a_queue o_owners o_takes o_bases o_ranked o_starts o_numbers o_walk i_order i_next v_points v_cuts res) (hk4 : I_Share_queueByCuts_b4 p l e s m args below meth c Q A D cI cL cZ a_this a_points a_cuts a_queue o_owners o_takes o_bases o_ranked o_starts o_numbers o_walk i_order i_next v_points v_cuts res k4) : I_Share_queueByCuts_b77 p l e s m args below meth c Q A D cI cL cZ a_this a_points a_cuts a_queue o_owners o_takes o_bases o_ranked o_starts o_numbers o_walk i_order i_next v_points v_cuts res (f_Share_queueByCuts_b77 N v_points v_cuts k4) := by
  obtain ⟨hx, hb, hml, hown, hts, hK, hA⟩ := C
  intro l1 l2 v_queue h H locs ls hl hP hD hS
  unfold f_Share_queueByCuts_b77 at h
  obtain ⟨l2_1, el2_1⟩ : ∃ y : Int32, y = l2 + 1 := ⟨_, rfl⟩
  replace h := nm_s h el2_1
  refine lv_iinc (v := l2_1) (lv' := [(2, .int l2_1), (0, .ref a_this), (1, .int l1)]) hx hb d_Share_queueByCuts_77 hl (k := 2) rfl (by rw [el2_1]; rfl) (by decide) rfl (fun ls hl => ?_)
  refine lv_goto (tgt := 4) hx hb d_Share_queueByCuts_80 (by decide) ?_
  exact hk4 _ _ _ h H locs ls (lv_sub hl [1, 2, 0] rfl) hP hD hS
set_option maxHeartbeats 4000000 in
set_option maxRecDepth 100000 in
theorem w_Share_queueByCuts_b67 {p : Program} {l : Launch} {e : Env} {s : State} {m : MethodId} {args : Array Value} {below : List Frame} {meth : Method} {c : Code} {Q : State → Prop} {A : Nat → Prop} {D : va_G} {cI cL cZ : ClassId} {a_this : Nat} {a_points : Nat} {a_cuts : Nat} {a_queue : Nat} {o_owners : Nat} {o_takes : Nat} {o_bases : Nat} {o_ranked : Nat} {o_starts : Nat} {o_numbers : Nat} {o_walk : Nat} {i_order : Int32} {i_next : Int32} {v_points : Nat → Int32} {v_cuts : Nat → Int32} {N : Nat} {res : Int32 × (Nat → Int32)} {k4 : Int32 → Int32 → (Nat → Int32) → Option (Int32 × (Nat → Int32))} (C : Cx p s m args c b_Share_queueByCuts 4 "PrefixMill$Share" D [(cI, .int), (cL, .long), (cZ, .boolean)] A) (hret : E_Share_queueByCuts p l e s m args below meth c Q A D cI cL cZ a_this a_points a_cuts a_queue o_owners o_takes o_bases o_ranked o_starts o_numbers o_walk i_order i_next v_points v_cuts res) (hk4 : I_Share_queueByCuts_b4 p l e s m args below meth c Q A D cI cL cZ a_this a_points a_cuts a_queue o_owners o_takes o_bases o_ranked o_starts o_numbers o_walk i_order i_next v_points v_cuts res k4) : I_Share_queueByCuts_b67 p l e s m args below meth c Q A D cI cL cZ a_this a_points a_cuts a_queue o_owners o_takes o_bases o_ranked o_starts o_numbers o_walk i_order i_next v_points v_cuts res (f_Share_queueByCuts_b67 N v_points v_cuts k4) := by
  obtain ⟨hx, hb, hml, hown, hts, hK, hA⟩ := C
  intro l1 l2 l3 v_queue h H locs ls hl hP hD hS
  unfold f_Share_queueByCuts_b67 at h
  refine lv_aload_n hx hb d_Share_queueByCuts_67 rfl (lv_at hl 0 rfl) ?_
  refine va_get hx hb hts in_Share hown hK hP 0 rfl rfl 2 (by decide) (hts _ m_213) (fun _ h9 => h9) rfl d_Share_queueByCuts_68 ?_
  refine lv_iload_n hx hb d_Share_queueByCuts_71 rfl (lv_at hl 3 rfl) ?_
  refine lv_iload_n hx hb d_Share_queueByCuts_72 rfl (lv_at hl 2 rfl) ?_
  obtain ⟨g_1, h⟩ := ck_s h
  refine va_iast hx hb hK hP hD hS 3 0 rfl rfl (inb_s g_1) d_Share_queueByCuts_73 (fun H locs hP hD hS => ?_)
  obtain ⟨v_queue_2, ev_queue_2⟩ : ∃ y, y = (upd v_queue (Int32.toNatClampNeg l3) l2) := ⟨_, rfl⟩
  replace h := nm_s h ev_queue_2
  have hP : va_P D classes [(a_this, .inr (6, [.ref a_points, .ref a_cuts, .ref a_queue, .ref o_owners, .ref o_takes, .ref o_bases, .ref o_ranked, .ref o_starts, .ref o_numbers, .ref o_walk, .int i_order, .int i_next])), (a_points, .inl (cI, 12, .inl v_points)), (a_cuts, .inl (cI, 12, .inl v_cuts)), (a_queue, .inl (cI, 12, .inl v_queue_2))] H := by rw [ev_queue_2]; exact hP
  have hD : va_D A [(a_this, .inr (6, [.ref a_points, .ref a_cuts, .ref a_queue, .ref o_owners, .ref o_takes, .ref o_bases, .ref o_ranked, .ref o_starts, .ref o_numbers, .ref o_walk, .int i_order, .int i_next])), (a_points, .inl (cI, 12, .inl v_points)), (a_cuts, .inl (cI, 12, .inl v_cuts)), (a_queue, .inl (cI, 12, .inl v_queue_2))] := by rw [ev_queue_2]; exact hD
  obtain ⟨l1_3, el1_3⟩ : ∃ y : Int32, y = l1 + 1 := ⟨_, rfl⟩
  replace h := nm_s h el1_3
  refine lv_iinc (v := l1_3) (lv' := [(1, .int l1_3), (0, .ref a_this), (2, .int l2), (3, .int l3)]) hx hb d_Share_queueByCuts_74 hl (k := 1) rfl (by rw [el1_3]; rfl) (by decide) rfl (fun ls hl => ?_)
  exact w_Share_queueByCuts_b77 ⟨hx, hb, hml, hown, hts, hK, hA⟩ hret hk4 _ _ _ h H locs ls (lv_sub hl [1, 0, 2] rfl) hP hD hS
set_option maxHeartbeats 4000000 in
set_option maxRecDepth 100000 in
theorem w_Share_queueByCuts_b21 {p : Program} {l : Launch} {e : Env} {s : State} {m : MethodId} {args : Array Value} {below : List Frame} {meth : Method} {c : Code} {Q : State → Prop} {A : Nat → Prop} {D : va_G} {cI cL cZ : ClassId} {a_this : Nat} {a_points : Nat} {a_cuts : Nat} {a_queue : Nat} {o_owners : Nat} {o_takes : Nat} {o_bases : Nat} {o_ranked : Nat} {o_starts : Nat} {o_numbers : Nat} {o_walk : Nat} {i_order : Int32} {i_next : Int32} {v_points : Nat → Int32} {v_cuts : Nat → Int32} {N : Nat} {res : Int32 × (Nat → Int32)} {k4 : Int32 → Int32 → (Nat → Int32) → Option (Int32 × (Nat → Int32))} (C : Cx p s m args c b_Share_queueByCuts 4 "PrefixMill$Share" D [(cI, .int), (cL, .long), (cZ, .boolean)] A) (hret : E_Share_queueByCuts p l e s m args below meth c Q A D cI cL cZ a_this a_points a_cuts a_queue o_owners o_takes o_bases o_ranked o_starts o_numbers o_walk i_order i_next v_points v_cuts res) (hk4 : I_Share_queueByCuts_b4 p l e s m args below meth c Q A D cI cL cZ a_this a_points a_cuts a_queue o_owners o_takes o_bases o_ranked o_starts o_numbers o_walk i_order i_next v_points v_cuts res k4) : ∀ z : Nat, I_Share_queueByCuts_b21 p l e s m args below meth c Q A D cI cL cZ a_this a_points a_cuts a_queue o_owners o_takes o_bases o_ranked o_starts o_numbers o_walk i_order i_next v_points v_cuts res (f_Share_queueByCuts_b21 N v_points v_cuts k4 z) := by
  obtain ⟨hx, hb, hml, hown, hts, hK, hA⟩ := C
  intro z
  induction z with
  | zero => intro l1 l2 l3 v_queue h; cases h
  | succ z ih =>
    intro l1 l2 l3 v_queue h H locs ls hl hP hD hS
    refine lv_iload_n hx hb d_Share_queueByCuts_21 rfl (lv_at hl 3 rfl) ?_
    refine lv_if_le (tgt := 67) hx hb d_Share_queueByCuts_22 (by decide) (fun c_1 => ?_) (fun c_1 => ?_)
    · replace h := if_t h c_1
      exact w_Share_queueByCuts_b67 ⟨hx, hb, hml, hown, hts, hK, hA⟩ hret hk4 _ _ _ _ h H locs ls (lv_sub hl [0, 1, 2, 3] rfl) hP hD hS
    · replace h := if_f h c_1
      refine lv_aload_n hx hb d_Share_queueByCuts_25 rfl (lv_at hl 0 rfl) ?_
      refine va_get hx hb hts in_Share hown hK hP 0 rfl rfl 1 (by decide) (hts _ m_212) (fun _ h9 => h9) rfl d_Share_queueByCuts_26 ?_
      refine lv_aload_n hx hb d_Share_queueByCuts_29 rfl (lv_at hl 0 rfl) ?_
      refine va_get hx hb hts in_Share hown hK hP 0 rfl rfl 2 (by decide) (hts _ m_213) (fun _ h9 => h9) rfl d_Share_queueByCuts_30 ?_
      refine lv_iload_n hx hb d_Share_queueByCuts_33 rfl (lv_at hl 3 rfl) ?_
      refine lv_iconst (v := 1) hx hb d_Share_queueByCuts_34 (by decide) ?_
      refine lv_isub hx hb d_Share_queueByCuts_35 ?_
      obtain ⟨g_2, h⟩ := ck_s h
      refine va_iald hx hb hK hP 3 0 rfl rfl (inb_s g_2) d_Share_queueByCuts_36 ?_
      obtain ⟨g_3, h⟩ := ck_s h
      refine va_iald hx hb hK hP 2 0 rfl rfl (inb_s g_3) d_Share_queueByCuts_37 ?_
      refine lv_aload_n hx hb d_Share_queueByCuts_38 rfl (lv_at hl 0 rfl) ?_
      refine va_get hx hb hts in_Share hown hK hP 0 rfl rfl 1 (by decide) (hts _ m_212) (fun _ h9 => h9) rfl d_Share_queueByCuts_39 ?_
      refine lv_iload_n hx hb d_Share_queueByCuts_42 rfl (lv_at hl 2 rfl) ?_
      obtain ⟨g_4, h⟩ := ck_s h
      refine va_iald hx hb hK hP 2 0 rfl rfl (inb_s g_4) d_Share_queueByCuts_43 ?_
      refine lv_icmp_ge (tgt := 67) hx hb d_Share_queueByCuts_44 (by decide) (fun c_5 => ?_) (fun c_5 => ?_)
      · replace h := if_t h c_5
        exact w_Share_queueByCuts_b67 ⟨hx, hb, hml, hown, hts, hK, hA⟩ hret hk4 _ _ _ _ h H locs ls (lv_sub hl [0, 1, 2, 3] rfl) hP hD hS
      · replace h := if_f h c_5
        refine lv_aload_n hx hb d_Share_queueByCuts_47 rfl (lv_at hl 0 rfl) ?_
        refine va_get hx hb hts in_Share hown hK hP 0 rfl rfl 2 (by decide) (hts _ m_213) (fun _ h9 => h9) rfl d_Share_queueByCuts_48 ?_
        refine lv_iload_n hx hb d_Share_queueByCuts_51 rfl (lv_at hl 3 rfl) ?_
        refine lv_aload_n hx hb d_Share_queueByCuts_52 rfl (lv_at hl 0 rfl) ?_
        refine va_get hx hb hts in_Share hown hK hP 0 rfl rfl 2 (by decide) (hts _ m_213) (fun _ h9 => h9) rfl d_Share_queueByCuts_53 ?_
        refine lv_iload_n hx hb d_Share_queueByCuts_56 rfl (lv_at hl 3 rfl) ?_
        refine lv_iconst (v := 1) hx hb d_Share_queueByCuts_57 (by decide) ?_
        refine lv_isub hx hb d_Share_queueByCuts_58 ?_
        obtain ⟨g_6, h⟩ := ck_s h
        refine va_iald hx hb hK hP 3 0 rfl rfl (inb_s g_6) d_Share_queueByCuts_59 ?_
        obtain ⟨g_7, h⟩ := ck_s h
        refine va_iast hx hb hK hP hD hS 3 0 rfl rfl (inb_s g_7) d_Share_queueByCuts_60 (fun H locs hP hD hS => ?_)
        obtain ⟨v_queue_8, ev_queue_8⟩ : ∃ y, y = (upd v_queue (Int32.toNatClampNeg l3) (v_queue (Int32.toNatClampNeg (l3 - 1)))) := ⟨_, rfl⟩
        replace h := nm_s h ev_queue_8
        have hP : va_P D classes [(a_this, .inr (6, [.ref a_points, .ref a_cuts, .ref a_queue, .ref o_owners, .ref o_takes, .ref o_bases, .ref o_ranked, .ref o_starts, .ref o_numbers, .ref o_walk, .int i_order, .int i_next])), (a_points, .inl (cI, 12, .inl v_points)), (a_cuts, .inl (cI, 12, .inl v_cuts)), (a_queue, .inl (cI, 12, .inl v_queue_8))] H := by rw [ev_queue_8]; exact hP
        have hD : va_D A [(a_this, .inr (6, [.ref a_points, .ref a_cuts, .ref a_queue, .ref o_owners, .ref o_takes, .ref o_bases, .ref o_ranked, .ref o_starts, .ref o_numbers, .ref o_walk, .int i_order, .int i_next])), (a_points, .inl (cI, 12, .inl v_points)), (a_cuts, .inl (cI, 12, .inl v_cuts)), (a_queue, .inl (cI, 12, .inl v_queue_8))] := by rw [ev_queue_8]; exact hD
        obtain ⟨l3_9, el3_9⟩ : ∃ y : Int32, y = l3 + (-1) := ⟨_, rfl⟩
        replace h := nm_s h el3_9
        refine lv_iinc (v := l3_9) (lv' := [(3, .int l3_9), (0, .ref a_this), (1, .int l1), (2, .int l2)]) hx hb d_Share_queueByCuts_61 hl (k := 3) rfl (by rw [el3_9]; rfl) (by decide) rfl (fun ls hl => ?_)
        refine lv_goto (tgt := 21) hx hb d_Share_queueByCuts_64 (by decide) ?_
        exact ih _ _ _ _ h H locs ls (lv_sub hl [1, 2, 3, 0] rfl) hP hD hS
set_option maxHeartbeats 4000000 in
set_option maxRecDepth 100000 in
theorem w_Share_queueByCuts_b83 {p : Program} {l : Launch} {e : Env} {s : State} {m : MethodId} {args : Array Value} {below : List Frame} {meth : Method} {c : Code} {Q : State → Prop} {A : Nat → Prop} {D : va_G} {cI cL cZ : ClassId} {a_this : Nat} {a_points : Nat} {a_cuts : Nat} {a_queue : Nat} {o_owners : Nat} {o_takes : Nat} {o_bases : Nat} {o_ranked : Nat} {o_starts : Nat} {o_numbers : Nat} {o_walk : Nat} {i_order : Int32} {i_next : Int32} {v_points : Nat → Int32} {v_cuts : Nat → Int32} {N : Nat} {res : Int32 × (Nat → Int32)}  (C : Cx p s m args c b_Share_queueByCuts 4 "PrefixMill$Share" D [(cI, .int), (cL, .long), (cZ, .boolean)] A) (hret : E_Share_queueByCuts p l e s m args below meth c Q A D cI cL cZ a_this a_points a_cuts a_queue o_owners o_takes o_bases o_ranked o_starts o_numbers o_walk i_order i_next v_points v_cuts res)  : I_Share_queueByCuts_b83 p l e s m args below meth c Q A D cI cL cZ a_this a_points a_cuts a_queue o_owners o_takes o_bases o_ranked o_starts o_numbers o_walk i_order i_next v_points v_cuts res (f_Share_queueByCuts_b83 N v_points v_cuts ) := by
  obtain ⟨hx, hb, hml, hown, hts, hK, hA⟩ := C
  intro l1 v_queue h H locs ls hl hP hD hS
  unfold f_Share_queueByCuts_b83 at h
  refine lv_iload_n hx hb d_Share_queueByCuts_83 rfl (lv_at hl 0 rfl) ?_
  exact hret _ _ _ _ l1 v_queue h d_Share_queueByCuts_84 hP hD hS
set_option maxHeartbeats 4000000 in
set_option maxRecDepth 100000 in
theorem w_Share_queueByCuts_b4 {p : Program} {l : Launch} {e : Env} {s : State} {m : MethodId} {args : Array Value} {below : List Frame} {meth : Method} {c : Code} {Q : State → Prop} {A : Nat → Prop} {D : va_G} {cI cL cZ : ClassId} {a_this : Nat} {a_points : Nat} {a_cuts : Nat} {a_queue : Nat} {o_owners : Nat} {o_takes : Nat} {o_bases : Nat} {o_ranked : Nat} {o_starts : Nat} {o_numbers : Nat} {o_walk : Nat} {i_order : Int32} {i_next : Int32} {v_points : Nat → Int32} {v_cuts : Nat → Int32} {N : Nat} {res : Int32 × (Nat → Int32)}  (C : Cx p s m args c b_Share_queueByCuts 4 "PrefixMill$Share" D [(cI, .int), (cL, .long), (cZ, .boolean)] A) (hret : E_Share_queueByCuts p l e s m args below meth c Q A D cI cL cZ a_this a_points a_cuts a_queue o_owners o_takes o_bases o_ranked o_starts o_numbers o_walk i_order i_next v_points v_cuts res)  : ∀ z : Nat, I_Share_queueByCuts_b4 p l e s m args below meth c Q A D cI cL cZ a_this a_points a_cuts a_queue o_owners o_takes o_bases o_ranked o_starts o_numbers o_walk i_order i_next v_points v_cuts res (f_Share_queueByCuts_b4 N v_points v_cuts  z) := by
  obtain ⟨hx, hb, hml, hown, hts, hK, hA⟩ := C
  intro z
  induction z with
  | zero => intro l1 l2 v_queue h; cases h
  | succ z ih =>
    intro l1 l2 v_queue h H locs ls hl hP hD hS
    refine lv_iload_n hx hb d_Share_queueByCuts_4 rfl (lv_at hl 2 rfl) ?_
    refine lv_bipush (v := 12) hx hb d_Share_queueByCuts_5 (by decide) ?_
    refine lv_icmp_ge (tgt := 83) hx hb d_Share_queueByCuts_7 (by decide) (fun c_1 => ?_) (fun c_1 => ?_)
    · replace h := if_t h c_1
      exact w_Share_queueByCuts_b83 ⟨hx, hb, hml, hown, hts, hK, hA⟩ hret  _ _ h H locs ls (lv_sub hl [1] rfl) hP hD hS
    · replace h := if_f h c_1
      refine lv_aload_n hx hb d_Share_queueByCuts_10 rfl (lv_at hl 0 rfl) ?_
      refine va_get hx hb hts in_Share hown hK hP 0 rfl rfl 0 (by decide) (hts _ m_211) (fun _ h9 => h9) rfl d_Share_queueByCuts_11 ?_
      refine lv_iload_n hx hb d_Share_queueByCuts_14 rfl (lv_at hl 2 rfl) ?_
      obtain ⟨g_2, h⟩ := ck_s h
      refine va_iald hx hb hK hP 1 0 rfl rfl (inb_s g_2) d_Share_queueByCuts_15 ?_
      refine lv_if_le (tgt := 77) hx hb d_Share_queueByCuts_16 (by decide) (fun c_3 => ?_) (fun c_3 => ?_)
      · replace h := if_t h c_3
        exact w_Share_queueByCuts_b77 ⟨hx, hb, hml, hown, hts, hK, hA⟩ hret ih _ _ _ h H locs ls (lv_sub hl [0, 1, 2] rfl) hP hD hS
      · replace h := if_f h c_3
        refine lv_iload_n hx hb d_Share_queueByCuts_19 rfl (lv_at hl 1 rfl) ?_
        refine lv_istore_n (lv' := [(3, .int l1), (0, .ref a_this), (1, .int l1), (2, .int l2)]) hx hb d_Share_queueByCuts_20 rfl hl (by decide) rfl (fun ls hl => ?_)
        exact w_Share_queueByCuts_b21 ⟨hx, hb, hml, hown, hts, hK, hA⟩ hret ih N _ _ _ _ h H locs ls (lv_sub hl [1, 2, 3, 0] rfl) hP hD hS
set_option maxHeartbeats 4000000 in
set_option maxRecDepth 100000 in
theorem w_Share_queueByCuts_b0 {p : Program} {l : Launch} {e : Env} {s : State} {m : MethodId} {args : Array Value} {below : List Frame} {meth : Method} {c : Code} {Q : State → Prop} {A : Nat → Prop} {D : va_G} {cI cL cZ : ClassId} {a_this : Nat} {a_points : Nat} {a_cuts : Nat} {a_queue : Nat} {o_owners : Nat} {o_takes : Nat} {o_bases : Nat} {o_ranked : Nat} {o_starts : Nat} {o_numbers : Nat} {o_walk : Nat} {i_order : Int32} {i_next : Int32} {v_points : Nat → Int32} {v_cuts : Nat → Int32} {N : Nat} {res : Int32 × (Nat → Int32)}  (C : Cx p s m args c b_Share_queueByCuts 4 "PrefixMill$Share" D [(cI, .int), (cL, .long), (cZ, .boolean)] A) (hret : E_Share_queueByCuts p l e s m args below meth c Q A D cI cL cZ a_this a_points a_cuts a_queue o_owners o_takes o_bases o_ranked o_starts o_numbers o_walk i_order i_next v_points v_cuts res)  : I_Share_queueByCuts_b0 p l e s m args below meth c Q A D cI cL cZ a_this a_points a_cuts a_queue o_owners o_takes o_bases o_ranked o_starts o_numbers o_walk i_order i_next v_points v_cuts res (f_Share_queueByCuts N v_points v_cuts ) := by
  obtain ⟨hx, hb, hml, hown, hts, hK, hA⟩ := C
  intro v_queue h H locs ls hl hP hD hS
  unfold f_Share_queueByCuts at h
  refine lv_iconst (v := 0) hx hb d_Share_queueByCuts_0 (by decide) ?_
  refine lv_istore_n (lv' := [(1, .int 0), (0, .ref a_this)]) hx hb d_Share_queueByCuts_1 rfl hl (by decide) rfl (fun ls hl => ?_)
  refine lv_iconst (v := 0) hx hb d_Share_queueByCuts_2 (by decide) ?_
  refine lv_istore_n (lv' := [(2, .int 0), (1, .int 0), (0, .ref a_this)]) hx hb d_Share_queueByCuts_3 rfl hl (by decide) rfl (fun ls hl => ?_)
  exact w_Share_queueByCuts_b4 ⟨hx, hb, hml, hown, hts, hK, hA⟩ hret  N _ _ _ h H locs ls (lv_sub hl [2, 1, 0] rfl) hP hD hS
set_option maxHeartbeats 4000000 in
set_option maxRecDepth 100000 in
theorem c_Share_queueByCuts (l : Launch) (D : va_G) (cI cL cZ : ClassId) (sz N : Nat) (a_this : Nat) (a_points : Nat) (a_cuts : Nat) (a_queue : Nat) (o_owners : Nat) (o_takes : Nat) (o_bases : Nat) (o_ranked : Nat) (o_starts : Nat) (o_numbers : Nat) (o_walk : Nat) (i_order : Int32) (i_next : Int32) (v_points : Nat → Int32) (v_cuts : Nat → Int32) (v_queue : Nat → Int32) (rv : Int32) (v_queue' : Nat → Int32) (h : f_Share_queueByCuts N v_points v_cuts v_queue = some (rv, v_queue')) : Met l ({ cls := "PrefixMill$Share", name := "queueByCuts", desc := "()I" } : Jvm.MethodName) ws_Share_queueByCuts R_Share_queueByCuts (va_Pc [.ref a_this] (fun U => U.heap.size = sz ∧ va_P D classes [(a_this, .inr (6, [.ref a_points, .ref a_cuts, .ref a_queue, .ref o_owners, .ref o_takes, .ref o_bases, .ref o_ranked, .ref o_starts, .ref o_numbers, .ref o_walk, .int i_order, .int i_next])), (a_points, .inl (cI, 12, .inl v_points)), (a_cuts, .inl (cI, 12, .inl v_cuts)), (a_queue, .inl (cI, 12, .inl v_queue))] U.heap ∧ va_K D classes [(cI, .int), (cL, .long), (cZ, .boolean)] U ∧ va_D (fun _ => True) [(a_this, .inr (6, [.ref a_points, .ref a_cuts, .ref a_queue, .ref o_owners, .ref o_takes, .ref o_bases, .ref o_ranked, .ref o_starts, .ref o_numbers, .ref o_walk, .int i_order, .int i_next])), (a_points, .inl (cI, 12, .inl v_points)), (a_cuts, .inl (cI, 12, .inl v_cuts)), (a_queue, .inl (cI, 12, .inl v_queue))])) (va_Qi (fun (r0 : Int32) (_ : Unit) => rv = r0) (fun _ t => va_P D classes [(a_this, .inr (6, [.ref a_points, .ref a_cuts, .ref a_queue, .ref o_owners, .ref o_takes, .ref o_bases, .ref o_ranked, .ref o_starts, .ref o_numbers, .ref o_walk, .int i_order, .int i_next])), (a_points, .inl (cI, 12, .inl v_points)), (a_cuts, .inl (cI, 12, .inl v_cuts)), (a_queue, .inl (cI, 12, .inl v_queue'))] t.heap ∧ va_K D classes [(cI, .int), (cL, .long), (cZ, .boolean)] t ∧ va_D (va_A [(a_this, .inr (6, [.ref a_points, .ref a_cuts, .ref a_queue, .ref o_owners, .ref o_takes, .ref o_bases, .ref o_ranked, .ref o_starts, .ref o_numbers, .ref o_walk, .int i_order, .int i_next])), (a_points, .inl (cI, 12, .inl v_points)), (a_cuts, .inl (cI, 12, .inl v_cuts)), (a_queue, .inl (cI, 12, .inl v_queue))] sz) [(a_this, .inr (6, [.ref a_points, .ref a_cuts, .ref a_queue, .ref o_owners, .ref o_takes, .ref o_bases, .ref o_ranked, .ref o_starts, .ref o_numbers, .ref o_walk, .int i_order, .int i_next])), (a_points, .inl (cI, 12, .inl v_points)), (a_cuts, .inl (cI, 12, .inl v_cuts)), (a_queue, .inl (cI, 12, .inl v_queue'))]) (va_A [(a_this, .inr (6, [.ref a_points, .ref a_cuts, .ref a_queue, .ref o_owners, .ref o_takes, .ref o_bases, .ref o_ranked, .ref o_starts, .ref o_numbers, .ref o_walk, .int i_order, .int i_next])), (a_points, .inl (cI, 12, .inl v_points)), (a_cuts, .inl (cI, 12, .inl v_cuts)), (a_queue, .inl (cI, 12, .inl v_queue))] sz)) 0 0 (va_A [(a_this, .inr (6, [.ref a_points, .ref a_cuts, .ref a_queue, .ref o_owners, .ref o_takes, .ref o_bases, .ref o_ranked, .ref o_starts, .ref o_numbers, .ref o_walk, .int i_order, .int i_next])), (a_points, .inl (cI, 12, .inl v_points)), (a_cuts, .inl (cI, 12, .inl v_cuts)), (a_queue, .inl (cI, 12, .inl v_queue))] sz) := by
  refine Met.ofW (cc := b_Share_queueByCuts) (maxL := 4) (ret := (some .int)) (by decide) rfl ?_
  intro p e s m args below meth c s₁ B hml hv
  obtain ⟨rfl, hsz, hP, hK, hD0⟩ := hv
  have hx := B.exec
  have hb := B.bytes
  have hr := B.returns
  have hts0 := atoms_spec (ws := ws_Share_queueByCuts) B.pre
  have hts := gd_tl hts0
  clear hts0
  have hown : s.vm.findClass "PrefixMill$Share" = some m.cls := findClass_of_methodNamed B.named
  have hlocks := B.notSynchronized
  subst hsz
  have hD := hD0.self (sz := s.heap.size)
  generalize hAe : va_A [(a_this, .inr (6, [.ref a_points, .ref a_cuts, .ref a_queue, .ref o_owners, .ref o_takes, .ref o_bases, .ref o_ranked, .ref o_starts, .ref o_numbers, .ref o_walk, .int i_order, .int i_next])), (a_points, .inl (cI, 12, .inl v_points)), (a_cuts, .inl (cI, 12, .inl v_cuts)), (a_queue, .inl (cI, 12, .inl v_queue))] s.heap.size = A at hD ⊢
  have hA : ∀ q : Nat, s.heap.size ≤ q → A q := fun q h => by rw [← hAe]; exact Or.inr h
  have hS : va_S A s.heap s.heap [] := va_S.rf
  have hP : va_P D classes [(a_this, .inr (6, [.ref a_points, .ref a_cuts, .ref a_queue, .ref o_owners, .ref o_takes, .ref o_bases, .ref o_ranked, .ref o_starts, .ref o_numbers, .ref o_walk, .int i_order, .int i_next])), (a_points, .inl (cI, 12, .inl v_points)), (a_cuts, .inl (cI, 12, .inl v_cuts)), (a_queue, .inl (cI, 12, .inl v_queue))] s.heap := hP
  have hl := lv_entry ([.ref a_this]) (n := 4) (Nat.le_of_ble_eq_true rfl)
  rw [lg_entry_eq]
  generalize (lg_sl ([.ref a_this]) ++ List.replicate (4 - (lg_sl ([.ref a_this])).length) Slot.unset).toArray = ls at hl ⊢
  have hl : lv_has ls 4 [(0, .ref a_this)] := hl
  have C : Cx p s m ([.ref a_this] : List Value).toArray c b_Share_queueByCuts 4 "PrefixMill$Share" D [(cI, .int), (cL, .long), (cZ, .boolean)] A := ⟨hx, hb, hml, hown, hts, hK, hA⟩
  refine w_Share_queueByCuts_b0 (res := (rv, v_queue')) C ?_ _ h s.heap [] ls hl hP hD hS
  intro pc9 H9 locs9 ls9 rv9 v_queue9 e9 d9 hP9 hD9 hS9
  cases e9
  exact W.iret (v := rv) hx hb hr (fun t ht hW => ⟨⟨rv, (), rfl, rfl, by rw [ht]; exact hP9, va_K.moved hW.alike hK, hD9⟩, hS9.F ht⟩) hS9.2.2 d9
abbrev b_Share_give : ByteArray := prog_6_method_5_code
def ws_Share_give : List Cond := .code ({ cls := "PrefixMill$Share", name := "give", desc := "(I)V" } : Jvm.MethodName) b_Share_give 4 none :: tt
theorem d_Share_give_0 : decode b_Share_give 0 = .ok (.aload_n 0, 1) := by decide +kernel
theorem d_Share_give_1 : decode b_Share_give 1 = .ok (.invokevirtual 70, 3) := by decide +kernel
theorem d_Share_give_4 : decode b_Share_give 4 = .ok (.istore_n 2, 1) := by decide +kernel
theorem d_Share_give_5 : decode b_Share_give 5 = .ok (.iconst 0, 1) := by decide +kernel
theorem d_Share_give_6 : decode b_Share_give 6 = .ok (.istore_n 3, 1) := by decide +kernel
theorem d_Share_give_7 : decode b_Share_give 7 = .ok (.iload_n 3, 1) := by decide +kernel
theorem d_Share_give_8 : decode b_Share_give 8 = .ok (.iload_n 1, 1) := by decide +kernel
theorem d_Share_give_9 : decode b_Share_give 9 = .ok (.if_icmp .ge 30, 3) := by decide +kernel
theorem d_Share_give_12 : decode b_Share_give 12 = .ok (.iload_n 2, 1) := by decide +kernel
theorem d_Share_give_13 : decode b_Share_give 13 = .ok (.ifCond .le 26, 3) := by decide +kernel
theorem d_Share_give_16 : decode b_Share_give 16 = .ok (.aload_n 0, 1) := by decide +kernel
theorem d_Share_give_17 : decode b_Share_give 17 = .ok (.getfield 9, 3) := by decide +kernel
theorem d_Share_give_20 : decode b_Share_give 20 = .ok (.aload_n 0, 1) := by decide +kernel
theorem d_Share_give_21 : decode b_Share_give 21 = .ok (.getfield 18, 3) := by decide +kernel
theorem d_Share_give_24 : decode b_Share_give 24 = .ok (.iload_n 3, 1) := by decide +kernel
theorem d_Share_give_25 : decode b_Share_give 25 = .ok (.iload_n 2, 1) := by decide +kernel
theorem d_Share_give_26 : decode b_Share_give 26 = .ok (.irem, 1) := by decide +kernel
theorem d_Share_give_27 : decode b_Share_give 27 = .ok (.iaload, 1) := by decide +kernel
theorem d_Share_give_28 : decode b_Share_give 28 = .ok (.dup2, 1) := by decide +kernel
theorem d_Share_give_29 : decode b_Share_give 29 = .ok (.iaload, 1) := by decide +kernel
theorem d_Share_give_30 : decode b_Share_give 30 = .ok (.iconst 1, 1) := by decide +kernel
theorem d_Share_give_31 : decode b_Share_give 31 = .ok (.iadd, 1) := by decide +kernel
theorem d_Share_give_32 : decode b_Share_give 32 = .ok (.iastore, 1) := by decide +kernel
theorem d_Share_give_33 : decode b_Share_give 33 = .ok (.iinc 3 1, 3) := by decide +kernel
theorem d_Share_give_36 : decode b_Share_give 36 = .ok (.goto (-29), 3) := by decide +kernel
theorem d_Share_give_39 : decode b_Share_give 39 = .ok (.return_, 1) := by decide +kernel
abbrev R_Share_give : Room := ({ frames := 1, cells := 0, slots := 0, locals := 23 } : Room)
def E_Share_give (p : Program) (l : Launch) (e : Env) (s : State) (m : MethodId) (args : Array Value) (below : List Frame) (meth : Method) (c : Code) (Q : State → Prop) (A : Nat → Prop) (D : va_G) (cI cL cZ : ClassId) (a_this : Nat) (a_points : Nat) (a_cuts : Nat) (a_queue : Nat) (o_owners : Nat) (o_takes : Nat) (o_bases : Nat) (o_ranked : Nat) (o_starts : Nat) (o_numbers : Nat) (o_walk : Nat) (i_order : Int32) (i_next : Int32) (v_cuts : Nat → Int32) (l1 : Int32) (res : (Nat → Int32) × (Nat → Int32)) : Prop := ∀ (pc : Nat) (H : Heap) (locs : List Loc) (ls : Array Slot) (v_points : Nat → Int32) (v_queue : Nat → Int32), some (v_points, v_queue) = some res → decode b_Share_give pc = .ok (.return_, 1) → va_P D classes [(a_this, .inr (6, [.ref a_points, .ref a_cuts, .ref a_queue, .ref o_owners, .ref o_takes, .ref o_bases, .ref o_ranked, .ref o_starts, .ref o_numbers, .ref o_walk, .int i_order, .int i_next])), (a_points, .inl (cI, 12, .inl v_points)), (a_cuts, .inl (cI, 12, .inl v_cuts)), (a_queue, .inl (cI, 12, .inl v_queue))] H → va_D A [(a_this, .inr (6, [.ref a_points, .ref a_cuts, .ref a_queue, .ref o_owners, .ref o_takes, .ref o_bases, .ref o_ranked, .ref o_starts, .ref o_numbers, .ref o_walk, .int i_order, .int i_next])), (a_points, .inl (cI, 12, .inl v_points)), (a_cuts, .inl (cI, 12, .inl v_cuts)), (a_queue, .inl (cI, 12, .inl v_queue))] → va_S A s.heap H locs → W p l e R_Share_give s m args below meth c H locs 0 0 Q (F0 m pc ls [])
def I_Share_give_b7 (p : Program) (l : Launch) (e : Env) (s : State) (m : MethodId) (args : Array Value) (below : List Frame) (meth : Method) (c : Code) (Q : State → Prop) (A : Nat → Prop) (D : va_G) (cI cL cZ : ClassId) (a_this : Nat) (a_points : Nat) (a_cuts : Nat) (a_queue : Nat) (o_owners : Nat) (o_takes : Nat) (o_bases : Nat) (o_ranked : Nat) (o_starts : Nat) (o_numbers : Nat) (o_walk : Nat) (i_order : Int32) (i_next : Int32) (v_cuts : Nat → Int32) (l1 : Int32) (res : (Nat → Int32) × (Nat → Int32)) (kf : Int32 → Int32 → (Nat → Int32) → (Nat → Int32) → Option ((Nat → Int32) × (Nat → Int32))) : Prop := ∀ (l2 : Int32) (l3 : Int32) (v_points : Nat → Int32) (v_queue : Nat → Int32), kf l2 l3 v_points v_queue = some res → ∀ (H : Heap) (locs : List Loc) (ls : Array Slot), lv_has ls 4 [(0, .ref a_this), (1, .int l1), (2, .int l2), (3, .int l3)] → va_P D classes [(a_this, .inr (6, [.ref a_points, .ref a_cuts, .ref a_queue, .ref o_owners, .ref o_takes, .ref o_bases, .ref o_ranked, .ref o_starts, .ref o_numbers, .ref o_walk, .int i_order, .int i_next])), (a_points, .inl (cI, 12, .inl v_points)), (a_cuts, .inl (cI, 12, .inl v_cuts)), (a_queue, .inl (cI, 12, .inl v_queue))] H → va_D A [(a_this, .inr (6, [.ref a_points, .ref a_cuts, .ref a_queue, .ref o_owners, .ref o_takes, .ref o_bases, .ref o_ranked, .ref o_starts, .ref o_numbers, .ref o_walk, .int i_order, .int i_next])), (a_points, .inl (cI, 12, .inl v_points)), (a_cuts, .inl (cI, 12, .inl v_cuts)), (a_queue, .inl (cI, 12, .inl v_queue))] → va_S A s.heap H locs → W p l e R_Share_give s m args below meth c H locs 0 0 Q (F0 m 7 ls [])
def I_Share_give_b0 (p : Program) (l : Launch) (e : Env) (s : State) (m : MethodId) (args : Array Value) (below : List Frame) (meth : Method) (c : Code) (Q : State → Prop) (A : Nat → Prop) (D : va_G) (cI cL cZ : ClassId) (a_this : Nat) (a_points : Nat) (a_cuts : Nat) (a_queue : Nat) (o_owners : Nat) (o_takes : Nat) (o_bases : Nat) (o_ranked : Nat) (o_starts : Nat) (o_numbers : Nat) (o_walk : Nat) (i_order : Int32) (i_next : Int32) (v_cuts : Nat → Int32) (l1 : Int32) (res : (Nat → Int32) × (Nat → Int32)) (kf : (Nat → Int32) → (Nat → Int32) → Option ((Nat → Int32) × (Nat → Int32))) : Prop := ∀ (v_points : Nat → Int32) (v_queue : Nat → Int32), kf v_points v_queue = some res → ∀ (H : Heap) (locs : List Loc) (ls : Array Slot), lv_has ls 4 [(0, .ref a_this), (1, .int l1)] → va_P D classes [(a_this, .inr (6, [.ref a_points, .ref a_cuts, .ref a_queue, .ref o_owners, .ref o_takes, .ref o_bases, .ref o_ranked, .ref o_starts, .ref o_numbers, .ref o_walk, .int i_order, .int i_next])), (a_points, .inl (cI, 12, .inl v_points)), (a_cuts, .inl (cI, 12, .inl v_cuts)), (a_queue, .inl (cI, 12, .inl v_queue))] H → va_D A [(a_this, .inr (6, [.ref a_points, .ref a_cuts, .ref a_queue, .ref o_owners, .ref o_takes, .ref o_bases, .ref o_ranked, .ref o_starts, .ref o_numbers, .ref o_walk, .int i_order, .int i_next])), (a_points, .inl (cI, 12, .inl v_points)), (a_cuts, .inl (cI, 12, .inl v_cuts)), (a_queue, .inl (cI, 12, .inl v_queue))] → va_S A s.heap H locs → W p l e R_Share_give s m args below meth c H locs 0 0 Q (F0 m 0 ls [])
set_option maxHeartbeats 4000000 in
set_option maxRecDepth 100000 in
theorem w_Share_give_b7 {p : Program} {l : Launch} {e : Env} {s : State} {m : MethodId} {args : Array Value} {below : List Frame} {meth : Method} {c : Code} {Q : State → Prop} {A : Nat → Prop} {D : va_G} {cI cL cZ : ClassId} {a_this : Nat} {a_points : Nat} {a_cuts : Nat} {a_queue : Nat} {o_owners : Nat} {o_takes : Nat} {o_bases : Nat} {o_ranked : Nat} {o_starts : Nat} {o_numbers : Nat} {o_walk : Nat} {i_order : Int32} {i_next : Int32} {v_cuts : Nat → Int32} {l1 : Int32} {N : Nat} {res : (Nat → Int32) × (Nat → Int32)}  (C : Cx p s m args c b_Share_give 4 "PrefixMill$Share" D [(cI, .int), (cL, .long), (cZ, .boolean)] A) (hret : E_Share_give p l e s m args below meth c Q A D cI cL cZ a_this a_points a_cuts a_queue o_owners o_takes o_bases o_ranked o_starts o_numbers o_walk i_order i_next v_cuts l1 res)  : ∀ z : Nat, I_Share_give_b7 p l e s m args below meth c Q A D cI cL cZ a_this a_points a_cuts a_queue o_owners o_takes o_bases o_ranked o_starts o_numbers o_walk i_order i_next v_cuts l1 res (f_Share_give_b7 N v_cuts l1  z) := by
  obtain ⟨hx, hb, hml, hown, hts, hK, hA⟩ := C
  intro z
  induction z with
  | zero => intro l2 l3 v_points v_queue h; cases h
  | succ z ih =>
    intro l2 l3 v_points v_queue h H locs ls hl hP hD hS
    refine lv_iload_n hx hb d_Share_give_7 rfl (lv_at hl 3 rfl) ?_
    refine lv_iload_n hx hb d_Share_give_8 rfl (lv_at hl 1 rfl) ?_
    refine lv_icmp_ge (tgt := 39) hx hb d_Share_give_9 (by decide) (fun c_1 => ?_) (fun c_1 => ?_)
    · replace h := if_t h c_1
      exact hret _ _ _ _ v_points v_queue h d_Share_give_39 hP hD hS
    · replace h := if_f h c_1
      refine lv_iload_n hx hb d_Share_give_12 rfl (lv_at hl 2 rfl) ?_
      refine lv_if_le (tgt := 39) hx hb d_Share_give_13 (by decide) (fun c_2 => ?_) (fun c_2 => ?_)
      · replace h := if_t h c_2
        exact hret _ _ _ _ v_points v_queue h d_Share_give_39 hP hD hS
      · replace h := if_f h c_2
        refine lv_aload_n hx hb d_Share_give_16 rfl (lv_at hl 0 rfl) ?_
        refine va_get hx hb hts in_Share hown hK hP 0 rfl rfl 0 (by decide) (hts _ m_211) (fun _ h9 => h9) rfl d_Share_give_17 ?_
        refine lv_aload_n hx hb d_Share_give_20 rfl (lv_at hl 0 rfl) ?_
        refine va_get hx hb hts in_Share hown hK hP 0 rfl rfl 2 (by decide) (hts _ m_213) (fun _ h9 => h9) rfl d_Share_give_21 ?_
        refine lv_iload_n hx hb d_Share_give_24 rfl (lv_at hl 3 rfl) ?_
        refine lv_iload_n hx hb d_Share_give_25 rfl (lv_at hl 2 rfl) ?_
        obtain ⟨g_3, h⟩ := ck_s h
        refine lv_irem hx hb d_Share_give_26 (nz_s g_3) ?_
        obtain ⟨g_4, h⟩ := ck_s h
        refine va_iald hx hb hK hP 3 0 rfl rfl (inb_s g_4) d_Share_give_27 ?_
        refine lv_dup2_11 hx hb d_Share_give_28 rfl rfl ?_
        obtain ⟨g_5, h⟩ := ck_s h
        refine va_iald hx hb hK hP 1 0 rfl rfl (inb_s g_5) d_Share_give_29 ?_
        refine lv_iconst (v := 1) hx hb d_Share_give_30 (by decide) ?_
        refine lv_iadd hx hb d_Share_give_31 ?_
        obtain ⟨g_6, h⟩ := ck_s h
        refine va_iast hx hb hK hP hD hS 1 0 rfl rfl (inb_s g_6) d_Share_give_32 (fun H locs hP hD hS => ?_)
        obtain ⟨v_points_7, ev_points_7⟩ : ∃ y, y = (upd v_points (Int32.toNatClampNeg (v_queue (Int32.toNatClampNeg (l3 - l3 / l2 * l2)))) ((v_points (Int32.toNatClampNeg (v_queue (Int32.toNatClampNeg (l3 - l3 / l2 * l2))))) + 1)) := ⟨_, rfl⟩
        replace h := nm_s h ev_points_7
        have hP : va_P D classes [(a_this, .inr (6, [.ref a_points, .ref a_cuts, .ref a_queue, .ref o_owners, .ref o_takes, .ref o_bases, .ref o_ranked, .ref o_starts, .ref o_numbers, .ref o_walk, .int i_order, .int i_next])), (a_points, .inl (cI, 12, .inl v_points_7)), (a_cuts, .inl (cI, 12, .inl v_cuts)), (a_queue, .inl (cI, 12, .inl v_queue))] H := by rw [ev_points_7]; exact hP
        have hD : va_D A [(a_this, .inr (6, [.ref a_points, .ref a_cuts, .ref a_queue, .ref o_owners, .ref o_takes, .ref o_bases, .ref o_ranked, .ref o_starts, .ref o_numbers, .ref o_walk, .int i_order, .int i_next])), (a_points, .inl (cI, 12, .inl v_points_7)), (a_cuts, .inl (cI, 12, .inl v_cuts)), (a_queue, .inl (cI, 12, .inl v_queue))] := by rw [ev_points_7]; exact hD
        obtain ⟨l3_8, el3_8⟩ : ∃ y : Int32, y = l3 + 1 := ⟨_, rfl⟩
        replace h := nm_s h el3_8
        refine lv_iinc (v := l3_8) (lv' := [(3, .int l3_8), (0, .ref a_this), (1, .int l1), (2, .int l2)]) hx hb d_Share_give_33 hl (k := 3) rfl (by rw [el3_8]; rfl) (by decide) rfl (fun ls hl => ?_)
        refine lv_goto (tgt := 7) hx hb d_Share_give_36 (by decide) ?_
        exact ih _ _ _ _ h H locs ls (lv_sub hl [1, 2, 3, 0] rfl) hP hD hS
set_option maxHeartbeats 4000000 in
set_option maxRecDepth 100000 in
theorem w_Share_give_b0 {p : Program} {l : Launch} {e : Env} {s : State} {m : MethodId} {args : Array Value} {below : List Frame} {meth : Method} {c : Code} {Q : State → Prop} {A : Nat → Prop} {D : va_G} {cI cL cZ : ClassId} {a_this : Nat} {a_points : Nat} {a_cuts : Nat} {a_queue : Nat} {o_owners : Nat} {o_takes : Nat} {o_bases : Nat} {o_ranked : Nat} {o_starts : Nat} {o_numbers : Nat} {o_walk : Nat} {i_order : Int32} {i_next : Int32} {v_cuts : Nat → Int32} {l1 : Int32} {N : Nat} {res : (Nat → Int32) × (Nat → Int32)}  (C : Cx p s m args c b_Share_give 4 "PrefixMill$Share" D [(cI, .int), (cL, .long), (cZ, .boolean)] A) (hret : E_Share_give p l e s m args below meth c Q A D cI cL cZ a_this a_points a_cuts a_queue o_owners o_takes o_bases o_ranked o_starts o_numbers o_walk i_order i_next v_cuts l1 res)  : I_Share_give_b0 p l e s m args below meth c Q A D cI cL cZ a_this a_points a_cuts a_queue o_owners o_takes o_bases o_ranked o_starts o_numbers o_walk i_order i_next v_cuts l1 res (f_Share_give N v_cuts l1 ) := by
  obtain ⟨hx, hb, hml, hown, hts, hK, hA⟩ := C
  intro v_points v_queue h H locs ls hl hP hD hS
  unfold f_Share_give at h
  refine lv_aload_n hx hb d_Share_give_0 rfl (lv_at hl 0 rfl) ?_
  obtain ⟨r_1, v_queue_2, hc_3, h⟩ := bd2_s h
  have hPc := hP.sub (ws' := [(a_this, .inr (6, [.ref a_points, .ref a_cuts, .ref a_queue, .ref o_owners, .ref o_takes, .ref o_bases, .ref o_ranked, .ref o_starts, .ref o_numbers, .ref o_walk, .int i_order, .int i_next])), (a_points, .inl (cI, 12, .inl v_points)), (a_cuts, .inl (cI, 12, .inl v_cuts)), (a_queue, .inl (cI, 12, .inl v_queue))]) [0, 1, 2, 3] rfl
  have hDc := hD.sub (ws' := [(a_this, .inr (6, [.ref a_points, .ref a_cuts, .ref a_queue, .ref o_owners, .ref o_takes, .ref o_bases, .ref o_ranked, .ref o_starts, .ref o_numbers, .ref o_walk, .int i_order, .int i_next])), (a_points, .inl (cI, 12, .inl v_points)), (a_cuts, .inl (cI, 12, .inl v_cuts)), (a_queue, .inl (cI, 12, .inl v_queue))]) [0, 1, 2, 3] (by decide) rfl
  have hFc := va_free (wc := [(a_this, .inr (6, [.ref a_points, .ref a_cuts, .ref a_queue, .ref o_owners, .ref o_takes, .ref o_bases, .ref o_ranked, .ref o_starts, .ref o_numbers, .ref o_walk, .int i_order, .int i_next])), (a_points, .inl (cI, 12, .inl v_points)), (a_cuts, .inl (cI, 12, .inl v_cuts)), (a_queue, .inl (cI, 12, .inl v_queue))]) hD hS hA [0, 1, 2, 3] rfl
  refine va_calli (va_runV (As := []) (rest := []) ⟨hx, hb, hml, hown, hts⟩ (c_Share_queueByCuts l D cI cL cZ H.size N a_this a_points a_cuts a_queue o_owners o_takes o_bases o_ranked o_starts o_numbers o_walk i_order i_next v_points v_cuts v_queue r_1 v_queue_2 hc_3) ⟨(my_cb 0 hts m_542 rfl rfl (hts _ m_72) (hts _ m_539) (by decide +kernel) ⟨Nat.le_of_ble_eq_true rfl, Nat.le_of_ble_eq_true rfl⟩), hts _ m_541, hts _ m_12⟩ ⟨fun a U g mk q => by obtain ⟨q0, q1, qP, qK, qD⟩ := q; exact ⟨q0, q1, qP, va_K.moved (u := U) (U := U.calling g mk a) (Vm.Alike.refl U.vm) qK, qD⟩, va_recv hK hPc (ci := 6) (q0 := 0) rfl rfl, fun U hU hW => ⟨rfl, by rw [hU], by rw [hU]; exact hPc, va_K.moved hW.alike hK, hDc.weaken (fun _ _ _ _ => trivial)⟩⟩ rfl rfl hl.1 rfl (lv_room (Nat.le_of_ble_eq_true rfl)) d_Share_give_1 ⟨Nat.zero_le _, Nat.zero_le _⟩) hS (fun q _ h => hFc q h) hFc (fun rr u t H1 locs ht hvm hw hB hz1 hk1 hS => ?_)
  obtain ⟨hP1, hK1, hD1⟩ := hB
  rw [ht] at hP1
  subst hw
  obtain ⟨hP, hD⟩ := va_join (wr := []) (w1 := [(a_this, .inr (6, [.ref a_points, .ref a_cuts, .ref a_queue, .ref o_owners, .ref o_takes, .ref o_bases, .ref o_ranked, .ref o_starts, .ref o_numbers, .ref o_walk, .int i_order, .int i_next])), (a_points, .inl (cI, 12, .inl v_points)), (a_cuts, .inl (cI, 12, .inl v_cuts)), (a_queue, .inl (cI, 12, .inl v_queue_2))]) hP hD [0, 1, 2, 3] [] rfl rfl (by decide) (by decide) hk1 hFc hP1 hD1
  clear hPc hDc hFc hk1 hP1 hD1 hK1
  generalize H1 = H at hP hS ⊢
  have hP : va_P D classes [(a_this, .inr (6, [.ref a_points, .ref a_cuts, .ref a_queue, .ref o_owners, .ref o_takes, .ref o_bases, .ref o_ranked, .ref o_starts, .ref o_numbers, .ref o_walk, .int i_order, .int i_next])), (a_points, .inl (cI, 12, .inl v_points)), (a_cuts, .inl (cI, 12, .inl v_cuts)), (a_queue, .inl (cI, 12, .inl v_queue_2))] H := hP.sub [0, 1, 2, 3] rfl
  have hD : va_D A [(a_this, .inr (6, [.ref a_points, .ref a_cuts, .ref a_queue, .ref o_owners, .ref o_takes, .ref o_bases, .ref o_ranked, .ref o_starts, .ref o_numbers, .ref o_walk, .int i_order, .int i_next])), (a_points, .inl (cI, 12, .inl v_points)), (a_cuts, .inl (cI, 12, .inl v_cuts)), (a_queue, .inl (cI, 12, .inl v_queue_2))] := hD.sub [0, 1, 2, 3] (by decide) rfl
  refine lv_istore_n (lv' := [(2, .int r_1), (0, .ref a_this), (1, .int l1)]) hx hb d_Share_give_4 rfl hl (by decide) rfl (fun ls hl => ?_)
  refine lv_iconst (v := 0) hx hb d_Share_give_5 (by decide) ?_
  refine lv_istore_n (lv' := [(3, .int 0), (2, .int r_1), (0, .ref a_this), (1, .int l1)]) hx hb d_Share_give_6 rfl hl (by decide) rfl (fun ls hl => ?_)
  exact w_Share_give_b7 ⟨hx, hb, hml, hown, hts, hK, hA⟩ hret  N _ _ _ _ h H locs ls (lv_sub hl [2, 3, 1, 0] rfl) hP hD hS
set_option maxHeartbeats 4000000 in
set_option maxRecDepth 100000 in
theorem c_Share_give (l : Launch) (D : va_G) (cI cL cZ : ClassId) (sz N : Nat) (a_this : Nat) (a_points : Nat) (a_cuts : Nat) (a_queue : Nat) (o_owners : Nat) (o_takes : Nat) (o_bases : Nat) (o_ranked : Nat) (o_starts : Nat) (o_numbers : Nat) (o_walk : Nat) (i_order : Int32) (i_next : Int32) (v_points : Nat → Int32) (v_cuts : Nat → Int32) (v_queue : Nat → Int32) (l1 : Int32) (v_points' : Nat → Int32) (v_queue' : Nat → Int32) (h : f_Share_give N v_cuts l1 v_points v_queue = some (v_points', v_queue')) : Met l ({ cls := "PrefixMill$Share", name := "give", desc := "(I)V" } : Jvm.MethodName) ws_Share_give R_Share_give (va_Pc [.ref a_this, .int l1] (fun U => U.heap.size = sz ∧ va_P D classes [(a_this, .inr (6, [.ref a_points, .ref a_cuts, .ref a_queue, .ref o_owners, .ref o_takes, .ref o_bases, .ref o_ranked, .ref o_starts, .ref o_numbers, .ref o_walk, .int i_order, .int i_next])), (a_points, .inl (cI, 12, .inl v_points)), (a_cuts, .inl (cI, 12, .inl v_cuts)), (a_queue, .inl (cI, 12, .inl v_queue))] U.heap ∧ va_K D classes [(cI, .int), (cL, .long), (cZ, .boolean)] U ∧ va_D (fun _ => True) [(a_this, .inr (6, [.ref a_points, .ref a_cuts, .ref a_queue, .ref o_owners, .ref o_takes, .ref o_bases, .ref o_ranked, .ref o_starts, .ref o_numbers, .ref o_walk, .int i_order, .int i_next])), (a_points, .inl (cI, 12, .inl v_points)), (a_cuts, .inl (cI, 12, .inl v_cuts)), (a_queue, .inl (cI, 12, .inl v_queue))])) (va_Qv (fun _ : Unit => True) (fun _ t => va_P D classes [(a_this, .inr (6, [.ref a_points, .ref a_cuts, .ref a_queue, .ref o_owners, .ref o_takes, .ref o_bases, .ref o_ranked, .ref o_starts, .ref o_numbers, .ref o_walk, .int i_order, .int i_next])), (a_points, .inl (cI, 12, .inl v_points')), (a_cuts, .inl (cI, 12, .inl v_cuts)), (a_queue, .inl (cI, 12, .inl v_queue'))] t.heap ∧ va_K D classes [(cI, .int), (cL, .long), (cZ, .boolean)] t ∧ va_D (va_A [(a_this, .inr (6, [.ref a_points, .ref a_cuts, .ref a_queue, .ref o_owners, .ref o_takes, .ref o_bases, .ref o_ranked, .ref o_starts, .ref o_numbers, .ref o_walk, .int i_order, .int i_next])), (a_points, .inl (cI, 12, .inl v_points)), (a_cuts, .inl (cI, 12, .inl v_cuts)), (a_queue, .inl (cI, 12, .inl v_queue))] sz) [(a_this, .inr (6, [.ref a_points, .ref a_cuts, .ref a_queue, .ref o_owners, .ref o_takes, .ref o_bases, .ref o_ranked, .ref o_starts, .ref o_numbers, .ref o_walk, .int i_order, .int i_next])), (a_points, .inl (cI, 12, .inl v_points')), (a_cuts, .inl (cI, 12, .inl v_cuts)), (a_queue, .inl (cI, 12, .inl v_queue'))]) (va_A [(a_this, .inr (6, [.ref a_points, .ref a_cuts, .ref a_queue, .ref o_owners, .ref o_takes, .ref o_bases, .ref o_ranked, .ref o_starts, .ref o_numbers, .ref o_walk, .int i_order, .int i_next])), (a_points, .inl (cI, 12, .inl v_points)), (a_cuts, .inl (cI, 12, .inl v_cuts)), (a_queue, .inl (cI, 12, .inl v_queue))] sz)) 0 0 (va_A [(a_this, .inr (6, [.ref a_points, .ref a_cuts, .ref a_queue, .ref o_owners, .ref o_takes, .ref o_bases, .ref o_ranked, .ref o_starts, .ref o_numbers, .ref o_walk, .int i_order, .int i_next])), (a_points, .inl (cI, 12, .inl v_points)), (a_cuts, .inl (cI, 12, .inl v_cuts)), (a_queue, .inl (cI, 12, .inl v_queue))] sz) := by
  refine Met.ofW (cc := b_Share_give) (maxL := 4) (ret := none) (by decide) rfl ?_
  intro p e s m args below meth c s₁ B hml hv
  obtain ⟨rfl, hsz, hP, hK, hD0⟩ := hv
  have hx := B.exec
  have hb := B.bytes
  have hr := B.returns
  have hts0 := atoms_spec (ws := ws_Share_give) B.pre
  have hts := gd_tl hts0
  clear hts0
  have hown : s.vm.findClass "PrefixMill$Share" = some m.cls := findClass_of_methodNamed B.named
  have hlocks := B.notSynchronized
  subst hsz
  have hD := hD0.self (sz := s.heap.size)
  generalize hAe : va_A [(a_this, .inr (6, [.ref a_points, .ref a_cuts, .ref a_queue, .ref o_owners, .ref o_takes, .ref o_bases, .ref o_ranked, .ref o_starts, .ref o_numbers, .ref o_walk, .int i_order, .int i_next])), (a_points, .inl (cI, 12, .inl v_points)), (a_cuts, .inl (cI, 12, .inl v_cuts)), (a_queue, .inl (cI, 12, .inl v_queue))] s.heap.size = A at hD ⊢
  have hA : ∀ q : Nat, s.heap.size ≤ q → A q := fun q h => by rw [← hAe]; exact Or.inr h
  have hS : va_S A s.heap s.heap [] := va_S.rf
  have hP : va_P D classes [(a_this, .inr (6, [.ref a_points, .ref a_cuts, .ref a_queue, .ref o_owners, .ref o_takes, .ref o_bases, .ref o_ranked, .ref o_starts, .ref o_numbers, .ref o_walk, .int i_order, .int i_next])), (a_points, .inl (cI, 12, .inl v_points)), (a_cuts, .inl (cI, 12, .inl v_cuts)), (a_queue, .inl (cI, 12, .inl v_queue))] s.heap := hP
  have hl := lv_entry ([.ref a_this, .int l1]) (n := 4) (Nat.le_of_ble_eq_true rfl)
  rw [lg_entry_eq]
  generalize (lg_sl ([.ref a_this, .int l1]) ++ List.replicate (4 - (lg_sl ([.ref a_this, .int l1])).length) Slot.unset).toArray = ls at hl ⊢
  have hl : lv_has ls 4 [(0, .ref a_this), (1, .int l1)] := hl
  have C : Cx p s m ([.ref a_this, .int l1] : List Value).toArray c b_Share_give 4 "PrefixMill$Share" D [(cI, .int), (cL, .long), (cZ, .boolean)] A := ⟨hx, hb, hml, hown, hts, hK, hA⟩
  refine w_Share_give_b0 (res := (v_points', v_queue')) C ?_ _ _ h s.heap [] ls hl hP hD hS
  intro pc9 H9 locs9 ls9 v_points9 v_queue9 e9 d9 hP9 hD9 hS9
  cases e9
  exact W.vret hx hb hr (fun t ht hW => ⟨⟨(), rfl, trivial, by rw [ht]; exact hP9, va_K.moved hW.alike hK, hD9⟩, hS9.F ht⟩) hS9.2.2 d9
abbrev b_Share_takeAway : ByteArray := prog_6_method_7_code
def ws_Share_takeAway : List Cond := .code ({ cls := "PrefixMill$Share", name := "takeAway", desc := "(I)V" } : Jvm.MethodName) b_Share_takeAway 5 none :: tt
theorem d_Share_takeAway_0 : decode b_Share_takeAway 0 = .ok (.iconst 0, 1) := by decide +kernel
theorem d_Share_takeAway_1 : decode b_Share_takeAway 1 = .ok (.istore_n 2, 1) := by decide +kernel
theorem d_Share_takeAway_2 : decode b_Share_takeAway 2 = .ok (.iload_n 2, 1) := by decide +kernel
theorem d_Share_takeAway_3 : decode b_Share_takeAway 3 = .ok (.iload_n 1, 1) := by decide +kernel
theorem d_Share_takeAway_4 : decode b_Share_takeAway 4 = .ok (.if_icmp .ge 56, 3) := by decide +kernel
theorem d_Share_takeAway_7 : decode b_Share_takeAway 7 = .ok (.iconst 0, 1) := by decide +kernel
theorem d_Share_takeAway_8 : decode b_Share_takeAway 8 = .ok (.istore_n 3, 1) := by decide +kernel
theorem d_Share_takeAway_9 : decode b_Share_takeAway 9 = .ok (.iconst 1, 1) := by decide +kernel
theorem d_Share_takeAway_10 : decode b_Share_takeAway 10 = .ok (.istore 4, 2) := by decide +kernel
theorem d_Share_takeAway_12 : decode b_Share_takeAway 12 = .ok (.iload 4, 2) := by decide +kernel
theorem d_Share_takeAway_14 : decode b_Share_takeAway 14 = .ok (.bipush 12, 2) := by decide +kernel
theorem d_Share_takeAway_16 : decode b_Share_takeAway 16 = .ok (.if_icmp .ge 28, 3) := by decide +kernel
theorem d_Share_takeAway_19 : decode b_Share_takeAway 19 = .ok (.aload_n 0, 1) := by decide +kernel
theorem d_Share_takeAway_20 : decode b_Share_takeAway 20 = .ok (.getfield 9, 3) := by decide +kernel
theorem d_Share_takeAway_23 : decode b_Share_takeAway 23 = .ok (.iload 4, 2) := by decide +kernel
theorem d_Share_takeAway_25 : decode b_Share_takeAway 25 = .ok (.iaload, 1) := by decide +kernel
theorem d_Share_takeAway_26 : decode b_Share_takeAway 26 = .ok (.aload_n 0, 1) := by decide +kernel
theorem d_Share_takeAway_27 : decode b_Share_takeAway 27 = .ok (.getfield 9, 3) := by decide +kernel
theorem d_Share_takeAway_30 : decode b_Share_takeAway 30 = .ok (.iload_n 3, 1) := by decide +kernel
theorem d_Share_takeAway_31 : decode b_Share_takeAway 31 = .ok (.iaload, 1) := by decide +kernel
theorem d_Share_takeAway_32 : decode b_Share_takeAway 32 = .ok (.if_icmp .le 6, 3) := by decide +kernel
theorem d_Share_takeAway_35 : decode b_Share_takeAway 35 = .ok (.iload 4, 2) := by decide +kernel
theorem d_Share_takeAway_37 : decode b_Share_takeAway 37 = .ok (.istore_n 3, 1) := by decide +kernel
theorem d_Share_takeAway_38 : decode b_Share_takeAway 38 = .ok (.iinc 4 1, 3) := by decide +kernel
theorem d_Share_takeAway_41 : decode b_Share_takeAway 41 = .ok (.goto (-29), 3) := by decide +kernel
theorem d_Share_takeAway_44 : decode b_Share_takeAway 44 = .ok (.aload_n 0, 1) := by decide +kernel
theorem d_Share_takeAway_45 : decode b_Share_takeAway 45 = .ok (.getfield 9, 3) := by decide +kernel
theorem d_Share_takeAway_48 : decode b_Share_takeAway 48 = .ok (.iload_n 3, 1) := by decide +kernel
theorem d_Share_takeAway_49 : decode b_Share_takeAway 49 = .ok (.dup2, 1) := by decide +kernel
theorem d_Share_takeAway_50 : decode b_Share_takeAway 50 = .ok (.iaload, 1) := by decide +kernel
theorem d_Share_takeAway_51 : decode b_Share_takeAway 51 = .ok (.iconst 1, 1) := by decide +kernel
theorem d_Share_takeAway_52 : decode b_Share_takeAway 52 = .ok (.isub, 1) := by decide +kernel
theorem d_Share_takeAway_53 : decode b_Share_takeAway 53 = .ok (.iastore, 1) := by decide +kernel
theorem d_Share_takeAway_54 : decode b_Share_takeAway 54 = .ok (.iinc 2 1, 3) := by decide +kernel
theorem d_Share_takeAway_57 : decode b_Share_takeAway 57 = .ok (.goto (-55), 3) := by decide +kernel
theorem d_Share_takeAway_60 : decode b_Share_takeAway 60 = .ok (.return_, 1) := by decide +kernel
abbrev R_Share_takeAway : Room := ({ frames := 0, cells := 0, slots := 0, locals := 0 } : Room)
def E_Share_takeAway (p : Program) (l : Launch) (e : Env) (s : State) (m : MethodId) (args : Array Value) (below : List Frame) (meth : Method) (c : Code) (Q : State → Prop) (A : Nat → Prop) (D : va_G) (cI cL cZ : ClassId) (a_this : Nat) (a_points : Nat) (o_cuts : Nat) (o_queue : Nat) (o_owners : Nat) (o_takes : Nat) (o_bases : Nat) (o_ranked : Nat) (o_starts : Nat) (o_numbers : Nat) (o_walk : Nat) (i_order : Int32) (i_next : Int32) (l1 : Int32) (res : (Nat → Int32)) : Prop := ∀ (pc : Nat) (H : Heap) (locs : List Loc) (ls : Array Slot) (v_points : Nat → Int32), some (v_points) = some res → decode b_Share_takeAway pc = .ok (.return_, 1) → va_P D classes [(a_this, .inr (6, [.ref a_points, .ref o_cuts, .ref o_queue, .ref o_owners, .ref o_takes, .ref o_bases, .ref o_ranked, .ref o_starts, .ref o_numbers, .ref o_walk, .int i_order, .int i_next])), (a_points, .inl (cI, 12, .inl v_points))] H → va_D A [(a_this, .inr (6, [.ref a_points, .ref o_cuts, .ref o_queue, .ref o_owners, .ref o_takes, .ref o_bases, .ref o_ranked, .ref o_starts, .ref o_numbers, .ref o_walk, .int i_order, .int i_next])), (a_points, .inl (cI, 12, .inl v_points))] → va_S A s.heap H locs → W p l e R_Share_takeAway s m args below meth c H locs 0 0 Q (F0 m pc ls [])
def I_Share_takeAway_b38 (p : Program) (l : Launch) (e : Env) (s : State) (m : MethodId) (args : Array Value) (below : List Frame) (meth : Method) (c : Code) (Q : State → Prop) (A : Nat → Prop) (D : va_G) (cI cL cZ : ClassId) (a_this : Nat) (a_points : Nat) (o_cuts : Nat) (o_queue : Nat) (o_owners : Nat) (o_takes : Nat) (o_bases : Nat) (o_ranked : Nat) (o_starts : Nat) (o_numbers : Nat) (o_walk : Nat) (i_order : Int32) (i_next : Int32) (l1 : Int32) (res : (Nat → Int32)) (kf : Int32 → Int32 → Int32 → (Nat → Int32) → Option ((Nat → Int32))) : Prop := ∀ (l2 : Int32) (l3 : Int32) (l4 : Int32) (v_points : Nat → Int32), kf l2 l3 l4 v_points = some res → ∀ (H : Heap) (locs : List Loc) (ls : Array Slot), lv_has ls 5 [(0, .ref a_this), (1, .int l1), (2, .int l2), (3, .int l3), (4, .int l4)] → va_P D classes [(a_this, .inr (6, [.ref a_points, .ref o_cuts, .ref o_queue, .ref o_owners, .ref o_takes, .ref o_bases, .ref o_ranked, .ref o_starts, .ref o_numbers, .ref o_walk, .int i_order, .int i_next])), (a_points, .inl (cI, 12, .inl v_points))] H → va_D A [(a_this, .inr (6, [.ref a_points, .ref o_cuts, .ref o_queue, .ref o_owners, .ref o_takes, .ref o_bases, .ref o_ranked, .ref o_starts, .ref o_numbers, .ref o_walk, .int i_order, .int i_next])), (a_points, .inl (cI, 12, .inl v_points))] → va_S A s.heap H locs → W p l e R_Share_takeAway s m args below meth c H locs 0 0 Q (F0 m 38 ls [])
def I_Share_takeAway_b44 (p : Program) (l : Launch) (e : Env) (s : State) (m : MethodId) (args : Array Value) (below : List Frame) (meth : Method) (c : Code) (Q : State → Prop) (A : Nat → Prop) (D : va_G) (cI cL cZ : ClassId) (a_this : Nat) (a_points : Nat) (o_cuts : Nat) (o_queue : Nat) (o_owners : Nat) (o_takes : Nat) (o_bases : Nat) (o_ranked : Nat) (o_starts : Nat) (o_numbers : Nat) (o_walk : Nat) (i_order : Int32) (i_next : Int32) (l1 : Int32) (res : (Nat → Int32)) (kf : Int32 → Int32 → (Nat → Int32) → Option ((Nat → Int32))) : Prop := ∀ (l2 : Int32) (l3 : Int32) (v_points : Nat → Int32), kf l2 l3 v_points = some res → ∀ (H : Heap) (locs : List Loc) (ls : Array Slot), lv_has ls 5 [(0, .ref a_this), (1, .int l1), (2, .int l2), (3, .int l3)] → va_P D classes [(a_this, .inr (6, [.ref a_points, .ref o_cuts, .ref o_queue, .ref o_owners, .ref o_takes, .ref o_bases, .ref o_ranked, .ref o_starts, .ref o_numbers, .ref o_walk, .int i_order, .int i_next])), (a_points, .inl (cI, 12, .inl v_points))] H → va_D A [(a_this, .inr (6, [.ref a_points, .ref o_cuts, .ref o_queue, .ref o_owners, .ref o_takes, .ref o_bases, .ref o_ranked, .ref o_starts, .ref o_numbers, .ref o_walk, .int i_order, .int i_next])), (a_points, .inl (cI, 12, .inl v_points))] → va_S A s.heap H locs → W p l e R_Share_takeAway s m args below meth c H locs 0 0 Q (F0 m 44 ls [])
def I_Share_takeAway_b12 (p : Program) (l : Launch) (e : Env) (s : State) (m : MethodId) (args : Array Value) (below : List Frame) (meth : Method) (c : Code) (Q : State → Prop) (A : Nat → Prop) (D : va_G) (cI cL cZ : ClassId) (a_this : Nat) (a_points : Nat) (o_cuts : Nat) (o_queue : Nat) (o_owners : Nat) (o_takes : Nat) (o_bases : Nat) (o_ranked : Nat) (o_starts : Nat) (o_numbers : Nat) (o_walk : Nat) (i_order : Int32) (i_next : Int32) (l1 : Int32) (res : (Nat → Int32)) (kf : Int32 → Int32 → Int32 → (Nat → Int32) → Option ((Nat → Int32))) : Prop := ∀ (l2 : Int32) (l3 : Int32) (l4 : Int32) (v_points : Nat → Int32), kf l2 l3 l4 v_points = some res → ∀ (H : Heap) (locs : List Loc) (ls : Array Slot), lv_has ls 5 [(0, .ref a_this), (1, .int l1), (2, .int l2), (3, .int l3), (4, .int l4)] → va_P D classes [(a_this, .inr (6, [.ref a_points, .ref o_cuts, .ref o_queue, .ref o_owners, .ref o_takes, .ref o_bases, .ref o_ranked, .ref o_starts, .ref o_numbers, .ref o_walk, .int i_order, .int i_next])), (a_points, .inl (cI, 12, .inl v_points))] H → va_D A [(a_this, .inr (6, [.ref a_points, .ref o_cuts, .ref o_queue, .ref o_owners, .ref o_takes, .ref o_bases, .ref o_ranked, .ref o_starts, .ref o_numbers, .ref o_walk, .int i_order, .int i_next])), (a_points, .inl (cI, 12, .inl v_points))] → va_S A s.heap H locs → W p l e R_Share_takeAway s m args below meth c H locs 0 0 Q (F0 m 12 ls [])
def I_Share_takeAway_b2 (p : Program) (l : Launch) (e : Env) (s : State) (m : MethodId) (args : Array Value) (below : List Frame) (meth : Method) (c : Code) (Q : State → Prop) (A : Nat → Prop) (D : va_G) (cI cL cZ : ClassId) (a_this : Nat) (a_points : Nat) (o_cuts : Nat) (o_queue : Nat) (o_owners : Nat) (o_takes : Nat) (o_bases : Nat) (o_ranked : Nat) (o_starts : Nat) (o_numbers : Nat) (o_walk : Nat) (i_order : Int32) (i_next : Int32) (l1 : Int32) (res : (Nat → Int32)) (kf : Int32 → (Nat → Int32) → Option ((Nat → Int32))) : Prop := ∀ (l2 : Int32) (v_points : Nat → Int32), kf l2 v_points = some res → ∀ (H : Heap) (locs : List Loc) (ls : Array Slot), lv_has ls 5 [(0, .ref a_this), (1, .int l1), (2, .int l2)] → va_P D classes [(a_this, .inr (6, [.ref a_points, .ref o_cuts, .ref o_queue, .ref o_owners, .ref o_takes, .ref o_bases, .ref o_ranked, .ref o_starts, .ref o_numbers, .ref o_walk, .int i_order, .int i_next])), (a_points, .inl (cI, 12, .inl v_points))] H → va_D A [(a_this, .inr (6, [.ref a_points, .ref o_cuts, .ref o_queue, .ref o_owners, .ref o_takes, .ref o_bases, .ref o_ranked, .ref o_starts, .ref o_numbers, .ref o_walk, .int i_order, .int i_next])), (a_points, .inl (cI, 12, .inl v_points))] → va_S A s.heap H locs → W p l e R_Share_takeAway s m args below meth c H locs 0 0 Q (F0 m 2 ls [])
def I_Share_takeAway_b0 (p : Program) (l : Launch) (e : Env) (s : State) (m : MethodId) (args : Array Value) (below : List Frame) (meth : Method) (c : Code) (Q : State → Prop) (A : Nat → Prop) (D : va_G) (cI cL cZ : ClassId) (a_this : Nat) (a_points : Nat) (o_cuts : Nat) (o_queue : Nat) (o_owners : Nat) (o_takes : Nat) (o_bases : Nat) (o_ranked : Nat) (o_starts : Nat) (o_numbers : Nat) (o_walk : Nat) (i_order : Int32) (i_next : Int32) (l1 : Int32) (res : (Nat → Int32)) (kf : (Nat → Int32) → Option ((Nat → Int32))) : Prop := ∀ (v_points : Nat → Int32), kf v_points = some res → ∀ (H : Heap) (locs : List Loc) (ls : Array Slot), lv_has ls 5 [(0, .ref a_this), (1, .int l1)] → va_P D classes [(a_this, .inr (6, [.ref a_points, .ref o_cuts, .ref o_queue, .ref o_owners, .ref o_takes, .ref o_bases, .ref o_ranked, .ref o_starts, .ref o_numbers, .ref o_walk, .int i_order, .int i_next])), (a_points, .inl (cI, 12, .inl v_points))] H → va_D A [(a_this, .inr (6, [.ref a_points, .ref o_cuts, .ref o_queue, .ref o_owners, .ref o_takes, .ref o_bases, .ref o_ranked, .ref o_starts, .ref o_numbers, .ref o_walk, .int i_order, .int i_next])), (a_points, .inl (cI, 12, .inl v_points))] → va_S A s.heap H locs → W p l e R_Share_takeAway s m args below meth c H locs 0 0 Q (F0 m 0 ls [])
set_option maxHeartbeats 4000000 in
set_option maxRecDepth 100000 in
theorem w_Share_takeAway_b38 {p : Program} {l : Launch} {e : Env} {s : State} {m : MethodId} {args : Array Value} {below : List Frame} {meth : Method} {c : Code} {Q : State → Prop} {A : Nat → Prop} {D : va_G} {cI cL cZ : ClassId} {a_this : Nat} {a_points : Nat} {o_cuts : Nat} {o_queue : Nat} {o_owners : Nat} {o_takes : Nat} {o_bases : Nat} {o_ranked : Nat} {o_starts : Nat} {o_numbers : Nat} {o_walk : Nat} {i_order : Int32} {i_next : Int32} {l1 : Int32} {N : Nat} {res : (Nat → Int32)} {k2 : Int32 → (Nat → Int32) → Option ((Nat → Int32))} {k12 : Int32 → Int32 → Int32 → (Nat → Int32) → Option ((Nat → Int32))} (C : Cx p s m args c b_Share_takeAway 5 "PrefixMill$Share" D [(cI, .int), (cL, .long), (cZ, .boolean)] A) (hret : E_Share_takeAway p l e s m args below meth c Q A D cI cL cZ a_this a_points o_cuts o_queue o_owners o_takes o_bases o_ranked o_starts o_numbers o_walk i_order i_next l1 res) (hk2 : I_Share_takeAway_b2 p l e s m args below meth c Q A D cI cL cZ a_this a_points o_cuts o_queue o_owners o_takes o_bases o_ranked o_starts o_numbers o_walk i_order i_next l1 res k2) (hk12 : I_Share_takeAway_b12 p l e s m args below meth c Q A D cI cL cZ a_this a_points o_cuts o_queue o_owners o_takes o_bases o_ranked o_starts o_numbers o_walk i_order i_next l1 res k12) : I_Share_takeAway_b38 p l e s m args below meth c Q A D cI cL cZ a_this a_points o_cuts o_queue o_owners o_takes o_bases o_ranked o_starts o_numbers o_walk i_order i_next l1 res (f_Share_takeAway_b38 N l1 k2 k12) := by
  obtain ⟨hx, hb, hml, hown, hts, hK, hA⟩ := C
  intro l2 l3 l4 v_points h H locs ls hl hP hD hS
  unfold f_Share_takeAway_b38 at h
  obtain ⟨l4_1, el4_1⟩ : ∃ y : Int32, y = l4 + 1 := ⟨_, rfl⟩
  replace h := nm_s h el4_1
  refine lv_iinc (v := l4_1) (lv' := [(4, .int l4_1), (0, .ref a_this), (1, .int l1), (2, .int l2), (3, .int l3)]) hx hb d_Share_takeAway_38 hl (k := 4) rfl (by rw [el4_1]; rfl) (by decide) rfl (fun ls hl => ?_)
  refine lv_goto (tgt := 12) hx hb d_Share_takeAway_41 (by decide) ?_
  exact hk12 _ _ _ _ h H locs ls (lv_sub hl [1, 2, 3, 4, 0] rfl) hP hD hS
set_option maxHeartbeats 4000000 in
set_option maxRecDepth 100000 in
theorem w_Share_takeAway_b44 {p : Program} {l : Launch} {e : Env} {s : State} {m : MethodId} {args : Array Value} {below : List Frame} {meth : Method} {c : Code} {Q : State → Prop} {A : Nat → Prop} {D : va_G} {cI cL cZ : ClassId} {a_this : Nat} {a_points : Nat} {o_cuts : Nat} {o_queue : Nat} {o_owners : Nat} {o_takes : Nat} {o_bases : Nat} {o_ranked : Nat} {o_starts : Nat} {o_numbers : Nat} {o_walk : Nat} {i_order : Int32} {i_next : Int32} {l1 : Int32} {N : Nat} {res : (Nat → Int32)} {k2 : Int32 → (Nat → Int32) → Option ((Nat → Int32))} (C : Cx p s m args c b_Share_takeAway 5 "PrefixMill$Share" D [(cI, .int), (cL, .long), (cZ, .boolean)] A) (hret : E_Share_takeAway p l e s m args below meth c Q A D cI cL cZ a_this a_points o_cuts o_queue o_owners o_takes o_bases o_ranked o_starts o_numbers o_walk i_order i_next l1 res) (hk2 : I_Share_takeAway_b2 p l e s m args below meth c Q A D cI cL cZ a_this a_points o_cuts o_queue o_owners o_takes o_bases o_ranked o_starts o_numbers o_walk i_order i_next l1 res k2) : I_Share_takeAway_b44 p l e s m args below meth c Q A D cI cL cZ a_this a_points o_cuts o_queue o_owners o_takes o_bases o_ranked o_starts o_numbers o_walk i_order i_next l1 res (f_Share_takeAway_b44 N l1 k2) := by
  obtain ⟨hx, hb, hml, hown, hts, hK, hA⟩ := C
  intro l2 l3 v_points h H locs ls hl hP hD hS
  unfold f_Share_takeAway_b44 at h
  refine lv_aload_n hx hb d_Share_takeAway_44 rfl (lv_at hl 0 rfl) ?_
  refine va_get hx hb hts in_Share hown hK hP 0 rfl rfl 0 (by decide) (hts _ m_211) (fun _ h9 => h9) rfl d_Share_takeAway_45 ?_
  refine lv_iload_n hx hb d_Share_takeAway_48 rfl (lv_at hl 3 rfl) ?_
  refine lv_dup2_11 hx hb d_Share_takeAway_49 rfl rfl ?_
  obtain ⟨g_1, h⟩ := ck_s h
  refine va_iald hx hb hK hP 1 0 rfl rfl (inb_s g_1) d_Share_takeAway_50 ?_
  refine lv_iconst (v := 1) hx hb d_Share_takeAway_51 (by decide) ?_
  refine lv_isub hx hb d_Share_takeAway_52 ?_
  obtain ⟨g_2, h⟩ := ck_s h
  refine va_iast hx hb hK hP hD hS 1 0 rfl rfl (inb_s g_2) d_Share_takeAway_53 (fun H locs hP hD hS => ?_)
  obtain ⟨v_points_3, ev_points_3⟩ : ∃ y, y = (upd v_points (Int32.toNatClampNeg l3) ((v_points (Int32.toNatClampNeg l3)) - 1)) := ⟨_, rfl⟩
  replace h := nm_s h ev_points_3
  have hP : va_P D classes [(a_this, .inr (6, [.ref a_points, .ref o_cuts, .ref o_queue, .ref o_owners, .ref o_takes, .ref o_bases, .ref o_ranked, .ref o_starts, .ref o_numbers, .ref o_walk, .int i_order, .int i_next])), (a_points, .inl (cI, 12, .inl v_points_3))] H := by rw [ev_points_3]; exact hP
  have hD : va_D A [(a_this, .inr (6, [.ref a_points, .ref o_cuts, .ref o_queue, .ref o_owners, .ref o_takes, .ref o_bases, .ref o_ranked, .ref o_starts, .ref o_numbers, .ref o_walk, .int i_order, .int i_next])), (a_points, .inl (cI, 12, .inl v_points_3))] := by rw [ev_points_3]; exact hD
  obtain ⟨l2_4, el2_4⟩ : ∃ y : Int32, y = l2 + 1 := ⟨_, rfl⟩
  replace h := nm_s h el2_4
  refine lv_iinc (v := l2_4) (lv' := [(2, .int l2_4), (0, .ref a_this), (1, .int l1), (3, .int l3)]) hx hb d_Share_takeAway_54 hl (k := 2) rfl (by rw [el2_4]; rfl) (by decide) rfl (fun ls hl => ?_)
  refine lv_goto (tgt := 2) hx hb d_Share_takeAway_57 (by decide) ?_
  exact hk2 _ _ h H locs ls (lv_sub hl [1, 2, 0] rfl) hP hD hS
set_option maxHeartbeats 4000000 in
set_option maxRecDepth 100000 in
theorem w_Share_takeAway_b12 {p : Program} {l : Launch} {e : Env} {s : State} {m : MethodId} {args : Array Value} {below : List Frame} {meth : Method} {c : Code} {Q : State → Prop} {A : Nat → Prop} {D : va_G} {cI cL cZ : ClassId} {a_this : Nat} {a_points : Nat} {o_cuts : Nat} {o_queue : Nat} {o_owners : Nat} {o_takes : Nat} {o_bases : Nat} {o_ranked : Nat} {o_starts : Nat} {o_numbers : Nat} {o_walk : Nat} {i_order : Int32} {i_next : Int32} {l1 : Int32} {N : Nat} {res : (Nat → Int32)} {k2 : Int32 → (Nat → Int32) → Option ((Nat → Int32))} (C : Cx p s m args c b_Share_takeAway 5 "PrefixMill$Share" D [(cI, .int), (cL, .long), (cZ, .boolean)] A) (hret : E_Share_takeAway p l e s m args below meth c Q A D cI cL cZ a_this a_points o_cuts o_queue o_owners o_takes o_bases o_ranked o_starts o_numbers o_walk i_order i_next l1 res) (hk2 : I_Share_takeAway_b2 p l e s m args below meth c Q A D cI cL cZ a_this a_points o_cuts o_queue o_owners o_takes o_bases o_ranked o_starts o_numbers o_walk i_order i_next l1 res k2) : ∀ z : Nat, I_Share_takeAway_b12 p l e s m args below meth c Q A D cI cL cZ a_this a_points o_cuts o_queue o_owners o_takes o_bases o_ranked o_starts o_numbers o_walk i_order i_next l1 res (f_Share_takeAway_b12 N l1 k2 z) := by
  obtain ⟨hx, hb, hml, hown, hts, hK, hA⟩ := C
  intro z
  induction z with
  | zero => intro l2 l3 l4 v_points h; cases h
  | succ z ih =>
    intro l2 l3 l4 v_points h H locs ls hl hP hD hS
    refine lv_iload hx hb d_Share_takeAway_12 (lv_at hl 4 rfl) ?_
    refine lv_bipush (v := 12) hx hb d_Share_takeAway_14 (by decide) ?_
    refine lv_icmp_ge (tgt := 44) hx hb d_Share_takeAway_16 (by decide) (fun c_1 => ?_) (fun c_1 => ?_)
    · replace h := if_t h c_1
      exact w_Share_takeAway_b44 ⟨hx, hb, hml, hown, hts, hK, hA⟩ hret hk2 _ _ _ h H locs ls (lv_sub hl [0, 1, 2, 3] rfl) hP hD hS
    · replace h := if_f h c_1
      refine lv_aload_n hx hb d_Share_takeAway_19 rfl (lv_at hl 0 rfl) ?_
      refine va_get hx hb hts in_Share hown hK hP 0 rfl rfl 0 (by decide) (hts _ m_211) (fun _ h9 => h9) rfl d_Share_takeAway_20 ?_
      refine lv_iload hx hb d_Share_takeAway_23 (lv_at hl 4 rfl) ?_
      obtain ⟨g_2, h⟩ := ck_s h
      refine va_iald hx hb hK hP 1 0 rfl rfl (inb_s g_2) d_Share_takeAway_25 ?_
      refine lv_aload_n hx hb d_Share_takeAway_26 rfl (lv_at hl 0 rfl) ?_
      refine va_get hx hb hts in_Share hown hK hP 0 rfl rfl 0 (by decide) (hts _ m_211) (fun _ h9 => h9) rfl d_Share_takeAway_27 ?_
      refine lv_iload_n hx hb d_Share_takeAway_30 rfl (lv_at hl 3 rfl) ?_
      obtain ⟨g_3, h⟩ := ck_s h
      refine va_iald hx hb hK hP 1 0 rfl rfl (inb_s g_3) d_Share_takeAway_31 ?_
      refine lv_icmp_le (tgt := 38) hx hb d_Share_takeAway_32 (by decide) (fun c_4 => ?_) (fun c_4 => ?_)
      · replace h := if_t h c_4
        exact w_Share_takeAway_b38 ⟨hx, hb, hml, hown, hts, hK, hA⟩ hret hk2 ih _ _ _ _ h H locs ls (lv_sub hl [0, 1, 2, 3, 4] rfl) hP hD hS
      · replace h := if_f h c_4
        refine lv_iload hx hb d_Share_takeAway_35 (lv_at hl 4 rfl) ?_
        refine lv_istore_n (lv' := [(3, .int l4), (0, .ref a_this), (1, .int l1), (2, .int l2), (4, .int l4)]) hx hb d_Share_takeAway_37 rfl hl (by decide) rfl (fun ls hl => ?_)
        exact w_Share_takeAway_b38 ⟨hx, hb, hml, hown, hts, hK, hA⟩ hret hk2 ih _ _ _ _ h H locs ls (lv_sub hl [1, 2, 3, 0, 4] rfl) hP hD hS
set_option maxHeartbeats 4000000 in
set_option maxRecDepth 100000 in
theorem w_Share_takeAway_b2 {p : Program} {l : Launch} {e : Env} {s : State} {m : MethodId} {args : Array Value} {below : List Frame} {meth : Method} {c : Code} {Q : State → Prop} {A : Nat → Prop} {D : va_G} {cI cL cZ : ClassId} {a_this : Nat} {a_points : Nat} {o_cuts : Nat} {o_queue : Nat} {o_owners : Nat} {o_takes : Nat} {o_bases : Nat} {o_ranked : Nat} {o_starts : Nat} {o_numbers : Nat} {o_walk : Nat} {i_order : Int32} {i_next : Int32} {l1 : Int32} {N : Nat} {res : (Nat → Int32)}  (C : Cx p s m args c b_Share_takeAway 5 "PrefixMill$Share" D [(cI, .int), (cL, .long), (cZ, .boolean)] A) (hret : E_Share_takeAway p l e s m args below meth c Q A D cI cL cZ a_this a_points o_cuts o_queue o_owners o_takes o_bases o_ranked o_starts o_numbers o_walk i_order i_next l1 res)  : ∀ z : Nat, I_Share_takeAway_b2 p l e s m args below meth c Q A D cI cL cZ a_this a_points o_cuts o_queue o_owners o_takes o_bases o_ranked o_starts o_numbers o_walk i_order i_next l1 res (f_Share_takeAway_b2 N l1  z) := by
  obtain ⟨hx, hb, hml, hown, hts, hK, hA⟩ := C
  intro z
  induction z with
  | zero => intro l2 v_points h; cases h
  | succ z ih =>
    intro l2 v_points h H locs ls hl hP hD hS
    refine lv_iload_n hx hb d_Share_takeAway_2 rfl (lv_at hl 2 rfl) ?_
    refine lv_iload_n hx hb d_Share_takeAway_3 rfl (lv_at hl 1 rfl) ?_
    refine lv_icmp_ge (tgt := 60) hx hb d_Share_takeAway_4 (by decide) (fun c_1 => ?_) (fun c_1 => ?_)
    · replace h := if_t h c_1
      exact hret _ _ _ _ v_points h d_Share_takeAway_60 hP hD hS
    · replace h := if_f h c_1
      refine lv_iconst (v := 0) hx hb d_Share_takeAway_7 (by decide) ?_
      refine lv_istore_n (lv' := [(3, .int 0), (0, .ref a_this), (1, .int l1), (2, .int l2)]) hx hb d_Share_takeAway_8 rfl hl (by decide) rfl (fun ls hl => ?_)
      refine lv_iconst (v := 1) hx hb d_Share_takeAway_9 (by decide) ?_
      refine lv_istore (lv' := [(4, .int 1), (3, .int 0), (0, .ref a_this), (1, .int l1), (2, .int l2)]) hx hb d_Share_takeAway_10 hl (by decide) rfl (fun ls hl => ?_)
      exact w_Share_takeAway_b12 ⟨hx, hb, hml, hown, hts, hK, hA⟩ hret ih N _ _ _ _ h H locs ls (lv_sub hl [2, 3, 4, 1, 0] rfl) hP hD hS
set_option maxHeartbeats 4000000 in
set_option maxRecDepth 100000 in
theorem w_Share_takeAway_b0 {p : Program} {l : Launch} {e : Env} {s : State} {m : MethodId} {args : Array Value} {below : List Frame} {meth : Method} {c : Code} {Q : State → Prop} {A : Nat → Prop} {D : va_G} {cI cL cZ : ClassId} {a_this : Nat} {a_points : Nat} {o_cuts : Nat} {o_queue : Nat} {o_owners : Nat} {o_takes : Nat} {o_bases : Nat} {o_ranked : Nat} {o_starts : Nat} {o_numbers : Nat} {o_walk : Nat} {i_order : Int32} {i_next : Int32} {l1 : Int32} {N : Nat} {res : (Nat → Int32)}  (C : Cx p s m args c b_Share_takeAway 5 "PrefixMill$Share" D [(cI, .int), (cL, .long), (cZ, .boolean)] A) (hret : E_Share_takeAway p l e s m args below meth c Q A D cI cL cZ a_this a_points o_cuts o_queue o_owners o_takes o_bases o_ranked o_starts o_numbers o_walk i_order i_next l1 res)  : I_Share_takeAway_b0 p l e s m args below meth c Q A D cI cL cZ a_this a_points o_cuts o_queue o_owners o_takes o_bases o_ranked o_starts o_numbers o_walk i_order i_next l1 res (f_Share_takeAway N l1 ) := by
  obtain ⟨hx, hb, hml, hown, hts, hK, hA⟩ := C
  intro v_points h H locs ls hl hP hD hS
  unfold f_Share_takeAway at h
  refine lv_iconst (v := 0) hx hb d_Share_takeAway_0 (by decide) ?_
  refine lv_istore_n (lv' := [(2, .int 0), (0, .ref a_this), (1, .int l1)]) hx hb d_Share_takeAway_1 rfl hl (by decide) rfl (fun ls hl => ?_)
  exact w_Share_takeAway_b2 ⟨hx, hb, hml, hown, hts, hK, hA⟩ hret  N _ _ h H locs ls (lv_sub hl [1, 2, 0] rfl) hP hD hS
set_option maxHeartbeats 4000000 in
set_option maxRecDepth 100000 in
theorem c_Share_takeAway (l : Launch) (D : va_G) (cI cL cZ : ClassId) (sz N : Nat) (a_this : Nat) (a_points : Nat) (o_cuts : Nat) (o_queue : Nat) (o_owners : Nat) (o_takes : Nat) (o_bases : Nat) (o_ranked : Nat) (o_starts : Nat) (o_numbers : Nat) (o_walk : Nat) (i_order : Int32) (i_next : Int32) (v_points : Nat → Int32) (l1 : Int32) (v_points' : Nat → Int32) (h : f_Share_takeAway N l1 v_points = some (v_points')) : Met l ({ cls := "PrefixMill$Share", name := "takeAway", desc := "(I)V" } : Jvm.MethodName) ws_Share_takeAway R_Share_takeAway (va_Pc [.ref a_this, .int l1] (fun U => U.heap.size = sz ∧ va_P D classes [(a_this, .inr (6, [.ref a_points, .ref o_cuts, .ref o_queue, .ref o_owners, .ref o_takes, .ref o_bases, .ref o_ranked, .ref o_starts, .ref o_numbers, .ref o_walk, .int i_order, .int i_next])), (a_points, .inl (cI, 12, .inl v_points))] U.heap ∧ va_K D classes [(cI, .int), (cL, .long), (cZ, .boolean)] U ∧ va_D (fun _ => True) [(a_this, .inr (6, [.ref a_points, .ref o_cuts, .ref o_queue, .ref o_owners, .ref o_takes, .ref o_bases, .ref o_ranked, .ref o_starts, .ref o_numbers, .ref o_walk, .int i_order, .int i_next])), (a_points, .inl (cI, 12, .inl v_points))])) (va_Qv (fun _ : Unit => True) (fun _ t => va_P D classes [(a_this, .inr (6, [.ref a_points, .ref o_cuts, .ref o_queue, .ref o_owners, .ref o_takes, .ref o_bases, .ref o_ranked, .ref o_starts, .ref o_numbers, .ref o_walk, .int i_order, .int i_next])), (a_points, .inl (cI, 12, .inl v_points'))] t.heap ∧ va_K D classes [(cI, .int), (cL, .long), (cZ, .boolean)] t ∧ va_D (va_A [(a_this, .inr (6, [.ref a_points, .ref o_cuts, .ref o_queue, .ref o_owners, .ref o_takes, .ref o_bases, .ref o_ranked, .ref o_starts, .ref o_numbers, .ref o_walk, .int i_order, .int i_next])), (a_points, .inl (cI, 12, .inl v_points))] sz) [(a_this, .inr (6, [.ref a_points, .ref o_cuts, .ref o_queue, .ref o_owners, .ref o_takes, .ref o_bases, .ref o_ranked, .ref o_starts, .ref o_numbers, .ref o_walk, .int i_order, .int i_next])), (a_points, .inl (cI, 12, .inl v_points'))]) (va_A [(a_this, .inr (6, [.ref a_points, .ref o_cuts, .ref o_queue, .ref o_owners, .ref o_takes, .ref o_bases, .ref o_ranked, .ref o_starts, .ref o_numbers, .ref o_walk, .int i_order, .int i_next])), (a_points, .inl (cI, 12, .inl v_points))] sz)) 0 0 (va_A [(a_this, .inr (6, [.ref a_points, .ref o_cuts, .ref o_queue, .ref o_owners, .ref o_takes, .ref o_bases, .ref o_ranked, .ref o_starts, .ref o_numbers, .ref o_walk, .int i_order, .int i_next])), (a_points, .inl (cI, 12, .inl v_points))] sz) := by
  refine Met.ofW (cc := b_Share_takeAway) (maxL := 5) (ret := none) (by decide) rfl ?_
  intro p e s m args below meth c s₁ B hml hv
  obtain ⟨rfl, hsz, hP, hK, hD0⟩ := hv
  have hx := B.exec
  have hb := B.bytes
  have hr := B.returns
  have hts0 := atoms_spec (ws := ws_Share_takeAway) B.pre
  have hts := gd_tl hts0
  clear hts0
  have hown : s.vm.findClass "PrefixMill$Share" = some m.cls := findClass_of_methodNamed B.named
  have hlocks := B.notSynchronized
  subst hsz
  have hD := hD0.self (sz := s.heap.size)
  generalize hAe : va_A [(a_this, .inr (6, [.ref a_points, .ref o_cuts, .ref o_queue, .ref o_owners, .ref o_takes, .ref o_bases, .ref o_ranked, .ref o_starts, .ref o_numbers, .ref o_walk, .int i_order, .int i_next])), (a_points, .inl (cI, 12, .inl v_points))] s.heap.size = A at hD ⊢
  have hA : ∀ q : Nat, s.heap.size ≤ q → A q := fun q h => by rw [← hAe]; exact Or.inr h
  have hS : va_S A s.heap s.heap [] := va_S.rf
  have hP : va_P D classes [(a_this, .inr (6, [.ref a_points, .ref o_cuts, .ref o_queue, .ref o_owners, .ref o_takes, .ref o_bases, .ref o_ranked, .ref o_starts, .ref o_numbers, .ref o_walk, .int i_order, .int i_next])), (a_points, .inl (cI, 12, .inl v_points))] s.heap := hP
  have hl := lv_entry ([.ref a_this, .int l1]) (n := 5) (Nat.le_of_ble_eq_true rfl)
  rw [lg_entry_eq]
  generalize (lg_sl ([.ref a_this, .int l1]) ++ List.replicate (5 - (lg_sl ([.ref a_this, .int l1])).length) Slot.unset).toArray = ls at hl ⊢
  have hl : lv_has ls 5 [(0, .ref a_this), (1, .int l1)] := hl
  have C : Cx p s m ([.ref a_this, .int l1] : List Value).toArray c b_Share_takeAway 5 "PrefixMill$Share" D [(cI, .int), (cL, .long), (cZ, .boolean)] A := ⟨hx, hb, hml, hown, hts, hK, hA⟩
  refine w_Share_takeAway_b0 (res := (v_points')) C ?_ _ h s.heap [] ls hl hP hD hS
  intro pc9 H9 locs9 ls9 v_points9 e9 d9 hP9 hD9 hS9
  cases e9
  exact W.vret hx hb hr (fun t ht hW => ⟨⟨(), rfl, trivial, by rw [ht]; exact hP9, va_K.moved hW.alike hK, hD9⟩, hS9.F ht⟩) hS9.2.2 d9
abbrev b_Share_giveHighest : ByteArray := prog_6_method_9_code
def ws_Share_giveHighest : List Cond := .code ({ cls := "PrefixMill$Share", name := "giveHighest", desc := "()I" } : Jvm.MethodName) b_Share_giveHighest 3 (some .int) :: tt
theorem d_Share_giveHighest_0 : decode b_Share_giveHighest 0 = .ok (.iconst 1, 1) := by decide +kernel
theorem d_Share_giveHighest_1 : decode b_Share_giveHighest 1 = .ok (.aload_n 0, 1) := by decide +kernel
theorem d_Share_giveHighest_2 : decode b_Share_giveHighest 2 = .ok (.getfield 42, 3) := by decide +kernel
theorem d_Share_giveHighest_5 : decode b_Share_giveHighest 5 = .ok (.ishl, 1) := by decide +kernel
theorem d_Share_giveHighest_6 : decode b_Share_giveHighest 6 = .ok (.istore_n 1, 1) := by decide +kernel
theorem d_Share_giveHighest_7 : decode b_Share_giveHighest 7 = .ok (.iconst 0, 1) := by decide +kernel
theorem d_Share_giveHighest_8 : decode b_Share_giveHighest 8 = .ok (.istore_n 2, 1) := by decide +kernel
theorem d_Share_giveHighest_9 : decode b_Share_giveHighest 9 = .ok (.iload_n 2, 1) := by decide +kernel
theorem d_Share_giveHighest_10 : decode b_Share_giveHighest 10 = .ok (.bipush 12, 2) := by decide +kernel
theorem d_Share_giveHighest_12 : decode b_Share_giveHighest 12 = .ok (.if_icmp .ge 28, 3) := by decide +kernel
theorem d_Share_giveHighest_15 : decode b_Share_giveHighest 15 = .ok (.aload_n 0, 1) := by decide +kernel
theorem d_Share_giveHighest_16 : decode b_Share_giveHighest 16 = .ok (.getfield 9, 3) := by decide +kernel
theorem d_Share_giveHighest_19 : decode b_Share_giveHighest 19 = .ok (.iload_n 2, 1) := by decide +kernel
theorem d_Share_giveHighest_20 : decode b_Share_giveHighest 20 = .ok (.iaload, 1) := by decide +kernel
theorem d_Share_giveHighest_21 : decode b_Share_giveHighest 21 = .ok (.ifCond .ge 13, 3) := by decide +kernel
theorem d_Share_giveHighest_24 : decode b_Share_giveHighest 24 = .ok (.iinc 1 (-1), 3) := by decide +kernel
theorem d_Share_giveHighest_27 : decode b_Share_giveHighest 27 = .ok (.aload_n 0, 1) := by decide +kernel
theorem d_Share_giveHighest_28 : decode b_Share_giveHighest 28 = .ok (.getfield 21, 3) := by decide +kernel
theorem d_Share_giveHighest_31 : decode b_Share_giveHighest 31 = .ok (.iload_n 1, 1) := by decide +kernel
theorem d_Share_giveHighest_32 : decode b_Share_giveHighest 32 = .ok (.iload_n 2, 1) := by decide +kernel
theorem d_Share_giveHighest_33 : decode b_Share_giveHighest 33 = .ok (.iastore, 1) := by decide +kernel
theorem d_Share_giveHighest_34 : decode b_Share_giveHighest 34 = .ok (.iinc 2 1, 3) := by decide +kernel
theorem d_Share_giveHighest_37 : decode b_Share_giveHighest 37 = .ok (.goto (-28), 3) := by decide +kernel
theorem d_Share_giveHighest_40 : decode b_Share_giveHighest 40 = .ok (.iload_n 1, 1) := by decide +kernel
theorem d_Share_giveHighest_41 : decode b_Share_giveHighest 41 = .ok (.ireturn, 1) := by decide +kernel
abbrev R_Share_giveHighest : Room := ({ frames := 0, cells := 0, slots := 0, locals := 0 } : Room)
def E_Share_giveHighest (p : Program) (l : Launch) (e : Env) (s : State) (m : MethodId) (args : Array Value) (below : List Frame) (meth : Method) (c : Code) (Q : State → Prop) (A : Nat → Prop) (D : va_G) (cI cL cZ : ClassId) (a_this : Nat) (a_points : Nat) (a_owners : Nat) (o_cuts : Nat) (o_queue : Nat) (o_takes : Nat) (o_bases : Nat) (o_ranked : Nat) (o_starts : Nat) (o_numbers : Nat) (o_walk : Nat) (i_order : Int32) (i_next : Int32) (v_points : Nat → Int32) (res : Int32 × (Nat → Int32)) : Prop := ∀ (pc : Nat) (H : Heap) (locs : List Loc) (ls : Array Slot) (rv : Int32) (v_owners : Nat → Int32), some (rv, v_owners) = some res → decode b_Share_giveHighest pc = .ok (.ireturn, 1) → va_P D classes [(a_this, .inr (6, [.ref a_points, .ref o_cuts, .ref o_queue, .ref a_owners, .ref o_takes, .ref o_bases, .ref o_ranked, .ref o_starts, .ref o_numbers, .ref o_walk, .int i_order, .int i_next])), (a_points, .inl (cI, 12, .inl v_points)), (a_owners, .inl (cI, 64, .inl v_owners))] H → va_D A [(a_this, .inr (6, [.ref a_points, .ref o_cuts, .ref o_queue, .ref a_owners, .ref o_takes, .ref o_bases, .ref o_ranked, .ref o_starts, .ref o_numbers, .ref o_walk, .int i_order, .int i_next])), (a_points, .inl (cI, 12, .inl v_points)), (a_owners, .inl (cI, 64, .inl v_owners))] → va_S A s.heap H locs → W p l e R_Share_giveHighest s m args below meth c H locs 0 0 Q (F0 m pc ls [.int rv])
def I_Share_giveHighest_b34 (p : Program) (l : Launch) (e : Env) (s : State) (m : MethodId) (args : Array Value) (below : List Frame) (meth : Method) (c : Code) (Q : State → Prop) (A : Nat → Prop) (D : va_G) (cI cL cZ : ClassId) (a_this : Nat) (a_points : Nat) (a_owners : Nat) (o_cuts : Nat) (o_queue : Nat) (o_takes : Nat) (o_bases : Nat) (o_ranked : Nat) (o_starts : Nat) (o_numbers : Nat) (o_walk : Nat) (i_order : Int32) (i_next : Int32) (v_points : Nat → Int32) (res : Int32 × (Nat → Int32)) (kf : Int32 → Int32 → (Nat → Int32) → Option (Int32 × (Nat → Int32))) : Prop := ∀ (l1 : Int32) (l2 : Int32) (v_owners : Nat → Int32), kf l1 l2 v_owners = some res → ∀ (H : Heap) (locs : List Loc) (ls : Array Slot), lv_has ls 3 [(0, .ref a_this), (1, .int l1), (2, .int l2)] → va_P D classes [(a_this, .inr (6, [.ref a_points, .ref o_cuts, .ref o_queue, .ref a_owners, .ref o_takes, .ref o_bases, .ref o_ranked, .ref o_starts, .ref o_numbers, .ref o_walk, .int i_order, .int i_next])), (a_points, .inl (cI, 12, .inl v_points)), (a_owners, .inl (cI, 64, .inl v_owners))] H → va_D A [(a_this, .inr (6, [.ref a_points, .ref o_cuts, .ref o_queue, .ref a_owners, .ref o_takes, .ref o_bases, .ref o_ranked, .ref o_starts, .ref o_numbers, .ref o_walk, .int i_order, .int i_next])), (a_points, .inl (cI, 12, .inl v_points)), (a_owners, .inl (cI, 64, .inl v_owners))] → va_S A s.heap H locs → W p l e R_Share_giveHighest s m args below meth c H locs 0 0 Q (F0 m 34 ls [])
def I_Share_giveHighest_b40 (p : Program) (l : Launch) (e : Env) (s : State) (m : MethodId) (args : Array Value) (below : List Frame) (meth : Method) (c : Code) (Q : State → Prop) (A : Nat → Prop) (D : va_G) (cI cL cZ : ClassId) (a_this : Nat) (a_points : Nat) (a_owners : Nat) (o_cuts : Nat) (o_queue : Nat) (o_takes : Nat) (o_bases : Nat) (o_ranked : Nat) (o_starts : Nat) (o_numbers : Nat) (o_walk : Nat) (i_order : Int32) (i_next : Int32) (v_points : Nat → Int32) (res : Int32 × (Nat → Int32)) (kf : Int32 → (Nat → Int32) → Option (Int32 × (Nat → Int32))) : Prop := ∀ (l1 : Int32) (v_owners : Nat → Int32), kf l1 v_owners = some res → ∀ (H : Heap) (locs : List Loc) (ls : Array Slot), lv_has ls 3 [(1, .int l1)] → va_P D classes [(a_this, .inr (6, [.ref a_points, .ref o_cuts, .ref o_queue, .ref a_owners, .ref o_takes, .ref o_bases, .ref o_ranked, .ref o_starts, .ref o_numbers, .ref o_walk, .int i_order, .int i_next])), (a_points, .inl (cI, 12, .inl v_points)), (a_owners, .inl (cI, 64, .inl v_owners))] H → va_D A [(a_this, .inr (6, [.ref a_points, .ref o_cuts, .ref o_queue, .ref a_owners, .ref o_takes, .ref o_bases, .ref o_ranked, .ref o_starts, .ref o_numbers, .ref o_walk, .int i_order, .int i_next])), (a_points, .inl (cI, 12, .inl v_points)), (a_owners, .inl (cI, 64, .inl v_owners))] → va_S A s.heap H locs → W p l e R_Share_giveHighest s m args below meth c H locs 0 0 Q (F0 m 40 ls [])
def I_Share_giveHighest_b9 (p : Program) (l : Launch) (e : Env) (s : State) (m : MethodId) (args : Array Value) (below : List Frame) (meth : Method) (c : Code) (Q : State → Prop) (A : Nat → Prop) (D : va_G) (cI cL cZ : ClassId) (a_this : Nat) (a_points : Nat) (a_owners : Nat) (o_cuts : Nat) (o_queue : Nat) (o_takes : Nat) (o_bases : Nat) (o_ranked : Nat) (o_starts : Nat) (o_numbers : Nat) (o_walk : Nat) (i_order : Int32) (i_next : Int32) (v_points : Nat → Int32) (res : Int32 × (Nat → Int32)) (kf : Int32 → Int32 → (Nat → Int32) → Option (Int32 × (Nat → Int32))) : Prop := ∀ (l1 : Int32) (l2 : Int32) (v_owners : Nat → Int32), kf l1 l2 v_owners = some res → ∀ (H : Heap) (locs : List Loc) (ls : Array Slot), lv_has ls 3 [(0, .ref a_this), (1, .int l1), (2, .int l2)] → va_P D classes [(a_this, .inr (6, [.ref a_points, .ref o_cuts, .ref o_queue, .ref a_owners, .ref o_takes, .ref o_bases, .ref o_ranked, .ref o_starts, .ref o_numbers, .ref o_walk, .int i_order, .int i_next])), (a_points, .inl (cI, 12, .inl v_points)), (a_owners, .inl (cI, 64, .inl v_owners))] H → va_D A [(a_this, .inr (6, [.ref a_points, .ref o_cuts, .ref o_queue, .ref a_owners, .ref o_takes, .ref o_bases, .ref o_ranked, .ref o_starts, .ref o_numbers, .ref o_walk, .int i_order, .int i_next])), (a_points, .inl (cI, 12, .inl v_points)), (a_owners, .inl (cI, 64, .inl v_owners))] → va_S A s.heap H locs → W p l e R_Share_giveHighest s m args below meth c H locs 0 0 Q (F0 m 9 ls [])
def I_Share_giveHighest_b0 (p : Program) (l : Launch) (e : Env) (s : State) (m : MethodId) (args : Array Value) (below : List Frame) (meth : Method) (c : Code) (Q : State → Prop) (A : Nat → Prop) (D : va_G) (cI cL cZ : ClassId) (a_this : Nat) (a_points : Nat) (a_owners : Nat) (o_cuts : Nat) (o_queue : Nat) (o_takes : Nat) (o_bases : Nat) (o_ranked : Nat) (o_starts : Nat) (o_numbers : Nat) (o_walk : Nat) (i_order : Int32) (i_next : Int32) (v_points : Nat → Int32) (res : Int32 × (Nat → Int32)) (kf : (Nat → Int32) → Option (Int32 × (Nat → Int32))) : Prop := ∀ (v_owners : Nat → Int32), kf v_owners = some res → ∀ (H : Heap) (locs : List Loc) (ls : Array Slot), lv_has ls 3 [(0, .ref a_this)] → va_P D classes [(a_this, .inr (6, [.ref a_points, .ref o_cuts, .ref o_queue, .ref a_owners, .ref o_takes, .ref o_bases, .ref o_ranked, .ref o_starts, .ref o_numbers, .ref o_walk, .int i_order, .int i_next])), (a_points, .inl (cI, 12, .inl v_points)), (a_owners, .inl (cI, 64, .inl v_owners))] H → va_D A [(a_this, .inr (6, [.ref a_points, .ref o_cuts, .ref o_queue, .ref a_owners, .ref o_takes, .ref o_bases, .ref o_ranked, .ref o_starts, .ref o_numbers, .ref o_walk, .int i_order, .int i_next])), (a_points, .inl (cI, 12, .inl v_points)), (a_owners, .inl (cI, 64, .inl v_owners))] → va_S A s.heap H locs → W p l e R_Share_giveHighest s m args below meth c H locs 0 0 Q (F0 m 0 ls [])
set_option maxHeartbeats 4000000 in
set_option maxRecDepth 100000 in
theorem w_Share_giveHighest_b34 {p : Program} {l : Launch} {e : Env} {s : State} {m : MethodId} {args : Array Value} {below : List Frame} {meth : Method} {c : Code} {Q : State → Prop} {A : Nat → Prop} {D : va_G} {cI cL cZ : ClassId} {a_this : Nat} {a_points : Nat} {a_owners : Nat} {o_cuts : Nat} {o_queue : Nat} {o_takes : Nat} {o_bases : Nat} {o_ranked : Nat} {o_starts : Nat} {o_numbers : Nat} {o_walk : Nat} {i_order : Int32} {i_next : Int32} {v_points : Nat → Int32} {N : Nat} {res : Int32 × (Nat → Int32)} {k9 : Int32 → Int32 → (Nat → Int32) → Option (Int32 × (Nat → Int32))} (C : Cx p s m args c b_Share_giveHighest 3 "PrefixMill$Share" D [(cI, .int), (cL, .long), (cZ, .boolean)] A) (hret : E_Share_giveHighest p l e s m args below meth c Q A D cI cL cZ a_this a_points a_owners o_cuts o_queue o_takes o_bases o_ranked o_starts o_numbers o_walk i_order i_next v_points res) (hk9 : I_Share_giveHighest_b9 p l e s m args below meth c Q A D cI cL cZ a_this a_points a_owners o_cuts o_queue o_takes o_bases o_ranked o_starts o_numbers o_walk i_order i_next v_points res k9) : I_Share_giveHighest_b34 p l e s m args below meth c Q A D cI cL cZ a_this a_points a_owners o_cuts o_queue o_takes o_bases o_ranked o_starts o_numbers o_walk i_order i_next v_points res (f_Share_giveHighest_b34 N i_order v_points k9) := by
  obtain ⟨hx, hb, hml, hown, hts, hK, hA⟩ := C
  intro l1 l2 v_owners h H locs ls hl hP hD hS
  unfold f_Share_giveHighest_b34 at h
  obtain ⟨l2_1, el2_1⟩ : ∃ y : Int32, y = l2 + 1 := ⟨_, rfl⟩
  replace h := nm_s h el2_1
  refine lv_iinc (v := l2_1) (lv' := [(2, .int l2_1), (0, .ref a_this), (1, .int l1)]) hx hb d_Share_giveHighest_34 hl (k := 2) rfl (by rw [el2_1]; rfl) (by decide) rfl (fun ls hl => ?_)
  refine lv_goto (tgt := 9) hx hb d_Share_giveHighest_37 (by decide) ?_
  exact hk9 _ _ _ h H locs ls (lv_sub hl [1, 2, 0] rfl) hP hD hS
set_option maxHeartbeats 4000000 in
set_option maxRecDepth 100000 in
theorem w_Share_giveHighest_b40 {p : Program} {l : Launch} {e : Env} {s : State} {m : MethodId} {args : Array Value} {below : List Frame} {meth : Method} {c : Code} {Q : State → Prop} {A : Nat → Prop} {D : va_G} {cI cL cZ : ClassId} {a_this : Nat} {a_points : Nat} {a_owners : Nat} {o_cuts : Nat} {o_queue : Nat} {o_takes : Nat} {o_bases : Nat} {o_ranked : Nat} {o_starts : Nat} {o_numbers : Nat} {o_walk : Nat} {i_order : Int32} {i_next : Int32} {v_points : Nat → Int32} {N : Nat} {res : Int32 × (Nat → Int32)}  (C : Cx p s m args c b_Share_giveHighest 3 "PrefixMill$Share" D [(cI, .int), (cL, .long), (cZ, .boolean)] A) (hret : E_Share_giveHighest p l e s m args below meth c Q A D cI cL cZ a_this a_points a_owners o_cuts o_queue o_takes o_bases o_ranked o_starts o_numbers o_walk i_order i_next v_points res)  : I_Share_giveHighest_b40 p l e s m args below meth c Q A D cI cL cZ a_this a_points a_owners o_cuts o_queue o_takes o_bases o_ranked o_starts o_numbers o_walk i_order i_next v_points res (f_Share_giveHighest_b40 N i_order v_points ) := by
  obtain ⟨hx, hb, hml, hown, hts, hK, hA⟩ := C
  intro l1 v_owners h H locs ls hl hP hD hS
  unfold f_Share_giveHighest_b40 at h
  refine lv_iload_n hx hb d_Share_giveHighest_40 rfl (lv_at hl 0 rfl) ?_
  exact hret _ _ _ _ l1 v_owners h d_Share_giveHighest_41 hP hD hS
set_option maxHeartbeats 4000000 in
set_option maxRecDepth 100000 in
theorem w_Share_giveHighest_b9 {p : Program} {l : Launch} {e : Env} {s : State} {m : MethodId} {args : Array Value} {below : List Frame} {meth : Method} {c : Code} {Q : State → Prop} {A : Nat → Prop} {D : va_G} {cI cL cZ : ClassId} {a_this : Nat} {a_points : Nat} {a_owners : Nat} {o_cuts : Nat} {o_queue : Nat} {o_takes : Nat} {o_bases : Nat} {o_ranked : Nat} {o_starts : Nat} {o_numbers : Nat} {o_walk : Nat} {i_order : Int32} {i_next : Int32} {v_points : Nat → Int32} {N : Nat} {res : Int32 × (Nat → Int32)}  (C : Cx p s m args c b_Share_giveHighest 3 "PrefixMill$Share" D [(cI, .int), (cL, .long), (cZ, .boolean)] A) (hret : E_Share_giveHighest p l e s m args below meth c Q A D cI cL cZ a_this a_points a_owners o_cuts o_queue o_takes o_bases o_ranked o_starts o_numbers o_walk i_order i_next v_points res)  : ∀ z : Nat, I_Share_giveHighest_b9 p l e s m args below meth c Q A D cI cL cZ a_this a_points a_owners o_cuts o_queue o_takes o_bases o_ranked o_starts o_numbers o_walk i_order i_next v_points res (f_Share_giveHighest_b9 N i_order v_points  z) := by
  obtain ⟨hx, hb, hml, hown, hts, hK, hA⟩ := C
  intro z
  induction z with
  | zero => intro l1 l2 v_owners h; cases h
  | succ z ih =>
    intro l1 l2 v_owners h H locs ls hl hP hD hS
    refine lv_iload_n hx hb d_Share_giveHighest_9 rfl (lv_at hl 2 rfl) ?_
    refine lv_bipush (v := 12) hx hb d_Share_giveHighest_10 (by decide) ?_
    refine lv_icmp_ge (tgt := 40) hx hb d_Share_giveHighest_12 (by decide) (fun c_1 => ?_) (fun c_1 => ?_)
    · replace h := if_t h c_1
      exact w_Share_giveHighest_b40 ⟨hx, hb, hml, hown, hts, hK, hA⟩ hret  _ _ h H locs ls (lv_sub hl [1] rfl) hP hD hS
    · replace h := if_f h c_1
      refine lv_aload_n hx hb d_Share_giveHighest_15 rfl (lv_at hl 0 rfl) ?_
      refine va_get hx hb hts in_Share hown hK hP 0 rfl rfl 0 (by decide) (hts _ m_211) (fun _ h9 => h9) rfl d_Share_giveHighest_16 ?_
      refine lv_iload_n hx hb d_Share_giveHighest_19 rfl (lv_at hl 2 rfl) ?_
      obtain ⟨g_2, h⟩ := ck_s h
      refine va_iald hx hb hK hP 1 0 rfl rfl (inb_s g_2) d_Share_giveHighest_20 ?_
      refine lv_if_ge (tgt := 34) hx hb d_Share_giveHighest_21 (by decide) (fun c_3 => ?_) (fun c_3 => ?_)
      · replace h := if_t h c_3
        exact w_Share_giveHighest_b34 ⟨hx, hb, hml, hown, hts, hK, hA⟩ hret ih _ _ _ h H locs ls (lv_sub hl [0, 1, 2] rfl) hP hD hS
      · replace h := if_f h c_3
        obtain ⟨l1_4, el1_4⟩ : ∃ y : Int32, y = l1 + (-1) := ⟨_, rfl⟩
        replace h := nm_s h el1_4
        refine lv_iinc (v := l1_4) (lv' := [(1, .int l1_4), (0, .ref a_this), (2, .int l2)]) hx hb d_Share_giveHighest_24 hl (k := 1) rfl (by rw [el1_4]; rfl) (by decide) rfl (fun ls hl => ?_)
        refine lv_aload_n hx hb d_Share_giveHighest_27 rfl (lv_at hl 1 rfl) ?_
        refine va_get hx hb hts in_Share hown hK hP 0 rfl rfl 3 (by decide) (hts _ m_214) (fun _ h9 => h9) rfl d_Share_giveHighest_28 ?_
        refine lv_iload_n hx hb d_Share_giveHighest_31 rfl (lv_at hl 0 rfl) ?_
        refine lv_iload_n hx hb d_Share_giveHighest_32 rfl (lv_at hl 2 rfl) ?_
        obtain ⟨g_5, h⟩ := ck_s h
        refine va_iast hx hb hK hP hD hS 2 0 rfl rfl (inb_s g_5) d_Share_giveHighest_33 (fun H locs hP hD hS => ?_)
        obtain ⟨v_owners_6, ev_owners_6⟩ : ∃ y, y = (upd v_owners (Int32.toNatClampNeg l1_4) l2) := ⟨_, rfl⟩
        replace h := nm_s h ev_owners_6
        have hP : va_P D classes [(a_this, .inr (6, [.ref a_points, .ref o_cuts, .ref o_queue, .ref a_owners, .ref o_takes, .ref o_bases, .ref o_ranked, .ref o_starts, .ref o_numbers, .ref o_walk, .int i_order, .int i_next])), (a_points, .inl (cI, 12, .inl v_points)), (a_owners, .inl (cI, 64, .inl v_owners_6))] H := by rw [ev_owners_6]; exact hP
        have hD : va_D A [(a_this, .inr (6, [.ref a_points, .ref o_cuts, .ref o_queue, .ref a_owners, .ref o_takes, .ref o_bases, .ref o_ranked, .ref o_starts, .ref o_numbers, .ref o_walk, .int i_order, .int i_next])), (a_points, .inl (cI, 12, .inl v_points)), (a_owners, .inl (cI, 64, .inl v_owners_6))] := by rw [ev_owners_6]; exact hD
        exact w_Share_giveHighest_b34 ⟨hx, hb, hml, hown, hts, hK, hA⟩ hret ih _ _ _ h H locs ls (lv_sub hl [1, 0, 2] rfl) hP hD hS
set_option maxHeartbeats 4000000 in
set_option maxRecDepth 100000 in
theorem w_Share_giveHighest_b0 {p : Program} {l : Launch} {e : Env} {s : State} {m : MethodId} {args : Array Value} {below : List Frame} {meth : Method} {c : Code} {Q : State → Prop} {A : Nat → Prop} {D : va_G} {cI cL cZ : ClassId} {a_this : Nat} {a_points : Nat} {a_owners : Nat} {o_cuts : Nat} {o_queue : Nat} {o_takes : Nat} {o_bases : Nat} {o_ranked : Nat} {o_starts : Nat} {o_numbers : Nat} {o_walk : Nat} {i_order : Int32} {i_next : Int32} {v_points : Nat → Int32} {N : Nat} {res : Int32 × (Nat → Int32)}  (C : Cx p s m args c b_Share_giveHighest 3 "PrefixMill$Share" D [(cI, .int), (cL, .long), (cZ, .boolean)] A) (hret : E_Share_giveHighest p l e s m args below meth c Q A D cI cL cZ a_this a_points a_owners o_cuts o_queue o_takes o_bases o_ranked o_starts o_numbers o_walk i_order i_next v_points res)  : I_Share_giveHighest_b0 p l e s m args below meth c Q A D cI cL cZ a_this a_points a_owners o_cuts o_queue o_takes o_bases o_ranked o_starts o_numbers o_walk i_order i_next v_points res (f_Share_giveHighest N i_order v_points ) := by
  obtain ⟨hx, hb, hml, hown, hts, hK, hA⟩ := C
  intro v_owners h H locs ls hl hP hD hS
  unfold f_Share_giveHighest at h
  refine lv_iconst (v := 1) hx hb d_Share_giveHighest_0 (by decide) ?_
  refine lv_aload_n hx hb d_Share_giveHighest_1 rfl (lv_at hl 0 rfl) ?_
  refine va_get hx hb hts in_Share hown hK hP 0 rfl rfl 10 (by decide) (hts _ m_226) (fun _ h9 => h9) rfl d_Share_giveHighest_2 ?_
  refine lv_ishl hx hb d_Share_giveHighest_5 ?_
  refine lv_topi (fun l1_1 el1_1 => ?_)
  replace h := nm_s h el1_1
  refine lv_istore_n (lv' := [(1, .int l1_1), (0, .ref a_this)]) hx hb d_Share_giveHighest_6 rfl hl (by decide) rfl (fun ls hl => ?_)
  refine lv_iconst (v := 0) hx hb d_Share_giveHighest_7 (by decide) ?_
  refine lv_istore_n (lv' := [(2, .int 0), (1, .int l1_1), (0, .ref a_this)]) hx hb d_Share_giveHighest_8 rfl hl (by decide) rfl (fun ls hl => ?_)
  exact w_Share_giveHighest_b9 ⟨hx, hb, hml, hown, hts, hK, hA⟩ hret  N _ _ _ h H locs ls (lv_sub hl [2, 1, 0] rfl) hP hD hS
set_option maxHeartbeats 4000000 in
set_option maxRecDepth 100000 in
theorem c_Share_giveHighest (l : Launch) (D : va_G) (cI cL cZ : ClassId) (sz N : Nat) (a_this : Nat) (a_points : Nat) (a_owners : Nat) (o_cuts : Nat) (o_queue : Nat) (o_takes : Nat) (o_bases : Nat) (o_ranked : Nat) (o_starts : Nat) (o_numbers : Nat) (o_walk : Nat) (i_order : Int32) (i_next : Int32) (v_points : Nat → Int32) (v_owners : Nat → Int32) (rv : Int32) (v_owners' : Nat → Int32) (h : f_Share_giveHighest N i_order v_points v_owners = some (rv, v_owners')) : Met l ({ cls := "PrefixMill$Share", name := "giveHighest", desc := "()I" } : Jvm.MethodName) ws_Share_giveHighest R_Share_giveHighest (va_Pc [.ref a_this] (fun U => U.heap.size = sz ∧ va_P D classes [(a_this, .inr (6, [.ref a_points, .ref o_cuts, .ref o_queue, .ref a_owners, .ref o_takes, .ref o_bases, .ref o_ranked, .ref o_starts, .ref o_numbers, .ref o_walk, .int i_order, .int i_next])), (a_points, .inl (cI, 12, .inl v_points)), (a_owners, .inl (cI, 64, .inl v_owners))] U.heap ∧ va_K D classes [(cI, .int), (cL, .long), (cZ, .boolean)] U ∧ va_D (fun _ => True) [(a_this, .inr (6, [.ref a_points, .ref o_cuts, .ref o_queue, .ref a_owners, .ref o_takes, .ref o_bases, .ref o_ranked, .ref o_starts, .ref o_numbers, .ref o_walk, .int i_order, .int i_next])), (a_points, .inl (cI, 12, .inl v_points)), (a_owners, .inl (cI, 64, .inl v_owners))])) (va_Qi (fun (r0 : Int32) (_ : Unit) => rv = r0) (fun _ t => va_P D classes [(a_this, .inr (6, [.ref a_points, .ref o_cuts, .ref o_queue, .ref a_owners, .ref o_takes, .ref o_bases, .ref o_ranked, .ref o_starts, .ref o_numbers, .ref o_walk, .int i_order, .int i_next])), (a_points, .inl (cI, 12, .inl v_points)), (a_owners, .inl (cI, 64, .inl v_owners'))] t.heap ∧ va_K D classes [(cI, .int), (cL, .long), (cZ, .boolean)] t ∧ va_D (va_A [(a_this, .inr (6, [.ref a_points, .ref o_cuts, .ref o_queue, .ref a_owners, .ref o_takes, .ref o_bases, .ref o_ranked, .ref o_starts, .ref o_numbers, .ref o_walk, .int i_order, .int i_next])), (a_points, .inl (cI, 12, .inl v_points)), (a_owners, .inl (cI, 64, .inl v_owners))] sz) [(a_this, .inr (6, [.ref a_points, .ref o_cuts, .ref o_queue, .ref a_owners, .ref o_takes, .ref o_bases, .ref o_ranked, .ref o_starts, .ref o_numbers, .ref o_walk, .int i_order, .int i_next])), (a_points, .inl (cI, 12, .inl v_points)), (a_owners, .inl (cI, 64, .inl v_owners'))]) (va_A [(a_this, .inr (6, [.ref a_points, .ref o_cuts, .ref o_queue, .ref a_owners, .ref o_takes, .ref o_bases, .ref o_ranked, .ref o_starts, .ref o_numbers, .ref o_walk, .int i_order, .int i_next])), (a_points, .inl (cI, 12, .inl v_points)), (a_owners, .inl (cI, 64, .inl v_owners))] sz)) 0 0 (va_A [(a_this, .inr (6, [.ref a_points, .ref o_cuts, .ref o_queue, .ref a_owners, .ref o_takes, .ref o_bases, .ref o_ranked, .ref o_starts, .ref o_numbers, .ref o_walk, .int i_order, .int i_next])), (a_points, .inl (cI, 12, .inl v_points)), (a_owners, .inl (cI, 64, .inl v_owners))] sz) := by
  refine Met.ofW (cc := b_Share_giveHighest) (maxL := 3) (ret := (some .int)) (by decide) rfl ?_
  intro p e s m args below meth c s₁ B hml hv
  obtain ⟨rfl, hsz, hP, hK, hD0⟩ := hv
  have hx := B.exec
  have hb := B.bytes
  have hr := B.returns
  have hts0 := atoms_spec (ws := ws_Share_giveHighest) B.pre
  have hts := gd_tl hts0
  clear hts0
  have hown : s.vm.findClass "PrefixMill$Share" = some m.cls := findClass_of_methodNamed B.named
  have hlocks := B.notSynchronized
  subst hsz
  have hD := hD0.self (sz := s.heap.size)
  generalize hAe : va_A [(a_this, .inr (6, [.ref a_points, .ref o_cuts, .ref o_queue, .ref a_owners, .ref o_takes, .ref o_bases, .ref o_ranked, .ref o_starts, .ref o_numbers, .ref o_walk, .int i_order, .int i_next])), (a_points, .inl (cI, 12, .inl v_points)), (a_owners, .inl (cI, 64, .inl v_owners))] s.heap.size = A at hD ⊢
  have hA : ∀ q : Nat, s.heap.size ≤ q → A q := fun q h => by rw [← hAe]; exact Or.inr h
  have hS : va_S A s.heap s.heap [] := va_S.rf
  have hP : va_P D classes [(a_this, .inr (6, [.ref a_points, .ref o_cuts, .ref o_queue, .ref a_owners, .ref o_takes, .ref o_bases, .ref o_ranked, .ref o_starts, .ref o_numbers, .ref o_walk, .int i_order, .int i_next])), (a_points, .inl (cI, 12, .inl v_points)), (a_owners, .inl (cI, 64, .inl v_owners))] s.heap := hP
  have hl := lv_entry ([.ref a_this]) (n := 3) (Nat.le_of_ble_eq_true rfl)
  rw [lg_entry_eq]
  generalize (lg_sl ([.ref a_this]) ++ List.replicate (3 - (lg_sl ([.ref a_this])).length) Slot.unset).toArray = ls at hl ⊢
  have hl : lv_has ls 3 [(0, .ref a_this)] := hl
  have C : Cx p s m ([.ref a_this] : List Value).toArray c b_Share_giveHighest 3 "PrefixMill$Share" D [(cI, .int), (cL, .long), (cZ, .boolean)] A := ⟨hx, hb, hml, hown, hts, hK, hA⟩
  refine w_Share_giveHighest_b0 (res := (rv, v_owners')) C ?_ _ h s.heap [] ls hl hP hD hS
  intro pc9 H9 locs9 ls9 rv9 v_owners9 e9 d9 hP9 hD9 hS9
  cases e9
  exact W.iret (v := rv) hx hb hr (fun t ht hW => ⟨⟨rv, (), rfl, rfl, by rw [ht]; exact hP9, va_K.moved hW.alike hK, hD9⟩, hS9.F ht⟩) hS9.2.2 d9
