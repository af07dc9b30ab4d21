abbrev b_PM_clear : ByteArray := prog_1_method_5_code
def ws_PM_clear : List Cond := .code ({ cls := "PrefixMill", name := "clear", desc := "()V" } : Jvm.MethodName) b_PM_clear 1 none :: tt
theorem d_PM_clear_0 : decode b_PM_clear 0 = .ok (.aload_n 0, 1) := by decide +kernel
theorem d_PM_clear_1 : decode b_PM_clear 1 = .ok (.getfield 14, 3) := by decide +kernel
theorem d_PM_clear_4 : decode b_PM_clear 4 = .ok (.invokevirtual 78, 3) := by decide +kernel
theorem d_PM_clear_7 : decode b_PM_clear 7 = .ok (.aload_n 0, 1) := by decide +kernel
theorem d_PM_clear_8 : decode b_PM_clear 8 = .ok (.iconst 0, 1) := by decide +kernel
theorem d_PM_clear_9 : decode b_PM_clear 9 = .ok (.putfield 60, 3) := by decide +kernel
theorem d_PM_clear_12 : decode b_PM_clear 12 = .ok (.aload_n 0, 1) := by decide +kernel
theorem d_PM_clear_13 : decode b_PM_clear 13 = .ok (.getfield 21, 3) := by decide +kernel
theorem d_PM_clear_16 : decode b_PM_clear 16 = .ok (.iconst 0, 1) := by decide +kernel
theorem d_PM_clear_17 : decode b_PM_clear 17 = .ok (.invokestatic 81, 3) := by decide +kernel
theorem d_PM_clear_20 : decode b_PM_clear 20 = .ok (.return_, 1) := by decide +kernel
def f_PM_clear (N : Nat)   (i_place : Int32) (i_in_used : Int32) (v_counts : Nat → Int32) : Option (Int32 × Int32 × (Nat → Int32)) :=
  bd1 (f_Row_empty N i_in_used) fun i_in_used_1 =>
  bd1 (f_JArr_fill N 256 0 v_counts) fun v_counts_3 =>
  some (0, i_in_used_1, v_counts_3)
abbrev R_PM_clear : Room := ({ frames := 1, cells := 0, slots := 0, locals := 23 } : Room)
def E_PM_clear (p : Program) (l : Launch) (e : Env) (s : State) (m : MethodId) (args : Array Value) (below : List Frame) (meth : Method) (c : Code) (Q : State → Prop) (A : Nat → Prop) (D : va_G) (cI cL cZ : ClassId) (a_this : Nat) (a_in : Nat) (a_counts : Nat) (o_out : Nat) (o_codes : Nat) (o_tree : Nat) (o_writer : Nat) (o_reader : Nat) (o_streams : Nat) (o_in_words : Nat) (i_in_room : Int32) (i_in_held : Int32) (i_in_many : Int32) (res : Int32 × Int32 × (Nat → Int32)) : Prop := ∀ (pc : Nat) (H : Heap) (locs : List Loc) (ls : Array Slot) (i_place : Int32) (i_in_used : Int32) (v_counts : Nat → Int32), some (i_place, i_in_used, v_counts) = some res → decode b_PM_clear pc = .ok (.return_, 1) → va_P D classes [(a_this, .inr (0, [.ref a_in, .ref o_out, .ref a_counts, .ref o_codes, .ref o_tree, .ref o_writer, .ref o_reader, .ref o_streams, .int i_place])), (a_in, .inr (5, [.ref o_in_words, .int i_in_room, .int i_in_used, .int i_in_held, .int i_in_many])), (a_counts, .inl (cI, 256, .inl v_counts))] H → va_D A [(a_this, .inr (0, [.ref a_in, .ref o_out, .ref a_counts, .ref o_codes, .ref o_tree, .ref o_writer, .ref o_reader, .ref o_streams, .int i_place])), (a_in, .inr (5, [.ref o_in_words, .int i_in_room, .int i_in_used, .int i_in_held, .int i_in_many])), (a_counts, .inl (cI, 256, .inl v_counts))] → va_S A s.heap H locs → W p l e R_PM_clear s m args below meth c H locs 0 0 Q (F0 m pc ls [])
def I_PM_clear_b0 (p : Program) (l : Launch) (e : Env) (s : State) (m : MethodId) (args : Array Value) (below : List Frame) (meth : Method) (c : Code) (Q : State → Prop) (A : Nat → Prop) (D : va_G) (cI cL cZ : ClassId) (a_this : Nat) (a_in : Nat) (a_counts : Nat) (o_out : Nat) (o_codes : Nat) (o_tree : Nat) (o_writer : Nat) (o_reader : Nat) (o_streams : Nat) (o_in_words : Nat) (i_in_room : Int32) (i_in_held : Int32) (i_in_many : Int32) (res : Int32 × Int32 × (Nat → Int32)) (kf : Int32 → Int32 → (Nat → Int32) → Option (Int32 × Int32 × (Nat → Int32))) : Prop := ∀ (i_place : Int32) (i_in_used : Int32) (v_counts : Nat → Int32), kf i_place i_in_used v_counts = some res → ∀ (H : Heap) (locs : List Loc) (ls : Array Slot), lv_has ls 1 [(0, .ref a_this)] → va_P D classes [(a_this, .inr (0, [.ref a_in, .ref o_out, .ref a_counts, .ref o_codes, .ref o_tree, .ref o_writer, .ref o_reader, .ref o_streams, .int i_place])), (a_in, .inr (5, [.ref o_in_words, .int i_in_room, .int i_in_used, .int i_in_held, .int i_in_many])), (a_counts, .inl (cI, 256, .inl v_counts))] H → va_D A [(a_this, .inr (0, [.ref a_in, .ref o_out, .ref a_counts, .ref o_codes, .ref o_tree, .ref o_writer, .ref o_reader, .ref o_streams, .int i_place])), (a_in, .inr (5, [.ref o_in_words, .int i_in_room, .int i_in_used, .int i_in_held, .int i_in_many])), (a_counts, .inl (cI, 256, .inl v_counts))] → va_S A s.heap H locs → W p l e R_PM_clear s m args below meth c H locs 0 0 Q (F0 m 0 ls [])
set_option maxHeartbeats 4000000 in
set_option maxRecDepth 100000 in
theorem w_PM_clear_b0 {p : Program} {l : Launch} {e : Env} {s : State} {m : MethodId} {args : Array Value} {below : List Frame} {meth : Method} {c : Code} {Q : State → Prop} {A : Nat → Prop} {D : va_G} {cI cL cZ : ClassId} {a_this : Nat} {a_in : Nat} {a_counts : Nat} {o_out : Nat} {o_codes : Nat} {o_tree : Nat} {o_writer : Nat} {o_reader : Nat} {o_streams : Nat} {o_in_words : Nat} {i_in_room : Int32} {i_in_held : Int32} {i_in_many : Int32} {N : Nat} {res : Int32 × Int32 × (Nat → Int32)}  (C : Cx p s m args c b_PM_clear 1 "PrefixMill" D [(cI, .int), (cL, .long), (cZ, .boolean)] A) (hret : E_PM_clear p l e s m args below meth c Q A D cI cL cZ a_this a_in a_counts o_out o_codes o_tree o_writer o_reader o_streams o_in_words i_in_room i_in_held i_in_many res)  : I_PM_clear_b0 p l e s m args below meth c Q A D cI cL cZ a_this a_in a_counts o_out o_codes o_tree o_writer o_reader o_streams o_in_words i_in_room i_in_held i_in_many res (f_PM_clear N  ) := by
  obtain ⟨hx, hb, hml, hown, hts, hK, hA⟩ := C
  intro i_place i_in_used v_counts h H locs ls hl hP hD hS
  unfold f_PM_clear at h
  refine lv_aload_n hx hb d_PM_clear_0 rfl (lv_at hl 0 rfl) ?_
  refine va_get hx hb hts in_PM hown hK hP 0 rfl rfl 0 (by decide) (hts _ m_340) (fun _ h9 => h9) rfl d_PM_clear_1 ?_
  obtain ⟨i_in_used_1, hc_2, h⟩ := bd1_s h
  have hPc := hP.sub (ws' := [(a_in, .inr (5, [.ref o_in_words, .int i_in_room, .int i_in_used, .int i_in_held, .int i_in_many]))]) [1] rfl
  have hDc := hD.sub (ws' := [(a_in, .inr (5, [.ref o_in_words, .int i_in_room, .int i_in_used, .int i_in_held, .int i_in_many]))]) [1] (by decide) rfl
  have hFc := va_free (wc := [(a_in, .inr (5, [.ref o_in_words, .int i_in_room, .int i_in_used, .int i_in_held, .int i_in_many]))]) hD hS hA [1] rfl
  refine va_callv (va_runV (As := []) (rest := []) ⟨hx, hb, hml, hown, hts⟩ (c_Row_empty l D cI cL cZ H.size N a_in o_in_words i_in_room i_in_used i_in_held i_in_many i_in_used_1 hc_2) ⟨(my_cb 0 hts m_407 rfl rfl (hts _ m_67) (hts _ m_404) (by decide +kernel) ⟨Nat.le_of_ble_eq_true rfl, Nat.le_of_ble_eq_true rfl⟩), hts _ m_405, hts _ m_406⟩ ⟨fun a U g mk q => by obtain ⟨q0, q1, qP, qK, qD⟩ := q; exact ⟨q0, q1, qP, va_K.moved (u := U) (U := U.calling g mk a) (Vm.Alike.refl U.vm) qK, qD⟩, va_recv hK hPc (ci := 5) (q0 := 0) rfl rfl, fun U hU hW => ⟨rfl, by rw [hU], by rw [hU]; exact hPc, va_K.moved hW.alike hK, hDc.weaken (fun _ _ _ _ => trivial)⟩⟩ rfl rfl hl.1 rfl (lv_room (Nat.le_of_ble_eq_true rfl)) d_PM_clear_4 ⟨Nat.zero_le _, Nat.zero_le _⟩) hS (fun q _ h => hFc q h) hFc (fun u t H1 locs ht hvm hw hB hz1 hk1 hS => ?_)
  obtain ⟨hP1, hK1, hD1⟩ := hB
  rw [ht] at hP1
  obtain ⟨hP, hD⟩ := va_join (wr := [(a_this, .inr (0, [.ref a_in, .ref o_out, .ref a_counts, .ref o_codes, .ref o_tree, .ref o_writer, .ref o_reader, .ref o_streams, .int i_place])), (a_counts, .inl (cI, 256, .inl v_counts))]) (w1 := [(a_in, .inr (5, [.ref o_in_words, .int i_in_room, .int i_in_used_1, .int i_in_held, .int i_in_many]))]) hP hD [1] [0, 2] rfl rfl (by decide) (by decide) hk1 hFc hP1 hD1
  clear hPc hDc hFc hk1 hP1 hD1 hK1
  generalize H1 = H at hP hS ⊢
  have hP : va_P D classes [(a_this, .inr (0, [.ref a_in, .ref o_out, .ref a_counts, .ref o_codes, .ref o_tree, .ref o_writer, .ref o_reader, .ref o_streams, .int i_place])), (a_in, .inr (5, [.ref o_in_words, .int i_in_room, .int i_in_used_1, .int i_in_held, .int i_in_many])), (a_counts, .inl (cI, 256, .inl v_counts))] H := hP.sub [0, 2, 1] rfl
  have hD : va_D A [(a_this, .inr (0, [.ref a_in, .ref o_out, .ref a_counts, .ref o_codes, .ref o_tree, .ref o_writer, .ref o_reader, .ref o_streams, .int i_place])), (a_in, .inr (5, [.ref o_in_words, .int i_in_room, .int i_in_used_1, .int i_in_held, .int i_in_many])), (a_counts, .inl (cI, 256, .inl v_counts))] := hD.sub [0, 2, 1] (by decide) rfl
  refine lv_aload_n hx hb d_PM_clear_7 rfl (lv_at hl 0 rfl) ?_
  refine lv_iconst (v := 0) hx hb d_PM_clear_8 (by decide) ?_
  refine va_put (v := .int 0) (ty := .int) hx hb hts in_PM t_PM t_PM_ok n_PM hown hK hP hD hS 0 rfl rfl 8 (by decide) (hts _ m_348) (fun _ h9 => h9) rfl (by decide +kernel) rfl rfl (Nat.le_of_ble_eq_true rfl) d_PM_clear_9 (fun H locs hP hD hS => ?_)
  have hP : va_P D classes [(a_this, .inr (0, [.ref a_in, .ref o_out, .ref a_counts, .ref o_codes, .ref o_tree, .ref o_writer, .ref o_reader, .ref o_streams, .int 0])), (a_in, .inr (5, [.ref o_in_words, .int i_in_room, .int i_in_used_1, .int i_in_held, .int i_in_many])), (a_counts, .inl (cI, 256, .inl v_counts))] H := by exact hP
  have hD : va_D A [(a_this, .inr (0, [.ref a_in, .ref o_out, .ref a_counts, .ref o_codes, .ref o_tree, .ref o_writer, .ref o_reader, .ref o_streams, .int 0])), (a_in, .inr (5, [.ref o_in_words, .int i_in_room, .int i_in_used_1, .int i_in_held, .int i_in_many])), (a_counts, .inl (cI, 256, .inl v_counts))] := by exact hD
  refine lv_aload_n hx hb d_PM_clear_12 rfl (lv_at hl 0 rfl) ?_
  refine va_get hx hb hts in_PM hown hK hP 0 rfl rfl 2 (by decide) (hts _ m_342) (fun _ h9 => h9) rfl d_PM_clear_13 ?_
  refine lv_iconst (v := 0) hx hb d_PM_clear_16 (by decide) ?_
  obtain ⟨v_counts_3, hc_4, h⟩ := bd1_s h
  have hPc := hP.sub (ws' := [(a_counts, .inl (cI, 256, .inl v_counts))]) [2] rfl
  have hDc := hD.sub (ws' := [(a_counts, .inl (cI, 256, .inl v_counts))]) [2] (by decide) rfl
  have hFc := va_free (wc := [(a_counts, .inl (cI, 256, .inl v_counts))]) hD hS hA [2] rfl
  refine va_callv (va_runS (As := [.ref a_counts, .int 0]) (rest := []) ⟨hx, hb, hml, hown, hts⟩ (c_JArr_fill l D cI cL cZ H.size N a_counts 256 v_counts 0 v_counts_3 hc_4) ⟨(my_cb 2 hts m_410 rfl rfl (hts _ m_79) (hts _ m_408) (by decide +kernel) ⟨Nat.le_of_ble_eq_true rfl, Nat.le_of_ble_eq_true rfl⟩), hts _ m_409⟩ ⟨fun a U g mk q => by obtain ⟨q0, q1, qP, qK, qD⟩ := q; exact ⟨q0, q1, qP, va_K.moved (u := U) (U := U.calling g mk a) (Vm.Alike.refl U.vm) qK, qD⟩, fun U hU hW => ⟨rfl, by rw [hU], by rw [hU]; exact hPc, va_K.moved hW.alike hK, hDc.weaken (fun _ _ _ _ => trivial)⟩⟩ rfl rfl hl.1 rfl (lv_room (Nat.le_of_ble_eq_true rfl)) d_PM_clear_17 ⟨Nat.zero_le _, Nat.zero_le _⟩) hS (fun q _ h => hFc q h) hFc (fun u t H1 locs ht hvm hw hB hz1 hk1 hS => ?_)
  obtain ⟨hP1, hK1, hD1⟩ := hB
  rw [ht] at hP1
  obtain ⟨hP, hD⟩ := va_join (wr := [(a_this, .inr (0, [.ref a_in, .ref o_out, .ref a_counts, .ref o_codes, .ref o_tree, .ref o_writer, .ref o_reader, .ref o_streams, .int 0])), (a_in, .inr (5, [.ref o_in_words, .int i_in_room, .int i_in_used_1, .int i_in_held, .int i_in_many]))]) (w1 := [(a_counts, .inl (cI, 256, .inl v_counts_3))]) hP hD [2] [0, 1] rfl rfl (by decide) (by decide) hk1 hFc hP1 hD1
  clear hPc hDc hFc hk1 hP1 hD1 hK1
  generalize H1 = H at hP hS ⊢
  have hP : va_P D classes [(a_this, .inr (0, [.ref a_in, .ref o_out, .ref a_counts, .ref o_codes, .ref o_tree, .ref o_writer, .ref o_reader, .ref o_streams, .int 0])), (a_in, .inr (5, [.ref o_in_words, .int i_in_room, .int i_in_used_1, .int i_in_held, .int i_in_many])), (a_counts, .inl (cI, 256, .inl v_counts_3))] H := hP.sub [0, 1, 2] rfl
  have hD : va_D A [(a_this, .inr (0, [.ref a_in, .ref o_out, .ref a_counts, .ref o_codes, .ref o_tree, .ref o_writer, .ref o_reader, .ref o_streams, .int 0])), (a_in, .inr (5, [.ref o_in_words, .int i_in_room, .int i_in_used_1, .int i_in_held, .int i_in_many])), (a_counts, .inl (cI, 256, .inl v_counts_3))] := hD.sub [0, 1, 2] (by decide) rfl
  exact hret _ _ _ _ 0 i_in_used_1 v_counts_3 h d_PM_clear_20 hP hD hS
set_option maxHeartbeats 4000000 in
set_option maxRecDepth 100000 in
theorem c_PM_clear (l : Launch) (D : va_G) (cI cL cZ : ClassId) (sz N : Nat) (a_this : Nat) (a_in : Nat) (a_counts : Nat) (o_out : Nat) (o_codes : Nat) (o_tree : Nat) (o_writer : Nat) (o_reader : Nat) (o_streams : Nat) (o_in_words : Nat) (i_place : Int32) (i_in_room : Int32) (i_in_used : Int32) (i_in_held : Int32) (i_in_many : Int32) (v_counts : Nat → Int32) (i_place' : Int32) (i_in_used' : Int32) (v_counts' : Nat → Int32) (h : f_PM_clear N  i_place i_in_used v_counts = some (i_place', i_in_used', v_counts')) : Met l ({ cls := "PrefixMill", name := "clear", desc := "()V" } : Jvm.MethodName) ws_PM_clear R_PM_clear (va_Pc [.ref a_this] (fun U => U.heap.size = sz ∧ va_P D classes [(a_this, .inr (0, [.ref a_in, .ref o_out, .ref a_counts, .ref o_codes, .ref o_tree, .ref o_writer, .ref o_reader, .ref o_streams, .int i_place])), (a_in, .inr (5, [.ref o_in_words, .int i_in_room, .int i_in_used, .int i_in_held, .int i_in_many])), (a_counts, .inl (cI, 256, .inl v_counts))] U.heap ∧ va_K D classes [(cI, .int), (cL, .long), (cZ, .boolean)] U ∧ va_D (fun _ => True) [(a_this, .inr (0, [.ref a_in, .ref o_out, .ref a_counts, .ref o_codes, .ref o_tree, .ref o_writer, .ref o_reader, .ref o_streams, .int i_place])), (a_in, .inr (5, [.ref o_in_words, .int i_in_room, .int i_in_used, .int i_in_held, .int i_in_many])), (a_counts, .inl (cI, 256, .inl v_counts))])) (va_Qv (fun _ : Unit => True) (fun _ t => va_P D classes [(a_this, .inr (0, [.ref a_in, .ref o_out, .ref a_counts, .ref o_codes, .ref o_tree, .ref o_writer, .ref o_reader, .ref o_streams, .int i_place'])), (a_in, .inr (5, [.ref o_in_words, .int i_in_room, .int i_in_used', .int i_in_held, .int i_in_many])), (a_counts, .inl (cI, 256, .inl v_counts'))] t.heap ∧ va_K D classes [(cI, .int), (cL, .long), (cZ, .boolean)] t ∧ va_D (va_A [(a_this, .inr (0, [.ref a_in, .ref o_out, .ref a_counts, .ref o_codes, .ref o_tree, .ref o_writer, .ref o_reader, .ref o_streams, .int i_place])), (a_in, .inr (5, [.ref o_in_words, .int i_in_room, .int i_in_used, .int i_in_held, .int i_in_many])), (a_counts, .inl (cI, 256, .inl v_counts))] sz) [(a_this, .inr (0, [.ref a_in, .ref o_out, .ref a_counts, .ref o_codes, .ref o_tree, .ref o_writer, .ref o_reader, .ref o_streams, .int i_place'])), (a_in, .inr (5, [.ref o_in_words, .int i_in_room, .int i_in_used', .int i_in_held, .int i_in_many])), (a_counts, .inl (cI, 256, .inl v_counts'))]) (va_A [(a_this, .inr (0, [.ref a_in, .ref o_out, .ref a_counts, .ref o_codes, .ref o_tree, .ref o_writer, .ref o_reader, .ref o_streams, .int i_place])), (a_in, .inr (5, [.ref o_in_words, .int i_in_room, .int i_in_used, .int i_in_held, .int i_in_many])), (a_counts, .inl (cI, 256, .inl v_counts))] sz)) 0 0 (va_A [(a_this, .inr (0, [.ref a_in, .ref o_out, .ref a_counts, .ref o_codes, .ref o_tree, .ref o_writer, .ref o_reader, .ref o_streams, .int i_place])), (a_in, .inr (5, [.ref o_in_words, .int i_in_room, .int i_in_used, .int i_in_held, .int i_in_many])), (a_counts, .inl (cI, 256, .inl v_counts))] sz) := by
  refine Met.ofW (cc := b_PM_clear) (maxL := 1) (ret := none) (by decide) rfl ?_
  intro p e s m args below meth c s₁ B hml hv
  obtain ⟨rfl, hsz, hP, hK, hD0⟩ := hv
  have hx := B.exec
  have hb := B.bytes
  have hr := B.returns
  have hts0 := atoms_spec (ws := ws_PM_clear) B.pre
  have hts := gd_tl hts0
  clear hts0
  have hown : s.vm.findClass "PrefixMill" = some m.cls := findClass_of_methodNamed B.named
  have hlocks := B.notSynchronized
  subst hsz
  have hD := hD0.self (sz := s.heap.size)
  generalize hAe : va_A [(a_this, .inr (0, [.ref a_in, .ref o_out, .ref a_counts, .ref o_codes, .ref o_tree, .ref o_writer, .ref o_reader, .ref o_streams, .int i_place])), (a_in, .inr (5, [.ref o_in_words, .int i_in_room, .int i_in_used, .int i_in_held, .int i_in_many])), (a_counts, .inl (cI, 256, .inl v_counts))] s.heap.size = A at hD ⊢
  have hA : ∀ q : Nat, s.heap.size ≤ q → A q := fun q h => by rw [← hAe]; exact Or.inr h
  have hS : va_S A s.heap s.heap [] := va_S.rf
  have hP : va_P D classes [(a_this, .inr (0, [.ref a_in, .ref o_out, .ref a_counts, .ref o_codes, .ref o_tree, .ref o_writer, .ref o_reader, .ref o_streams, .int i_place])), (a_in, .inr (5, [.ref o_in_words, .int i_in_room, .int i_in_used, .int i_in_held, .int i_in_many])), (a_counts, .inl (cI, 256, .inl v_counts))] s.heap := hP
  have hl := lv_entry ([.ref a_this]) (n := 1) (Nat.le_of_ble_eq_true rfl)
  rw [lg_entry_eq]
  generalize (lg_sl ([.ref a_this]) ++ List.replicate (1 - (lg_sl ([.ref a_this])).length) Slot.unset).toArray = ls at hl ⊢
  have hl : lv_has ls 1 [(0, .ref a_this)] := hl
  have C : Cx p s m ([.ref a_this] : List Value).toArray c b_PM_clear 1 "PrefixMill" D [(cI, .int), (cL, .long), (cZ, .boolean)] A := ⟨hx, hb, hml, hown, hts, hK, hA⟩
  refine w_PM_clear_b0 (res := (i_place', i_in_used', v_counts')) C ?_ _ _ _ h s.heap [] ls hl hP hD hS
  intro pc9 H9 locs9 ls9 i_place9 i_in_used9 v_counts9 e9 d9 hP9 hD9 hS9
  cases e9
  exact W.vret hx hb hr (fun t ht hW => ⟨⟨(), rfl, trivial, by rw [ht]; exact hP9, va_K.moved hW.alike hK, hD9⟩, hS9.F ht⟩) hS9.2.2 d9
abbrev b_PM_place : ByteArray := prog_1_method_6_code
def ws_PM_place : List Cond := .code ({ cls := "PrefixMill", name := "place", desc := "(I)Z" } : Jvm.MethodName) b_PM_place 2 (some .boolean) :: tt
theorem d_PM_place_0 : decode b_PM_place 0 = .ok (.iload_n 1, 1) := by decide +kernel
theorem d_PM_place_1 : decode b_PM_place 1 = .ok (.ifCond .lt 14, 3) := by decide +kernel
theorem d_PM_place_4 : decode b_PM_place 4 = .ok (.iload_n 1, 1) := by decide +kernel
theorem d_PM_place_5 : decode b_PM_place 5 = .ok (.aload_n 0, 1) := by decide +kernel
theorem d_PM_place_6 : decode b_PM_place 6 = .ok (.getfield 14, 3) := by decide +kernel
theorem d_PM_place_9 : decode b_PM_place 9 = .ok (.getfield 64, 3) := by decide +kernel
theorem d_PM_place_12 : decode b_PM_place 12 = .ok (.if_icmp .le 5, 3) := by decide +kernel
theorem d_PM_place_15 : decode b_PM_place 15 = .ok (.iconst 0, 1) := by decide +kernel
theorem d_PM_place_16 : decode b_PM_place 16 = .ok (.ireturn, 1) := by decide +kernel
theorem d_PM_place_17 : decode b_PM_place 17 = .ok (.aload_n 0, 1) := by decide +kernel
theorem d_PM_place_18 : decode b_PM_place 18 = .ok (.iload_n 1, 1) := by decide +kernel
theorem d_PM_place_19 : decode b_PM_place 19 = .ok (.putfield 60, 3) := by decide +kernel
theorem d_PM_place_22 : decode b_PM_place 22 = .ok (.iconst 1, 1) := by decide +kernel
theorem d_PM_place_23 : decode b_PM_place 23 = .ok (.ireturn, 1) := by decide +kernel
def f_PM_place_b15 (N : Nat) (i_in_used : Int32) (l1 : Int32)  (i_place : Int32) : Option (Int32 × Int32) :=
  some (0, i_place)
def f_PM_place (N : Nat) (i_in_used : Int32) (l1 : Int32)  (i_place : Int32) : Option (Int32 × Int32) :=
  if l1 < 0 then
  f_PM_place_b15 N i_in_used l1  i_place
  else
  if l1 ≤ i_in_used then
  some (1, l1)
  else
  f_PM_place_b15 N i_in_used l1  i_place
abbrev R_PM_place : Room := ({ frames := 0, cells := 0, slots := 0, locals := 0 } : Room)
def E_PM_place (p : Program) (l : Launch) (e : Env) (s : State) (m : MethodId) (args : Array Value) (below : List Frame) (meth : Method) (c : Code) (Q : State → Prop) (A : Nat → Prop) (D : va_G) (cI cL cZ : ClassId) (a_this : Nat) (a_in : Nat) (o_out : Nat) (o_counts : Nat) (o_codes : Nat) (o_tree : Nat) (o_writer : Nat) (o_reader : Nat) (o_streams : Nat) (o_in_words : Nat) (i_in_room : Int32) (i_in_used : Int32) (i_in_held : Int32) (i_in_many : Int32) (l1 : Int32) (res : Int32 × Int32) : Prop := ∀ (pc : Nat) (H : Heap) (locs : List Loc) (ls : Array Slot) (rv : Int32) (i_place : Int32), some (rv, i_place) = some res → narrow .boolean (.int rv) = .int rv → decode b_PM_place pc = .ok (.ireturn, 1) → va_P D classes [(a_this, .inr (0, [.ref a_in, .ref o_out, .ref o_counts, .ref o_codes, .ref o_tree, .ref o_writer, .ref o_reader, .ref o_streams, .int i_place])), (a_in, .inr (5, [.ref o_in_words, .int i_in_room, .int i_in_used, .int i_in_held, .int i_in_many]))] H → va_D A [(a_this, .inr (0, [.ref a_in, .ref o_out, .ref o_counts, .ref o_codes, .ref o_tree, .ref o_writer, .ref o_reader, .ref o_streams, .int i_place])), (a_in, .inr (5, [.ref o_in_words, .int i_in_room, .int i_in_used, .int i_in_held, .int i_in_many]))] → va_S A s.heap H locs → W p l e R_PM_place s m args below meth c H locs 0 0 Q (F0 m pc ls [.int rv])
def I_PM_place_b15 (p : Program) (l : Launch) (e : Env) (s : State) (m : MethodId) (args : Array Value) (below : List Frame) (meth : Method) (c : Code) (Q : State → Prop) (A : Nat → Prop) (D : va_G) (cI cL cZ : ClassId) (a_this : Nat) (a_in : Nat) (o_out : Nat) (o_counts : Nat) (o_codes : Nat) (o_tree : Nat) (o_writer : Nat) (o_reader : Nat) (o_streams : Nat) (o_in_words : Nat) (i_in_room : Int32) (i_in_used : Int32) (i_in_held : Int32) (i_in_many : Int32) (l1 : Int32) (res : Int32 × Int32) (kf : Int32 → Option (Int32 × Int32)) : Prop := ∀ (i_place : Int32), kf i_place = some res → ∀ (H : Heap) (locs : List Loc) (ls : Array Slot), lv_has ls 2 [] → va_P D classes [(a_this, .inr (0, [.ref a_in, .ref o_out, .ref o_counts, .ref o_codes, .ref o_tree, .ref o_writer, .ref o_reader, .ref o_streams, .int i_place])), (a_in, .inr (5, [.ref o_in_words, .int i_in_room, .int i_in_used, .int i_in_held, .int i_in_many]))] H → va_D A [(a_this, .inr (0, [.ref a_in, .ref o_out, .ref o_counts, .ref o_codes, .ref o_tree, .ref o_writer, .ref o_reader, .ref o_streams, .int i_place])), (a_in, .inr (5, [.ref o_in_words, .int i_in_room, .int i_in_used, .int i_in_held, .int i_in_many]))] → va_S A s.heap H locs → W p l e R_PM_place s m args below meth c H locs 0 0 Q (F0 m 15 ls [])
def I_PM_place_b0 (p : Program) (l : Launch) (e : Env) (s : State) (m : MethodId) (args : Array Value) (below : List Frame) (meth : Method) (c : Code) (Q : State → Prop) (A : Nat → Prop) (D : va_G) (cI cL cZ : ClassId) (a_this : Nat) (a_in : Nat) (o_out : Nat) (o_counts : Nat) (o_codes : Nat) (o_tree : Nat) (o_writer : Nat) (o_reader : Nat) (o_streams : Nat) (o_in_words : Nat) (i_in_room : Int32) (i_in_used : Int32) (i_in_held : Int32) (i_in_many : Int32) (l1 : Int32) (res : Int32 × Int32) (kf : Int32 → Option (Int32 × Int32)) : Prop := ∀ (i_place : Int32), kf i_place = some res → ∀ (H : Heap) (locs : List Loc) (ls : Array Slot), lv_has ls 2 [(0, .ref a_this), (1, .int l1)] → va_P D classes [(a_this, .inr (0, [.ref a_in, .ref o_out, .ref o_counts, .ref o_codes, .ref o_tree, .ref o_writer, .ref o_reader, .ref o_streams, .int i_place])), (a_in, .inr (5, [.ref o_in_words, .int i_in_room, .int i_in_used, .int i_in_held, .int i_in_many]))] H → va_D A [(a_this, .inr (0, [.ref a_in, .ref o_out, .ref o_counts, .ref o_codes, .ref o_tree, .ref o_writer, .ref o_reader, .ref o_streams, .int i_place])), (a_in, .inr (5, [.ref o_in_words, .int i_in_room, .int i_in_used, .int i_in_held, .int i_in_many]))] → va_S A s.heap H locs → W p l e R_PM_place s m args below meth c H locs 0 0 Q (F0 m 0 ls [])
set_option maxHeartbeats 4000000 in
set_option maxRecDepth 100000 in
theorem w_PM_place_b15 {p : Program} {l : Launch} {e : Env} {s : State} {m : MethodId} {args : Array Value} {below : List Frame} {meth : Method} {c : Code} {Q : State → Prop} {A : Nat → Prop} {D : va_G} {cI cL cZ : ClassId} {a_this : Nat} {a_in : Nat} {o_out : Nat} {o_counts : Nat} {o_codes : Nat} {o_tree : Nat} {o_writer : Nat} {o_reader : Nat} {o_streams : Nat} {o_in_words : Nat} {i_in_room : Int32} {i_in_used : Int32} {i_in_held : Int32} {i_in_many : Int32} {l1 : Int32} {N : Nat} {res : Int32 × Int32}  (C : Cx p s m args c b_PM_place 2 "PrefixMill" D [(cI, .int), (cL, .long), (cZ, .boolean)] A) (hret : E_PM_place p l e s m args below meth c Q A D cI cL cZ a_this a_in o_out o_counts o_codes o_tree o_writer o_reader o_streams o_in_words i_in_room i_in_used i_in_held i_in_many l1 res)  : I_PM_place_b15 p l e s m args below meth c Q A D cI cL cZ a_this a_in o_out o_counts o_codes o_tree o_writer o_reader o_streams o_in_words i_in_room i_in_used i_in_held i_in_many l1 res (f_PM_place_b15 N i_in_used l1 ) := by
  obtain ⟨hx, hb, hml, hown, hts, hK, hA⟩ := C
  intro i_place h H locs ls hl hP hD hS
  unfold f_PM_place_b15 at h
  refine lv_iconst (v := 0) hx hb d_PM_place_15 (by decide) ?_
  exact hret _ _ _ _ 0 i_place h rfl d_PM_place_16 hP hD hS
set_option maxHeartbeats 4000000 in
set_option maxRecDepth 100000 in
theorem w_PM_place_b0 {p : Program} {l : Launch} {e : Env} {s : State} {m : MethodId} {args : Array Value} {below : List Frame} {meth : Method} {c : Code} {Q : State → Prop} {A : Nat → Prop} {D : va_G} {cI cL cZ : ClassId} {a_this : Nat} {a_in : Nat} {o_out : Nat} {o_counts : Nat} {o_codes : Nat} {o_tree : Nat} {o_writer : Nat} {o_reader : Nat} {o_streams : Nat} {o_in_words : Nat} {i_in_room : Int32} {i_in_used : Int32} {i_in_held : Int32} {i_in_many : Int32} {l1 : Int32} {N : Nat} {res : Int32 × Int32}  (C : Cx p s m args c b_PM_place 2 "PrefixMill" D [(cI, .int), (cL, .long), (cZ, .boolean)] A) (hret : E_PM_place p l e s m args below meth c Q A D cI cL cZ a_this a_in o_out o_counts o_codes o_tree o_writer o_reader o_streams o_in_words i_in_room i_in_used i_in_held i_in_many l1 res)  : I_PM_place_b0 p l e s m args below meth c Q A D cI cL cZ a_this a_in o_out o_counts o_codes o_tree o_writer o_reader o_streams o_in_words i_in_room i_in_used i_in_held i_in_many l1 res (f_PM_place N i_in_used l1 ) := by
  obtain ⟨hx, hb, hml, hown, hts, hK, hA⟩ := C
  intro i_place h H locs ls hl hP hD hS
  unfold f_PM_place at h
  refine lv_iload_n hx hb d_PM_place_0 rfl (lv_at hl 1 rfl) ?_
  refine lv_if_lt (tgt := 15) hx hb d_PM_place_1 (by decide) (fun c_1 => ?_) (fun c_1 => ?_)
  · replace h := if_t h c_1
    exact w_PM_place_b15 ⟨hx, hb, hml, hown, hts, hK, hA⟩ hret  _ h H locs ls (lv_sub hl [] rfl) hP hD hS
  · replace h := if_f h c_1
    refine lv_iload_n hx hb d_PM_place_4 rfl (lv_at hl 1 rfl) ?_
    refine lv_aload_n hx hb d_PM_place_5 rfl (lv_at hl 0 rfl) ?_
    refine va_get hx hb hts in_PM hown hK hP 0 rfl rfl 0 (by decide) (hts _ m_340) (fun _ h9 => h9) rfl d_PM_place_6 ?_
    refine va_getN hx hb hts in_Row hown hK hP 1 rfl rfl 2 (by decide) (hts _ m_97) (fun _ h9 => h9) rfl d_PM_place_9 ?_
    refine lv_icmp_le (tgt := 17) hx hb d_PM_place_12 (by decide) (fun c_2 => ?_) (fun c_2 => ?_)
    · replace h := if_t h c_2
      refine lv_aload_n hx hb d_PM_place_17 rfl (lv_at hl 0 rfl) ?_
      refine lv_iload_n hx hb d_PM_place_18 rfl (lv_at hl 1 rfl) ?_
      refine va_put (v := .int l1) (ty := .int) hx hb hts in_PM t_PM t_PM_ok n_PM hown hK hP hD hS 0 rfl rfl 8 (by decide) (hts _ m_348) (fun _ h9 => h9) rfl (by decide +kernel) rfl rfl (Nat.le_of_ble_eq_true rfl) d_PM_place_19 (fun H locs hP hD hS => ?_)
      have hP : va_P D classes [(a_this, .inr (0, [.ref a_in, .ref o_out, .ref o_counts, .ref o_codes, .ref o_tree, .ref o_writer, .ref o_reader, .ref o_streams, .int l1])), (a_in, .inr (5, [.ref o_in_words, .int i_in_room, .int i_in_used, .int i_in_held, .int i_in_many]))] H := by exact hP
      have hD : va_D A [(a_this, .inr (0, [.ref a_in, .ref o_out, .ref o_counts, .ref o_codes, .ref o_tree, .ref o_writer, .ref o_reader, .ref o_streams, .int l1])), (a_in, .inr (5, [.ref o_in_words, .int i_in_room, .int i_in_used, .int i_in_held, .int i_in_many]))] := by exact hD
      refine lv_iconst (v := 1) hx hb d_PM_place_22 (by decide) ?_
      exact hret _ _ _ _ 1 l1 h rfl d_PM_place_23 hP hD hS
    · replace h := if_f h c_2
      exact w_PM_place_b15 ⟨hx, hb, hml, hown, hts, hK, hA⟩ hret  _ h H locs ls (lv_sub hl [] rfl) hP hD hS
set_option maxHeartbeats 4000000 in
set_option maxRecDepth 100000 in
theorem c_PM_place (l : Launch) (D : va_G) (cI cL cZ : ClassId) (sz N : Nat) (a_this : Nat) (a_in : Nat) (o_out : Nat) (o_counts : Nat) (o_codes : Nat) (o_tree : Nat) (o_writer : Nat) (o_reader : Nat) (o_streams : Nat) (o_in_words : Nat) (i_place : Int32) (i_in_room : Int32) (i_in_used : Int32) (i_in_held : Int32) (i_in_many : Int32) (l1 : Int32) (rv : Int32) (i_place' : Int32) (h : f_PM_place N i_in_used l1 i_place = some (rv, i_place')) : Met l ({ cls := "PrefixMill", name := "place", desc := "(I)Z" } : Jvm.MethodName) ws_PM_place R_PM_place (va_Pc [.ref a_this, .int l1] (fun U => U.heap.size = sz ∧ va_P D classes [(a_this, .inr (0, [.ref a_in, .ref o_out, .ref o_counts, .ref o_codes, .ref o_tree, .ref o_writer, .ref o_reader, .ref o_streams, .int i_place])), (a_in, .inr (5, [.ref o_in_words, .int i_in_room, .int i_in_used, .int i_in_held, .int i_in_many]))] U.heap ∧ va_K D classes [(cI, .int), (cL, .long), (cZ, .boolean)] U ∧ va_D (fun _ => True) [(a_this, .inr (0, [.ref a_in, .ref o_out, .ref o_counts, .ref o_codes, .ref o_tree, .ref o_writer, .ref o_reader, .ref o_streams, .int i_place])), (a_in, .inr (5, [.ref o_in_words, .int i_in_room, .int i_in_used, .int i_in_held, .int i_in_many]))])) (va_Qi (fun (r0 : Int32) (_ : Unit) => rv = r0) (fun _ t => va_P D classes [(a_this, .inr (0, [.ref a_in, .ref o_out, .ref o_counts, .ref o_codes, .ref o_tree, .ref o_writer, .ref o_reader, .ref o_streams, .int i_place'])), (a_in, .inr (5, [.ref o_in_words, .int i_in_room, .int i_in_used, .int i_in_held, .int i_in_many]))] t.heap ∧ va_K D classes [(cI, .int), (cL, .long), (cZ, .boolean)] t ∧ va_D (va_A [(a_this, .inr (0, [.ref a_in, .ref o_out, .ref o_counts, .ref o_codes, .ref o_tree, .ref o_writer, .ref o_reader, .ref o_streams, .int i_place])), (a_in, .inr (5, [.ref o_in_words, .int i_in_room, .int i_in_used, .int i_in_held, .int i_in_many]))] sz) [(a_this, .inr (0, [.ref a_in, .ref o_out, .ref o_counts, .ref o_codes, .ref o_tree, .ref o_writer, .ref o_reader, .ref o_streams, .int i_place'])), (a_in, .inr (5, [.ref o_in_words, .int i_in_room, .int i_in_used, .int i_in_held, .int i_in_many]))]) (va_A [(a_this, .inr (0, [.ref a_in, .ref o_out, .ref o_counts, .ref o_codes, .ref o_tree, .ref o_writer, .ref o_reader, .ref o_streams, .int i_place])), (a_in, .inr (5, [.ref o_in_words, .int i_in_room, .int i_in_used, .int i_in_held, .int i_in_many]))] sz)) 0 0 (va_A [(a_this, .inr (0, [.ref a_in, .ref o_out, .ref o_counts, .ref o_codes, .ref o_tree, .ref o_writer, .ref o_reader, .ref o_streams, .int i_place])), (a_in, .inr (5, [.ref o_in_words, .int i_in_room, .int i_in_used, .int i_in_held, .int i_in_many]))] sz) := by
  refine Met.ofW (cc := b_PM_place) (maxL := 2) (ret := (some .boolean)) (by decide) rfl ?_
  intro p e s m args below meth c s₁ B hml hv
  obtain ⟨rfl, hsz, hP, hK, hD0⟩ := hv
  have hx := B.exec
  have hb := B.bytes
  have hr := B.returns
  have hts0 := atoms_spec (ws := ws_PM_place) B.pre
  have hts := gd_tl hts0
  clear hts0
  have hown : s.vm.findClass "PrefixMill" = some m.cls := findClass_of_methodNamed B.named
  have hlocks := B.notSynchronized
  subst hsz
  have hD := hD0.self (sz := s.heap.size)
  generalize hAe : va_A [(a_this, .inr (0, [.ref a_in, .ref o_out, .ref o_counts, .ref o_codes, .ref o_tree, .ref o_writer, .ref o_reader, .ref o_streams, .int i_place])), (a_in, .inr (5, [.ref o_in_words, .int i_in_room, .int i_in_used, .int i_in_held, .int i_in_many]))] s.heap.size = A at hD ⊢
  have hA : ∀ q : Nat, s.heap.size ≤ q → A q := fun q h => by rw [← hAe]; exact Or.inr h
  have hS : va_S A s.heap s.heap [] := va_S.rf
  have hP : va_P D classes [(a_this, .inr (0, [.ref a_in, .ref o_out, .ref o_counts, .ref o_codes, .ref o_tree, .ref o_writer, .ref o_reader, .ref o_streams, .int i_place])), (a_in, .inr (5, [.ref o_in_words, .int i_in_room, .int i_in_used, .int i_in_held, .int i_in_many]))] s.heap := hP
  have hl := lv_entry ([.ref a_this, .int l1]) (n := 2) (Nat.le_of_ble_eq_true rfl)
  rw [lg_entry_eq]
  generalize (lg_sl ([.ref a_this, .int l1]) ++ List.replicate (2 - (lg_sl ([.ref a_this, .int l1])).length) Slot.unset).toArray = ls at hl ⊢
  have hl : lv_has ls 2 [(0, .ref a_this), (1, .int l1)] := hl
  have C : Cx p s m ([.ref a_this, .int l1] : List Value).toArray c b_PM_place 2 "PrefixMill" D [(cI, .int), (cL, .long), (cZ, .boolean)] A := ⟨hx, hb, hml, hown, hts, hK, hA⟩
  refine w_PM_place_b0 (res := (rv, i_place')) C ?_ _ h s.heap [] ls hl hP hD hS
  intro pc9 H9 locs9 ls9 rv9 i_place9 e9 z9 d9 hP9 hD9 hS9
  cases e9
  exact W.zret (v := rv) hx hb hr z9 (fun t ht hW => ⟨⟨rv, (), rfl, rfl, by rw [ht]; exact hP9, va_K.moved hW.alike hK, hD9⟩, hS9.F ht⟩) hS9.2.2 d9
abbrev b_PM_at : ByteArray := prog_1_method_7_code
def ws_PM_at : List Cond := .code ({ cls := "PrefixMill", name := "at", desc := "()I" } : Jvm.MethodName) b_PM_at 1 (some .int) :: tt
theorem d_PM_at_0 : decode b_PM_at 0 = .ok (.aload_n 0, 1) := by decide +kernel
theorem d_PM_at_1 : decode b_PM_at 1 = .ok (.getfield 60, 3) := by decide +kernel
theorem d_PM_at_4 : decode b_PM_at 4 = .ok (.ireturn, 1) := by decide +kernel
def f_PM_at (N : Nat) (i_place : Int32)   : Option (Int32) :=
  some (i_place)
abbrev R_PM_at : Room := ({ frames := 0, cells := 0, slots := 0, locals := 0 } : Room)
def E_PM_at (p : Program) (l : Launch) (e : Env) (s : State) (m : MethodId) (args : Array Value) (below : List Frame) (meth : Method) (c : Code) (Q : State → Prop) (A : Nat → Prop) (D : va_G) (cI cL cZ : ClassId) (a_this : Nat) (o_in : Nat) (o_out : Nat) (o_counts : Nat) (o_codes : Nat) (o_tree : Nat) (o_writer : Nat) (o_reader : Nat) (o_streams : Nat) (i_place : Int32) (res : Int32) : Prop := ∀ (pc : Nat) (H : Heap) (locs : List Loc) (ls : Array Slot) (rv : Int32), some (rv) = some res → decode b_PM_at pc = .ok (.ireturn, 1) → va_P D classes [(a_this, .inr (0, [.ref o_in, .ref o_out, .ref o_counts, .ref o_codes, .ref o_tree, .ref o_writer, .ref o_reader, .ref o_streams, .int i_place]))] H → va_D A [(a_this, .inr (0, [.ref o_in, .ref o_out, .ref o_counts, .ref o_codes, .ref o_tree, .ref o_writer, .ref o_reader, .ref o_streams, .int i_place]))] → va_S A s.heap H locs → W p l e R_PM_at s m args below meth c H locs 0 0 Q (F0 m pc ls [.int rv])
def I_PM_at_b0 (p : Program) (l : Launch) (e : Env) (s : State) (m : MethodId) (args : Array Value) (below : List Frame) (meth : Method) (c : Code) (Q : State → Prop) (A : Nat → Prop) (D : va_G) (cI cL cZ : ClassId) (a_this : Nat) (o_in : Nat) (o_out : Nat) (o_counts : Nat) (o_codes : Nat) (o_tree : Nat) (o_writer : Nat) (o_reader : Nat) (o_streams : Nat) (i_place : Int32) (res : Int32) (kf : Option (Int32)) : Prop := ∀ (_ : Unit), kf  = some res → ∀ (H : Heap) (locs : List Loc) (ls : Array Slot), lv_has ls 1 [(0, .ref a_this)] → va_P D classes [(a_this, .inr (0, [.ref o_in, .ref o_out, .ref o_counts, .ref o_codes, .ref o_tree, .ref o_writer, .ref o_reader, .ref o_streams, .int i_place]))] H → va_D A [(a_this, .inr (0, [.ref o_in, .ref o_out, .ref o_counts, .ref o_codes, .ref o_tree, .ref o_writer, .ref o_reader, .ref o_streams, .int i_place]))] → va_S A s.heap H locs → W p l e R_PM_at s m args below meth c H locs 0 0 Q (F0 m 0 ls [])
set_option maxHeartbeats 4000000 in
set_option maxRecDepth 100000 in
theorem w_PM_at_b0 {p : Program} {l : Launch} {e : Env} {s : State} {m : MethodId} {args : Array Value} {below : List Frame} {meth : Method} {c : Code} {Q : State → Prop} {A : Nat → Prop} {D : va_G} {cI cL cZ : ClassId} {a_this : Nat} {o_in : Nat} {o_out : Nat} {o_counts : Nat} {o_codes : Nat} {o_tree : Nat} {o_writer : Nat} {o_reader : Nat} {o_streams : Nat} {i_place : Int32} {N : Nat} {res : Int32}  (C : Cx p s m args c b_PM_at 1 "PrefixMill" D [(cI, .int), (cL, .long), (cZ, .boolean)] A) (hret : E_PM_at p l e s m args below meth c Q A D cI cL cZ a_this o_in o_out o_counts o_codes o_tree o_writer o_reader o_streams i_place res)  : I_PM_at_b0 p l e s m args below meth c Q A D cI cL cZ a_this o_in o_out o_counts o_codes o_tree o_writer o_reader o_streams i_place res (f_PM_at N i_place ) := by
  obtain ⟨hx, hb, hml, hown, hts, hK, hA⟩ := C
  intro _ h H locs ls hl hP hD hS
  unfold f_PM_at at h
  refine lv_aload_n hx hb d_PM_at_0 rfl (lv_at hl 0 rfl) ?_
  refine va_get hx hb hts in_PM hown hK hP 0 rfl rfl 8 (by decide) (hts _ m_348) (fun _ h9 => h9) rfl d_PM_at_1 ?_
  exact hret _ _ _ _ i_place  h d_PM_at_4 hP hD hS
set_option maxHeartbeats 4000000 in
set_option maxRecDepth 100000 in
theorem c_PM_at (l : Launch) (D : va_G) (cI cL cZ : ClassId) (sz N : Nat) (a_this : Nat) (o_in : Nat) (o_out : Nat) (o_counts : Nat) (o_codes : Nat) (o_tree : Nat) (o_writer : Nat) (o_reader : Nat) (o_streams : Nat) (i_place : Int32) (rv : Int32) (h : f_PM_at N i_place  = some (rv)) : Met l ({ cls := "PrefixMill", name := "at", desc := "()I" } : Jvm.MethodName) ws_PM_at R_PM_at (va_Pc [.ref a_this] (fun U => U.heap.size = sz ∧ va_P D classes [(a_this, .inr (0, [.ref o_in, .ref o_out, .ref o_counts, .ref o_codes, .ref o_tree, .ref o_writer, .ref o_reader, .ref o_streams, .int i_place]))] U.heap ∧ va_K D classes [(cI, .int), (cL, .long), (cZ, .boolean)] U ∧ va_D (fun _ => True) [(a_this, .inr (0, [.ref o_in, .ref o_out, .ref o_counts, .ref o_codes, .ref o_tree, .ref o_writer, .ref o_reader, .ref o_streams, .int i_place]))])) (va_Qi (fun (r0 : Int32) (_ : Unit) => rv = r0) (fun _ t => va_P D classes [(a_this, .inr (0, [.ref o_in, .ref o_out, .ref o_counts, .ref o_codes, .ref o_tree, .ref o_writer, .ref o_reader, .ref o_streams, .int i_place]))] t.heap ∧ va_K D classes [(cI, .int), (cL, .long), (cZ, .boolean)] t ∧ va_D (va_A [(a_this, .inr (0, [.ref o_in, .ref o_out, .ref o_counts, .ref o_codes, .ref o_tree, .ref o_writer, .ref o_reader, .ref o_streams, .int i_place]))] sz) [(a_this, .inr (0, [.ref o_in, .ref o_out, .ref o_counts, .ref o_codes, .ref o_tree, .ref o_writer, .ref o_reader, .ref o_streams, .int i_place]))]) (va_A [(a_this, .inr (0, [.ref o_in, .ref o_out, .ref o_counts, .ref o_codes, .ref o_tree, .ref o_writer, .ref o_reader, .ref o_streams, .int i_place]))] sz)) 0 0 (va_A [(a_this, .inr (0, [.ref o_in, .ref o_out, .ref o_counts, .ref o_codes, .ref o_tree, .ref o_writer, .ref o_reader, .ref o_streams, .int i_place]))] sz) := by
  refine Met.ofW (cc := b_PM_at) (maxL := 1) (ret := (some .int)) (by decide) rfl ?_
  intro p e s m args below meth c s₁ B hml hv
  obtain ⟨rfl, hsz, hP, hK, hD0⟩ := hv
  have hx := B.exec
  have hb := B.bytes
  have hr := B.returns
  have hts0 := atoms_spec (ws := ws_PM_at) B.pre
  have hts := gd_tl hts0
  clear hts0
  have hown : s.vm.findClass "PrefixMill" = some m.cls := findClass_of_methodNamed B.named
  have hlocks := B.notSynchronized
  subst hsz
  have hD := hD0.self (sz := s.heap.size)
  generalize hAe : va_A [(a_this, .inr (0, [.ref o_in, .ref o_out, .ref o_counts, .ref o_codes, .ref o_tree, .ref o_writer, .ref o_reader, .ref o_streams, .int i_place]))] s.heap.size = A at hD ⊢
  have hA : ∀ q : Nat, s.heap.size ≤ q → A q := fun q h => by rw [← hAe]; exact Or.inr h
  have hS : va_S A s.heap s.heap [] := va_S.rf
  have hP : va_P D classes [(a_this, .inr (0, [.ref o_in, .ref o_out, .ref o_counts, .ref o_codes, .ref o_tree, .ref o_writer, .ref o_reader, .ref o_streams, .int i_place]))] s.heap := hP
  have hl := lv_entry ([.ref a_this]) (n := 1) (Nat.le_of_ble_eq_true rfl)
  rw [lg_entry_eq]
  generalize (lg_sl ([.ref a_this]) ++ List.replicate (1 - (lg_sl ([.ref a_this])).length) Slot.unset).toArray = ls at hl ⊢
  have hl : lv_has ls 1 [(0, .ref a_this)] := hl
  have C : Cx p s m ([.ref a_this] : List Value).toArray c b_PM_at 1 "PrefixMill" D [(cI, .int), (cL, .long), (cZ, .boolean)] A := ⟨hx, hb, hml, hown, hts, hK, hA⟩
  refine w_PM_at_b0 (res := (rv)) C ?_ () h s.heap [] ls hl hP hD hS
  intro pc9 H9 locs9 ls9 rv9 e9 d9 hP9 hD9 hS9
  cases e9
  exact W.iret (v := rv) hx hb hr (fun t ht hW => ⟨⟨rv, (), rfl, rfl, by rw [ht]; exact hP9, va_K.moved hW.alike hK, hD9⟩, hS9.F ht⟩) hS9.2.2 d9
abbrev b_PM_isSymbol : ByteArray := prog_1_method_20_code
def ws_PM_isSymbol : List Cond := .code ({ cls := "PrefixMill", name := "isSymbol", desc := "(I)Z" } : Jvm.MethodName) b_PM_isSymbol 1 (some .boolean) :: tt
theorem d_PM_isSymbol_0 : decode b_PM_isSymbol 0 = .ok (.iload_n 0, 1) := by decide +kernel
theorem d_PM_isSymbol_1 : decode b_PM_isSymbol 1 = .ok (.ifCond .lt 14, 3) := by decide +kernel
theorem d_PM_isSymbol_4 : decode b_PM_isSymbol 4 = .ok (.iload_n 0, 1) := by decide +kernel
theorem d_PM_isSymbol_5 : decode b_PM_isSymbol 5 = .ok (.sipush 256, 3) := by decide +kernel
theorem d_PM_isSymbol_8 : decode b_PM_isSymbol 8 = .ok (.if_icmp .ge 7, 3) := by decide +kernel
theorem d_PM_isSymbol_11 : decode b_PM_isSymbol 11 = .ok (.iconst 1, 1) := by decide +kernel
theorem d_PM_isSymbol_12 : decode b_PM_isSymbol 12 = .ok (.goto 4, 3) := by decide +kernel
theorem d_PM_isSymbol_15 : decode b_PM_isSymbol 15 = .ok (.iconst 0, 1) := by decide +kernel
theorem d_PM_isSymbol_16 : decode b_PM_isSymbol 16 = .ok (.ireturn, 1) := by decide +kernel
def f_PM_isSymbol_b15 (N : Nat) (l0 : Int32)   : Option (Int32) :=
  some (0)
def f_PM_isSymbol (N : Nat) (l0 : Int32)   : Option (Int32) :=
  if l0 < 0 then
  f_PM_isSymbol_b15 N l0  
  else
  if 256 ≤ l0 then
  f_PM_isSymbol_b15 N l0  
  else
  some (1)
abbrev R_PM_isSymbol : Room := ({ frames := 0, cells := 0, slots := 0, locals := 0 } : Room)
def E_PM_isSymbol (p : Program) (l : Launch) (e : Env) (s : State) (m : MethodId) (args : Array Value) (below : List Frame) (meth : Method) (c : Code) (Q : State → Prop) (A : Nat → Prop) (D : va_G) (cI cL cZ : ClassId) (l0 : Int32) (res : Int32) : Prop := ∀ (pc : Nat) (H : Heap) (locs : List Loc) (ls : Array Slot) (rv : Int32), some (rv) = some res → narrow .boolean (.int rv) = .int rv → decode b_PM_isSymbol pc = .ok (.ireturn, 1) → va_P D classes [] H → va_D A [] → va_S A s.heap H locs → W p l e R_PM_isSymbol s m args below meth c H locs 0 0 Q (F0 m pc ls [.int rv])
def I_PM_isSymbol_b15 (p : Program) (l : Launch) (e : Env) (s : State) (m : MethodId) (args : Array Value) (below : List Frame) (meth : Method) (c : Code) (Q : State → Prop) (A : Nat → Prop) (D : va_G) (cI cL cZ : ClassId) (l0 : Int32) (res : Int32) (kf : Option (Int32)) : Prop := ∀ (_ : Unit), kf  = some res → ∀ (H : Heap) (locs : List Loc) (ls : Array Slot), lv_has ls 1 [] → va_P D classes [] H → va_D A [] → va_S A s.heap H locs → W p l e R_PM_isSymbol s m args below meth c H locs 0 0 Q (F0 m 15 ls [])
def I_PM_isSymbol_b0 (p : Program) (l : Launch) (e : Env) (s : State) (m : MethodId) (args : Array Value) (below : List Frame) (meth : Method) (c : Code) (Q : State → Prop) (A : Nat → Prop) (D : va_G) (cI cL cZ : ClassId) (l0 : Int32) (res : Int32) (kf : Option (Int32)) : Prop := ∀ (_ : Unit), kf  = some res → ∀ (H : Heap) (locs : List Loc) (ls : Array Slot), lv_has ls 1 [(0, .int l0)] → va_P D classes [] H → va_D A [] → va_S A s.heap H locs → W p l e R_PM_isSymbol s m args below meth c H locs 0 0 Q (F0 m 0 ls [])
set_option maxHeartbeats 4000000 in
set_option maxRecDepth 100000 in
theorem w_PM_isSymbol_b15 {p : Program} {l : Launch} {e : Env} {s : State} {m : MethodId} {args : Array Value} {below : List Frame} {meth : Method} {c : Code} {Q : State → Prop} {A : Nat → Prop} {D : va_G} {cI cL cZ : ClassId} {l0 : Int32} {N : Nat} {res : Int32}  (C : Cx p s m args c b_PM_isSymbol 1 "PrefixMill" D [(cI, .int), (cL, .long), (cZ, .boolean)] A) (hret : E_PM_isSymbol p l e s m args below meth c Q A D cI cL cZ l0 res)  : I_PM_isSymbol_b15 p l e s m args below meth c Q A D cI cL cZ l0 res (f_PM_isSymbol_b15 N l0 ) := by
  obtain ⟨hx, hb, hml, hown, hts, hK, hA⟩ := C
  intro _ h H locs ls hl hP hD hS
  unfold f_PM_isSymbol_b15 at h
  refine lv_iconst (v := 0) hx hb d_PM_isSymbol_15 (by decide) ?_
  exact hret _ _ _ _ 0  h rfl d_PM_isSymbol_16 hP hD hS
set_option maxHeartbeats 4000000 in
set_option maxRecDepth 100000 in
theorem w_PM_isSymbol_b0 {p : Program} {l : Launch} {e : Env} {s : State} {m : MethodId} {args : Array Value} {below : List Frame} {meth : Method} {c : Code} {Q : State → Prop} {A : Nat → Prop} {D : va_G} {cI cL cZ : ClassId} {l0 : Int32} {N : Nat} {res : Int32}  (C : Cx p s m args c b_PM_isSymbol 1 "PrefixMill" D [(cI, .int), (cL, .long), (cZ, .boolean)] A) (hret : E_PM_isSymbol p l e s m args below meth c Q A D cI cL cZ l0 res)  : I_PM_isSymbol_b0 p l e s m args below meth c Q A D cI cL cZ l0 res (f_PM_isSymbol N l0 ) := by
  obtain ⟨hx, hb, hml, hown, hts, hK, hA⟩ := C
  intro _ h H locs ls hl hP hD hS
  unfold f_PM_isSymbol at h
  refine lv_iload_n hx hb d_PM_isSymbol_0 rfl (lv_at hl 0 rfl) ?_
  refine lv_if_lt (tgt := 15) hx hb d_PM_isSymbol_1 (by decide) (fun c_1 => ?_) (fun c_1 => ?_)
  · replace h := if_t h c_1
    exact w_PM_isSymbol_b15 ⟨hx, hb, hml, hown, hts, hK, hA⟩ hret  () h H locs ls (lv_sub hl [] rfl) hP hD hS
  · replace h := if_f h c_1
    refine lv_iload_n hx hb d_PM_isSymbol_4 rfl (lv_at hl 0 rfl) ?_
    refine lv_sipush (v := 256) hx hb d_PM_isSymbol_5 (by decide) ?_
    refine lv_icmp_ge (tgt := 15) hx hb d_PM_isSymbol_8 (by decide) (fun c_2 => ?_) (fun c_2 => ?_)
    · replace h := if_t h c_2
      exact w_PM_isSymbol_b15 ⟨hx, hb, hml, hown, hts, hK, hA⟩ hret  () h H locs ls (lv_sub hl [] rfl) hP hD hS
    · replace h := if_f h c_2
      refine lv_iconst (v := 1) hx hb d_PM_isSymbol_11 (by decide) ?_
      refine lv_goto (tgt := 16) hx hb d_PM_isSymbol_12 (by decide) ?_
      exact hret _ _ _ _ 1  h rfl d_PM_isSymbol_16 hP hD hS
set_option maxHeartbeats 4000000 in
set_option maxRecDepth 100000 in
theorem c_PM_isSymbol (l : Launch) (D : va_G) (cI cL cZ : ClassId) (sz N : Nat) (l0 : Int32) (rv : Int32) (h : f_PM_isSymbol N l0  = some (rv)) : Met l ({ cls := "PrefixMill", name := "isSymbol", desc := "(I)Z" } : Jvm.MethodName) ws_PM_isSymbol R_PM_isSymbol (va_Pc [.int l0] (fun U => U.heap.size = sz ∧ va_P D classes [] U.heap ∧ va_K D classes [(cI, .int), (cL, .long), (cZ, .boolean)] U ∧ va_D (fun _ => True) [])) (va_Qi (fun (r0 : Int32) (_ : Unit) => rv = r0) (fun _ t => va_P D classes [] t.heap ∧ va_K D classes [(cI, .int), (cL, .long), (cZ, .boolean)] t ∧ va_D (va_A [] sz) []) (va_A [] sz)) 0 0 (va_A [] sz) := by
  refine Met.ofW (cc := b_PM_isSymbol) (maxL := 1) (ret := (some .boolean)) (by decide) rfl ?_
  intro p e s m args below meth c s₁ B hml hv
  obtain ⟨rfl, hsz, hP, hK, hD0⟩ := hv
  have hx := B.exec
  have hb := B.bytes
  have hr := B.returns
  have hts0 := atoms_spec (ws := ws_PM_isSymbol) B.pre
  have hts := gd_tl hts0
  clear hts0
  have hown : s.vm.findClass "PrefixMill" = some m.cls := findClass_of_methodNamed B.named
  have hlocks := B.notSynchronized
  subst hsz
  have hD := hD0.self (sz := s.heap.size)
  generalize hAe : va_A [] s.heap.size = A at hD ⊢
  have hA : ∀ q : Nat, s.heap.size ≤ q → A q := fun q h => by rw [← hAe]; exact Or.inr h
  have hS : va_S A s.heap s.heap [] := va_S.rf
  have hP : va_P D classes [] s.heap := hP
  have hl := lv_entry ([.int l0]) (n := 1) (Nat.le_of_ble_eq_true rfl)
  rw [lg_entry_eq]
  generalize (lg_sl ([.int l0]) ++ List.replicate (1 - (lg_sl ([.int l0])).length) Slot.unset).toArray = ls at hl ⊢
  have hl : lv_has ls 1 [(0, .int l0)] := hl
  have C : Cx p s m ([.int l0] : List Value).toArray c b_PM_isSymbol 1 "PrefixMill" D [(cI, .int), (cL, .long), (cZ, .boolean)] A := ⟨hx, hb, hml, hown, hts, hK, hA⟩
  refine w_PM_isSymbol_b0 (res := (rv)) C ?_ () h s.heap [] ls hl hP hD hS
  intro pc9 H9 locs9 ls9 rv9 e9 z9 d9 hP9 hD9 hS9
  cases e9
  exact W.zret (v := rv) hx hb hr z9 (fun t ht hW => ⟨⟨rv, (), rfl, rfl, by rw [ht]; exact hP9, va_K.moved hW.alike hK, hD9⟩, hS9.F ht⟩) hS9.2.2 d9
abbrev b_PM_count : ByteArray := prog_1_method_8_code
def ws_PM_count : List Cond := .code ({ cls := "PrefixMill", name := "count", desc := "(II)Z" } : Jvm.MethodName) b_PM_count 3 (some .boolean) :: tt
theorem d_PM_count_0 : decode b_PM_count 0 = .ok (.iload_n 1, 1) := by decide +kernel
theorem d_PM_count_1 : decode b_PM_count 1 = .ok (.invokestatic 87, 3) := by decide +kernel
theorem d_PM_count_4 : decode b_PM_count 4 = .ok (.ifCond .eq 13, 3) := by decide +kernel
theorem d_PM_count_7 : decode b_PM_count 7 = .ok (.iload_n 2, 1) := by decide +kernel
theorem d_PM_count_8 : decode b_PM_count 8 = .ok (.ifCond .lt 9, 3) := by decide +kernel
theorem d_PM_count_11 : decode b_PM_count 11 = .ok (.iload_n 2, 1) := by decide +kernel
theorem d_PM_count_12 : decode b_PM_count 12 = .ok (.ldc 91, 2) := by decide +kernel
theorem d_PM_count_14 : decode b_PM_count 14 = .ok (.if_icmp .le 5, 3) := by decide +kernel
theorem d_PM_count_17 : decode b_PM_count 17 = .ok (.iconst 0, 1) := by decide +kernel
theorem d_PM_count_18 : decode b_PM_count 18 = .ok (.ireturn, 1) := by decide +kernel
theorem d_PM_count_19 : decode b_PM_count 19 = .ok (.aload_n 0, 1) := by decide +kernel
theorem d_PM_count_20 : decode b_PM_count 20 = .ok (.getfield 21, 3) := by decide +kernel
theorem d_PM_count_23 : decode b_PM_count 23 = .ok (.iload_n 1, 1) := by decide +kernel
theorem d_PM_count_24 : decode b_PM_count 24 = .ok (.iload_n 2, 1) := by decide +kernel
theorem d_PM_count_25 : decode b_PM_count 25 = .ok (.iastore, 1) := by decide +kernel
theorem d_PM_count_26 : decode b_PM_count 26 = .ok (.iconst 1, 1) := by decide +kernel
theorem d_PM_count_27 : decode b_PM_count 27 = .ok (.ireturn, 1) := by decide +kernel
def f_PM_count_b17 (N : Nat) (l1 : Int32) (l2 : Int32)  (v_counts : Nat → Int32) : Option (Int32 × (Nat → Int32)) :=
  some (0, v_counts)
def f_PM_count (N : Nat) (l1 : Int32) (l2 : Int32)  (v_counts : Nat → Int32) : Option (Int32 × (Nat → Int32)) :=
  bd1 (f_PM_isSymbol N l1) fun r_1 =>
  if r_1 = 0 then
  f_PM_count_b17 N l1 l2  v_counts
  else
  if l2 < 0 then
  f_PM_count_b17 N l1 l2  v_counts
  else
  if l2 ≤ 65535 then
  ck (inb l1 256) <|
  nm (upd v_counts (Int32.toNatClampNeg l1) l2) fun v_counts_7 =>
  some (1, v_counts_7)
  else
  f_PM_count_b17 N l1 l2  v_counts
abbrev R_PM_count : Room := ({ frames := 1, cells := 0, slots := 0, locals := 20 } : Room)
def E_PM_count (p : Program) (l : Launch) (e : Env) (s : State) (m : MethodId) (args : Array Value) (below : List Frame) (meth : Method) (c : Code) (Q : State → Prop) (A : Nat → Prop) (D : va_G) (cI cL cZ : ClassId) (a_this : Nat) (a_counts : Nat) (o_in : Nat) (o_out : Nat) (o_codes : Nat) (o_tree : Nat) (o_writer : Nat) (o_reader : Nat) (o_streams : Nat) (i_place : Int32) (l1 : Int32) (l2 : Int32) (res : Int32 × (Nat → Int32)) : Prop := ∀ (pc : Nat) (H : Heap) (locs : List Loc) (ls : Array Slot) (rv : Int32) (v_counts : Nat → Int32), some (rv, v_counts) = some res → narrow .boolean (.int rv) = .int rv → decode b_PM_count pc = .ok (.ireturn, 1) → va_P D classes [(a_this, .inr (0, [.ref o_in, .ref o_out, .ref a_counts, .ref o_codes, .ref o_tree, .ref o_writer, .ref o_reader, .ref o_streams, .int i_place])), (a_counts, .inl (cI, 256, .inl v_counts))] H → va_D A [(a_this, .inr (0, [.ref o_in, .ref o_out, .ref a_counts, .ref o_codes, .ref o_tree, .ref o_writer, .ref o_reader, .ref o_streams, .int i_place])), (a_counts, .inl (cI, 256, .inl v_counts))] → va_S A s.heap H locs → W p l e R_PM_count s m args below meth c H locs 0 0 Q (F0 m pc ls [.int rv])
def I_PM_count_b17 (p : Program) (l : Launch) (e : Env) (s : State) (m : MethodId) (args : Array Value) (below : List Frame) (meth : Method) (c : Code) (Q : State → Prop) (A : Nat → Prop) (D : va_G) (cI cL cZ : ClassId) (a_this : Nat) (a_counts : Nat) (o_in : Nat) (o_out : Nat) (o_codes : Nat) (o_tree : Nat) (o_writer : Nat) (o_reader : Nat) (o_streams : Nat) (i_place : Int32) (l1 : Int32) (l2 : Int32) (res : Int32 × (Nat → Int32)) (kf : (Nat → Int32) → Option (Int32 × (Nat → Int32))) : Prop := ∀ (v_counts : Nat → Int32), kf v_counts = some res → ∀ (H : Heap) (locs : List Loc) (ls : Array Slot), lv_has ls 3 [] → va_P D classes [(a_this, .inr (0, [.ref o_in, .ref o_out, .ref a_counts, .ref o_codes, .ref o_tree, .ref o_writer, .ref o_reader, .ref o_streams, .int i_place])), (a_counts, .inl (cI, 256, .inl v_counts))] H → va_D A [(a_this, .inr (0, [.ref o_in, .ref o_out, .ref a_counts, .ref o_codes, .ref o_tree, .ref o_writer, .ref o_reader, .ref o_streams, .int i_place])), (a_counts, .inl (cI, 256, .inl v_counts))] → va_S A s.heap H locs → W p l e R_PM_count s m args below meth c H locs 0 0 Q (F0 m 17 ls [])
def I_PM_count_b0 (p : Program) (l : Launch) (e : Env) (s : State) (m : MethodId) (args : Array Value) (below : List Frame) (meth : Method) (c : Code) (Q : State → Prop) (A : Nat → Prop) (D : va_G) (cI cL cZ : ClassId) (a_this : Nat) (a_counts : Nat) (o_in : Nat) (o_out : Nat) (o_codes : Nat) (o_tree : Nat) (o_writer : Nat) (o_reader : Nat) (o_streams : Nat) (i_place : Int32) (l1 : Int32) (l2 : Int32) (res : Int32 × (Nat → Int32)) (kf : (Nat → Int32) → Option (Int32 × (Nat → Int32))) : Prop := ∀ (v_counts : Nat → Int32), kf v_counts = some res → ∀ (H : Heap) (locs : List Loc) (ls : Array Slot), lv_has ls 3 [(0, .ref a_this), (1, .int l1), (2, .int l2)] → va_P D classes [(a_this, .inr (0, [.ref o_in, .ref o_out, .ref a_counts, .ref o_codes, .ref o_tree, .ref o_writer, .ref o_reader, .ref o_streams, .int i_place])), (a_counts, .inl (cI, 256, .inl v_counts))] H → va_D A [(a_this, .inr (0, [.ref o_in, .ref o_out, .ref a_counts, .ref o_codes, .ref o_tree, .ref o_writer, .ref o_reader, .ref o_streams, .int i_place])), (a_counts, .inl (cI, 256, .inl v_counts))] → va_S A s.heap H locs → W p l e R_PM_count s m args below meth c H locs 0 0 Q (F0 m 0 ls [])
set_option maxHeartbeats 4000000 in
set_option maxRecDepth 100000 in
theorem w_PM_count_b17 {p : Program} {l : Launch} {e : Env} {s : State} {m : MethodId} {args : Array Value} {below : List Frame} {meth : Method} {c : Code} {Q : State → Prop} {A : Nat → Prop} {D : va_G} {cI cL cZ : ClassId} {a_this : Nat} {a_counts : Nat} {o_in : Nat} {o_out : Nat} {o_codes : Nat} {o_tree : Nat} {o_writer : Nat} {o_reader : Nat} {o_streams : Nat} {i_place : Int32} {l1 : Int32} {l2 : Int32} {N : Nat} {res : Int32 × (Nat → Int32)}  (C : Cx p s m args c b_PM_count 3 "PrefixMill" D [(cI, .int), (cL, .long), (cZ, .boolean)] A) (hret : E_PM_count p l e s m args below meth c Q A D cI cL cZ a_this a_counts o_in o_out o_codes o_tree o_writer o_reader o_streams i_place l1 l2 res)  : I_PM_count_b17 p l e s m args below meth c Q A D cI cL cZ a_this a_counts o_in o_out o_codes o_tree o_writer o_reader o_streams i_place l1 l2 res (f_PM_count_b17 N l1 l2 ) := by
  obtain ⟨hx, hb, hml, hown, hts, hK, hA⟩ := C
  intro v_counts h H locs ls hl hP hD hS
  unfold f_PM_count_b17 at h
  refine lv_iconst (v := 0) hx hb d_PM_count_17 (by decide) ?_
  exact hret _ _ _ _ 0 v_counts h rfl d_PM_count_18 hP hD hS
set_option maxHeartbeats 4000000 in
set_option maxRecDepth 100000 in
theorem w_PM_count_b0 {p : Program} {l : Launch} {e : Env} {s : State} {m : MethodId} {args : Array Value} {below : List Frame} {meth : Method} {c : Code} {Q : State → Prop} {A : Nat → Prop} {D : va_G} {cI cL cZ : ClassId} {a_this : Nat} {a_counts : Nat} {o_in : Nat} {o_out : Nat} {o_codes : Nat} {o_tree : Nat} {o_writer : Nat} {o_reader : Nat} {o_streams : Nat} {i_place : Int32} {l1 : Int32} {l2 : Int32} {N : Nat} {res : Int32 × (Nat → Int32)}  (C : Cx p s m args c b_PM_count 3 "PrefixMill" D [(cI, .int), (cL, .long), (cZ, .boolean)] A) (hret : E_PM_count p l e s m args below meth c Q A D cI cL cZ a_this a_counts o_in o_out o_codes o_tree o_writer o_reader o_streams i_place l1 l2 res)  : I_PM_count_b0 p l e s m args below meth c Q A D cI cL cZ a_this a_counts o_in o_out o_codes o_tree o_writer o_reader o_streams i_place l1 l2 res (f_PM_count N l1 l2 ) := by
  obtain ⟨hx, hb, hml, hown, hts, hK, hA⟩ := C
  intro v_counts h H locs ls hl hP hD hS
  unfold f_PM_count at h
  refine lv_iload_n hx hb d_PM_count_0 rfl (lv_at hl 1 rfl) ?_
  obtain ⟨r_1, hc_2, h⟩ := bd1_s h
  have hPc := hP.sub (ws' := []) [] rfl
  have hDc := hD.sub (ws' := []) [] (by decide) rfl
  have hFc := va_free (wc := []) hD hS hA [] rfl
  refine va_calli (va_runS (As := [.int l1]) (rest := []) ⟨hx, hb, hml, hown, hts⟩ (c_PM_isSymbol l D cI cL cZ H.size N l1 r_1 hc_2) ⟨(my_cb 1 hts m_425 rfl rfl (hts _ m_66) (hts _ m_423) (by decide +kernel) ⟨Nat.le_of_ble_eq_true rfl, Nat.le_of_ble_eq_true rfl⟩), hts _ m_424⟩ ⟨fun a U g mk q => by obtain ⟨q0, q1, qP, qK, qD⟩ := q; exact ⟨q0, q1, qP, va_K.moved (u := U) (U := U.calling g mk a) (Vm.Alike.refl U.vm) qK, qD⟩, fun U hU hW => ⟨rfl, by rw [hU], by rw [hU]; exact hPc, va_K.moved hW.alike hK, hDc.weaken (fun _ _ _ _ => trivial)⟩⟩ rfl rfl hl.1 rfl (lv_room (Nat.le_of_ble_eq_true rfl)) d_PM_count_1 ⟨Nat.zero_le _, Nat.zero_le _⟩) hS (fun q _ h => hFc q h) hFc (fun rr u t H1 locs ht hvm hw hB hz1 hk1 hS => ?_)
  obtain ⟨hP1, hK1, hD1⟩ := hB
  rw [ht] at hP1
  subst hw
  obtain ⟨hP, hD⟩ := va_join (wr := [(a_this, .inr (0, [.ref o_in, .ref o_out, .ref a_counts, .ref o_codes, .ref o_tree, .ref o_writer, .ref o_reader, .ref o_streams, .int i_place])), (a_counts, .inl (cI, 256, .inl v_counts))]) (w1 := []) hP hD [] [0, 1] rfl rfl (by decide) (by decide) hk1 hFc hP1 hD1
  clear hPc hDc hFc hk1 hP1 hD1 hK1
  generalize H1 = H at hP hS ⊢
  have hP : va_P D classes [(a_this, .inr (0, [.ref o_in, .ref o_out, .ref a_counts, .ref o_codes, .ref o_tree, .ref o_writer, .ref o_reader, .ref o_streams, .int i_place])), (a_counts, .inl (cI, 256, .inl v_counts))] H := hP.sub [0, 1] rfl
  have hD : va_D A [(a_this, .inr (0, [.ref o_in, .ref o_out, .ref a_counts, .ref o_codes, .ref o_tree, .ref o_writer, .ref o_reader, .ref o_streams, .int i_place])), (a_counts, .inl (cI, 256, .inl v_counts))] := hD.sub [0, 1] (by decide) rfl
  refine lv_if_eq (tgt := 17) hx hb d_PM_count_4 (by decide) (fun c_3 => ?_) (fun c_3 => ?_)
  · replace h := if_t h c_3
    exact w_PM_count_b17 ⟨hx, hb, hml, hown, hts, hK, hA⟩ hret  _ h H locs ls (lv_sub hl [] rfl) hP hD hS
  · replace h := if_f h c_3
    refine lv_iload_n hx hb d_PM_count_7 rfl (lv_at hl 2 rfl) ?_
    refine lv_if_lt (tgt := 17) hx hb d_PM_count_8 (by decide) (fun c_4 => ?_) (fun c_4 => ?_)
    · replace h := if_t h c_4
      exact w_PM_count_b17 ⟨hx, hb, hml, hown, hts, hK, hA⟩ hret  _ h H locs ls (lv_sub hl [] rfl) hP hD hS
    · replace h := if_f h c_4
      refine lv_iload_n hx hb d_PM_count_11 rfl (lv_at hl 2 rfl) ?_
      refine lv_ldc (v := 65535) hx hb hown (hts _ m_426) d_PM_count_12 ?_
      refine lv_icmp_le (tgt := 19) hx hb d_PM_count_14 (by decide) (fun c_5 => ?_) (fun c_5 => ?_)
      · replace h := if_t h c_5
        refine lv_aload_n hx hb d_PM_count_19 rfl (lv_at hl 0 rfl) ?_
        refine va_get hx hb hts in_PM hown hK hP 0 rfl rfl 2 (by decide) (hts _ m_342) (fun _ h9 => h9) rfl d_PM_count_20 ?_
        refine lv_iload_n hx hb d_PM_count_23 rfl (lv_at hl 1 rfl) ?_
        refine lv_iload_n hx hb d_PM_count_24 rfl (lv_at hl 2 rfl) ?_
        obtain ⟨g_6, h⟩ := ck_s h
        refine va_iast hx hb hK hP hD hS 1 0 rfl rfl (inb_s g_6) d_PM_count_25 (fun H locs hP hD hS => ?_)
        obtain ⟨v_counts_7, ev_counts_7⟩ : ∃ y, y = (upd v_counts (Int32.toNatClampNeg l1) l2) := ⟨_, rfl⟩
        replace h := nm_s h ev_counts_7
        have hP : va_P D classes [(a_this, .inr (0, [.ref o_in, .ref o_out, .ref a_counts, .ref o_codes, .ref o_tree, .ref o_writer, .ref o_reader, .ref o_streams, .int i_place])), (a_counts, .inl (cI, 256, .inl v_counts_7))] H := by rw [ev_counts_7]; exact hP
        have hD : va_D A [(a_this, .inr (0, [.ref o_in, .ref o_out, .ref a_counts, .ref o_codes, .ref o_tree, .ref o_writer, .ref o_reader, .ref o_streams, .int i_place])), (a_counts, .inl (cI, 256, .inl v_counts_7))] := by rw [ev_counts_7]; exact hD
        refine lv_iconst (v := 1) hx hb d_PM_count_26 (by decide) ?_
        exact hret _ _ _ _ 1 v_counts_7 h rfl d_PM_count_27 hP hD hS
      · replace h := if_f h c_5
        exact w_PM_count_b17 ⟨hx, hb, hml, hown, hts, hK, hA⟩ hret  _ h H locs ls (lv_sub hl [] rfl) hP hD hS
set_option maxHeartbeats 4000000 in
set_option maxRecDepth 100000 in
theorem c_PM_count (l : Launch) (D : va_G) (cI cL cZ : ClassId) (sz N : Nat) (a_this : Nat) (a_counts : Nat) (o_in : Nat) (o_out : Nat) (o_codes : Nat) (o_tree : Nat) (o_writer : Nat) (o_reader : Nat) (o_streams : Nat) (i_place : Int32) (v_counts : Nat → Int32) (l1 : Int32) (l2 : Int32) (rv : Int32) (v_counts' : Nat → Int32) (h : f_PM_count N l1 l2 v_counts = some (rv, v_counts')) : Met l ({ cls := "PrefixMill", name := "count", desc := "(II)Z" } : Jvm.MethodName) ws_PM_count R_PM_count (va_Pc [.ref a_this, .int l1, .int l2] (fun U => U.heap.size = sz ∧ va_P D classes [(a_this, .inr (0, [.ref o_in, .ref o_out, .ref a_counts, .ref o_codes, .ref o_tree, .ref o_writer, .ref o_reader, .ref o_streams, .int i_place])), (a_counts, .inl (cI, 256, .inl v_counts))] U.heap ∧ va_K D classes [(cI, .int), (cL, .long), (cZ, .boolean)] U ∧ va_D (fun _ => True) [(a_this, .inr (0, [.ref o_in, .ref o_out, .ref a_counts, .ref o_codes, .ref o_tree, .ref o_writer, .ref o_reader, .ref o_streams, .int i_place])), (a_counts, .inl (cI, 256, .inl v_counts))])) (va_Qi (fun (r0 : Int32) (_ : Unit) => rv = r0) (fun _ t => va_P D classes [(a_this, .inr (0, [.ref o_in, .ref o_out, .ref a_counts, .ref o_codes, .ref o_tree, .ref o_writer, .ref o_reader, .ref o_streams, .int i_place])), (a_counts, .inl (cI, 256, .inl v_counts'))] t.heap ∧ va_K D classes [(cI, .int), (cL, .long), (cZ, .boolean)] t ∧ va_D (va_A [(a_this, .inr (0, [.ref o_in, .ref o_out, .ref a_counts, .ref o_codes, .ref o_tree, .ref o_writer, .ref o_reader, .ref o_streams, .int i_place])), (a_counts, .inl (cI, 256, .inl v_counts))] sz) [(a_this, .inr (0, [.ref o_in, .ref o_out, .ref a_counts, .ref o_codes, .ref o_tree, .ref o_writer, .ref o_reader, .ref o_streams, .int i_place])), (a_counts, .inl (cI, 256, .inl v_counts'))]) (va_A [(a_this, .inr (0, [.ref o_in, .ref o_out, .ref a_counts, .ref o_codes, .ref o_tree, .ref o_writer, .ref o_reader, .ref o_streams, .int i_place])), (a_counts, .inl (cI, 256, .inl v_counts))] sz)) 0 0 (va_A [(a_this, .inr (0, [.ref o_in, .ref o_out, .ref a_counts, .ref o_codes, .ref o_tree, .ref o_writer, .ref o_reader, .ref o_streams, .int i_place])), (a_counts, .inl (cI, 256, .inl v_counts))] sz) := by
  refine Met.ofW (cc := b_PM_count) (maxL := 3) (ret := (some .boolean)) (by decide) rfl ?_
  intro p e s m args below meth c s₁ B hml hv
  obtain ⟨rfl, hsz, hP, hK, hD0⟩ := hv
  have hx := B.exec
  have hb := B.bytes
  have hr := B.returns
  have hts0 := atoms_spec (ws := ws_PM_count) B.pre
  have hts := gd_tl hts0
  clear hts0
  have hown : s.vm.findClass "PrefixMill" = some m.cls := findClass_of_methodNamed B.named
  have hlocks := B.notSynchronized
  subst hsz
  have hD := hD0.self (sz := s.heap.size)
  generalize hAe : va_A [(a_this, .inr (0, [.ref o_in, .ref o_out, .ref a_counts, .ref o_codes, .ref o_tree, .ref o_writer, .ref o_reader, .ref o_streams, .int i_place])), (a_counts, .inl (cI, 256, .inl v_counts))] s.heap.size = A at hD ⊢
  have hA : ∀ q : Nat, s.heap.size ≤ q → A q := fun q h => by rw [← hAe]; exact Or.inr h
  have hS : va_S A s.heap s.heap [] := va_S.rf
  have hP : va_P D classes [(a_this, .inr (0, [.ref o_in, .ref o_out, .ref a_counts, .ref o_codes, .ref o_tree, .ref o_writer, .ref o_reader, .ref o_streams, .int i_place])), (a_counts, .inl (cI, 256, .inl v_counts))] s.heap := hP
  have hl := lv_entry ([.ref a_this, .int l1, .int l2]) (n := 3) (Nat.le_of_ble_eq_true rfl)
  rw [lg_entry_eq]
  generalize (lg_sl ([.ref a_this, .int l1, .int l2]) ++ List.replicate (3 - (lg_sl ([.ref a_this, .int l1, .int l2])).length) Slot.unset).toArray = ls at hl ⊢
  have hl : lv_has ls 3 [(0, .ref a_this), (1, .int l1), (2, .int l2)] := hl
  have C : Cx p s m ([.ref a_this, .int l1, .int l2] : List Value).toArray c b_PM_count 3 "PrefixMill" D [(cI, .int), (cL, .long), (cZ, .boolean)] A := ⟨hx, hb, hml, hown, hts, hK, hA⟩
  refine w_PM_count_b0 (res := (rv, v_counts')) C ?_ _ h s.heap [] ls hl hP hD hS
  intro pc9 H9 locs9 ls9 rv9 v_counts9 e9 z9 d9 hP9 hD9 hS9
  cases e9
  exact W.zret (v := rv) hx hb hr z9 (fun t ht hW => ⟨⟨rv, (), rfl, rfl, by rw [ht]; exact hP9, va_K.moved hW.alike hK, hD9⟩, hS9.F ht⟩) hS9.2.2 d9
abbrev b_PM_countAll : ByteArray := prog_1_method_9_code
def ws_PM_countAll : List Cond := .code ({ cls := "PrefixMill", name := "countAll", desc := "()I" } : Jvm.MethodName) b_PM_countAll 2 (some .int) :: tt
theorem d_PM_countAll_0 : decode b_PM_countAll 0 = .ok (.aload_n 0, 1) := by decide +kernel
theorem d_PM_countAll_1 : decode b_PM_countAll 1 = .ok (.getfield 21, 3) := by decide +kernel
theorem d_PM_countAll_4 : decode b_PM_countAll 4 = .ok (.iconst 0, 1) := by decide +kernel
theorem d_PM_countAll_5 : decode b_PM_countAll 5 = .ok (.invokestatic 81, 3) := by decide +kernel
theorem d_PM_countAll_8 : decode b_PM_countAll 8 = .ok (.aload_n 0, 1) := by decide +kernel
theorem d_PM_countAll_9 : decode b_PM_countAll 9 = .ok (.getfield 60, 3) := by decide +kernel
theorem d_PM_countAll_12 : decode b_PM_countAll 12 = .ok (.istore_n 1, 1) := by decide +kernel
theorem d_PM_countAll_13 : decode b_PM_countAll 13 = .ok (.iload_n 1, 1) := by decide +kernel
theorem d_PM_countAll_14 : decode b_PM_countAll 14 = .ok (.aload_n 0, 1) := by decide +kernel
theorem d_PM_countAll_15 : decode b_PM_countAll 15 = .ok (.getfield 14, 3) := by decide +kernel
theorem d_PM_countAll_18 : decode b_PM_countAll 18 = .ok (.getfield 64, 3) := by decide +kernel
theorem d_PM_countAll_21 : decode b_PM_countAll 21 = .ok (.if_icmp .ge 26, 3) := by decide +kernel
theorem d_PM_countAll_24 : decode b_PM_countAll 24 = .ok (.aload_n 0, 1) := by decide +kernel
theorem d_PM_countAll_25 : decode b_PM_countAll 25 = .ok (.getfield 21, 3) := by decide +kernel
theorem d_PM_countAll_28 : decode b_PM_countAll 28 = .ok (.aload_n 0, 1) := by decide +kernel
theorem d_PM_countAll_29 : decode b_PM_countAll 29 = .ok (.getfield 14, 3) := by decide +kernel
theorem d_PM_countAll_32 : decode b_PM_countAll 32 = .ok (.iload_n 1, 1) := by decide +kernel
theorem d_PM_countAll_33 : decode b_PM_countAll 33 = .ok (.invokevirtual 70, 3) := by decide +kernel
theorem d_PM_countAll_36 : decode b_PM_countAll 36 = .ok (.dup2, 1) := by decide +kernel
theorem d_PM_countAll_37 : decode b_PM_countAll 37 = .ok (.iaload, 1) := by decide +kernel
theorem d_PM_countAll_38 : decode b_PM_countAll 38 = .ok (.iconst 1, 1) := by decide +kernel
theorem d_PM_countAll_39 : decode b_PM_countAll 39 = .ok (.iadd, 1) := by decide +kernel
theorem d_PM_countAll_40 : decode b_PM_countAll 40 = .ok (.iastore, 1) := by decide +kernel
theorem d_PM_countAll_41 : decode b_PM_countAll 41 = .ok (.iinc 1 1, 3) := by decide +kernel
theorem d_PM_countAll_44 : decode b_PM_countAll 44 = .ok (.goto (-31), 3) := by decide +kernel
theorem d_PM_countAll_47 : decode b_PM_countAll 47 = .ok (.aload_n 0, 1) := by decide +kernel
theorem d_PM_countAll_48 : decode b_PM_countAll 48 = .ok (.getfield 14, 3) := by decide +kernel
theorem d_PM_countAll_51 : decode b_PM_countAll 51 = .ok (.getfield 64, 3) := by decide +kernel
theorem d_PM_countAll_54 : decode b_PM_countAll 54 = .ok (.aload_n 0, 1) := by decide +kernel
theorem d_PM_countAll_55 : decode b_PM_countAll 55 = .ok (.getfield 60, 3) := by decide +kernel
theorem d_PM_countAll_58 : decode b_PM_countAll 58 = .ok (.isub, 1) := by decide +kernel
theorem d_PM_countAll_59 : decode b_PM_countAll 59 = .ok (.ireturn, 1) := by decide +kernel
def f_PM_countAll_b47 (N : Nat) (i_place : Int32) (i_in_used : Int32) (n_in_words : Nat) (v_in_words : Nat → Int64)  (v_counts : Nat → Int32) : Option (Int32 × (Nat → Int32)) :=
  some ((i_in_used - i_place), v_counts)
def f_PM_countAll_b13 (N : Nat) (i_place : Int32) (i_in_used : Int32) (n_in_words : Nat) (v_in_words : Nat → Int64)  : Nat → Int32 → (Nat → Int32) → Option (Int32 × (Nat → Int32))
  | 0, _, _ => none
  | z + 1, l1, v_counts =>
  if i_in_used ≤ l1 then
  f_PM_countAll_b47 N i_place i_in_used n_in_words v_in_words  v_counts
  else
  bd1 (f_Row_get N i_in_used n_in_words v_in_words l1) fun r_2 =>
  ck (inb r_2 256) <|
  ck (inb r_2 256) <|
  nm (upd v_counts (Int32.toNatClampNeg r_2) ((v_counts (Int32.toNatClampNeg r_2)) + 1)) fun v_counts_6 =>
  nm (l1 + 1) fun l1_7 =>
  f_PM_countAll_b13 N i_place i_in_used n_in_words v_in_words  z l1_7 v_counts_6
def f_PM_countAll (N : Nat) (i_place : Int32) (i_in_used : Int32) (n_in_words : Nat) (v_in_words : Nat → Int64)  (v_counts : Nat → Int32) : Option (Int32 × (Nat → Int32)) :=
  bd1 (f_JArr_fill N 256 0 v_counts) fun v_counts_1 =>
  f_PM_countAll_b13 N i_place i_in_used n_in_words v_in_words  N i_place v_counts_1
abbrev R_PM_countAll : Room := ({ frames := 1, cells := 0, slots := 0, locals := 23 } : Room)
def E_PM_countAll (p : Program) (l : Launch) (e : Env) (s : State) (m : MethodId) (args : Array Value) (below : List Frame) (meth : Method) (c : Code) (Q : State → Prop) (A : Nat → Prop) (D : va_G) (cI cL cZ : ClassId) (a_this : Nat) (a_in : Nat) (a_in_words : Nat) (a_counts : Nat) (o_out : Nat) (o_codes : Nat) (o_tree : Nat) (o_writer : Nat) (o_reader : Nat) (o_streams : Nat) (i_place : Int32) (i_in_room : Int32) (i_in_used : Int32) (i_in_held : Int32) (i_in_many : Int32) (n_in_words : Nat) (v_in_words : Nat → Int64) (res : Int32 × (Nat → Int32)) : Prop := ∀ (pc : Nat) (H : Heap) (locs : List Loc) (ls : Array Slot) (rv : Int32) (v_counts : Nat → Int32), some (rv, v_counts) = some res → decode b_PM_countAll pc = .ok (.ireturn, 1) → va_P D classes [(a_this, .inr (0, [.ref a_in, .ref o_out, .ref a_counts, .ref o_codes, .ref o_tree, .ref o_writer, .ref o_reader, .ref o_streams, .int i_place])), (a_in, .inr (5, [.ref a_in_words, .int i_in_room, .int i_in_used, .int i_in_held, .int i_in_many])), (a_in_words, .inl (cL, n_in_words, .inr (.inl v_in_words))), (a_counts, .inl (cI, 256, .inl v_counts))] H → va_D A [(a_this, .inr (0, [.ref a_in, .ref o_out, .ref a_counts, .ref o_codes, .ref o_tree, .ref o_writer, .ref o_reader, .ref o_streams, .int i_place])), (a_in, .inr (5, [.ref a_in_words, .int i_in_room, .int i_in_used, .int i_in_held, .int i_in_many])), (a_in_words, .inl (cL, n_in_words, .inr (.inl v_in_words))), (a_counts, .inl (cI, 256, .inl v_counts))] → va_S A s.heap H locs → W p l e R_PM_countAll s m args below meth c H locs 0 0 Q (F0 m pc ls [.int rv])
def I_PM_countAll_b47 (p : Program) (l : Launch) (e : Env) (s : State) (m : MethodId) (args : Array Value) (below : List Frame) (meth : Method) (c : Code) (Q : State → Prop) (A : Nat → Prop) (D : va_G) (cI cL cZ : ClassId) (a_this : Nat) (a_in : Nat) (a_in_words : Nat) (a_counts : Nat) (o_out : Nat) (o_codes : Nat) (o_tree : Nat) (o_writer : Nat) (o_reader : Nat) (o_streams : Nat) (i_place : Int32) (i_in_room : Int32) (i_in_used : Int32) (i_in_held : Int32) (i_in_many : Int32) (n_in_words : Nat) (v_in_words : Nat → Int64) (res : Int32 × (Nat → Int32)) (kf : (Nat → Int32) → Option (Int32 × (Nat → Int32))) : Prop := ∀ (v_counts : Nat → Int32), kf v_counts = some res → ∀ (H : Heap) (locs : List Loc) (ls : Array Slot), lv_has ls 2 [(0, .ref a_this)] → va_P D classes [(a_this, .inr (0, [.ref a_in, .ref o_out, .ref a_counts, .ref o_codes, .ref o_tree, .ref o_writer, .ref o_reader, .ref o_streams, .int i_place])), (a_in, .inr (5, [.ref a_in_words, .int i_in_room, .int i_in_used, .int i_in_held, .int i_in_many])), (a_in_words, .inl (cL, n_in_words, .inr (.inl v_in_words))), (a_counts, .inl (cI, 256, .inl v_counts))] H → va_D A [(a_this, .inr (0, [.ref a_in, .ref o_out, .ref a_counts, .ref o_codes, .ref o_tree, .ref o_writer, .ref o_reader, .ref o_streams, .int i_place])), (a_in, .inr (5, [.ref a_in_words, .int i_in_room, .int i_in_used, .int i_in_held, .int i_in_many])), (a_in_words, .inl (cL, n_in_words, .inr (.inl v_in_words))), (a_counts, .inl (cI, 256, .inl v_counts))] → va_S A s.heap H locs → W p l e R_PM_countAll s m args below meth c H locs 0 0 Q (F0 m 47 ls [])
def I_PM_countAll_b13 (p : Program) (l : Launch) (e : Env) (s : State) (m : MethodId) (args : Array Value) (below : List Frame) (meth : Method) (c : Code) (Q : State → Prop) (A : Nat → Prop) (D : va_G) (cI cL cZ : ClassId) (a_this : Nat) (a_in : Nat) (a_in_words : Nat) (a_counts : Nat) (o_out : Nat) (o_codes : Nat) (o_tree : Nat) (o_writer : Nat) (o_reader : Nat) (o_streams : Nat) (i_place : Int32) (i_in_room : Int32) (i_in_used : Int32) (i_in_held : Int32) (i_in_many : Int32) (n_in_words : Nat) (v_in_words : Nat → Int64) (res : Int32 × (Nat → Int32)) (kf : Int32 → (Nat → Int32) → Option (Int32 × (Nat → Int32))) : Prop := ∀ (l1 : Int32) (v_counts : Nat → Int32), kf l1 v_counts = some res → ∀ (H : Heap) (locs : List Loc) (ls : Array Slot), lv_has ls 2 [(0, .ref a_this), (1, .int l1)] → va_P D classes [(a_this, .inr (0, [.ref a_in, .ref o_out, .ref a_counts, .ref o_codes, .ref o_tree, .ref o_writer, .ref o_reader, .ref o_streams, .int i_place])), (a_in, .inr (5, [.ref a_in_words, .int i_in_room, .int i_in_used, .int i_in_held, .int i_in_many])), (a_in_words, .inl (cL, n_in_words, .inr (.inl v_in_words))), (a_counts, .inl (cI, 256, .inl v_counts))] H → va_D A [(a_this, .inr (0, [.ref a_in, .ref o_out, .ref a_counts, .ref o_codes, .ref o_tree, .ref o_writer, .ref o_reader, .ref o_streams, .int i_place])), (a_in, .inr (5, [.ref a_in_words, .int i_in_room, .int i_in_used, .int i_in_held, .int i_in_many])), (a_in_words, .inl (cL, n_in_words, .inr (.inl v_in_words))), (a_counts, .inl (cI, 256, .inl v_counts))] → va_S A s.heap H locs → W p l e R_PM_countAll s m args below meth c H locs 0 0 Q (F0 m 13 ls [])
def I_PM_countAll_b0 (p : Program) (l : Launch) (e : Env) (s : State) (m : MethodId) (args : Array Value) (below : List Frame) (meth : Method) (c : Code) (Q : State → Prop) (A : Nat → Prop) (D : va_G) (cI cL cZ : ClassId) (a_this : Nat) (a_in : Nat) (a_in_words : Nat) (a_counts : Nat) (o_out : Nat) (o_codes : Nat) (o_tree : Nat) (o_writer : Nat) (o_reader : Nat) (o_streams : Nat) (i_place : Int32) (i_in_room : Int32) (i_in_used : Int32) (i_in_held : Int32) (i_in_many : Int32) (n_in_words : Nat) (v_in_words : Nat → Int64) (res : Int32 × (Nat → Int32)) (kf : (Nat → Int32) → Option (Int32 × (Nat → Int32))) : Prop := ∀ (v_counts : Nat → Int32), kf v_counts = some res → ∀ (H : Heap) (locs : List Loc) (ls : Array Slot), lv_has ls 2 [(0, .ref a_this)] → va_P D classes [(a_this, .inr (0, [.ref a_in, .ref o_out, .ref a_counts, .ref o_codes, .ref o_tree, .ref o_writer, .ref o_reader, .ref o_streams, .int i_place])), (a_in, .inr (5, [.ref a_in_words, .int i_in_room, .int i_in_used, .int i_in_held, .int i_in_many])), (a_in_words, .inl (cL, n_in_words, .inr (.inl v_in_words))), (a_counts, .inl (cI, 256, .inl v_counts))] H → va_D A [(a_this, .inr (0, [.ref a_in, .ref o_out, .ref a_counts, .ref o_codes, .ref o_tree, .ref o_writer, .ref o_reader, .ref o_streams, .int i_place])), (a_in, .inr (5, [.ref a_in_words, .int i_in_room, .int i_in_used, .int i_in_held, .int i_in_many])), (a_in_words, .inl (cL, n_in_words, .inr (.inl v_in_words))), (a_counts, .inl (cI, 256, .inl v_counts))] → va_S A s.heap H locs → W p l e R_PM_countAll s m args below meth c H locs 0 0 Q (F0 m 0 ls [])
set_option maxHeartbeats 4000000 in
set_option maxRecDepth 100000 in
theorem w_PM_countAll_b47 {p : Program} {l : Launch} {e : Env} {s : State} {m : MethodId} {args : Array Value} {below : List Frame} {meth : Method} {c : Code} {Q : State → Prop} {A : Nat → Prop} {D : va_G} {cI cL cZ : ClassId} {a_this : Nat} {a_in : Nat} {a_in_words : Nat} {a_counts : Nat} {o_out : Nat} {o_codes : Nat} {o_tree : Nat} {o_writer : Nat} {o_reader : Nat} {o_streams : Nat} {i_place : Int32} {i_in_room : Int32} {i_in_used : Int32} {i_in_held : Int32} {i_in_many : Int32} {n_in_words : Nat} {v_in_words : Nat → Int64} {N : Nat} {res : Int32 × (Nat → Int32)}  (C : Cx p s m args c b_PM_countAll 2 "PrefixMill" D [(cI, .int), (cL, .long), (cZ, .boolean)] A) (hret : E_PM_countAll p l e s m args below meth c Q A D cI cL cZ a_this a_in a_in_words a_counts o_out o_codes o_tree o_writer o_reader o_streams i_place i_in_room i_in_used i_in_held i_in_many n_in_words v_in_words res)  : I_PM_countAll_b47 p l e s m args below meth c Q A D cI cL cZ a_this a_in a_in_words a_counts o_out o_codes o_tree o_writer o_reader o_streams i_place i_in_room i_in_used i_in_held i_in_many n_in_words v_in_words res (f_PM_countAll_b47 N i_place i_in_used n_in_words v_in_words ) := by
  obtain ⟨hx, hb, hml, hown, hts, hK, hA⟩ := C
  intro v_counts h H locs ls hl hP hD hS
  unfold f_PM_countAll_b47 at h
  refine lv_aload_n hx hb d_PM_countAll_47 rfl (lv_at hl 0 rfl) ?_
  refine va_get hx hb hts in_PM hown hK hP 0 rfl rfl 0 (by decide) (hts _ m_340) (fun _ h9 => h9) rfl d_PM_countAll_48 ?_
  refine va_getN hx hb hts in_Row hown hK hP 1 rfl rfl 2 (by decide) (hts _ m_97) (fun _ h9 => h9) rfl d_PM_countAll_51 ?_
  refine lv_aload_n hx hb d_PM_countAll_54 rfl (lv_at hl 0 rfl) ?_
  refine va_get hx hb hts in_PM hown hK hP 0 rfl rfl 8 (by decide) (hts _ m_348) (fun _ h9 => h9) rfl d_PM_countAll_55 ?_
  refine lv_isub hx hb d_PM_countAll_58 ?_
  exact hret _ _ _ _ (i_in_used - i_place) v_counts h d_PM_countAll_59 hP hD hS
set_option maxHeartbeats 4000000 in
set_option maxRecDepth 100000 in
theorem w_PM_countAll_b13 {p : Program} {l : Launch} {e : Env} {s : State} {m : MethodId} {args : Array Value} {below : List Frame} {meth : Method} {c : Code} {Q : State → Prop} {A : Nat → Prop} {D : va_G} {cI cL cZ : ClassId} {a_this : Nat} {a_in : Nat} {a_in_words : Nat} {a_counts : Nat} {o_out : Nat} {o_codes : Nat} {o_tree : Nat} {o_writer : Nat} {o_reader : Nat} {o_streams : Nat} {i_place : Int32} {i_in_room : Int32} {i_in_used : Int32} {i_in_held : Int32} {i_in_many : Int32} {n_in_words : Nat} {v_in_words : Nat → Int64} {N : Nat} {res : Int32 × (Nat → Int32)}  (C : Cx p s m args c b_PM_countAll 2 "PrefixMill" D [(cI, .int), (cL, .long), (cZ, .boolean)] A) (hret : E_PM_countAll p l e s m args below meth c Q A D cI cL cZ a_this a_in a_in_words a_counts o_out o_codes o_tree o_writer o_reader o_streams i_place i_in_room i_in_used i_in_held i_in_many n_in_words v_in_words res)  : ∀ z : Nat, I_PM_countAll_b13 p l e s m args below meth c Q A D cI cL cZ a_this a_in a_in_words a_counts o_out o_codes o_tree o_writer o_reader o_streams i_place i_in_room i_in_used i_in_held i_in_many n_in_words v_in_words res (f_PM_countAll_b13 N i_place i_in_used n_in_words v_in_words  z) := by
  obtain ⟨hx, hb, hml, hown, hts, hK, hA⟩ := C
  intro z
  induction z with
  | zero => intro l1 v_counts h; cases h
  | succ z ih =>
    intro l1 v_counts h H locs ls hl hP hD hS
    refine lv_iload_n hx hb d_PM_countAll_13 rfl (lv_at hl 1 rfl) ?_
    refine lv_aload_n hx hb d_PM_countAll_14 rfl (lv_at hl 0 rfl) ?_
    refine va_get hx hb hts in_PM hown hK hP 0 rfl rfl 0 (by decide) (hts _ m_340) (fun _ h9 => h9) rfl d_PM_countAll_15 ?_
    refine va_getN hx hb hts in_Row hown hK hP 1 rfl rfl 2 (by decide) (hts _ m_97) (fun _ h9 => h9) rfl d_PM_countAll_18 ?_
    refine lv_icmp_ge (tgt := 47) hx hb d_PM_countAll_21 (by decide) (fun c_1 => ?_) (fun c_1 => ?_)
    · replace h := if_t h c_1
      exact w_PM_countAll_b47 ⟨hx, hb, hml, hown, hts, hK, hA⟩ hret  _ h H locs ls (lv_sub hl [0] rfl) hP hD hS
    · replace h := if_f h c_1
      refine lv_aload_n hx hb d_PM_countAll_24 rfl (lv_at hl 0 rfl) ?_
      refine va_get hx hb hts in_PM hown hK hP 0 rfl rfl 2 (by decide) (hts _ m_342) (fun _ h9 => h9) rfl d_PM_countAll_25 ?_
      refine lv_aload_n hx hb d_PM_countAll_28 rfl (lv_at hl 0 rfl) ?_
      refine va_get hx hb hts in_PM hown hK hP 0 rfl rfl 0 (by decide) (hts _ m_340) (fun _ h9 => h9) rfl d_PM_countAll_29 ?_
      refine lv_iload_n hx hb d_PM_countAll_32 rfl (lv_at hl 1 rfl) ?_
      obtain ⟨r_2, hc_3, h⟩ := bd1_s h
      have hPc := hP.sub (ws' := [(a_in, .inr (5, [.ref a_in_words, .int i_in_room, .int i_in_used, .int i_in_held, .int i_in_many])), (a_in_words, .inl (cL, n_in_words, .inr (.inl v_in_words)))]) [1, 2] rfl
      have hDc := hD.sub (ws' := [(a_in, .inr (5, [.ref a_in_words, .int i_in_room, .int i_in_used, .int i_in_held, .int i_in_many])), (a_in_words, .inl (cL, n_in_words, .inr (.inl v_in_words)))]) [1, 2] (by decide) rfl
      have hFc := va_free (wc := [(a_in, .inr (5, [.ref a_in_words, .int i_in_room, .int i_in_used, .int i_in_held, .int i_in_many])), (a_in_words, .inl (cL, n_in_words, .inr (.inl v_in_words)))]) hD hS hA [1, 2] rfl
      refine va_calli (va_runV (As := [.int l1]) (rest := [.ref a_counts]) ⟨hx, hb, hml, hown, hts⟩ (c_Row_get l D cI cL cZ H.size N a_in a_in_words i_in_room i_in_used i_in_held i_in_many n_in_words v_in_words l1 r_2 hc_3) ⟨(my_cb 1 hts m_385 rfl rfl (hts _ m_67) (hts _ m_382) (by decide +kernel) ⟨Nat.le_of_ble_eq_true rfl, Nat.le_of_ble_eq_true rfl⟩), hts _ m_383, hts _ m_384⟩ ⟨fun a U g mk q => by obtain ⟨q0, q1, qP, qK, qD⟩ := q; exact ⟨q0, q1, qP, va_K.moved (u := U) (U := U.calling g mk a) (Vm.Alike.refl U.vm) qK, qD⟩, va_recv hK hPc (ci := 5) (q0 := 0) rfl rfl, fun U hU hW => ⟨rfl, by rw [hU], by rw [hU]; exact hPc, va_K.moved hW.alike hK, hDc.weaken (fun _ _ _ _ => trivial)⟩⟩ rfl rfl hl.1 rfl (lv_room (Nat.le_of_ble_eq_true rfl)) d_PM_countAll_33 ⟨Nat.zero_le _, Nat.zero_le _⟩) hS (fun q _ h => hFc q h) hFc (fun rr u t H1 locs ht hvm hw hB hz1 hk1 hS => ?_)
      obtain ⟨hP1, hK1, hD1⟩ := hB
      rw [ht] at hP1
      subst hw
      obtain ⟨hP, hD⟩ := va_join (wr := [(a_this, .inr (0, [.ref a_in, .ref o_out, .ref a_counts, .ref o_codes, .ref o_tree, .ref o_writer, .ref o_reader, .ref o_streams, .int i_place])), (a_counts, .inl (cI, 256, .inl v_counts))]) (w1 := [(a_in, .inr (5, [.ref a_in_words, .int i_in_room, .int i_in_used, .int i_in_held, .int i_in_many])), (a_in_words, .inl (cL, n_in_words, .inr (.inl v_in_words)))]) hP hD [1, 2] [0, 3] rfl rfl (by decide) (by decide) hk1 hFc hP1 hD1
      clear hPc hDc hFc hk1 hP1 hD1 hK1
      generalize H1 = H at hP hS ⊢
      have hP : va_P D classes [(a_this, .inr (0, [.ref a_in, .ref o_out, .ref a_counts, .ref o_codes, .ref o_tree, .ref o_writer, .ref o_reader, .ref o_streams, .int i_place])), (a_in, .inr (5, [.ref a_in_words, .int i_in_room, .int i_in_used, .int i_in_held, .int i_in_many])), (a_in_words, .inl (cL, n_in_words, .inr (.inl v_in_words))), (a_counts, .inl (cI, 256, .inl v_counts))] H := hP.sub [0, 2, 3, 1] rfl
      have hD : va_D A [(a_this, .inr (0, [.ref a_in, .ref o_out, .ref a_counts, .ref o_codes, .ref o_tree, .ref o_writer, .ref o_reader, .ref o_streams, .int i_place])), (a_in, .inr (5, [.ref a_in_words, .int i_in_room, .int i_in_used, .int i_in_held, .int i_in_many])), (a_in_words, .inl (cL, n_in_words, .inr (.inl v_in_words))), (a_counts, .inl (cI, 256, .inl v_counts))] := hD.sub [0, 2, 3, 1] (by decide) rfl
      refine lv_dup2_11 hx hb d_PM_countAll_36 rfl rfl ?_
      obtain ⟨g_4, h⟩ := ck_s h
      refine va_iald hx hb hK hP 3 0 rfl rfl (inb_s g_4) d_PM_countAll_37 ?_
      refine lv_iconst (v := 1) hx hb d_PM_countAll_38 (by decide) ?_
      refine lv_iadd hx hb d_PM_countAll_39 ?_
      obtain ⟨g_5, h⟩ := ck_s h
      refine va_iast hx hb hK hP hD hS 3 0 rfl rfl (inb_s g_5) d_PM_countAll_40 (fun H locs hP hD hS => ?_)
      obtain ⟨v_counts_6, ev_counts_6⟩ : ∃ y, y = (upd v_counts (Int32.toNatClampNeg r_2) ((v_counts (Int32.toNatClampNeg r_2)) + 1)) := ⟨_, rfl⟩
      replace h := nm_s h ev_counts_6
      have hP : va_P D classes [(a_this, .inr (0, [.ref a_in, .ref o_out, .ref a_counts, .ref o_codes, .ref o_tree, .ref o_writer, .ref o_reader, .ref o_streams, .int i_place])), (a_in, .inr (5, [.ref a_in_words, .int i_in_room, .int i_in_used, .int i_in_held, .int i_in_many])), (a_in_words, .inl (cL, n_in_words, .inr (.inl v_in_words))), (a_counts, .inl (cI, 256, .inl v_counts_6))] H := by rw [ev_counts_6]; exact hP
      have hD : va_D A [(a_this, .inr (0, [.ref a_in, .ref o_out, .ref a_counts, .ref o_codes, .ref o_tree, .ref o_writer, .ref o_reader, .ref o_streams, .int i_place])), (a_in, .inr (5, [.ref a_in_words, .int i_in_room, .int i_in_used, .int i_in_held, .int i_in_many])), (a_in_words, .inl (cL, n_in_words, .inr (.inl v_in_words))), (a_counts, .inl (cI, 256, .inl v_counts_6))] := by rw [ev_counts_6]; exact hD
      obtain ⟨l1_7, el1_7⟩ : ∃ y : Int32, y = l1 + 1 := ⟨_, rfl⟩
      replace h := nm_s h el1_7
      refine lv_iinc (v := l1_7) (lv' := [(1, .int l1_7), (0, .ref a_this)]) hx hb d_PM_countAll_41 hl (k := 1) rfl (by rw [el1_7]; rfl) (by decide) rfl (fun ls hl => ?_)
      refine lv_goto (tgt := 13) hx hb d_PM_countAll_44 (by decide) ?_
      exact ih _ _ h H locs ls (lv_sub hl [1, 0] rfl) hP hD hS
set_option maxHeartbeats 4000000 in
set_option maxRecDepth 100000 in
theorem w_PM_countAll_b0 {p : Program} {l : Launch} {e : Env} {s : State} {m : MethodId} {args : Array Value} {below : List Frame} {meth : Method} {c : Code} {Q : State → Prop} {A : Nat → Prop} {D : va_G} {cI cL cZ : ClassId} {a_this : Nat} {a_in : Nat} {a_in_words : Nat} {a_counts : Nat} {o_out : Nat} {o_codes : Nat} {o_tree : Nat} {o_writer : Nat} {o_reader : Nat} {o_streams : Nat} {i_place : Int32} {i_in_room : Int32} {i_in_used : Int32} {i_in_held : Int32} {i_in_many : Int32} {n_in_words : Nat} {v_in_words : Nat → Int64} {N : Nat} {res : Int32 × (Nat → Int32)}  (C : Cx p s m args c b_PM_countAll 2 "PrefixMill" D [(cI, .int), (cL, .long), (cZ, .boolean)] A) (hret : E_PM_countAll p l e s m args below meth c Q A D cI cL cZ a_this a_in a_in_words a_counts o_out o_codes o_tree o_writer o_reader o_streams i_place i_in_room i_in_used i_in_held i_in_many n_in_words v_in_words res)  : I_PM_countAll_b0 p l e s m args below meth c Q A D cI cL cZ a_this a_in a_in_words a_counts o_out o_codes o_tree o_writer o_reader o_streams i_place i_in_room i_in_used i_in_held i_in_many n_in_words v_in_words res (f_PM_countAll N i_place i_in_used n_in_words v_in_words ) := by
  obtain ⟨hx, hb, hml, hown, hts, hK, hA⟩ := C
  intro v_counts h H locs ls hl hP hD hS
  unfold f_PM_countAll at h
  refine lv_aload_n hx hb d_PM_countAll_0 rfl (lv_at hl 0 rfl) ?_
  refine va_get hx hb hts in_PM hown hK hP 0 rfl rfl 2 (by decide) (hts _ m_342) (fun _ h9 => h9) rfl d_PM_countAll_1 ?_
  refine lv_iconst (v := 0) hx hb d_PM_countAll_4 (by decide) ?_
  obtain ⟨v_counts_1, hc_2, h⟩ := bd1_s h
  have hPc := hP.sub (ws' := [(a_counts, .inl (cI, 256, .inl v_counts))]) [3] rfl
  have hDc := hD.sub (ws' := [(a_counts, .inl (cI, 256, .inl v_counts))]) [3] (by decide) rfl
  have hFc := va_free (wc := [(a_counts, .inl (cI, 256, .inl v_counts))]) hD hS hA [3] rfl
  refine va_callv (va_runS (As := [.ref a_counts, .int 0]) (rest := []) ⟨hx, hb, hml, hown, hts⟩ (c_JArr_fill l D cI cL cZ H.size N a_counts 256 v_counts 0 v_counts_1 hc_2) ⟨(my_cb 2 hts m_410 rfl rfl (hts _ m_79) (hts _ m_408) (by decide +kernel) ⟨Nat.le_of_ble_eq_true rfl, Nat.le_of_ble_eq_true rfl⟩), hts _ m_409⟩ ⟨fun a U g mk q => by obtain ⟨q0, q1, qP, qK, qD⟩ := q; exact ⟨q0, q1, qP, va_K.moved (u := U) (U := U.calling g mk a) (Vm.Alike.refl U.vm) qK, qD⟩, fun U hU hW => ⟨rfl, by rw [hU], by rw [hU]; exact hPc, va_K.moved hW.alike hK, hDc.weaken (fun _ _ _ _ => trivial)⟩⟩ rfl rfl hl.1 rfl (lv_room (Nat.le_of_ble_eq_true rfl)) d_PM_countAll_5 ⟨Nat.zero_le _, Nat.zero_le _⟩) hS (fun q _ h => hFc q h) hFc (fun u t H1 locs ht hvm hw hB hz1 hk1 hS => ?_)
  obtain ⟨hP1, hK1, hD1⟩ := hB
  rw [ht] at hP1
  obtain ⟨hP, hD⟩ := va_join (wr := [(a_this, .inr (0, [.ref a_in, .ref o_out, .ref a_counts, .ref o_codes, .ref o_tree, .ref o_writer, .ref o_reader, .ref o_streams, .int i_place])), (a_in, .inr (5, [.ref a_in_words, .int i_in_room, .int i_in_used, .int i_in_held, .int i_in_many])), (a_in_words, .inl (cL, n_in_words, .inr (.inl v_in_words)))]) (w1 := [(a_counts, .inl (cI, 256, .inl v_counts_1))]) hP hD [3] [0, 1, 2] rfl rfl (by decide) (by decide) hk1 hFc hP1 hD1
  clear hPc hDc hFc hk1 hP1 hD1 hK1
  generalize H1 = H at hP hS ⊢
  have hP : va_P D classes [(a_this, .inr (0, [.ref a_in, .ref o_out, .ref a_counts, .ref o_codes, .ref o_tree, .ref o_writer, .ref o_reader, .ref o_streams, .int i_place])), (a_in, .inr (5, [.ref a_in_words, .int i_in_room, .int i_in_used, .int i_in_held, .int i_in_many])), (a_in_words, .inl (cL, n_in_words, .inr (.inl v_in_words))), (a_counts, .inl (cI, 256, .inl v_counts_1))] H := hP.sub [0, 1, 2, 3] rfl
  have hD : va_D A [(a_this, .inr (0, [.ref a_in, .ref o_out, .ref a_counts, .ref o_codes, .ref o_tree, .ref o_writer, .ref o_reader, .ref o_streams, .int i_place])), (a_in, .inr (5, [.ref a_in_words, .int i_in_room, .int i_in_used, .int i_in_held, .int i_in_many])), (a_in_words, .inl (cL, n_in_words, .inr (.inl v_in_words))), (a_counts, .inl (cI, 256, .inl v_counts_1))] := hD.sub [0, 1, 2, 3] (by decide) rfl
  refine lv_aload_n hx hb d_PM_countAll_8 rfl (lv_at hl 0 rfl) ?_
  refine va_get hx hb hts in_PM hown hK hP 0 rfl rfl 8 (by decide) (hts _ m_348) (fun _ h9 => h9) rfl d_PM_countAll_9 ?_
  refine lv_istore_n (lv' := [(1, .int i_place), (0, .ref a_this)]) hx hb d_PM_countAll_12 rfl hl (by decide) rfl (fun ls hl => ?_)
  exact w_PM_countAll_b13 ⟨hx, hb, hml, hown, hts, hK, hA⟩ hret  N _ _ h H locs ls (lv_sub hl [1, 0] rfl) hP hD hS
set_option maxHeartbeats 4000000 in
set_option maxRecDepth 100000 in
theorem c_PM_countAll (l : Launch) (D : va_G) (cI cL cZ : ClassId) (sz N : Nat) (a_this : Nat) (a_in : Nat) (a_in_words : Nat) (a_counts : Nat) (o_out : Nat) (o_codes : Nat) (o_tree : Nat) (o_writer : Nat) (o_reader : Nat) (o_streams : Nat) (i_place : Int32) (i_in_room : Int32) (i_in_used : Int32) (i_in_held : Int32) (i_in_many : Int32) (n_in_words : Nat) (v_in_words : Nat → Int64) (v_counts : Nat → Int32) (rv : Int32) (v_counts' : Nat → Int32) (h : f_PM_countAll N i_place i_in_used n_in_words v_in_words v_counts = some (rv, v_counts')) : Met l ({ cls := "PrefixMill", name := "countAll", desc := "()I" } : Jvm.MethodName) ws_PM_countAll R_PM_countAll (va_Pc [.ref a_this] (fun U => U.heap.size = sz ∧ va_P D classes [(a_this, .inr (0, [.ref a_in, .ref o_out, .ref a_counts, .ref o_codes, .ref o_tree, .ref o_writer, .ref o_reader, .ref o_streams, .int i_place])), (a_in, .inr (5, [.ref a_in_words, .int i_in_room, .int i_in_used, .int i_in_held, .int i_in_many])), (a_in_words, .inl (cL, n_in_words, .inr (.inl v_in_words))), (a_counts, .inl (cI, 256, .inl v_counts))] U.heap ∧ va_K D classes [(cI, .int), (cL, .long), (cZ, .boolean)] U ∧ va_D (fun _ => True) [(a_this, .inr (0, [.ref a_in, .ref o_out, .ref a_counts, .ref o_codes, .ref o_tree, .ref o_writer, .ref o_reader, .ref o_streams, .int i_place])), (a_in, .inr (5, [.ref a_in_words, .int i_in_room, .int i_in_used, .int i_in_held, .int i_in_many])), (a_in_words, .inl (cL, n_in_words, .inr (.inl v_in_words))), (a_counts, .inl (cI, 256, .inl v_counts))])) (va_Qi (fun (r0 : Int32) (_ : Unit) => rv = r0) (fun _ t => va_P D classes [(a_this, .inr (0, [.ref a_in, .ref o_out, .ref a_counts, .ref o_codes, .ref o_tree, .ref o_writer, .ref o_reader, .ref o_streams, .int i_place])), (a_in, .inr (5, [.ref a_in_words, .int i_in_room, .int i_in_used, .int i_in_held, .int i_in_many])), (a_in_words, .inl (cL, n_in_words, .inr (.inl v_in_words))), (a_counts, .inl (cI, 256, .inl v_counts'))] t.heap ∧ va_K D classes [(cI, .int), (cL, .long), (cZ, .boolean)] t ∧ va_D (va_A [(a_this, .inr (0, [.ref a_in, .ref o_out, .ref a_counts, .ref o_codes, .ref o_tree, .ref o_writer, .ref o_reader, .ref o_streams, .int i_place])), (a_in, .inr (5, [.ref a_in_words, .int i_in_room, .int i_in_used, .int i_in_held, .int i_in_many])), (a_in_words, .inl (cL, n_in_words, .inr (.inl v_in_words))), (a_counts, .inl (cI, 256, .inl v_counts))] sz) [(a_this, .inr (0, [.ref a_in, .ref o_out, .ref a_counts, .ref o_codes, .ref o_tree, .ref o_writer, .ref o_reader, .ref o_streams, .int i_place])), (a_in, .inr (5, [.ref a_in_words, .int i_in_room, .int i_in_used, .int i_in_held, .int i_in_many])), (a_in_words, .inl (cL, n_in_words, .inr (.inl v_in_words))), (a_counts, .inl (cI, 256, .inl v_counts'))]) (va_A [(a_this, .inr (0, [.ref a_in, .ref o_out, .ref a_counts, .ref o_codes, .ref o_tree, .ref o_writer, .ref o_reader, .ref o_streams, .int i_place])), (a_in, .inr (5, [.ref a_in_words, .int i_in_room, .int i_in_used, .int i_in_held, .int i_in_many])), (a_in_words, .inl (cL, n_in_words, .inr (.inl v_in_words))), (a_counts, .inl (cI, 256, .inl v_counts))] sz)) 0 0 (va_A [(a_this, .inr (0, [.ref a_in, .ref o_out, .ref a_counts, .ref o_codes, .ref o_tree, .ref o_writer, .ref o_reader, .ref o_streams, .int i_place])), (a_in, .inr (5, [.ref a_in_words, .int i_in_room, .int i_in_used, .int i_in_held, .int i_in_many])), (a_in_words, .inl (cL, n_in_words, .inr (.inl v_in_words))), (a_counts, .inl (cI, 256, .inl v_counts))] sz) := by
  refine Met.ofW (cc := b_PM_countAll) (maxL := 2) (ret := (some .int)) (by decide) rfl ?_
  intro p e s m args below meth c s₁ B hml hv
  obtain ⟨rfl, hsz, hP, hK, hD0⟩ := hv
  have hx := B.exec
  have hb := B.bytes
  have hr := B.returns
  have hts0 := atoms_spec (ws := ws_PM_countAll) B.pre
  have hts := gd_tl hts0
  clear hts0
  have hown : s.vm.findClass "PrefixMill" = some m.cls := findClass_of_methodNamed B.named
  have hlocks := B.notSynchronized
  subst hsz
  have hD := hD0.self (sz := s.heap.size)
  generalize hAe : va_A [(a_this, .inr (0, [.ref a_in, .ref o_out, .ref a_counts, .ref o_codes, .ref o_tree, .ref o_writer, .ref o_reader, .ref o_streams, .int i_place])), (a_in, .inr (5, [.ref a_in_words, .int i_in_room, .int i_in_used, .int i_in_held, .int i_in_many])), (a_in_words, .inl (cL, n_in_words, .inr (.inl v_in_words))), (a_counts, .inl (cI, 256, .inl v_counts))] s.heap.size = A at hD ⊢
  have hA : ∀ q : Nat, s.heap.size ≤ q → A q := fun q h => by rw [← hAe]; exact Or.inr h
  have hS : va_S A s.heap s.heap [] := va_S.rf
  have hP : va_P D classes [(a_this, .inr (0, [.ref a_in, .ref o_out, .ref a_counts, .ref o_codes, .ref o_tree, .ref o_writer, .ref o_reader, .ref o_streams, .int i_place])), (a_in, .inr (5, [.ref a_in_words, .int i_in_room, .int i_in_used, .int i_in_held, .int i_in_many])), (a_in_words, .inl (cL, n_in_words, .inr (.inl v_in_words))), (a_counts, .inl (cI, 256, .inl v_counts))] s.heap := hP
  have hl := lv_entry ([.ref a_this]) (n := 2) (Nat.le_of_ble_eq_true rfl)
  rw [lg_entry_eq]
  generalize (lg_sl ([.ref a_this]) ++ List.replicate (2 - (lg_sl ([.ref a_this])).length) Slot.unset).toArray = ls at hl ⊢
  have hl : lv_has ls 2 [(0, .ref a_this)] := hl
  have C : Cx p s m ([.ref a_this] : List Value).toArray c b_PM_countAll 2 "PrefixMill" D [(cI, .int), (cL, .long), (cZ, .boolean)] A := ⟨hx, hb, hml, hown, hts, hK, hA⟩
  refine w_PM_countAll_b0 (res := (rv, v_counts')) C ?_ _ h s.heap [] ls hl hP hD hS
  intro pc9 H9 locs9 ls9 rv9 v_counts9 e9 d9 hP9 hD9 hS9
  cases e9
  exact W.iret (v := rv) hx hb hr (fun t ht hW => ⟨⟨rv, (), rfl, rfl, by rw [ht]; exact hP9, va_K.moved hW.alike hK, hD9⟩, hS9.F ht⟩) hS9.2.2 d9
