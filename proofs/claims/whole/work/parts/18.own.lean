abbrev b_Row_put : ByteArray := prog_5_method_7_code
def ws_Row_put : List Cond := .code ({ cls := "PrefixMill$Row", name := "put", desc := "(II)V" } : Jvm.MethodName) b_Row_put 3 none :: tt
theorem d_Row_put_0 : decode b_Row_put 0 = .ok (.aload_n 0, 1) := by decide +kernel
theorem d_Row_put_1 : decode b_Row_put 1 = .ok (.dup, 1) := by decide +kernel
theorem d_Row_put_2 : decode b_Row_put 2 = .ok (.getfield 43, 3) := by decide +kernel
theorem d_Row_put_5 : decode b_Row_put 5 = .ok (.iload_n 1, 1) := by decide +kernel
theorem d_Row_put_6 : decode b_Row_put 6 = .ok (.aload_n 0, 1) := by decide +kernel
theorem d_Row_put_7 : decode b_Row_put 7 = .ok (.getfield 46, 3) := by decide +kernel
theorem d_Row_put_10 : decode b_Row_put 10 = .ok (.ishl, 1) := by decide +kernel
theorem d_Row_put_11 : decode b_Row_put 11 = .ok (.ior, 1) := by decide +kernel
theorem d_Row_put_12 : decode b_Row_put 12 = .ok (.putfield 43, 3) := by decide +kernel
theorem d_Row_put_15 : decode b_Row_put 15 = .ok (.aload_n 0, 1) := by decide +kernel
theorem d_Row_put_16 : decode b_Row_put 16 = .ok (.dup, 1) := by decide +kernel
theorem d_Row_put_17 : decode b_Row_put 17 = .ok (.getfield 46, 3) := by decide +kernel
theorem d_Row_put_20 : decode b_Row_put 20 = .ok (.iload_n 2, 1) := by decide +kernel
theorem d_Row_put_21 : decode b_Row_put 21 = .ok (.iadd, 1) := by decide +kernel
theorem d_Row_put_22 : decode b_Row_put 22 = .ok (.putfield 46, 3) := by decide +kernel
theorem d_Row_put_25 : decode b_Row_put 25 = .ok (.aload_n 0, 1) := by decide +kernel
theorem d_Row_put_26 : decode b_Row_put 26 = .ok (.getfield 46, 3) := by decide +kernel
theorem d_Row_put_29 : decode b_Row_put 29 = .ok (.bipush 8, 2) := by decide +kernel
theorem d_Row_put_31 : decode b_Row_put 31 = .ok (.if_icmp .lt 40, 3) := by decide +kernel
theorem d_Row_put_34 : decode b_Row_put 34 = .ok (.aload_n 0, 1) := by decide +kernel
theorem d_Row_put_35 : decode b_Row_put 35 = .ok (.aload_n 0, 1) := by decide +kernel
theorem d_Row_put_36 : decode b_Row_put 36 = .ok (.getfield 43, 3) := by decide +kernel
theorem d_Row_put_39 : decode b_Row_put 39 = .ok (.sipush 255, 3) := by decide +kernel
theorem d_Row_put_42 : decode b_Row_put 42 = .ok (.iand, 1) := by decide +kernel
theorem d_Row_put_43 : decode b_Row_put 43 = .ok (.invokevirtual 49, 3) := by decide +kernel
theorem d_Row_put_46 : decode b_Row_put 46 = .ok (.aload_n 0, 1) := by decide +kernel
theorem d_Row_put_47 : decode b_Row_put 47 = .ok (.dup, 1) := by decide +kernel
theorem d_Row_put_48 : decode b_Row_put 48 = .ok (.getfield 43, 3) := by decide +kernel
theorem d_Row_put_51 : decode b_Row_put 51 = .ok (.bipush 8, 2) := by decide +kernel
theorem d_Row_put_53 : decode b_Row_put 53 = .ok (.ishr, 1) := by decide +kernel
theorem d_Row_put_54 : decode b_Row_put 54 = .ok (.putfield 43, 3) := by decide +kernel
theorem d_Row_put_57 : decode b_Row_put 57 = .ok (.aload_n 0, 1) := by decide +kernel
theorem d_Row_put_58 : decode b_Row_put 58 = .ok (.dup, 1) := by decide +kernel
theorem d_Row_put_59 : decode b_Row_put 59 = .ok (.getfield 46, 3) := by decide +kernel
theorem d_Row_put_62 : decode b_Row_put 62 = .ok (.bipush 8, 2) := by decide +kernel
theorem d_Row_put_64 : decode b_Row_put 64 = .ok (.isub, 1) := by decide +kernel
theorem d_Row_put_65 : decode b_Row_put 65 = .ok (.putfield 46, 3) := by decide +kernel
theorem d_Row_put_68 : decode b_Row_put 68 = .ok (.goto (-43), 3) := by decide +kernel
theorem d_Row_put_71 : decode b_Row_put 71 = .ok (.return_, 1) := by decide +kernel
abbrev R_Row_put : Room := ({ frames := 1, cells := 0, slots := 0, locals := 23 } : Room)
def E_Row_put (p : Program) (l : Launch) (e : Env) (s : State) (m : MethodId) (args : Array Value) (below : List Frame) (meth : Method) (c : Code) (Q : State → Prop) (A : Nat → Prop) (D : va_G) (cI cL cZ : ClassId) (a_this : Nat) (a_words : Nat) (i_room : Int32) (n_words : Nat) (l1 : Int32) (l2 : Int32) (res : Int32 × Int32 × Int32 × (Nat → Int64)) : Prop := ∀ (pc : Nat) (H : Heap) (locs : List Loc) (ls : Array Slot) (i_used : Int32) (i_held : Int32) (i_many : Int32) (v_words : Nat → Int64), some (i_used, i_held, i_many, v_words) = some res → decode b_Row_put pc = .ok (.return_, 1) → va_P D classes [(a_this, .inr (5, [.ref a_words, .int i_room, .int i_used, .int i_held, .int i_many])), (a_words, .inl (cL, n_words, .inr (.inl v_words)))] H → va_D A [(a_this, .inr (5, [.ref a_words, .int i_room, .int i_used, .int i_held, .int i_many])), (a_words, .inl (cL, n_words, .inr (.inl v_words)))] → va_S A s.heap H locs → W p l e R_Row_put s m args below meth c H locs 0 0 Q (F0 m pc ls [])
def I_Row_put_b25 (p : Program) (l : Launch) (e : Env) (s : State) (m : MethodId) (args : Array Value) (below : List Frame) (meth : Method) (c : Code) (Q : State → Prop) (A : Nat → Prop) (D : va_G) (cI cL cZ : ClassId) (a_this : Nat) (a_words : Nat) (i_room : Int32) (n_words : Nat) (l1 : Int32) (l2 : Int32) (res : Int32 × Int32 × Int32 × (Nat → Int64)) (kf : Int32 → Int32 → Int32 → (Nat → Int64) → Option (Int32 × Int32 × Int32 × (Nat → Int64))) : Prop := ∀ (i_used : Int32) (i_held : Int32) (i_many : Int32) (v_words : Nat → Int64), kf i_used i_held i_many v_words = some res → ∀ (H : Heap) (locs : List Loc) (ls : Array Slot), lv_has ls 3 [(0, .ref a_this)] → va_P D classes [(a_this, .inr (5, [.ref a_words, .int i_room, .int i_used, .int i_held, .int i_many])), (a_words, .inl (cL, n_words, .inr (.inl v_words)))] H → va_D A [(a_this, .inr (5, [.ref a_words, .int i_room, .int i_used, .int i_held, .int i_many])), (a_words, .inl (cL, n_words, .inr (.inl v_words)))] → va_S A s.heap H locs → W p l e R_Row_put s m args below meth c H locs 0 0 Q (F0 m 25 ls [])
def I_Row_put_b0 (p : Program) (l : Launch) (e : Env) (s : State) (m : MethodId) (args : Array Value) (below : List Frame) (meth : Method) (c : Code) (Q : State → Prop) (A : Nat → Prop) (D : va_G) (cI cL cZ : ClassId) (a_this : Nat) (a_words : Nat) (i_room : Int32) (n_words : Nat) (l1 : Int32) (l2 : Int32) (res : Int32 × Int32 × Int32 × (Nat → Int64)) (kf : Int32 → Int32 → Int32 → (Nat → Int64) → Option (Int32 × Int32 × Int32 × (Nat → Int64))) : Prop := ∀ (i_used : Int32) (i_held : Int32) (i_many : Int32) (v_words : Nat → Int64), kf i_used i_held i_many v_words = some res → ∀ (H : Heap) (locs : List Loc) (ls : Array Slot), lv_has ls 3 [(0, .ref a_this), (1, .int l1), (2, .int l2)] → va_P D classes [(a_this, .inr (5, [.ref a_words, .int i_room, .int i_used, .int i_held, .int i_many])), (a_words, .inl (cL, n_words, .inr (.inl v_words)))] H → va_D A [(a_this, .inr (5, [.ref a_words, .int i_room, .int i_used, .int i_held, .int i_many])), (a_words, .inl (cL, n_words, .inr (.inl v_words)))] → va_S A s.heap H locs → W p l e R_Row_put s m args below meth c H locs 0 0 Q (F0 m 0 ls [])
set_option maxHeartbeats 4000000 in
set_option maxRecDepth 100000 in
theorem w_Row_put_b25 {p : Program} {l : Launch} {e : Env} {s : State} {m : MethodId} {args : Array Value} {below : List Frame} {meth : Method} {c : Code} {Q : State → Prop} {A : Nat → Prop} {D : va_G} {cI cL cZ : ClassId} {a_this : Nat} {a_words : Nat} {i_room : Int32} {n_words : Nat} {l1 : Int32} {l2 : Int32} {N : Nat} {res : Int32 × Int32 × Int32 × (Nat → Int64)}  (C : Cx p s m args c b_Row_put 3 "PrefixMill$Row" D [(cI, .int), (cL, .long), (cZ, .boolean)] A) (hret : E_Row_put p l e s m args below meth c Q A D cI cL cZ a_this a_words i_room n_words l1 l2 res)  : ∀ z : Nat, I_Row_put_b25 p l e s m args below meth c Q A D cI cL cZ a_this a_words i_room n_words l1 l2 res (f_Row_put_b25 N i_room n_words l1 l2  z) := by
  obtain ⟨hx, hb, hml, hown, hts, hK, hA⟩ := C
  intro z
  induction z with
  | zero => intro i_used i_held i_many v_words h; cases h
  | succ z ih =>
    intro i_used i_held i_many v_words h H locs ls hl hP hD hS
    refine lv_aload_n hx hb d_Row_put_25 rfl (lv_at hl 0 rfl) ?_
    refine va_get hx hb hts in_Row hown hK hP 0 rfl rfl 4 (by decide) (hts _ m_102) (fun _ h9 => h9) rfl d_Row_put_26 ?_
    refine lv_bipush (v := 8) hx hb d_Row_put_29 (by decide) ?_
    refine lv_icmp_lt (tgt := 71) hx hb d_Row_put_31 (by decide) (fun c_1 => ?_) (fun c_1 => ?_)
    · replace h := if_t h c_1
      exact hret _ _ _ _ i_used i_held i_many v_words h d_Row_put_71 hP hD hS
    · replace h := if_f h c_1
      refine lv_aload_n hx hb d_Row_put_34 rfl (lv_at hl 0 rfl) ?_
      refine lv_aload_n hx hb d_Row_put_35 rfl (lv_at hl 0 rfl) ?_
      refine va_get hx hb hts in_Row hown hK hP 0 rfl rfl 3 (by decide) (hts _ m_101) (fun _ h9 => h9) rfl d_Row_put_36 ?_
      refine lv_sipush (v := 255) hx hb d_Row_put_39 (by decide) ?_
      refine lv_iand hx hb d_Row_put_42 ?_
      obtain ⟨i_used_2, v_words_3, hc_4, h⟩ := bd2_s h
      have hPc := hP.sub (ws' := [(a_this, .inr (5, [.ref a_words, .int i_room, .int i_used, .int i_held, .int i_many])), (a_words, .inl (cL, n_words, .inr (.inl v_words)))]) [0, 1] rfl
      have hDc := hD.sub (ws' := [(a_this, .inr (5, [.ref a_words, .int i_room, .int i_used, .int i_held, .int i_many])), (a_words, .inl (cL, n_words, .inr (.inl v_words)))]) [0, 1] (by decide) rfl
      have hFc := va_free (wc := [(a_this, .inr (5, [.ref a_words, .int i_room, .int i_used, .int i_held, .int i_many])), (a_words, .inl (cL, n_words, .inr (.inl v_words)))]) hD hS hA [0, 1] rfl
      refine va_callv (va_runV (As := [.int (i_held &&& 255)]) (rest := []) ⟨hx, hb, hml, hown, hts⟩ (c_Row_add l D cI cL cZ H.size N a_this a_words i_room i_used i_held i_many n_words v_words (i_held &&& 255) i_used_2 v_words_3 hc_4) ⟨(my_cb 1 hts m_375 rfl rfl (hts _ m_67) (hts _ m_574) (by decide +kernel) ⟨Nat.le_of_ble_eq_true rfl, Nat.le_of_ble_eq_true rfl⟩), hts _ m_373, hts _ m_374⟩ ⟨fun a U g mk q => by obtain ⟨q0, q1, qP, qK, qD⟩ := q; exact ⟨q0, q1, qP, va_K.moved (u := U) (U := U.calling g mk a) (Vm.Alike.refl U.vm) qK, qD⟩, va_recv hK hPc (ci := 5) (q0 := 0) rfl rfl, fun U hU hW => ⟨rfl, by rw [hU], by rw [hU]; exact hPc, va_K.moved hW.alike hK, hDc.weaken (fun _ _ _ _ => trivial)⟩⟩ rfl rfl hl.1 rfl (lv_room (Nat.le_of_ble_eq_true rfl)) d_Row_put_43 ⟨Nat.zero_le _, Nat.zero_le _⟩) hS (fun q _ h => hFc q h) hFc (fun u t H1 locs ht hvm hw hB hz1 hk1 hS => ?_)
      obtain ⟨hP1, hK1, hD1⟩ := hB
      rw [ht] at hP1
      obtain ⟨hP, hD⟩ := va_join (wr := []) (w1 := [(a_this, .inr (5, [.ref a_words, .int i_room, .int i_used_2, .int i_held, .int i_many])), (a_words, .inl (cL, n_words, .inr (.inl v_words_3)))]) hP hD [0, 1] [] rfl rfl (by decide) (by decide) hk1 hFc hP1 hD1
      clear hPc hDc hFc hk1 hP1 hD1 hK1
      generalize H1 = H at hP hS ⊢
      have hP : va_P D classes [(a_this, .inr (5, [.ref a_words, .int i_room, .int i_used_2, .int i_held, .int i_many])), (a_words, .inl (cL, n_words, .inr (.inl v_words_3)))] H := hP.sub [0, 1] rfl
      have hD : va_D A [(a_this, .inr (5, [.ref a_words, .int i_room, .int i_used_2, .int i_held, .int i_many])), (a_words, .inl (cL, n_words, .inr (.inl v_words_3)))] := hD.sub [0, 1] (by decide) rfl
      refine lv_aload_n hx hb d_Row_put_46 rfl (lv_at hl 0 rfl) ?_
      refine lv_dup hx hb d_Row_put_47 rfl ?_
      refine va_get hx hb hts in_Row hown hK hP 0 rfl rfl 3 (by decide) (hts _ m_101) (fun _ h9 => h9) rfl d_Row_put_48 ?_
      refine lv_bipush (v := 8) hx hb d_Row_put_51 (by decide) ?_
      refine lv_ishr hx hb d_Row_put_53 ?_
      refine lv_topi (fun i_held_5 ei_held_5 => ?_)
      replace h := nm_s h ei_held_5
      refine va_put (v := .int i_held_5) (ty := .int) hx hb hts in_Row t_Row t_Row_ok n_Row hown hK hP hD hS 0 rfl rfl 3 (by decide) (hts _ m_101) (fun _ h9 => h9) rfl (by decide +kernel) rfl rfl (Nat.le_of_ble_eq_true rfl) d_Row_put_54 (fun H locs hP hD hS => ?_)
      have hP : va_P D classes [(a_this, .inr (5, [.ref a_words, .int i_room, .int i_used_2, .int i_held_5, .int i_many])), (a_words, .inl (cL, n_words, .inr (.inl v_words_3)))] H := by exact hP
      have hD : va_D A [(a_this, .inr (5, [.ref a_words, .int i_room, .int i_used_2, .int i_held_5, .int i_many])), (a_words, .inl (cL, n_words, .inr (.inl v_words_3)))] := by exact hD
      refine lv_aload_n hx hb d_Row_put_57 rfl (lv_at hl 0 rfl) ?_
      refine lv_dup hx hb d_Row_put_58 rfl ?_
      refine va_get hx hb hts in_Row hown hK hP 0 rfl rfl 4 (by decide) (hts _ m_102) (fun _ h9 => h9) rfl d_Row_put_59 ?_
      refine lv_bipush (v := 8) hx hb d_Row_put_62 (by decide) ?_
      refine lv_isub hx hb d_Row_put_64 ?_
      refine lv_topi (fun i_many_6 ei_many_6 => ?_)
      replace h := nm_s h ei_many_6
      refine va_put (v := .int i_many_6) (ty := .int) hx hb hts in_Row t_Row t_Row_ok n_Row hown hK hP hD hS 0 rfl rfl 4 (by decide) (hts _ m_102) (fun _ h9 => h9) rfl (by decide +kernel) rfl rfl (Nat.le_of_ble_eq_true rfl) d_Row_put_65 (fun H locs hP hD hS => ?_)
      have hP : va_P D classes [(a_this, .inr (5, [.ref a_words, .int i_room, .int i_used_2, .int i_held_5, .int i_many_6])), (a_words, .inl (cL, n_words, .inr (.inl v_words_3)))] H := by exact hP
      have hD : va_D A [(a_this, .inr (5, [.ref a_words, .int i_room, .int i_used_2, .int i_held_5, .int i_many_6])), (a_words, .inl (cL, n_words, .inr (.inl v_words_3)))] := by exact hD
      refine lv_goto (tgt := 25) hx hb d_Row_put_68 (by decide) ?_
      exact ih _ _ _ _ h H locs ls (lv_sub hl [0] rfl) hP hD hS
set_option maxHeartbeats 4000000 in
set_option maxRecDepth 100000 in
theorem w_Row_put_b0 {p : Program} {l : Launch} {e : Env} {s : State} {m : MethodId} {args : Array Value} {below : List Frame} {meth : Method} {c : Code} {Q : State → Prop} {A : Nat → Prop} {D : va_G} {cI cL cZ : ClassId} {a_this : Nat} {a_words : Nat} {i_room : Int32} {n_words : Nat} {l1 : Int32} {l2 : Int32} {N : Nat} {res : Int32 × Int32 × Int32 × (Nat → Int64)}  (C : Cx p s m args c b_Row_put 3 "PrefixMill$Row" D [(cI, .int), (cL, .long), (cZ, .boolean)] A) (hret : E_Row_put p l e s m args below meth c Q A D cI cL cZ a_this a_words i_room n_words l1 l2 res)  : I_Row_put_b0 p l e s m args below meth c Q A D cI cL cZ a_this a_words i_room n_words l1 l2 res (f_Row_put N i_room n_words l1 l2 ) := by
  obtain ⟨hx, hb, hml, hown, hts, hK, hA⟩ := C
  intro i_used i_held i_many v_words h H locs ls hl hP hD hS
  unfold f_Row_put at h
  refine lv_aload_n hx hb d_Row_put_0 rfl (lv_at hl 0 rfl) ?_
  refine lv_dup hx hb d_Row_put_1 rfl ?_
  refine va_get hx hb hts in_Row hown hK hP 0 rfl rfl 3 (by decide) (hts _ m_101) (fun _ h9 => h9) rfl d_Row_put_2 ?_
  refine lv_iload_n hx hb d_Row_put_5 rfl (lv_at hl 1 rfl) ?_
  refine lv_aload_n hx hb d_Row_put_6 rfl (lv_at hl 0 rfl) ?_
  refine va_get hx hb hts in_Row hown hK hP 0 rfl rfl 4 (by decide) (hts _ m_102) (fun _ h9 => h9) rfl d_Row_put_7 ?_
  refine lv_ishl hx hb d_Row_put_10 ?_
  refine lv_ior hx hb d_Row_put_11 ?_
  refine lv_topi (fun i_held_1 ei_held_1 => ?_)
  replace h := nm_s h ei_held_1
  refine va_put (v := .int i_held_1) (ty := .int) hx hb hts in_Row t_Row t_Row_ok n_Row hown hK hP hD hS 0 rfl rfl 3 (by decide) (hts _ m_101) (fun _ h9 => h9) rfl (by decide +kernel) rfl rfl (Nat.le_of_ble_eq_true rfl) d_Row_put_12 (fun H locs hP hD hS => ?_)
  have hP : va_P D classes [(a_this, .inr (5, [.ref a_words, .int i_room, .int i_used, .int i_held_1, .int i_many])), (a_words, .inl (cL, n_words, .inr (.inl v_words)))] H := by exact hP
  have hD : va_D A [(a_this, .inr (5, [.ref a_words, .int i_room, .int i_used, .int i_held_1, .int i_many])), (a_words, .inl (cL, n_words, .inr (.inl v_words)))] := by exact hD
  refine lv_aload_n hx hb d_Row_put_15 rfl (lv_at hl 0 rfl) ?_
  refine lv_dup hx hb d_Row_put_16 rfl ?_
  refine va_get hx hb hts in_Row hown hK hP 0 rfl rfl 4 (by decide) (hts _ m_102) (fun _ h9 => h9) rfl d_Row_put_17 ?_
  refine lv_iload_n hx hb d_Row_put_20 rfl (lv_at hl 2 rfl) ?_
  refine lv_iadd hx hb d_Row_put_21 ?_
  refine lv_topi (fun i_many_2 ei_many_2 => ?_)
  replace h := nm_s h ei_many_2
  refine va_put (v := .int i_many_2) (ty := .int) hx hb hts in_Row t_Row t_Row_ok n_Row hown hK hP hD hS 0 rfl rfl 4 (by decide) (hts _ m_102) (fun _ h9 => h9) rfl (by decide +kernel) rfl rfl (Nat.le_of_ble_eq_true rfl) d_Row_put_22 (fun H locs hP hD hS => ?_)
  have hP : va_P D classes [(a_this, .inr (5, [.ref a_words, .int i_room, .int i_used, .int i_held_1, .int i_many_2])), (a_words, .inl (cL, n_words, .inr (.inl v_words)))] H := by exact hP
  have hD : va_D A [(a_this, .inr (5, [.ref a_words, .int i_room, .int i_used, .int i_held_1, .int i_many_2])), (a_words, .inl (cL, n_words, .inr (.inl v_words)))] := by exact hD
  exact w_Row_put_b25 ⟨hx, hb, hml, hown, hts, hK, hA⟩ hret  N _ _ _ _ h H locs ls (lv_sub hl [0] rfl) hP hD hS
set_option maxHeartbeats 4000000 in
set_option maxRecDepth 100000 in
theorem c_Row_put (l : Launch) (D : va_G) (cI cL cZ : ClassId) (sz N : Nat) (a_this : Nat) (a_words : Nat) (i_room : Int32) (i_used : Int32) (i_held : Int32) (i_many : Int32) (n_words : Nat) (v_words : Nat → Int64) (l1 : Int32) (l2 : Int32) (i_used' : Int32) (i_held' : Int32) (i_many' : Int32) (v_words' : Nat → Int64) (h : f_Row_put N i_room n_words l1 l2 i_used i_held i_many v_words = some (i_used', i_held', i_many', v_words')) : Met l ({ cls := "PrefixMill$Row", name := "put", desc := "(II)V" } : Jvm.MethodName) ws_Row_put R_Row_put (va_Pc [.ref a_this, .int l1, .int l2] (fun U => U.heap.size = sz ∧ va_P D classes [(a_this, .inr (5, [.ref a_words, .int i_room, .int i_used, .int i_held, .int i_many])), (a_words, .inl (cL, n_words, .inr (.inl v_words)))] U.heap ∧ va_K D classes [(cI, .int), (cL, .long), (cZ, .boolean)] U ∧ va_D (fun _ => True) [(a_this, .inr (5, [.ref a_words, .int i_room, .int i_used, .int i_held, .int i_many])), (a_words, .inl (cL, n_words, .inr (.inl v_words)))])) (va_Qv (fun _ : Unit => True) (fun _ t => va_P D classes [(a_this, .inr (5, [.ref a_words, .int i_room, .int i_used', .int i_held', .int i_many'])), (a_words, .inl (cL, n_words, .inr (.inl v_words')))] t.heap ∧ va_K D classes [(cI, .int), (cL, .long), (cZ, .boolean)] t ∧ va_D (va_A [(a_this, .inr (5, [.ref a_words, .int i_room, .int i_used, .int i_held, .int i_many])), (a_words, .inl (cL, n_words, .inr (.inl v_words)))] sz) [(a_this, .inr (5, [.ref a_words, .int i_room, .int i_used', .int i_held', .int i_many'])), (a_words, .inl (cL, n_words, .inr (.inl v_words')))]) (va_A [(a_this, .inr (5, [.ref a_words, .int i_room, .int i_used, .int i_held, .int i_many])), (a_words, .inl (cL, n_words, .inr (.inl v_words)))] sz)) 0 0 (va_A [(a_this, .inr (5, [.ref a_words, .int i_room, .int i_used, .int i_held, .int i_many])), (a_words, .inl (cL, n_words, .inr (.inl v_words)))] sz) := by
  refine Met.ofW (cc := b_Row_put) (maxL := 3) (ret := none) (by decide) rfl ?_
  intro p e s m args below meth c s₁ B hml hv
  obtain ⟨rfl, hsz, hP, hK, hD0⟩ := hv
  have hx := B.exec
  have hb := B.bytes
  have hr := B.returns
  have hts0 := atoms_spec (ws := ws_Row_put) B.pre
  have hts := gd_tl hts0
  clear hts0
  have hown : s.vm.findClass "PrefixMill$Row" = some m.cls := findClass_of_methodNamed B.named
  have hlocks := B.notSynchronized
  subst hsz
  have hD := hD0.self (sz := s.heap.size)
  generalize hAe : va_A [(a_this, .inr (5, [.ref a_words, .int i_room, .int i_used, .int i_held, .int i_many])), (a_words, .inl (cL, n_words, .inr (.inl v_words)))] s.heap.size = A at hD ⊢
  have hA : ∀ q : Nat, s.heap.size ≤ q → A q := fun q h => by rw [← hAe]; exact Or.inr h
  have hS : va_S A s.heap s.heap [] := va_S.rf
  have hP : va_P D classes [(a_this, .inr (5, [.ref a_words, .int i_room, .int i_used, .int i_held, .int i_many])), (a_words, .inl (cL, n_words, .inr (.inl v_words)))] s.heap := hP
  have hl := lv_entry ([.ref a_this, .int l1, .int l2]) (n := 3) (Nat.le_of_ble_eq_true rfl)
  rw [lg_entry_eq]
  generalize (lg_sl ([.ref a_this, .int l1, .int l2]) ++ List.replicate (3 - (lg_sl ([.ref a_this, .int l1, .int l2])).length) Slot.unset).toArray = ls at hl ⊢
  have hl : lv_has ls 3 [(0, .ref a_this), (1, .int l1), (2, .int l2)] := hl
  have C : Cx p s m ([.ref a_this, .int l1, .int l2] : List Value).toArray c b_Row_put 3 "PrefixMill$Row" D [(cI, .int), (cL, .long), (cZ, .boolean)] A := ⟨hx, hb, hml, hown, hts, hK, hA⟩
  refine w_Row_put_b0 (res := (i_used', i_held', i_many', v_words')) C ?_ _ _ _ _ h s.heap [] ls hl hP hD hS
  intro pc9 H9 locs9 ls9 i_used9 i_held9 i_many9 v_words9 e9 d9 hP9 hD9 hS9
  cases e9
  exact W.vret hx hb hr (fun t ht hW => ⟨⟨(), rfl, trivial, by rw [ht]; exact hP9, va_K.moved hW.alike hK, hD9⟩, hS9.F ht⟩) hS9.2.2 d9
abbrev b_Share_putPoints : ByteArray := prog_6_method_15_code
def ws_Share_putPoints : List Cond := .code ({ cls := "PrefixMill$Share", name := "putPoints", desc := "(LPrefixMill$Row;II)V" } : Jvm.MethodName) b_Share_putPoints 6 none :: tt
theorem d_Share_putPoints_0 : decode b_Share_putPoints 0 = .ok (.iload_n 2, 1) := by decide +kernel
theorem d_Share_putPoints_1 : decode b_Share_putPoints 1 = .ok (.iconst 1, 1) := by decide +kernel
theorem d_Share_putPoints_2 : decode b_Share_putPoints 2 = .ok (.iadd, 1) := by decide +kernel
theorem d_Share_putPoints_3 : decode b_Share_putPoints 3 = .ok (.invokestatic 82, 3) := by decide +kernel
theorem d_Share_putPoints_6 : decode b_Share_putPoints 6 = .ok (.istore_n 3, 1) := by decide +kernel
theorem d_Share_putPoints_7 : decode b_Share_putPoints 7 = .ok (.iconst 1, 1) := by decide +kernel
theorem d_Share_putPoints_8 : decode b_Share_putPoints 8 = .ok (.iload_n 3, 1) := by decide +kernel
theorem d_Share_putPoints_9 : decode b_Share_putPoints 9 = .ok (.ishl, 1) := by decide +kernel
theorem d_Share_putPoints_10 : decode b_Share_putPoints 10 = .ok (.istore 4, 2) := by decide +kernel
theorem d_Share_putPoints_12 : decode b_Share_putPoints 12 = .ok (.iconst 2, 1) := by decide +kernel
theorem d_Share_putPoints_13 : decode b_Share_putPoints 13 = .ok (.iload 4, 2) := by decide +kernel
theorem d_Share_putPoints_15 : decode b_Share_putPoints 15 = .ok (.imul, 1) := by decide +kernel
theorem d_Share_putPoints_16 : decode b_Share_putPoints 16 = .ok (.iconst 2, 1) := by decide +kernel
theorem d_Share_putPoints_17 : decode b_Share_putPoints 17 = .ok (.isub, 1) := by decide +kernel
theorem d_Share_putPoints_18 : decode b_Share_putPoints 18 = .ok (.iload_n 2, 1) := by decide +kernel
theorem d_Share_putPoints_19 : decode b_Share_putPoints 19 = .ok (.isub, 1) := by decide +kernel
theorem d_Share_putPoints_20 : decode b_Share_putPoints 20 = .ok (.istore 5, 2) := by decide +kernel
theorem d_Share_putPoints_22 : decode b_Share_putPoints 22 = .ok (.iload_n 1, 1) := by decide +kernel
theorem d_Share_putPoints_23 : decode b_Share_putPoints 23 = .ok (.iload 5, 2) := by decide +kernel
theorem d_Share_putPoints_25 : decode b_Share_putPoints 25 = .ok (.if_icmp .ge 12, 3) := by decide +kernel
theorem d_Share_putPoints_28 : decode b_Share_putPoints 28 = .ok (.aload_n 0, 1) := by decide +kernel
theorem d_Share_putPoints_29 : decode b_Share_putPoints 29 = .ok (.iload_n 1, 1) := by decide +kernel
theorem d_Share_putPoints_30 : decode b_Share_putPoints 30 = .ok (.iload_n 3, 1) := by decide +kernel
theorem d_Share_putPoints_31 : decode b_Share_putPoints 31 = .ok (.invokevirtual 85, 3) := by decide +kernel
theorem d_Share_putPoints_34 : decode b_Share_putPoints 34 = .ok (.goto 24, 3) := by decide +kernel
theorem d_Share_putPoints_37 : decode b_Share_putPoints 37 = .ok (.aload_n 0, 1) := by decide +kernel
theorem d_Share_putPoints_38 : decode b_Share_putPoints 38 = .ok (.iload_n 1, 1) := by decide +kernel
theorem d_Share_putPoints_39 : decode b_Share_putPoints 39 = .ok (.iload 4, 2) := by decide +kernel
theorem d_Share_putPoints_41 : decode b_Share_putPoints 41 = .ok (.if_icmp .ge 7, 3) := by decide +kernel
theorem d_Share_putPoints_44 : decode b_Share_putPoints 44 = .ok (.iload_n 1, 1) := by decide +kernel
theorem d_Share_putPoints_45 : decode b_Share_putPoints 45 = .ok (.goto 7, 3) := by decide +kernel
theorem d_Share_putPoints_48 : decode b_Share_putPoints 48 = .ok (.iload_n 1, 1) := by decide +kernel
theorem d_Share_putPoints_49 : decode b_Share_putPoints 49 = .ok (.iload 5, 2) := by decide +kernel
theorem d_Share_putPoints_51 : decode b_Share_putPoints 51 = .ok (.iadd, 1) := by decide +kernel
theorem d_Share_putPoints_52 : decode b_Share_putPoints 52 = .ok (.iload_n 3, 1) := by decide +kernel
theorem d_Share_putPoints_53 : decode b_Share_putPoints 53 = .ok (.iconst 1, 1) := by decide +kernel
theorem d_Share_putPoints_54 : decode b_Share_putPoints 54 = .ok (.iadd, 1) := by decide +kernel
theorem d_Share_putPoints_55 : decode b_Share_putPoints 55 = .ok (.invokevirtual 85, 3) := by decide +kernel
theorem d_Share_putPoints_58 : decode b_Share_putPoints 58 = .ok (.return_, 1) := by decide +kernel
abbrev R_Share_putPoints : Room := ({ frames := 2, cells := 0, slots := 0, locals := 45 } : Room)
def E_Share_putPoints (p : Program) (l : Launch) (e : Env) (s : State) (m : MethodId) (args : Array Value) (below : List Frame) (meth : Method) (c : Code) (Q : State → Prop) (A : Nat → Prop) (D : va_G) (cI cL cZ : ClassId) (a_p1 : Nat) (a_p1_words : Nat) (i_p1_room : Int32) (n_p1_words : Nat) (l1 : Int32) (l2 : Int32) (res : Int32 × Int32 × Int32 × (Nat → Int64)) : Prop := ∀ (pc : Nat) (H : Heap) (locs : List Loc) (ls : Array Slot) (i_p1_used : Int32) (i_p1_held : Int32) (i_p1_many : Int32) (v_p1_words : Nat → Int64), some (i_p1_used, i_p1_held, i_p1_many, v_p1_words) = some res → decode b_Share_putPoints pc = .ok (.return_, 1) → va_P D classes [(a_p1, .inr (5, [.ref a_p1_words, .int i_p1_room, .int i_p1_used, .int i_p1_held, .int i_p1_many])), (a_p1_words, .inl (cL, n_p1_words, .inr (.inl v_p1_words)))] H → va_D A [(a_p1, .inr (5, [.ref a_p1_words, .int i_p1_room, .int i_p1_used, .int i_p1_held, .int i_p1_many])), (a_p1_words, .inl (cL, n_p1_words, .inr (.inl v_p1_words)))] → va_S A s.heap H locs → W p l e R_Share_putPoints s m args below meth c H locs 0 0 Q (F0 m pc ls [])
def I_Share_putPoints_b52 (p : Program) (l : Launch) (e : Env) (s : State) (m : MethodId) (args : Array Value) (below : List Frame) (meth : Method) (c : Code) (Q : State → Prop) (A : Nat → Prop) (D : va_G) (cI cL cZ : ClassId) (a_p1 : Nat) (a_p1_words : Nat) (i_p1_room : Int32) (n_p1_words : Nat) (l1 : Int32) (l2 : Int32) (res : Int32 × Int32 × Int32 × (Nat → Int64)) (kf : Int32 → Int32 → Int32 → Int32 → Int32 → (Nat → Int64) → Option (Int32 × Int32 × Int32 × (Nat → Int64))) : Prop := ∀ (l3 : Int32) (s0 : Int32) (i_p1_used : Int32) (i_p1_held : Int32) (i_p1_many : Int32) (v_p1_words : Nat → Int64), kf l3 s0 i_p1_used i_p1_held i_p1_many v_p1_words = some res → ∀ (H : Heap) (locs : List Loc) (ls : Array Slot), lv_has ls 6 [(3, .int l3)] → va_P D classes [(a_p1, .inr (5, [.ref a_p1_words, .int i_p1_room, .int i_p1_used, .int i_p1_held, .int i_p1_many])), (a_p1_words, .inl (cL, n_p1_words, .inr (.inl v_p1_words)))] H → va_D A [(a_p1, .inr (5, [.ref a_p1_words, .int i_p1_room, .int i_p1_used, .int i_p1_held, .int i_p1_many])), (a_p1_words, .inl (cL, n_p1_words, .inr (.inl v_p1_words)))] → va_S A s.heap H locs → W p l e R_Share_putPoints s m args below meth c H locs 0 0 Q (F0 m 52 ls [.int s0, .ref a_p1])
def I_Share_putPoints_b0 (p : Program) (l : Launch) (e : Env) (s : State) (m : MethodId) (args : Array Value) (below : List Frame) (meth : Method) (c : Code) (Q : State → Prop) (A : Nat → Prop) (D : va_G) (cI cL cZ : ClassId) (a_p1 : Nat) (a_p1_words : Nat) (i_p1_room : Int32) (n_p1_words : Nat) (l1 : Int32) (l2 : Int32) (res : Int32 × Int32 × Int32 × (Nat → Int64)) (kf : Int32 → Int32 → Int32 → (Nat → Int64) → Option (Int32 × Int32 × Int32 × (Nat → Int64))) : Prop := ∀ (i_p1_used : Int32) (i_p1_held : Int32) (i_p1_many : Int32) (v_p1_words : Nat → Int64), kf i_p1_used i_p1_held i_p1_many v_p1_words = some res → ∀ (H : Heap) (locs : List Loc) (ls : Array Slot), lv_has ls 6 [(0, .ref a_p1), (1, .int l1), (2, .int l2)] → va_P D classes [(a_p1, .inr (5, [.ref a_p1_words, .int i_p1_room, .int i_p1_used, .int i_p1_held, .int i_p1_many])), (a_p1_words, .inl (cL, n_p1_words, .inr (.inl v_p1_words)))] H → va_D A [(a_p1, .inr (5, [.ref a_p1_words, .int i_p1_room, .int i_p1_used, .int i_p1_held, .int i_p1_many])), (a_p1_words, .inl (cL, n_p1_words, .inr (.inl v_p1_words)))] → va_S A s.heap H locs → W p l e R_Share_putPoints s m args below meth c H locs 0 0 Q (F0 m 0 ls [])
set_option maxHeartbeats 4000000 in
set_option maxRecDepth 100000 in
theorem w_Share_putPoints_b52 {p : Program} {l : Launch} {e : Env} {s : State} {m : MethodId} {args : Array Value} {below : List Frame} {meth : Method} {c : Code} {Q : State → Prop} {A : Nat → Prop} {D : va_G} {cI cL cZ : ClassId} {a_p1 : Nat} {a_p1_words : Nat} {i_p1_room : Int32} {n_p1_words : Nat} {l1 : Int32} {l2 : Int32} {N : Nat} {res : Int32 × Int32 × Int32 × (Nat → Int64)}  (C : Cx p s m args c b_Share_putPoints 6 "PrefixMill$Share" D [(cI, .int), (cL, .long), (cZ, .boolean)] A) (hret : E_Share_putPoints p l e s m args below meth c Q A D cI cL cZ a_p1 a_p1_words i_p1_room n_p1_words l1 l2 res)  : I_Share_putPoints_b52 p l e s m args below meth c Q A D cI cL cZ a_p1 a_p1_words i_p1_room n_p1_words l1 l2 res (f_Share_putPoints_b52 N i_p1_room n_p1_words l1 l2 ) := by
  obtain ⟨hx, hb, hml, hown, hts, hK, hA⟩ := C
  intro l3 s0 i_p1_used i_p1_held i_p1_many v_p1_words h H locs ls hl hP hD hS
  unfold f_Share_putPoints_b52 at h
  refine lv_iload_n hx hb d_Share_putPoints_52 rfl (lv_at hl 0 rfl) ?_
  refine lv_iconst (v := 1) hx hb d_Share_putPoints_53 (by decide) ?_
  refine lv_iadd hx hb d_Share_putPoints_54 ?_
  obtain ⟨i_p1_used_1, i_p1_held_2, i_p1_many_3, v_p1_words_4, hc_5, h⟩ := bd4_s h
  have hPc := hP.sub (ws' := [(a_p1, .inr (5, [.ref a_p1_words, .int i_p1_room, .int i_p1_used, .int i_p1_held, .int i_p1_many])), (a_p1_words, .inl (cL, n_p1_words, .inr (.inl v_p1_words)))]) [0, 1] rfl
  have hDc := hD.sub (ws' := [(a_p1, .inr (5, [.ref a_p1_words, .int i_p1_room, .int i_p1_used, .int i_p1_held, .int i_p1_many])), (a_p1_words, .inl (cL, n_p1_words, .inr (.inl v_p1_words)))]) [0, 1] (by decide) rfl
  have hFc := va_free (wc := [(a_p1, .inr (5, [.ref a_p1_words, .int i_p1_room, .int i_p1_used, .int i_p1_held, .int i_p1_many])), (a_p1_words, .inl (cL, n_p1_words, .inr (.inl v_p1_words)))]) hD hS hA [0, 1] rfl
  refine va_callv (va_runV (As := [.int s0, .int (l3 + 1)]) (rest := []) ⟨hx, hb, hml, hown, hts⟩ (c_Row_put l D cI cL cZ H.size N a_p1 a_p1_words i_p1_room i_p1_used i_p1_held i_p1_many n_p1_words v_p1_words s0 (l3 + 1) i_p1_used_1 i_p1_held_2 i_p1_many_3 v_p1_words_4 hc_5) ⟨(my_cb 2 hts m_573 rfl rfl (hts _ m_67) (hts _ m_570) (by decide +kernel) ⟨Nat.le_of_ble_eq_true rfl, Nat.le_of_ble_eq_true rfl⟩), hts _ m_571, hts _ m_572⟩ ⟨fun a U g mk q => by obtain ⟨q0, q1, qP, qK, qD⟩ := q; exact ⟨q0, q1, qP, va_K.moved (u := U) (U := U.calling g mk a) (Vm.Alike.refl U.vm) qK, qD⟩, va_recv hK hPc (ci := 5) (q0 := 0) rfl rfl, fun U hU hW => ⟨rfl, by rw [hU], by rw [hU]; exact hPc, va_K.moved hW.alike hK, hDc.weaken (fun _ _ _ _ => trivial)⟩⟩ rfl rfl hl.1 rfl (lv_room (Nat.le_of_ble_eq_true rfl)) d_Share_putPoints_55 ⟨Nat.zero_le _, Nat.zero_le _⟩) hS (fun q _ h => hFc q h) hFc (fun u t H1 locs ht hvm hw hB hz1 hk1 hS => ?_)
  obtain ⟨hP1, hK1, hD1⟩ := hB
  rw [ht] at hP1
  obtain ⟨hP, hD⟩ := va_join (wr := []) (w1 := [(a_p1, .inr (5, [.ref a_p1_words, .int i_p1_room, .int i_p1_used_1, .int i_p1_held_2, .int i_p1_many_3])), (a_p1_words, .inl (cL, n_p1_words, .inr (.inl v_p1_words_4)))]) hP hD [0, 1] [] rfl rfl (by decide) (by decide) hk1 hFc hP1 hD1
  clear hPc hDc hFc hk1 hP1 hD1 hK1
  generalize H1 = H at hP hS ⊢
  have hP : va_P D classes [(a_p1, .inr (5, [.ref a_p1_words, .int i_p1_room, .int i_p1_used_1, .int i_p1_held_2, .int i_p1_many_3])), (a_p1_words, .inl (cL, n_p1_words, .inr (.inl v_p1_words_4)))] H := hP.sub [0, 1] rfl
  have hD : va_D A [(a_p1, .inr (5, [.ref a_p1_words, .int i_p1_room, .int i_p1_used_1, .int i_p1_held_2, .int i_p1_many_3])), (a_p1_words, .inl (cL, n_p1_words, .inr (.inl v_p1_words_4)))] := hD.sub [0, 1] (by decide) rfl
  exact hret _ _ _ _ i_p1_used_1 i_p1_held_2 i_p1_many_3 v_p1_words_4 h d_Share_putPoints_58 hP hD hS
set_option maxHeartbeats 4000000 in
set_option maxRecDepth 100000 in
theorem w_Share_putPoints_b0 {p : Program} {l : Launch} {e : Env} {s : State} {m : MethodId} {args : Array Value} {below : List Frame} {meth : Method} {c : Code} {Q : State → Prop} {A : Nat → Prop} {D : va_G} {cI cL cZ : ClassId} {a_p1 : Nat} {a_p1_words : Nat} {i_p1_room : Int32} {n_p1_words : Nat} {l1 : Int32} {l2 : Int32} {N : Nat} {res : Int32 × Int32 × Int32 × (Nat → Int64)}  (C : Cx p s m args c b_Share_putPoints 6 "PrefixMill$Share" D [(cI, .int), (cL, .long), (cZ, .boolean)] A) (hret : E_Share_putPoints p l e s m args below meth c Q A D cI cL cZ a_p1 a_p1_words i_p1_room n_p1_words l1 l2 res)  : I_Share_putPoints_b0 p l e s m args below meth c Q A D cI cL cZ a_p1 a_p1_words i_p1_room n_p1_words l1 l2 res (f_Share_putPoints N i_p1_room n_p1_words l1 l2 ) := by
  obtain ⟨hx, hb, hml, hown, hts, hK, hA⟩ := C
  intro i_p1_used i_p1_held i_p1_many v_p1_words h H locs ls hl hP hD hS
  unfold f_Share_putPoints at h
  refine lv_iload_n hx hb d_Share_putPoints_0 rfl (lv_at hl 2 rfl) ?_
  refine lv_iconst (v := 1) hx hb d_Share_putPoints_1 (by decide) ?_
  refine lv_iadd hx hb d_Share_putPoints_2 ?_
  obtain ⟨r_1, hc_2, h⟩ := bd1_s h
  have hPc := hP.sub (ws' := []) [] rfl
  have hDc := hD.sub (ws' := []) [] (by decide) rfl
  have hFc := va_free (wc := []) hD hS hA [] rfl
  refine va_calli (va_runSN (As := [.int (l2 + 1)]) (rest := []) ⟨hx, hb, hml, hown, hts⟩ (c_PM_log2 l D cI cL cZ H.size N (l2 + 1) r_1 hc_2) ⟨(my_cn 1 hts m_565 rfl rfl (hts _ m_66) (hts _ m_563) (by decide +kernel) ⟨Nat.le_of_ble_eq_true rfl, Nat.le_of_ble_eq_true rfl⟩), hts _ m_564, trivial⟩ ⟨fun a U g mk q => by obtain ⟨q0, q1, qP, qK, qD⟩ := q; exact ⟨q0, q1, qP, va_K.moved (u := U) (U := U.calling g mk a) (Vm.Alike.refl U.vm) qK, qD⟩, fun U hU hW => ⟨rfl, by rw [hU], by rw [hU]; exact hPc, va_K.moved hW.alike hK, hDc.weaken (fun _ _ _ _ => trivial)⟩⟩ rfl rfl hl.1 rfl (lv_room (Nat.le_of_ble_eq_true rfl)) d_Share_putPoints_3 ⟨Nat.zero_le _, Nat.zero_le _⟩) hS (fun q _ h => hFc q h) hFc (fun rr u t H1 locs ht hvm hw hB hz1 hk1 hS => ?_)
  obtain ⟨hP1, hK1, hD1⟩ := hB
  rw [ht] at hP1
  subst hw
  obtain ⟨hP, hD⟩ := va_join (wr := [(a_p1, .inr (5, [.ref a_p1_words, .int i_p1_room, .int i_p1_used, .int i_p1_held, .int i_p1_many])), (a_p1_words, .inl (cL, n_p1_words, .inr (.inl v_p1_words)))]) (w1 := []) hP hD [] [0, 1] rfl rfl (by decide) (by decide) hk1 hFc hP1 hD1
  clear hPc hDc hFc hk1 hP1 hD1 hK1
  generalize H1 = H at hP hS ⊢
  have hP : va_P D classes [(a_p1, .inr (5, [.ref a_p1_words, .int i_p1_room, .int i_p1_used, .int i_p1_held, .int i_p1_many])), (a_p1_words, .inl (cL, n_p1_words, .inr (.inl v_p1_words)))] H := hP.sub [0, 1] rfl
  have hD : va_D A [(a_p1, .inr (5, [.ref a_p1_words, .int i_p1_room, .int i_p1_used, .int i_p1_held, .int i_p1_many])), (a_p1_words, .inl (cL, n_p1_words, .inr (.inl v_p1_words)))] := hD.sub [0, 1] (by decide) rfl
  refine lv_istore_n (lv' := [(3, .int r_1), (0, .ref a_p1), (1, .int l1), (2, .int l2)]) hx hb d_Share_putPoints_6 rfl hl (by decide) rfl (fun ls hl => ?_)
  refine lv_iconst (v := 1) hx hb d_Share_putPoints_7 (by decide) ?_
  refine lv_iload_n hx hb d_Share_putPoints_8 rfl (lv_at hl 0 rfl) ?_
  refine lv_ishl hx hb d_Share_putPoints_9 ?_
  refine lv_topi (fun l4_3 el4_3 => ?_)
  replace h := nm_s h el4_3
  refine lv_istore (lv' := [(4, .int l4_3), (3, .int r_1), (0, .ref a_p1), (1, .int l1), (2, .int l2)]) hx hb d_Share_putPoints_10 hl (by decide) rfl (fun ls hl => ?_)
  refine lv_iconst (v := 2) hx hb d_Share_putPoints_12 (by decide) ?_
  refine lv_iload hx hb d_Share_putPoints_13 (lv_at hl 0 rfl) ?_
  refine lv_imul hx hb d_Share_putPoints_15 ?_
  refine lv_iconst (v := 2) hx hb d_Share_putPoints_16 (by decide) ?_
  refine lv_isub hx hb d_Share_putPoints_17 ?_
  refine lv_iload_n hx hb d_Share_putPoints_18 rfl (lv_at hl 4 rfl) ?_
  refine lv_isub hx hb d_Share_putPoints_19 ?_
  refine lv_topi (fun l5_4 el5_4 => ?_)
  replace h := nm_s h el5_4
  refine lv_istore (lv' := [(5, .int l5_4), (4, .int l4_3), (3, .int r_1), (0, .ref a_p1), (1, .int l1), (2, .int l2)]) hx hb d_Share_putPoints_20 hl (by decide) rfl (fun ls hl => ?_)
  refine lv_iload_n hx hb d_Share_putPoints_22 rfl (lv_at hl 4 rfl) ?_
  refine lv_iload hx hb d_Share_putPoints_23 (lv_at hl 0 rfl) ?_
  refine lv_icmp_ge (tgt := 37) hx hb d_Share_putPoints_25 (by decide) (fun c_5 => ?_) (fun c_5 => ?_)
  · replace h := if_t h c_5
    refine lv_aload_n hx hb d_Share_putPoints_37 rfl (lv_at hl 3 rfl) ?_
    refine lv_iload_n hx hb d_Share_putPoints_38 rfl (lv_at hl 4 rfl) ?_
    refine lv_iload hx hb d_Share_putPoints_39 (lv_at hl 1 rfl) ?_
    refine lv_icmp_ge (tgt := 48) hx hb d_Share_putPoints_41 (by decide) (fun c_6 => ?_) (fun c_6 => ?_)
    · replace h := if_t h c_6
      refine lv_iload_n hx hb d_Share_putPoints_48 rfl (lv_at hl 4 rfl) ?_
      refine lv_iload hx hb d_Share_putPoints_49 (lv_at hl 0 rfl) ?_
      refine lv_iadd hx hb d_Share_putPoints_51 ?_
      exact w_Share_putPoints_b52 ⟨hx, hb, hml, hown, hts, hK, hA⟩ hret  _ _ _ _ _ _ h H locs ls (lv_sub hl [2] rfl) hP hD hS
    · replace h := if_f h c_6
      refine lv_iload_n hx hb d_Share_putPoints_44 rfl (lv_at hl 4 rfl) ?_
      refine lv_goto (tgt := 52) hx hb d_Share_putPoints_45 (by decide) ?_
      exact w_Share_putPoints_b52 ⟨hx, hb, hml, hown, hts, hK, hA⟩ hret  _ _ _ _ _ _ h H locs ls (lv_sub hl [2] rfl) hP hD hS
  · replace h := if_f h c_5
    refine lv_aload_n hx hb d_Share_putPoints_28 rfl (lv_at hl 3 rfl) ?_
    refine lv_iload_n hx hb d_Share_putPoints_29 rfl (lv_at hl 4 rfl) ?_
    refine lv_iload_n hx hb d_Share_putPoints_30 rfl (lv_at hl 2 rfl) ?_
    obtain ⟨i_p1_used_7, i_p1_held_8, i_p1_many_9, v_p1_words_10, hc_11, h⟩ := bd4_s h
    have hPc := hP.sub (ws' := [(a_p1, .inr (5, [.ref a_p1_words, .int i_p1_room, .int i_p1_used, .int i_p1_held, .int i_p1_many])), (a_p1_words, .inl (cL, n_p1_words, .inr (.inl v_p1_words)))]) [0, 1] rfl
    have hDc := hD.sub (ws' := [(a_p1, .inr (5, [.ref a_p1_words, .int i_p1_room, .int i_p1_used, .int i_p1_held, .int i_p1_many])), (a_p1_words, .inl (cL, n_p1_words, .inr (.inl v_p1_words)))]) [0, 1] (by decide) rfl
    have hFc := va_free (wc := [(a_p1, .inr (5, [.ref a_p1_words, .int i_p1_room, .int i_p1_used, .int i_p1_held, .int i_p1_many])), (a_p1_words, .inl (cL, n_p1_words, .inr (.inl v_p1_words)))]) hD hS hA [0, 1] rfl
    refine va_callv (va_runV (As := [.int l1, .int r_1]) (rest := []) ⟨hx, hb, hml, hown, hts⟩ (c_Row_put l D cI cL cZ H.size N a_p1 a_p1_words i_p1_room i_p1_used i_p1_held i_p1_many n_p1_words v_p1_words l1 r_1 i_p1_used_7 i_p1_held_8 i_p1_many_9 v_p1_words_10 hc_11) ⟨(my_cb 2 hts m_573 rfl rfl (hts _ m_67) (hts _ m_570) (by decide +kernel) ⟨Nat.le_of_ble_eq_true rfl, Nat.le_of_ble_eq_true rfl⟩), hts _ m_571, hts _ m_572⟩ ⟨fun a U g mk q => by obtain ⟨q0, q1, qP, qK, qD⟩ := q; exact ⟨q0, q1, qP, va_K.moved (u := U) (U := U.calling g mk a) (Vm.Alike.refl U.vm) qK, qD⟩, va_recv hK hPc (ci := 5) (q0 := 0) rfl rfl, fun U hU hW => ⟨rfl, by rw [hU], by rw [hU]; exact hPc, va_K.moved hW.alike hK, hDc.weaken (fun _ _ _ _ => trivial)⟩⟩ rfl rfl hl.1 rfl (lv_room (Nat.le_of_ble_eq_true rfl)) d_Share_putPoints_31 ⟨Nat.zero_le _, Nat.zero_le _⟩) hS (fun q _ h => hFc q h) hFc (fun u t H1 locs ht hvm hw hB hz1 hk1 hS => ?_)
    obtain ⟨hP1, hK1, hD1⟩ := hB
    rw [ht] at hP1
    obtain ⟨hP, hD⟩ := va_join (wr := []) (w1 := [(a_p1, .inr (5, [.ref a_p1_words, .int i_p1_room, .int i_p1_used_7, .int i_p1_held_8, .int i_p1_many_9])), (a_p1_words, .inl (cL, n_p1_words, .inr (.inl v_p1_words_10)))]) hP hD [0, 1] [] rfl rfl (by decide) (by decide) hk1 hFc hP1 hD1
    clear hPc hDc hFc hk1 hP1 hD1 hK1
    generalize H1 = H at hP hS ⊢
    have hP : va_P D classes [(a_p1, .inr (5, [.ref a_p1_words, .int i_p1_room, .int i_p1_used_7, .int i_p1_held_8, .int i_p1_many_9])), (a_p1_words, .inl (cL, n_p1_words, .inr (.inl v_p1_words_10)))] H := hP.sub [0, 1] rfl
    have hD : va_D A [(a_p1, .inr (5, [.ref a_p1_words, .int i_p1_room, .int i_p1_used_7, .int i_p1_held_8, .int i_p1_many_9])), (a_p1_words, .inl (cL, n_p1_words, .inr (.inl v_p1_words_10)))] := hD.sub [0, 1] (by decide) rfl
    refine lv_goto (tgt := 58) hx hb d_Share_putPoints_34 (by decide) ?_
    exact hret _ _ _ _ i_p1_used_7 i_p1_held_8 i_p1_many_9 v_p1_words_10 h d_Share_putPoints_58 hP hD hS
set_option maxHeartbeats 4000000 in
set_option maxRecDepth 100000 in
theorem c_Share_putPoints (l : Launch) (D : va_G) (cI cL cZ : ClassId) (sz N : Nat) (a_p1 : Nat) (a_p1_words : Nat) (i_p1_room : Int32) (i_p1_used : Int32) (i_p1_held : Int32) (i_p1_many : Int32) (n_p1_words : Nat) (v_p1_words : Nat → Int64) (l1 : Int32) (l2 : Int32) (i_p1_used' : Int32) (i_p1_held' : Int32) (i_p1_many' : Int32) (v_p1_words' : Nat → Int64) (h : f_Share_putPoints N i_p1_room n_p1_words l1 l2 i_p1_used i_p1_held i_p1_many v_p1_words = some (i_p1_used', i_p1_held', i_p1_many', v_p1_words')) : Met l ({ cls := "PrefixMill$Share", name := "putPoints", desc := "(LPrefixMill$Row;II)V" } : Jvm.MethodName) ws_Share_putPoints R_Share_putPoints (va_Pc [.ref a_p1, .int l1, .int l2] (fun U => U.heap.size = sz ∧ va_P D classes [(a_p1, .inr (5, [.ref a_p1_words, .int i_p1_room, .int i_p1_used, .int i_p1_held, .int i_p1_many])), (a_p1_words, .inl (cL, n_p1_words, .inr (.inl v_p1_words)))] U.heap ∧ va_K D classes [(cI, .int), (cL, .long), (cZ, .boolean)] U ∧ va_D (fun _ => True) [(a_p1, .inr (5, [.ref a_p1_words, .int i_p1_room, .int i_p1_used, .int i_p1_held, .int i_p1_many])), (a_p1_words, .inl (cL, n_p1_words, .inr (.inl v_p1_words)))])) (va_Qv (fun _ : Unit => True) (fun _ t => va_P D classes [(a_p1, .inr (5, [.ref a_p1_words, .int i_p1_room, .int i_p1_used', .int i_p1_held', .int i_p1_many'])), (a_p1_words, .inl (cL, n_p1_words, .inr (.inl v_p1_words')))] t.heap ∧ va_K D classes [(cI, .int), (cL, .long), (cZ, .boolean)] t ∧ va_D (va_A [(a_p1, .inr (5, [.ref a_p1_words, .int i_p1_room, .int i_p1_used, .int i_p1_held, .int i_p1_many])), (a_p1_words, .inl (cL, n_p1_words, .inr (.inl v_p1_words)))] sz) [(a_p1, .inr (5, [.ref a_p1_words, .int i_p1_room, .int i_p1_used', .int i_p1_held', .int i_p1_many'])), (a_p1_words, .inl (cL, n_p1_words, .inr (.inl v_p1_words')))]) (va_A [(a_p1, .inr (5, [.ref a_p1_words, .int i_p1_room, .int i_p1_used, .int i_p1_held, .int i_p1_many])), (a_p1_words, .inl (cL, n_p1_words, .inr (.inl v_p1_words)))] sz)) 0 0 (va_A [(a_p1, .inr (5, [.ref a_p1_words, .int i_p1_room, .int i_p1_used, .int i_p1_held, .int i_p1_many])), (a_p1_words, .inl (cL, n_p1_words, .inr (.inl v_p1_words)))] sz) := by
  refine Met.ofW (cc := b_Share_putPoints) (maxL := 6) (ret := none) (by decide) rfl ?_
  intro p e s m args below meth c s₁ B hml hv
  obtain ⟨rfl, hsz, hP, hK, hD0⟩ := hv
  have hx := B.exec
  have hb := B.bytes
  have hr := B.returns
  have hts0 := atoms_spec (ws := ws_Share_putPoints) B.pre
  have hts := gd_tl hts0
  clear hts0
  have hown : s.vm.findClass "PrefixMill$Share" = some m.cls := findClass_of_methodNamed B.named
  have hlocks := B.notSynchronized
  subst hsz
  have hD := hD0.self (sz := s.heap.size)
  generalize hAe : va_A [(a_p1, .inr (5, [.ref a_p1_words, .int i_p1_room, .int i_p1_used, .int i_p1_held, .int i_p1_many])), (a_p1_words, .inl (cL, n_p1_words, .inr (.inl v_p1_words)))] s.heap.size = A at hD ⊢
  have hA : ∀ q : Nat, s.heap.size ≤ q → A q := fun q h => by rw [← hAe]; exact Or.inr h
  have hS : va_S A s.heap s.heap [] := va_S.rf
  have hP : va_P D classes [(a_p1, .inr (5, [.ref a_p1_words, .int i_p1_room, .int i_p1_used, .int i_p1_held, .int i_p1_many])), (a_p1_words, .inl (cL, n_p1_words, .inr (.inl v_p1_words)))] s.heap := hP
  have hl := lv_entry ([.ref a_p1, .int l1, .int l2]) (n := 6) (Nat.le_of_ble_eq_true rfl)
  rw [lg_entry_eq]
  generalize (lg_sl ([.ref a_p1, .int l1, .int l2]) ++ List.replicate (6 - (lg_sl ([.ref a_p1, .int l1, .int l2])).length) Slot.unset).toArray = ls at hl ⊢
  have hl : lv_has ls 6 [(0, .ref a_p1), (1, .int l1), (2, .int l2)] := hl
  have C : Cx p s m ([.ref a_p1, .int l1, .int l2] : List Value).toArray c b_Share_putPoints 6 "PrefixMill$Share" D [(cI, .int), (cL, .long), (cZ, .boolean)] A := ⟨hx, hb, hml, hown, hts, hK, hA⟩
  refine w_Share_putPoints_b0 (res := (i_p1_used', i_p1_held', i_p1_many', v_p1_words')) C ?_ _ _ _ _ h s.heap [] ls hl hP hD hS
  intro pc9 H9 locs9 ls9 i_p1_used9 i_p1_held9 i_p1_many9 v_p1_words9 e9 d9 hP9 hD9 hS9
  cases e9
  exact W.vret hx hb hr (fun t ht hW => ⟨⟨(), rfl, trivial, by rw [ht]; exact hP9, va_K.moved hW.alike hK, hD9⟩, hS9.F ht⟩) hS9.2.2 d9
abbrev b_Share_putNone : ByteArray := prog_6_method_16_code
def ws_Share_putNone : List Cond := .code ({ cls := "PrefixMill$Share", name := "putNone", desc := "(LPrefixMill$Row;I)I" } : Jvm.MethodName) b_Share_putNone 5 (some .int) :: tt
theorem d_Share_putNone_0 : decode b_Share_putNone 0 = .ok (.iload_n 2, 1) := by decide +kernel
theorem d_Share_putNone_1 : decode b_Share_putNone 1 = .ok (.istore_n 3, 1) := by decide +kernel
theorem d_Share_putNone_2 : decode b_Share_putNone 2 = .ok (.iload_n 3, 1) := by decide +kernel
theorem d_Share_putNone_3 : decode b_Share_putNone 3 = .ok (.bipush 12, 2) := by decide +kernel
theorem d_Share_putNone_5 : decode b_Share_putNone 5 = .ok (.if_icmp .ge 18, 3) := by decide +kernel
theorem d_Share_putNone_8 : decode b_Share_putNone 8 = .ok (.aload_n 0, 1) := by decide +kernel
theorem d_Share_putNone_9 : decode b_Share_putNone 9 = .ok (.getfield 9, 3) := by decide +kernel
theorem d_Share_putNone_12 : decode b_Share_putNone 12 = .ok (.iload_n 3, 1) := by decide +kernel
theorem d_Share_putNone_13 : decode b_Share_putNone 13 = .ok (.iaload, 1) := by decide +kernel
theorem d_Share_putNone_14 : decode b_Share_putNone 14 = .ok (.ifCond .ne 9, 3) := by decide +kernel
theorem d_Share_putNone_17 : decode b_Share_putNone 17 = .ok (.iinc 3 1, 3) := by decide +kernel
theorem d_Share_putNone_20 : decode b_Share_putNone 20 = .ok (.goto (-18), 3) := by decide +kernel
theorem d_Share_putNone_23 : decode b_Share_putNone 23 = .ok (.iload_n 2, 1) := by decide +kernel
theorem d_Share_putNone_24 : decode b_Share_putNone 24 = .ok (.istore 4, 2) := by decide +kernel
theorem d_Share_putNone_26 : decode b_Share_putNone 26 = .ok (.iload 4, 2) := by decide +kernel
theorem d_Share_putNone_28 : decode b_Share_putNone 28 = .ok (.iconst 3, 1) := by decide +kernel
theorem d_Share_putNone_29 : decode b_Share_putNone 29 = .ok (.iadd, 1) := by decide +kernel
theorem d_Share_putNone_30 : decode b_Share_putNone 30 = .ok (.iload_n 3, 1) := by decide +kernel
theorem d_Share_putNone_31 : decode b_Share_putNone 31 = .ok (.if_icmp .gt 15, 3) := by decide +kernel
theorem d_Share_putNone_34 : decode b_Share_putNone 34 = .ok (.aload_n 1, 1) := by decide +kernel
theorem d_Share_putNone_35 : decode b_Share_putNone 35 = .ok (.iconst 3, 1) := by decide +kernel
theorem d_Share_putNone_36 : decode b_Share_putNone 36 = .ok (.iconst 2, 1) := by decide +kernel
theorem d_Share_putNone_37 : decode b_Share_putNone 37 = .ok (.invokevirtual 85, 3) := by decide +kernel
theorem d_Share_putNone_40 : decode b_Share_putNone 40 = .ok (.iinc 4 3, 3) := by decide +kernel
theorem d_Share_putNone_43 : decode b_Share_putNone 43 = .ok (.goto (-17), 3) := by decide +kernel
theorem d_Share_putNone_46 : decode b_Share_putNone 46 = .ok (.aload_n 1, 1) := by decide +kernel
theorem d_Share_putNone_47 : decode b_Share_putNone 47 = .ok (.iload_n 3, 1) := by decide +kernel
theorem d_Share_putNone_48 : decode b_Share_putNone 48 = .ok (.iload_n 2, 1) := by decide +kernel
theorem d_Share_putNone_49 : decode b_Share_putNone 49 = .ok (.isub, 1) := by decide +kernel
theorem d_Share_putNone_50 : decode b_Share_putNone 50 = .ok (.iconst 3, 1) := by decide +kernel
theorem d_Share_putNone_51 : decode b_Share_putNone 51 = .ok (.irem, 1) := by decide +kernel
theorem d_Share_putNone_52 : decode b_Share_putNone 52 = .ok (.iconst 2, 1) := by decide +kernel
theorem d_Share_putNone_53 : decode b_Share_putNone 53 = .ok (.invokevirtual 85, 3) := by decide +kernel
theorem d_Share_putNone_56 : decode b_Share_putNone 56 = .ok (.iload_n 3, 1) := by decide +kernel
theorem d_Share_putNone_57 : decode b_Share_putNone 57 = .ok (.ireturn, 1) := by decide +kernel
abbrev R_Share_putNone : Room := ({ frames := 2, cells := 0, slots := 0, locals := 45 } : Room)
def E_Share_putNone (p : Program) (l : Launch) (e : Env) (s : State) (m : MethodId) (args : Array Value) (below : List Frame) (meth : Method) (c : Code) (Q : State → Prop) (A : Nat → Prop) (D : va_G) (cI cL cZ : ClassId) (a_this : Nat) (a_points : Nat) (a_p1 : Nat) (a_p1_words : Nat) (o_cuts : Nat) (o_queue : Nat) (o_owners : Nat) (o_takes : Nat) (o_bases : Nat) (o_ranked : Nat) (o_starts : Nat) (o_numbers : Nat) (o_walk : Nat) (i_order : Int32) (i_next : Int32) (v_points : Nat → Int32) (i_p1_room : Int32) (n_p1_words : Nat) (l2 : Int32) (res : Int32 × Int32 × Int32 × Int32 × (Nat → Int64)) : Prop := ∀ (pc : Nat) (H : Heap) (locs : List Loc) (ls : Array Slot) (rv : Int32) (i_p1_used : Int32) (i_p1_held : Int32) (i_p1_many : Int32) (v_p1_words : Nat → Int64), some (rv, i_p1_used, i_p1_held, i_p1_many, v_p1_words) = some res → decode b_Share_putNone pc = .ok (.ireturn, 1) → va_P D classes [(a_this, .inr (6, [.ref a_points, .ref o_cuts, .ref o_queue, .ref o_owners, .ref o_takes, .ref o_bases, .ref o_ranked, .ref o_starts, .ref o_numbers, .ref o_walk, .int i_order, .int i_next])), (a_points, .inl (cI, 12, .inl v_points)), (a_p1, .inr (5, [.ref a_p1_words, .int i_p1_room, .int i_p1_used, .int i_p1_held, .int i_p1_many])), (a_p1_words, .inl (cL, n_p1_words, .inr (.inl v_p1_words)))] H → va_D A [(a_this, .inr (6, [.ref a_points, .ref o_cuts, .ref o_queue, .ref o_owners, .ref o_takes, .ref o_bases, .ref o_ranked, .ref o_starts, .ref o_numbers, .ref o_walk, .int i_order, .int i_next])), (a_points, .inl (cI, 12, .inl v_points)), (a_p1, .inr (5, [.ref a_p1_words, .int i_p1_room, .int i_p1_used, .int i_p1_held, .int i_p1_many])), (a_p1_words, .inl (cL, n_p1_words, .inr (.inl v_p1_words)))] → va_S A s.heap H locs → W p l e R_Share_putNone s m args below meth c H locs 0 0 Q (F0 m pc ls [.int rv])
def I_Share_putNone_b46 (p : Program) (l : Launch) (e : Env) (s : State) (m : MethodId) (args : Array Value) (below : List Frame) (meth : Method) (c : Code) (Q : State → Prop) (A : Nat → Prop) (D : va_G) (cI cL cZ : ClassId) (a_this : Nat) (a_points : Nat) (a_p1 : Nat) (a_p1_words : Nat) (o_cuts : Nat) (o_queue : Nat) (o_owners : Nat) (o_takes : Nat) (o_bases : Nat) (o_ranked : Nat) (o_starts : Nat) (o_numbers : Nat) (o_walk : Nat) (i_order : Int32) (i_next : Int32) (v_points : Nat → Int32) (i_p1_room : Int32) (n_p1_words : Nat) (l2 : Int32) (res : Int32 × Int32 × Int32 × Int32 × (Nat → Int64)) (kf : Int32 → Int32 → Int32 → Int32 → (Nat → Int64) → Option (Int32 × Int32 × Int32 × Int32 × (Nat → Int64))) : Prop := ∀ (l3 : Int32) (i_p1_used : Int32) (i_p1_held : Int32) (i_p1_many : Int32) (v_p1_words : Nat → Int64), kf l3 i_p1_used i_p1_held i_p1_many v_p1_words = some res → ∀ (H : Heap) (locs : List Loc) (ls : Array Slot), lv_has ls 5 [(1, .ref a_p1), (2, .int l2), (3, .int l3)] → va_P D classes [(a_this, .inr (6, [.ref a_points, .ref o_cuts, .ref o_queue, .ref o_owners, .ref o_takes, .ref o_bases, .ref o_ranked, .ref o_starts, .ref o_numbers, .ref o_walk, .int i_order, .int i_next])), (a_points, .inl (cI, 12, .inl v_points)), (a_p1, .inr (5, [.ref a_p1_words, .int i_p1_room, .int i_p1_used, .int i_p1_held, .int i_p1_many])), (a_p1_words, .inl (cL, n_p1_words, .inr (.inl v_p1_words)))] H → va_D A [(a_this, .inr (6, [.ref a_points, .ref o_cuts, .ref o_queue, .ref o_owners, .ref o_takes, .ref o_bases, .ref o_ranked, .ref o_starts, .ref o_numbers, .ref o_walk, .int i_order, .int i_next])), (a_points, .inl (cI, 12, .inl v_points)), (a_p1, .inr (5, [.ref a_p1_words, .int i_p1_room, .int i_p1_used, .int i_p1_held, .int i_p1_many])), (a_p1_words, .inl (cL, n_p1_words, .inr (.inl v_p1_words)))] → va_S A s.heap H locs → W p l e R_Share_putNone s m args below meth c H locs 0 0 Q (F0 m 46 ls [])
def I_Share_putNone_b26 (p : Program) (l : Launch) (e : Env) (s : State) (m : MethodId) (args : Array Value) (below : List Frame) (meth : Method) (c : Code) (Q : State → Prop) (A : Nat → Prop) (D : va_G) (cI cL cZ : ClassId) (a_this : Nat) (a_points : Nat) (a_p1 : Nat) (a_p1_words : Nat) (o_cuts : Nat) (o_queue : Nat) (o_owners : Nat) (o_takes : Nat) (o_bases : Nat) (o_ranked : Nat) (o_starts : Nat) (o_numbers : Nat) (o_walk : Nat) (i_order : Int32) (i_next : Int32) (v_points : Nat → Int32) (i_p1_room : Int32) (n_p1_words : Nat) (l2 : Int32) (res : Int32 × Int32 × Int32 × Int32 × (Nat → Int64)) (kf : Int32 → Int32 → Int32 → Int32 → Int32 → (Nat → Int64) → Option (Int32 × Int32 × Int32 × Int32 × (Nat → Int64))) : Prop := ∀ (l3 : Int32) (l4 : Int32) (i_p1_used : Int32) (i_p1_held : Int32) (i_p1_many : Int32) (v_p1_words : Nat → Int64), kf l3 l4 i_p1_used i_p1_held i_p1_many v_p1_words = some res → ∀ (H : Heap) (locs : List Loc) (ls : Array Slot), lv_has ls 5 [(1, .ref a_p1), (2, .int l2), (3, .int l3), (4, .int l4)] → va_P D classes [(a_this, .inr (6, [.ref a_points, .ref o_cuts, .ref o_queue, .ref o_owners, .ref o_takes, .ref o_bases, .ref o_ranked, .ref o_starts, .ref o_numbers, .ref o_walk, .int i_order, .int i_next])), (a_points, .inl (cI, 12, .inl v_points)), (a_p1, .inr (5, [.ref a_p1_words, .int i_p1_room, .int i_p1_used, .int i_p1_held, .int i_p1_many])), (a_p1_words, .inl (cL, n_p1_words, .inr (.inl v_p1_words)))] H → va_D A [(a_this, .inr (6, [.ref a_points, .ref o_cuts, .ref o_queue, .ref o_owners, .ref o_takes, .ref o_bases, .ref o_ranked, .ref o_starts, .ref o_numbers, .ref o_walk, .int i_order, .int i_next])), (a_points, .inl (cI, 12, .inl v_points)), (a_p1, .inr (5, [.ref a_p1_words, .int i_p1_room, .int i_p1_used, .int i_p1_held, .int i_p1_many])), (a_p1_words, .inl (cL, n_p1_words, .inr (.inl v_p1_words)))] → va_S A s.heap H locs → W p l e R_Share_putNone s m args below meth c H locs 0 0 Q (F0 m 26 ls [])
def I_Share_putNone_b23 (p : Program) (l : Launch) (e : Env) (s : State) (m : MethodId) (args : Array Value) (below : List Frame) (meth : Method) (c : Code) (Q : State → Prop) (A : Nat → Prop) (D : va_G) (cI cL cZ : ClassId) (a_this : Nat) (a_points : Nat) (a_p1 : Nat) (a_p1_words : Nat) (o_cuts : Nat) (o_queue : Nat) (o_owners : Nat) (o_takes : Nat) (o_bases : Nat) (o_ranked : Nat) (o_starts : Nat) (o_numbers : Nat) (o_walk : Nat) (i_order : Int32) (i_next : Int32) (v_points : Nat → Int32) (i_p1_room : Int32) (n_p1_words : Nat) (l2 : Int32) (res : Int32 × Int32 × Int32 × Int32 × (Nat → Int64)) (kf : Int32 → Int32 → Int32 → Int32 → (Nat → Int64) → Option (Int32 × Int32 × Int32 × Int32 × (Nat → Int64))) : Prop := ∀ (l3 : Int32) (i_p1_used : Int32) (i_p1_held : Int32) (i_p1_many : Int32) (v_p1_words : Nat → Int64), kf l3 i_p1_used i_p1_held i_p1_many v_p1_words = some res → ∀ (H : Heap) (locs : List Loc) (ls : Array Slot), lv_has ls 5 [(1, .ref a_p1), (2, .int l2), (3, .int l3)] → va_P D classes [(a_this, .inr (6, [.ref a_points, .ref o_cuts, .ref o_queue, .ref o_owners, .ref o_takes, .ref o_bases, .ref o_ranked, .ref o_starts, .ref o_numbers, .ref o_walk, .int i_order, .int i_next])), (a_points, .inl (cI, 12, .inl v_points)), (a_p1, .inr (5, [.ref a_p1_words, .int i_p1_room, .int i_p1_used, .int i_p1_held, .int i_p1_many])), (a_p1_words, .inl (cL, n_p1_words, .inr (.inl v_p1_words)))] H → va_D A [(a_this, .inr (6, [.ref a_points, .ref o_cuts, .ref o_queue, .ref o_owners, .ref o_takes, .ref o_bases, .ref o_ranked, .ref o_starts, .ref o_numbers, .ref o_walk, .int i_order, .int i_next])), (a_points, .inl (cI, 12, .inl v_points)), (a_p1, .inr (5, [.ref a_p1_words, .int i_p1_room, .int i_p1_used, .int i_p1_held, .int i_p1_many])), (a_p1_words, .inl (cL, n_p1_words, .inr (.inl v_p1_words)))] → va_S A s.heap H locs → W p l e R_Share_putNone s m args below meth c H locs 0 0 Q (F0 m 23 ls [])
def I_Share_putNone_b2 (p : Program) (l : Launch) (e : Env) (s : State) (m : MethodId) (args : Array Value) (below : List Frame) (meth : Method) (c : Code) (Q : State → Prop) (A : Nat → Prop) (D : va_G) (cI cL cZ : ClassId) (a_this : Nat) (a_points : Nat) (a_p1 : Nat) (a_p1_words : Nat) (o_cuts : Nat) (o_queue : Nat) (o_owners : Nat) (o_takes : Nat) (o_bases : Nat) (o_ranked : Nat) (o_starts : Nat) (o_numbers : Nat) (o_walk : Nat) (i_order : Int32) (i_next : Int32) (v_points : Nat → Int32) (i_p1_room : Int32) (n_p1_words : Nat) (l2 : Int32) (res : Int32 × Int32 × Int32 × Int32 × (Nat → Int64)) (kf : Int32 → Int32 → Int32 → Int32 → (Nat → Int64) → Option (Int32 × Int32 × Int32 × Int32 × (Nat → Int64))) : Prop := ∀ (l3 : Int32) (i_p1_used : Int32) (i_p1_held : Int32) (i_p1_many : Int32) (v_p1_words : Nat → Int64), kf l3 i_p1_used i_p1_held i_p1_many v_p1_words = some res → ∀ (H : Heap) (locs : List Loc) (ls : Array Slot), lv_has ls 5 [(0, .ref a_this), (1, .ref a_p1), (2, .int l2), (3, .int l3)] → va_P D classes [(a_this, .inr (6, [.ref a_points, .ref o_cuts, .ref o_queue, .ref o_owners, .ref o_takes, .ref o_bases, .ref o_ranked, .ref o_starts, .ref o_numbers, .ref o_walk, .int i_order, .int i_next])), (a_points, .inl (cI, 12, .inl v_points)), (a_p1, .inr (5, [.ref a_p1_words, .int i_p1_room, .int i_p1_used, .int i_p1_held, .int i_p1_many])), (a_p1_words, .inl (cL, n_p1_words, .inr (.inl v_p1_words)))] H → va_D A [(a_this, .inr (6, [.ref a_points, .ref o_cuts, .ref o_queue, .ref o_owners, .ref o_takes, .ref o_bases, .ref o_ranked, .ref o_starts, .ref o_numbers, .ref o_walk, .int i_order, .int i_next])), (a_points, .inl (cI, 12, .inl v_points)), (a_p1, .inr (5, [.ref a_p1_words, .int i_p1_room, .int i_p1_used, .int i_p1_held, .int i_p1_many])), (a_p1_words, .inl (cL, n_p1_words, .inr (.inl v_p1_words)))] → va_S A s.heap H locs → W p l e R_Share_putNone s m args below meth c H locs 0 0 Q (F0 m 2 ls [])
def I_Share_putNone_b0 (p : Program) (l : Launch) (e : Env) (s : State) (m : MethodId) (args : Array Value) (below : List Frame) (meth : Method) (c : Code) (Q : State → Prop) (A : Nat → Prop) (D : va_G) (cI cL cZ : ClassId) (a_this : Nat) (a_points : Nat) (a_p1 : Nat) (a_p1_words : Nat) (o_cuts : Nat) (o_queue : Nat) (o_owners : Nat) (o_takes : Nat) (o_bases : Nat) (o_ranked : Nat) (o_starts : Nat) (o_numbers : Nat) (o_walk : Nat) (i_order : Int32) (i_next : Int32) (v_points : Nat → Int32) (i_p1_room : Int32) (n_p1_words : Nat) (l2 : Int32) (res : Int32 × Int32 × Int32 × Int32 × (Nat → Int64)) (kf : Int32 → Int32 → Int32 → (Nat → Int64) → Option (Int32 × Int32 × Int32 × Int32 × (Nat → Int64))) : Prop := ∀ (i_p1_used : Int32) (i_p1_held : Int32) (i_p1_many : Int32) (v_p1_words : Nat → Int64), kf i_p1_used i_p1_held i_p1_many v_p1_words = some res → ∀ (H : Heap) (locs : List Loc) (ls : Array Slot), lv_has ls 5 [(0, .ref a_this), (1, .ref a_p1), (2, .int l2)] → va_P D classes [(a_this, .inr (6, [.ref a_points, .ref o_cuts, .ref o_queue, .ref o_owners, .ref o_takes, .ref o_bases, .ref o_ranked, .ref o_starts, .ref o_numbers, .ref o_walk, .int i_order, .int i_next])), (a_points, .inl (cI, 12, .inl v_points)), (a_p1, .inr (5, [.ref a_p1_words, .int i_p1_room, .int i_p1_used, .int i_p1_held, .int i_p1_many])), (a_p1_words, .inl (cL, n_p1_words, .inr (.inl v_p1_words)))] H → va_D A [(a_this, .inr (6, [.ref a_points, .ref o_cuts, .ref o_queue, .ref o_owners, .ref o_takes, .ref o_bases, .ref o_ranked, .ref o_starts, .ref o_numbers, .ref o_walk, .int i_order, .int i_next])), (a_points, .inl (cI, 12, .inl v_points)), (a_p1, .inr (5, [.ref a_p1_words, .int i_p1_room, .int i_p1_used, .int i_p1_held, .int i_p1_many])), (a_p1_words, .inl (cL, n_p1_words, .inr (.inl v_p1_words)))] → va_S A s.heap H locs → W p l e R_Share_putNone s m args below meth c H locs 0 0 Q (F0 m 0 ls [])
set_option maxHeartbeats 4000000 in
set_option maxRecDepth 100000 in
theorem w_Share_putNone_b46 {p : Program} {l : Launch} {e : Env} {s : State} {m : MethodId} {args : Array Value} {below : List Frame} {meth : Method} {c : Code} {Q : State → Prop} {A : Nat → Prop} {D : va_G} {cI cL cZ : ClassId} {a_this : Nat} {a_points : Nat} {a_p1 : Nat} {a_p1_words : Nat} {o_cuts : Nat} {o_queue : Nat} {o_owners : Nat} {o_takes : Nat} {o_bases : Nat} {o_ranked : Nat} {o_starts : Nat} {o_numbers : Nat} {o_walk : Nat} {i_order : Int32} {i_next : Int32} {v_points : Nat → Int32} {i_p1_room : Int32} {n_p1_words : Nat} {l2 : Int32} {N : Nat} {res : Int32 × Int32 × Int32 × Int32 × (Nat → Int64)}  (C : Cx p s m args c b_Share_putNone 5 "PrefixMill$Share" D [(cI, .int), (cL, .long), (cZ, .boolean)] A) (hret : E_Share_putNone p l e s m args below meth c Q A D cI cL cZ a_this a_points a_p1 a_p1_words o_cuts o_queue o_owners o_takes o_bases o_ranked o_starts o_numbers o_walk i_order i_next v_points i_p1_room n_p1_words l2 res)  : I_Share_putNone_b46 p l e s m args below meth c Q A D cI cL cZ a_this a_points a_p1 a_p1_words o_cuts o_queue o_owners o_takes o_bases o_ranked o_starts o_numbers o_walk i_order i_next v_points i_p1_room n_p1_words l2 res (f_Share_putNone_b46 N v_points i_p1_room n_p1_words l2 ) := by
  obtain ⟨hx, hb, hml, hown, hts, hK, hA⟩ := C
  intro l3 i_p1_used i_p1_held i_p1_many v_p1_words h H locs ls hl hP hD hS
  unfold f_Share_putNone_b46 at h
  refine lv_aload_n hx hb d_Share_putNone_46 rfl (lv_at hl 0 rfl) ?_
  refine lv_iload_n hx hb d_Share_putNone_47 rfl (lv_at hl 2 rfl) ?_
  refine lv_iload_n hx hb d_Share_putNone_48 rfl (lv_at hl 1 rfl) ?_
  refine lv_isub hx hb d_Share_putNone_49 ?_
  refine lv_iconst (v := 3) hx hb d_Share_putNone_50 (by decide) ?_
  refine lv_irem hx hb d_Share_putNone_51 (by decide) ?_
  refine lv_iconst (v := 2) hx hb d_Share_putNone_52 (by decide) ?_
  obtain ⟨i_p1_used_1, i_p1_held_2, i_p1_many_3, v_p1_words_4, hc_5, h⟩ := bd4_s h
  have hPc := hP.sub (ws' := [(a_p1, .inr (5, [.ref a_p1_words, .int i_p1_room, .int i_p1_used, .int i_p1_held, .int i_p1_many])), (a_p1_words, .inl (cL, n_p1_words, .inr (.inl v_p1_words)))]) [2, 3] rfl
  have hDc := hD.sub (ws' := [(a_p1, .inr (5, [.ref a_p1_words, .int i_p1_room, .int i_p1_used, .int i_p1_held, .int i_p1_many])), (a_p1_words, .inl (cL, n_p1_words, .inr (.inl v_p1_words)))]) [2, 3] (by decide) rfl
  have hFc := va_free (wc := [(a_p1, .inr (5, [.ref a_p1_words, .int i_p1_room, .int i_p1_used, .int i_p1_held, .int i_p1_many])), (a_p1_words, .inl (cL, n_p1_words, .inr (.inl v_p1_words)))]) hD hS hA [2, 3] rfl
  refine va_callv (va_runV (As := [.int ((l3 - l2) - (l3 - l2) / 3 * 3), .int 2]) (rest := []) ⟨hx, hb, hml, hown, hts⟩ (c_Row_put l D cI cL cZ H.size N a_p1 a_p1_words i_p1_room i_p1_used i_p1_held i_p1_many n_p1_words v_p1_words ((l3 - l2) - (l3 - l2) / 3 * 3) 2 i_p1_used_1 i_p1_held_2 i_p1_many_3 v_p1_words_4 hc_5) ⟨(my_cb 2 hts m_573 rfl rfl (hts _ m_67) (hts _ m_570) (by decide +kernel) ⟨Nat.le_of_ble_eq_true rfl, Nat.le_of_ble_eq_true rfl⟩), hts _ m_571, hts _ m_572⟩ ⟨fun a U g mk q => by obtain ⟨q0, q1, qP, qK, qD⟩ := q; exact ⟨q0, q1, qP, va_K.moved (u := U) (U := U.calling g mk a) (Vm.Alike.refl U.vm) qK, qD⟩, va_recv hK hPc (ci := 5) (q0 := 0) rfl rfl, fun U hU hW => ⟨rfl, by rw [hU], by rw [hU]; exact hPc, va_K.moved hW.alike hK, hDc.weaken (fun _ _ _ _ => trivial)⟩⟩ rfl rfl hl.1 rfl (lv_room (Nat.le_of_ble_eq_true rfl)) d_Share_putNone_53 ⟨Nat.zero_le _, Nat.zero_le _⟩) hS (fun q _ h => hFc q h) hFc (fun u t H1 locs ht hvm hw hB hz1 hk1 hS => ?_)
  obtain ⟨hP1, hK1, hD1⟩ := hB
  rw [ht] at hP1
  obtain ⟨hP, hD⟩ := va_join (wr := [(a_this, .inr (6, [.ref a_points, .ref o_cuts, .ref o_queue, .ref o_owners, .ref o_takes, .ref o_bases, .ref o_ranked, .ref o_starts, .ref o_numbers, .ref o_walk, .int i_order, .int i_next])), (a_points, .inl (cI, 12, .inl v_points))]) (w1 := [(a_p1, .inr (5, [.ref a_p1_words, .int i_p1_room, .int i_p1_used_1, .int i_p1_held_2, .int i_p1_many_3])), (a_p1_words, .inl (cL, n_p1_words, .inr (.inl v_p1_words_4)))]) hP hD [2, 3] [0, 1] rfl rfl (by decide) (by decide) hk1 hFc hP1 hD1
  clear hPc hDc hFc hk1 hP1 hD1 hK1
  generalize H1 = H at hP hS ⊢
  have hP : va_P D classes [(a_this, .inr (6, [.ref a_points, .ref o_cuts, .ref o_queue, .ref o_owners, .ref o_takes, .ref o_bases, .ref o_ranked, .ref o_starts, .ref o_numbers, .ref o_walk, .int i_order, .int i_next])), (a_points, .inl (cI, 12, .inl v_points)), (a_p1, .inr (5, [.ref a_p1_words, .int i_p1_room, .int i_p1_used_1, .int i_p1_held_2, .int i_p1_many_3])), (a_p1_words, .inl (cL, n_p1_words, .inr (.inl v_p1_words_4)))] H := hP.sub [0, 1, 2, 3] rfl
  have hD : va_D A [(a_this, .inr (6, [.ref a_points, .ref o_cuts, .ref o_queue, .ref o_owners, .ref o_takes, .ref o_bases, .ref o_ranked, .ref o_starts, .ref o_numbers, .ref o_walk, .int i_order, .int i_next])), (a_points, .inl (cI, 12, .inl v_points)), (a_p1, .inr (5, [.ref a_p1_words, .int i_p1_room, .int i_p1_used_1, .int i_p1_held_2, .int i_p1_many_3])), (a_p1_words, .inl (cL, n_p1_words, .inr (.inl v_p1_words_4)))] := hD.sub [0, 1, 2, 3] (by decide) rfl
  refine lv_iload_n hx hb d_Share_putNone_56 rfl (lv_at hl 2 rfl) ?_
  exact hret _ _ _ _ l3 i_p1_used_1 i_p1_held_2 i_p1_many_3 v_p1_words_4 h d_Share_putNone_57 hP hD hS
set_option maxHeartbeats 4000000 in
set_option maxRecDepth 100000 in
theorem w_Share_putNone_b26 {p : Program} {l : Launch} {e : Env} {s : State} {m : MethodId} {args : Array Value} {below : List Frame} {meth : Method} {c : Code} {Q : State → Prop} {A : Nat → Prop} {D : va_G} {cI cL cZ : ClassId} {a_this : Nat} {a_points : Nat} {a_p1 : Nat} {a_p1_words : Nat} {o_cuts : Nat} {o_queue : Nat} {o_owners : Nat} {o_takes : Nat} {o_bases : Nat} {o_ranked : Nat} {o_starts : Nat} {o_numbers : Nat} {o_walk : Nat} {i_order : Int32} {i_next : Int32} {v_points : Nat → Int32} {i_p1_room : Int32} {n_p1_words : Nat} {l2 : Int32} {N : Nat} {res : Int32 × Int32 × Int32 × Int32 × (Nat → Int64)}  (C : Cx p s m args c b_Share_putNone 5 "PrefixMill$Share" D [(cI, .int), (cL, .long), (cZ, .boolean)] A) (hret : E_Share_putNone p l e s m args below meth c Q A D cI cL cZ a_this a_points a_p1 a_p1_words o_cuts o_queue o_owners o_takes o_bases o_ranked o_starts o_numbers o_walk i_order i_next v_points i_p1_room n_p1_words l2 res)  : ∀ z : Nat, I_Share_putNone_b26 p l e s m args below meth c Q A D cI cL cZ a_this a_points a_p1 a_p1_words o_cuts o_queue o_owners o_takes o_bases o_ranked o_starts o_numbers o_walk i_order i_next v_points i_p1_room n_p1_words l2 res (f_Share_putNone_b26 N v_points i_p1_room n_p1_words l2  z) := by
  obtain ⟨hx, hb, hml, hown, hts, hK, hA⟩ := C
  intro z
  induction z with
  | zero => intro l3 l4 i_p1_used i_p1_held i_p1_many v_p1_words h; cases h
  | succ z ih =>
    intro l3 l4 i_p1_used i_p1_held i_p1_many v_p1_words h H locs ls hl hP hD hS
    refine lv_iload hx hb d_Share_putNone_26 (lv_at hl 3 rfl) ?_
    refine lv_iconst (v := 3) hx hb d_Share_putNone_28 (by decide) ?_
    refine lv_iadd hx hb d_Share_putNone_29 ?_
    refine lv_iload_n hx hb d_Share_putNone_30 rfl (lv_at hl 2 rfl) ?_
    refine lv_icmp_gt (tgt := 46) hx hb d_Share_putNone_31 (by decide) (fun c_1 => ?_) (fun c_1 => ?_)
    · replace h := if_t h c_1
      exact w_Share_putNone_b46 ⟨hx, hb, hml, hown, hts, hK, hA⟩ hret  _ _ _ _ _ h H locs ls (lv_sub hl [0, 1, 2] rfl) hP hD hS
    · replace h := if_f h c_1
      refine lv_aload_n hx hb d_Share_putNone_34 rfl (lv_at hl 0 rfl) ?_
      refine lv_iconst (v := 3) hx hb d_Share_putNone_35 (by decide) ?_
      refine lv_iconst (v := 2) hx hb d_Share_putNone_36 (by decide) ?_
      obtain ⟨i_p1_used_2, i_p1_held_3, i_p1_many_4, v_p1_words_5, hc_6, h⟩ := bd4_s h
      have hPc := hP.sub (ws' := [(a_p1, .inr (5, [.ref a_p1_words, .int i_p1_room, .int i_p1_used, .int i_p1_held, .int i_p1_many])), (a_p1_words, .inl (cL, n_p1_words, .inr (.inl v_p1_words)))]) [2, 3] rfl
      have hDc := hD.sub (ws' := [(a_p1, .inr (5, [.ref a_p1_words, .int i_p1_room, .int i_p1_used, .int i_p1_held, .int i_p1_many])), (a_p1_words, .inl (cL, n_p1_words, .inr (.inl v_p1_words)))]) [2, 3] (by decide) rfl
      have hFc := va_free (wc := [(a_p1, .inr (5, [.ref a_p1_words, .int i_p1_room, .int i_p1_used, .int i_p1_held, .int i_p1_many])), (a_p1_words, .inl (cL, n_p1_words, .inr (.inl v_p1_words)))]) hD hS hA [2, 3] rfl
      refine va_callv (va_runV (As := [.int 3, .int 2]) (rest := []) ⟨hx, hb, hml, hown, hts⟩ (c_Row_put l D cI cL cZ H.size N a_p1 a_p1_words i_p1_room i_p1_used i_p1_held i_p1_many n_p1_words v_p1_words 3 2 i_p1_used_2 i_p1_held_3 i_p1_many_4 v_p1_words_5 hc_6) ⟨(my_cb 2 hts m_573 rfl rfl (hts _ m_67) (hts _ m_570) (by decide +kernel) ⟨Nat.le_of_ble_eq_true rfl, Nat.le_of_ble_eq_true rfl⟩), hts _ m_571, hts _ m_572⟩ ⟨fun a U g mk q => by obtain ⟨q0, q1, qP, qK, qD⟩ := q; exact ⟨q0, q1, qP, va_K.moved (u := U) (U := U.calling g mk a) (Vm.Alike.refl U.vm) qK, qD⟩, va_recv hK hPc (ci := 5) (q0 := 0) rfl rfl, fun U hU hW => ⟨rfl, by rw [hU], by rw [hU]; exact hPc, va_K.moved hW.alike hK, hDc.weaken (fun _ _ _ _ => trivial)⟩⟩ rfl rfl hl.1 rfl (lv_room (Nat.le_of_ble_eq_true rfl)) d_Share_putNone_37 ⟨Nat.zero_le _, Nat.zero_le _⟩) hS (fun q _ h => hFc q h) hFc (fun u t H1 locs ht hvm hw hB hz1 hk1 hS => ?_)
      obtain ⟨hP1, hK1, hD1⟩ := hB
      rw [ht] at hP1
      obtain ⟨hP, hD⟩ := va_join (wr := [(a_this, .inr (6, [.ref a_points, .ref o_cuts, .ref o_queue, .ref o_owners, .ref o_takes, .ref o_bases, .ref o_ranked, .ref o_starts, .ref o_numbers, .ref o_walk, .int i_order, .int i_next])), (a_points, .inl (cI, 12, .inl v_points))]) (w1 := [(a_p1, .inr (5, [.ref a_p1_words, .int i_p1_room, .int i_p1_used_2, .int i_p1_held_3, .int i_p1_many_4])), (a_p1_words, .inl (cL, n_p1_words, .inr (.inl v_p1_words_5)))]) hP hD [2, 3] [0, 1] rfl rfl (by decide) (by decide) hk1 hFc hP1 hD1
      clear hPc hDc hFc hk1 hP1 hD1 hK1
      generalize H1 = H at hP hS ⊢
      have hP : va_P D classes [(a_this, .inr (6, [.ref a_points, .ref o_cuts, .ref o_queue, .ref o_owners, .ref o_takes, .ref o_bases, .ref o_ranked, .ref o_starts, .ref o_numbers, .ref o_walk, .int i_order, .int i_next])), (a_points, .inl (cI, 12, .inl v_points)), (a_p1, .inr (5, [.ref a_p1_words, .int i_p1_room, .int i_p1_used_2, .int i_p1_held_3, .int i_p1_many_4])), (a_p1_words, .inl (cL, n_p1_words, .inr (.inl v_p1_words_5)))] H := hP.sub [0, 1, 2, 3] rfl
      have hD : va_D A [(a_this, .inr (6, [.ref a_points, .ref o_cuts, .ref o_queue, .ref o_owners, .ref o_takes, .ref o_bases, .ref o_ranked, .ref o_starts, .ref o_numbers, .ref o_walk, .int i_order, .int i_next])), (a_points, .inl (cI, 12, .inl v_points)), (a_p1, .inr (5, [.ref a_p1_words, .int i_p1_room, .int i_p1_used_2, .int i_p1_held_3, .int i_p1_many_4])), (a_p1_words, .inl (cL, n_p1_words, .inr (.inl v_p1_words_5)))] := hD.sub [0, 1, 2, 3] (by decide) rfl
      obtain ⟨l4_7, el4_7⟩ : ∃ y : Int32, y = l4 + 3 := ⟨_, rfl⟩
      replace h := nm_s h el4_7
      refine lv_iinc (v := l4_7) (lv' := [(4, .int l4_7), (1, .ref a_p1), (2, .int l2), (3, .int l3)]) hx hb d_Share_putNone_40 hl (k := 3) rfl (by rw [el4_7]; rfl) (by decide) rfl (fun ls hl => ?_)
      refine lv_goto (tgt := 26) hx hb d_Share_putNone_43 (by decide) ?_
      exact ih _ _ _ _ _ _ h H locs ls (lv_sub hl [1, 2, 3, 0] rfl) hP hD hS
set_option maxHeartbeats 4000000 in
set_option maxRecDepth 100000 in
theorem w_Share_putNone_b23 {p : Program} {l : Launch} {e : Env} {s : State} {m : MethodId} {args : Array Value} {below : List Frame} {meth : Method} {c : Code} {Q : State → Prop} {A : Nat → Prop} {D : va_G} {cI cL cZ : ClassId} {a_this : Nat} {a_points : Nat} {a_p1 : Nat} {a_p1_words : Nat} {o_cuts : Nat} {o_queue : Nat} {o_owners : Nat} {o_takes : Nat} {o_bases : Nat} {o_ranked : Nat} {o_starts : Nat} {o_numbers : Nat} {o_walk : Nat} {i_order : Int32} {i_next : Int32} {v_points : Nat → Int32} {i_p1_room : Int32} {n_p1_words : Nat} {l2 : Int32} {N : Nat} {res : Int32 × Int32 × Int32 × Int32 × (Nat → Int64)}  (C : Cx p s m args c b_Share_putNone 5 "PrefixMill$Share" D [(cI, .int), (cL, .long), (cZ, .boolean)] A) (hret : E_Share_putNone p l e s m args below meth c Q A D cI cL cZ a_this a_points a_p1 a_p1_words o_cuts o_queue o_owners o_takes o_bases o_ranked o_starts o_numbers o_walk i_order i_next v_points i_p1_room n_p1_words l2 res)  : I_Share_putNone_b23 p l e s m args below meth c Q A D cI cL cZ a_this a_points a_p1 a_p1_words o_cuts o_queue o_owners o_takes o_bases o_ranked o_starts o_numbers o_walk i_order i_next v_points i_p1_room n_p1_words l2 res (f_Share_putNone_b23 N v_points i_p1_room n_p1_words l2 ) := by
  obtain ⟨hx, hb, hml, hown, hts, hK, hA⟩ := C
  intro l3 i_p1_used i_p1_held i_p1_many v_p1_words h H locs ls hl hP hD hS
  unfold f_Share_putNone_b23 at h
  refine lv_iload_n hx hb d_Share_putNone_23 rfl (lv_at hl 1 rfl) ?_
  refine lv_istore (lv' := [(4, .int l2), (1, .ref a_p1), (2, .int l2), (3, .int l3)]) hx hb d_Share_putNone_24 hl (by decide) rfl (fun ls hl => ?_)
  exact w_Share_putNone_b26 ⟨hx, hb, hml, hown, hts, hK, hA⟩ hret  N _ _ _ _ _ _ h H locs ls (lv_sub hl [1, 2, 3, 0] rfl) hP hD hS
set_option maxHeartbeats 4000000 in
set_option maxRecDepth 100000 in
theorem w_Share_putNone_b2 {p : Program} {l : Launch} {e : Env} {s : State} {m : MethodId} {args : Array Value} {below : List Frame} {meth : Method} {c : Code} {Q : State → Prop} {A : Nat → Prop} {D : va_G} {cI cL cZ : ClassId} {a_this : Nat} {a_points : Nat} {a_p1 : Nat} {a_p1_words : Nat} {o_cuts : Nat} {o_queue : Nat} {o_owners : Nat} {o_takes : Nat} {o_bases : Nat} {o_ranked : Nat} {o_starts : Nat} {o_numbers : Nat} {o_walk : Nat} {i_order : Int32} {i_next : Int32} {v_points : Nat → Int32} {i_p1_room : Int32} {n_p1_words : Nat} {l2 : Int32} {N : Nat} {res : Int32 × Int32 × Int32 × Int32 × (Nat → Int64)}  (C : Cx p s m args c b_Share_putNone 5 "PrefixMill$Share" D [(cI, .int), (cL, .long), (cZ, .boolean)] A) (hret : E_Share_putNone p l e s m args below meth c Q A D cI cL cZ a_this a_points a_p1 a_p1_words o_cuts o_queue o_owners o_takes o_bases o_ranked o_starts o_numbers o_walk i_order i_next v_points i_p1_room n_p1_words l2 res)  : ∀ z : Nat, I_Share_putNone_b2 p l e s m args below meth c Q A D cI cL cZ a_this a_points a_p1 a_p1_words o_cuts o_queue o_owners o_takes o_bases o_ranked o_starts o_numbers o_walk i_order i_next v_points i_p1_room n_p1_words l2 res (f_Share_putNone_b2 N v_points i_p1_room n_p1_words l2  z) := by
  obtain ⟨hx, hb, hml, hown, hts, hK, hA⟩ := C
  intro z
  induction z with
  | zero => intro l3 i_p1_used i_p1_held i_p1_many v_p1_words h; cases h
  | succ z ih =>
    intro l3 i_p1_used i_p1_held i_p1_many v_p1_words h H locs ls hl hP hD hS
    refine lv_iload_n hx hb d_Share_putNone_2 rfl (lv_at hl 3 rfl) ?_
    refine lv_bipush (v := 12) hx hb d_Share_putNone_3 (by decide) ?_
    refine lv_icmp_ge (tgt := 23) hx hb d_Share_putNone_5 (by decide) (fun c_1 => ?_) (fun c_1 => ?_)
    · replace h := if_t h c_1
      exact w_Share_putNone_b23 ⟨hx, hb, hml, hown, hts, hK, hA⟩ hret  _ _ _ _ _ h H locs ls (lv_sub hl [1, 2, 3] rfl) hP hD hS
    · replace h := if_f h c_1
      refine lv_aload_n hx hb d_Share_putNone_8 rfl (lv_at hl 0 rfl) ?_
      refine va_get hx hb hts in_Share hown hK hP 0 rfl rfl 0 (by decide) (hts _ m_211) (fun _ h9 => h9) rfl d_Share_putNone_9 ?_
      refine lv_iload_n hx hb d_Share_putNone_12 rfl (lv_at hl 3 rfl) ?_
      obtain ⟨g_2, h⟩ := ck_s h
      refine va_iald hx hb hK hP 1 0 rfl rfl (inb_s g_2) d_Share_putNone_13 ?_
      refine lv_if_ne (tgt := 23) hx hb d_Share_putNone_14 (by decide) (fun c_3 => ?_) (fun c_3 => ?_)
      · replace h := if_f h c_3
        exact w_Share_putNone_b23 ⟨hx, hb, hml, hown, hts, hK, hA⟩ hret  _ _ _ _ _ h H locs ls (lv_sub hl [1, 2, 3] rfl) hP hD hS
      · replace h := if_t h c_3
        obtain ⟨l3_4, el3_4⟩ : ∃ y : Int32, y = l3 + 1 := ⟨_, rfl⟩
        replace h := nm_s h el3_4
        refine lv_iinc (v := l3_4) (lv' := [(3, .int l3_4), (0, .ref a_this), (1, .ref a_p1), (2, .int l2)]) hx hb d_Share_putNone_17 hl (k := 3) rfl (by rw [el3_4]; rfl) (by decide) rfl (fun ls hl => ?_)
        refine lv_goto (tgt := 2) hx hb d_Share_putNone_20 (by decide) ?_
        exact ih _ _ _ _ _ h H locs ls (lv_sub hl [1, 2, 3, 0] rfl) hP hD hS
set_option maxHeartbeats 4000000 in
set_option maxRecDepth 100000 in
theorem w_Share_putNone_b0 {p : Program} {l : Launch} {e : Env} {s : State} {m : MethodId} {args : Array Value} {below : List Frame} {meth : Method} {c : Code} {Q : State → Prop} {A : Nat → Prop} {D : va_G} {cI cL cZ : ClassId} {a_this : Nat} {a_points : Nat} {a_p1 : Nat} {a_p1_words : Nat} {o_cuts : Nat} {o_queue : Nat} {o_owners : Nat} {o_takes : Nat} {o_bases : Nat} {o_ranked : Nat} {o_starts : Nat} {o_numbers : Nat} {o_walk : Nat} {i_order : Int32} {i_next : Int32} {v_points : Nat → Int32} {i_p1_room : Int32} {n_p1_words : Nat} {l2 : Int32} {N : Nat} {res : Int32 × Int32 × Int32 × Int32 × (Nat → Int64)}  (C : Cx p s m args c b_Share_putNone 5 "PrefixMill$Share" D [(cI, .int), (cL, .long), (cZ, .boolean)] A) (hret : E_Share_putNone p l e s m args below meth c Q A D cI cL cZ a_this a_points a_p1 a_p1_words o_cuts o_queue o_owners o_takes o_bases o_ranked o_starts o_numbers o_walk i_order i_next v_points i_p1_room n_p1_words l2 res)  : I_Share_putNone_b0 p l e s m args below meth c Q A D cI cL cZ a_this a_points a_p1 a_p1_words o_cuts o_queue o_owners o_takes o_bases o_ranked o_starts o_numbers o_walk i_order i_next v_points i_p1_room n_p1_words l2 res (f_Share_putNone N v_points i_p1_room n_p1_words l2 ) := by
  obtain ⟨hx, hb, hml, hown, hts, hK, hA⟩ := C
  intro i_p1_used i_p1_held i_p1_many v_p1_words h H locs ls hl hP hD hS
  unfold f_Share_putNone at h
  refine lv_iload_n hx hb d_Share_putNone_0 rfl (lv_at hl 2 rfl) ?_
  refine lv_istore_n (lv' := [(3, .int l2), (0, .ref a_this), (1, .ref a_p1), (2, .int l2)]) hx hb d_Share_putNone_1 rfl hl (by decide) rfl (fun ls hl => ?_)
  exact w_Share_putNone_b2 ⟨hx, hb, hml, hown, hts, hK, hA⟩ hret  N _ _ _ _ _ h H locs ls (lv_sub hl [1, 2, 3, 0] rfl) hP hD hS
set_option maxHeartbeats 4000000 in
set_option maxRecDepth 100000 in
theorem c_Share_putNone (l : Launch) (D : va_G) (cI cL cZ : ClassId) (sz N : Nat) (a_this : Nat) (a_points : Nat) (a_p1 : Nat) (a_p1_words : Nat) (o_cuts : Nat) (o_queue : Nat) (o_owners : Nat) (o_takes : Nat) (o_bases : Nat) (o_ranked : Nat) (o_starts : Nat) (o_numbers : Nat) (o_walk : Nat) (i_order : Int32) (i_next : Int32) (v_points : Nat → Int32) (i_p1_room : Int32) (i_p1_used : Int32) (i_p1_held : Int32) (i_p1_many : Int32) (n_p1_words : Nat) (v_p1_words : Nat → Int64) (l2 : Int32) (rv : Int32) (i_p1_used' : Int32) (i_p1_held' : Int32) (i_p1_many' : Int32) (v_p1_words' : Nat → Int64) (h : f_Share_putNone N v_points i_p1_room n_p1_words l2 i_p1_used i_p1_held i_p1_many v_p1_words = some (rv, i_p1_used', i_p1_held', i_p1_many', v_p1_words')) : Met l ({ cls := "PrefixMill$Share", name := "putNone", desc := "(LPrefixMill$Row;I)I" } : Jvm.MethodName) ws_Share_putNone R_Share_putNone (va_Pc [.ref a_this, .ref a_p1, .int l2] (fun U => U.heap.size = sz ∧ va_P D classes [(a_this, .inr (6, [.ref a_points, .ref o_cuts, .ref o_queue, .ref o_owners, .ref o_takes, .ref o_bases, .ref o_ranked, .ref o_starts, .ref o_numbers, .ref o_walk, .int i_order, .int i_next])), (a_points, .inl (cI, 12, .inl v_points)), (a_p1, .inr (5, [.ref a_p1_words, .int i_p1_room, .int i_p1_used, .int i_p1_held, .int i_p1_many])), (a_p1_words, .inl (cL, n_p1_words, .inr (.inl v_p1_words)))] U.heap ∧ va_K D classes [(cI, .int), (cL, .long), (cZ, .boolean)] U ∧ va_D (fun _ => True) [(a_this, .inr (6, [.ref a_points, .ref o_cuts, .ref o_queue, .ref o_owners, .ref o_takes, .ref o_bases, .ref o_ranked, .ref o_starts, .ref o_numbers, .ref o_walk, .int i_order, .int i_next])), (a_points, .inl (cI, 12, .inl v_points)), (a_p1, .inr (5, [.ref a_p1_words, .int i_p1_room, .int i_p1_used, .int i_p1_held, .int i_p1_many])), (a_p1_words, .inl (cL, n_p1_words, .inr (.inl v_p1_words)))])) (va_Qi (fun (r0 : Int32) (_ : Unit) => rv = r0) (fun _ t => va_P D classes [(a_this, .inr (6, [.ref a_points, .ref o_cuts, .ref o_queue, .ref o_owners, .ref o_takes, .ref o_bases, .ref o_ranked, .ref o_starts, .ref o_numbers, .ref o_walk, .int i_order, .int i_next])), (a_points, .inl (cI, 12, .inl v_points)), (a_p1, .inr (5, [.ref a_p1_words, .int i_p1_room, .int i_p1_used', .int i_p1_held', .int i_p1_many'])), (a_p1_words, .inl (cL, n_p1_words, .inr (.inl v_p1_words')))] t.heap ∧ va_K D classes [(cI, .int), (cL, .long), (cZ, .boolean)] t ∧ va_D (va_A [(a_this, .inr (6, [.ref a_points, .ref o_cuts, .ref o_queue, .ref o_owners, .ref o_takes, .ref o_bases, .ref o_ranked, .ref o_starts, .ref o_numbers, .ref o_walk, .int i_order, .int i_next])), (a_points, .inl (cI, 12, .inl v_points)), (a_p1, .inr (5, [.ref a_p1_words, .int i_p1_room, .int i_p1_used, .int i_p1_held, .int i_p1_many])), (a_p1_words, .inl (cL, n_p1_words, .inr (.inl v_p1_words)))] sz) [(a_this, .inr (6, [.ref a_points, .ref o_cuts, .ref o_queue, .ref o_owners, .ref o_takes, .ref o_bases, .ref o_ranked, .ref o_starts, .ref o_numbers, .ref o_walk, .int i_order, .int i_next])), (a_points, .inl (cI, 12, .inl v_points)), (a_p1, .inr (5, [.ref a_p1_words, .int i_p1_room, .int i_p1_used', .int i_p1_held', .int i_p1_many'])), (a_p1_words, .inl (cL, n_p1_words, .inr (.inl v_p1_words')))]) (va_A [(a_this, .inr (6, [.ref a_points, .ref o_cuts, .ref o_queue, .ref o_owners, .ref o_takes, .ref o_bases, .ref o_ranked, .ref o_starts, .ref o_numbers, .ref o_walk, .int i_order, .int i_next])), (a_points, .inl (cI, 12, .inl v_points)), (a_p1, .inr (5, [.ref a_p1_words, .int i_p1_room, .int i_p1_used, .int i_p1_held, .int i_p1_many])), (a_p1_words, .inl (cL, n_p1_words, .inr (.inl v_p1_words)))] sz)) 0 0 (va_A [(a_this, .inr (6, [.ref a_points, .ref o_cuts, .ref o_queue, .ref o_owners, .ref o_takes, .ref o_bases, .ref o_ranked, .ref o_starts, .ref o_numbers, .ref o_walk, .int i_order, .int i_next])), (a_points, .inl (cI, 12, .inl v_points)), (a_p1, .inr (5, [.ref a_p1_words, .int i_p1_room, .int i_p1_used, .int i_p1_held, .int i_p1_many])), (a_p1_words, .inl (cL, n_p1_words, .inr (.inl v_p1_words)))] sz) := by
  refine Met.ofW (cc := b_Share_putNone) (maxL := 5) (ret := (some .int)) (by decide) rfl ?_
  intro p e s m args below meth c s₁ B hml hv
  obtain ⟨rfl, hsz, hP, hK, hD0⟩ := hv
  have hx := B.exec
  have hb := B.bytes
  have hr := B.returns
  have hts0 := atoms_spec (ws := ws_Share_putNone) B.pre
  have hts := gd_tl hts0
  clear hts0
  have hown : s.vm.findClass "PrefixMill$Share" = some m.cls := findClass_of_methodNamed B.named
  have hlocks := B.notSynchronized
  subst hsz
  have hD := hD0.self (sz := s.heap.size)
  generalize hAe : va_A [(a_this, .inr (6, [.ref a_points, .ref o_cuts, .ref o_queue, .ref o_owners, .ref o_takes, .ref o_bases, .ref o_ranked, .ref o_starts, .ref o_numbers, .ref o_walk, .int i_order, .int i_next])), (a_points, .inl (cI, 12, .inl v_points)), (a_p1, .inr (5, [.ref a_p1_words, .int i_p1_room, .int i_p1_used, .int i_p1_held, .int i_p1_many])), (a_p1_words, .inl (cL, n_p1_words, .inr (.inl v_p1_words)))] s.heap.size = A at hD ⊢
  have hA : ∀ q : Nat, s.heap.size ≤ q → A q := fun q h => by rw [← hAe]; exact Or.inr h
  have hS : va_S A s.heap s.heap [] := va_S.rf
  have hP : va_P D classes [(a_this, .inr (6, [.ref a_points, .ref o_cuts, .ref o_queue, .ref o_owners, .ref o_takes, .ref o_bases, .ref o_ranked, .ref o_starts, .ref o_numbers, .ref o_walk, .int i_order, .int i_next])), (a_points, .inl (cI, 12, .inl v_points)), (a_p1, .inr (5, [.ref a_p1_words, .int i_p1_room, .int i_p1_used, .int i_p1_held, .int i_p1_many])), (a_p1_words, .inl (cL, n_p1_words, .inr (.inl v_p1_words)))] s.heap := hP
  have hl := lv_entry ([.ref a_this, .ref a_p1, .int l2]) (n := 5) (Nat.le_of_ble_eq_true rfl)
  rw [lg_entry_eq]
  generalize (lg_sl ([.ref a_this, .ref a_p1, .int l2]) ++ List.replicate (5 - (lg_sl ([.ref a_this, .ref a_p1, .int l2])).length) Slot.unset).toArray = ls at hl ⊢
  have hl : lv_has ls 5 [(0, .ref a_this), (1, .ref a_p1), (2, .int l2)] := hl
  have C : Cx p s m ([.ref a_this, .ref a_p1, .int l2] : List Value).toArray c b_Share_putNone 5 "PrefixMill$Share" D [(cI, .int), (cL, .long), (cZ, .boolean)] A := ⟨hx, hb, hml, hown, hts, hK, hA⟩
  refine w_Share_putNone_b0 (res := (rv, i_p1_used', i_p1_held', i_p1_many', v_p1_words')) C ?_ _ _ _ _ h s.heap [] ls hl hP hD hS
  intro pc9 H9 locs9 ls9 rv9 i_p1_used9 i_p1_held9 i_p1_many9 v_p1_words9 e9 d9 hP9 hD9 hS9
  cases e9
  exact W.iret (v := rv) hx hb hr (fun t ht hW => ⟨⟨rv, (), rfl, rfl, by rw [ht]; exact hP9, va_K.moved hW.alike hK, hD9⟩, hS9.F ht⟩) hS9.2.2 d9
abbrev b_Row_pad : ByteArray := prog_5_method_8_code
def ws_Row_pad : List Cond := .code ({ cls := "PrefixMill$Row", name := "pad", desc := "()V" } : Jvm.MethodName) b_Row_pad 1 none :: tt
theorem d_Row_pad_0 : decode b_Row_pad 0 = .ok (.aload_n 0, 1) := by decide +kernel
theorem d_Row_pad_1 : decode b_Row_pad 1 = .ok (.getfield 46, 3) := by decide +kernel
theorem d_Row_pad_4 : decode b_Row_pad 4 = .ok (.ifCond .le 15, 3) := by decide +kernel
theorem d_Row_pad_7 : decode b_Row_pad 7 = .ok (.aload_n 0, 1) := by decide +kernel
theorem d_Row_pad_8 : decode b_Row_pad 8 = .ok (.iconst 0, 1) := by decide +kernel
theorem d_Row_pad_9 : decode b_Row_pad 9 = .ok (.bipush 8, 2) := by decide +kernel
theorem d_Row_pad_11 : decode b_Row_pad 11 = .ok (.aload_n 0, 1) := by decide +kernel
theorem d_Row_pad_12 : decode b_Row_pad 12 = .ok (.getfield 46, 3) := by decide +kernel
theorem d_Row_pad_15 : decode b_Row_pad 15 = .ok (.isub, 1) := by decide +kernel
theorem d_Row_pad_16 : decode b_Row_pad 16 = .ok (.invokevirtual 53, 3) := by decide +kernel
theorem d_Row_pad_19 : decode b_Row_pad 19 = .ok (.return_, 1) := by decide +kernel
abbrev R_Row_pad : Room := ({ frames := 2, cells := 0, slots := 0, locals := 45 } : Room)
def E_Row_pad (p : Program) (l : Launch) (e : Env) (s : State) (m : MethodId) (args : Array Value) (below : List Frame) (meth : Method) (c : Code) (Q : State → Prop) (A : Nat → Prop) (D : va_G) (cI cL cZ : ClassId) (a_this : Nat) (a_words : Nat) (i_room : Int32) (n_words : Nat) (res : Int32 × Int32 × Int32 × (Nat → Int64)) : Prop := ∀ (pc : Nat) (H : Heap) (locs : List Loc) (ls : Array Slot) (i_used : Int32) (i_held : Int32) (i_many : Int32) (v_words : Nat → Int64), some (i_used, i_held, i_many, v_words) = some res → decode b_Row_pad pc = .ok (.return_, 1) → va_P D classes [(a_this, .inr (5, [.ref a_words, .int i_room, .int i_used, .int i_held, .int i_many])), (a_words, .inl (cL, n_words, .inr (.inl v_words)))] H → va_D A [(a_this, .inr (5, [.ref a_words, .int i_room, .int i_used, .int i_held, .int i_many])), (a_words, .inl (cL, n_words, .inr (.inl v_words)))] → va_S A s.heap H locs → W p l e R_Row_pad s m args below meth c H locs 0 0 Q (F0 m pc ls [])
def I_Row_pad_b0 (p : Program) (l : Launch) (e : Env) (s : State) (m : MethodId) (args : Array Value) (below : List Frame) (meth : Method) (c : Code) (Q : State → Prop) (A : Nat → Prop) (D : va_G) (cI cL cZ : ClassId) (a_this : Nat) (a_words : Nat) (i_room : Int32) (n_words : Nat) (res : Int32 × Int32 × Int32 × (Nat → Int64)) (kf : Int32 → Int32 → Int32 → (Nat → Int64) → Option (Int32 × Int32 × Int32 × (Nat → Int64))) : Prop := ∀ (i_used : Int32) (i_held : Int32) (i_many : Int32) (v_words : Nat → Int64), kf i_used i_held i_many v_words = some res → ∀ (H : Heap) (locs : List Loc) (ls : Array Slot), lv_has ls 1 [(0, .ref a_this)] → va_P D classes [(a_this, .inr (5, [.ref a_words, .int i_room, .int i_used, .int i_held, .int i_many])), (a_words, .inl (cL, n_words, .inr (.inl v_words)))] H → va_D A [(a_this, .inr (5, [.ref a_words, .int i_room, .int i_used, .int i_held, .int i_many])), (a_words, .inl (cL, n_words, .inr (.inl v_words)))] → va_S A s.heap H locs → W p l e R_Row_pad s m args below meth c H locs 0 0 Q (F0 m 0 ls [])
set_option maxHeartbeats 4000000 in
set_option maxRecDepth 100000 in
theorem w_Row_pad_b0 {p : Program} {l : Launch} {e : Env} {s : State} {m : MethodId} {args : Array Value} {below : List Frame} {meth : Method} {c : Code} {Q : State → Prop} {A : Nat → Prop} {D : va_G} {cI cL cZ : ClassId} {a_this : Nat} {a_words : Nat} {i_room : Int32} {n_words : Nat} {N : Nat} {res : Int32 × Int32 × Int32 × (Nat → Int64)}  (C : Cx p s m args c b_Row_pad 1 "PrefixMill$Row" D [(cI, .int), (cL, .long), (cZ, .boolean)] A) (hret : E_Row_pad p l e s m args below meth c Q A D cI cL cZ a_this a_words i_room n_words res)  : I_Row_pad_b0 p l e s m args below meth c Q A D cI cL cZ a_this a_words i_room n_words res (f_Row_pad N i_room n_words ) := by
  obtain ⟨hx, hb, hml, hown, hts, hK, hA⟩ := C
  intro i_used i_held i_many v_words h H locs ls hl hP hD hS
  unfold f_Row_pad at h
  refine lv_aload_n hx hb d_Row_pad_0 rfl (lv_at hl 0 rfl) ?_
  refine va_get hx hb hts in_Row hown hK hP 0 rfl rfl 4 (by decide) (hts _ m_102) (fun _ h9 => h9) rfl d_Row_pad_1 ?_
  refine lv_if_le (tgt := 19) hx hb d_Row_pad_4 (by decide) (fun c_1 => ?_) (fun c_1 => ?_)
  · replace h := if_t h c_1
    exact hret _ _ _ _ i_used i_held i_many v_words h d_Row_pad_19 hP hD hS
  · replace h := if_f h c_1
    refine lv_aload_n hx hb d_Row_pad_7 rfl (lv_at hl 0 rfl) ?_
    refine lv_iconst (v := 0) hx hb d_Row_pad_8 (by decide) ?_
    refine lv_bipush (v := 8) hx hb d_Row_pad_9 (by decide) ?_
    refine lv_aload_n hx hb d_Row_pad_11 rfl (lv_at hl 0 rfl) ?_
    refine va_get hx hb hts in_Row hown hK hP 0 rfl rfl 4 (by decide) (hts _ m_102) (fun _ h9 => h9) rfl d_Row_pad_12 ?_
    refine lv_isub hx hb d_Row_pad_15 ?_
    obtain ⟨i_used_2, i_held_3, i_many_4, v_words_5, hc_6, h⟩ := bd4_s h
    have hPc := hP.sub (ws' := [(a_this, .inr (5, [.ref a_words, .int i_room, .int i_used, .int i_held, .int i_many])), (a_words, .inl (cL, n_words, .inr (.inl v_words)))]) [0, 1] rfl
    have hDc := hD.sub (ws' := [(a_this, .inr (5, [.ref a_words, .int i_room, .int i_used, .int i_held, .int i_many])), (a_words, .inl (cL, n_words, .inr (.inl v_words)))]) [0, 1] (by decide) rfl
    have hFc := va_free (wc := [(a_this, .inr (5, [.ref a_words, .int i_room, .int i_used, .int i_held, .int i_many])), (a_words, .inl (cL, n_words, .inr (.inl v_words)))]) hD hS hA [0, 1] rfl
    refine va_callv (va_runV (As := [.int 0, .int (8 - i_many)]) (rest := []) ⟨hx, hb, hml, hown, hts⟩ (c_Row_put l D cI cL cZ H.size N a_this a_words i_room i_used i_held i_many n_words v_words 0 (8 - i_many) i_used_2 i_held_3 i_many_4 v_words_5 hc_6) ⟨(my_cb 2 hts m_573 rfl rfl (hts _ m_67) (hts _ m_586) (by decide +kernel) ⟨Nat.le_of_ble_eq_true rfl, Nat.le_of_ble_eq_true rfl⟩), hts _ m_571, hts _ m_572⟩ ⟨fun a U g mk q => by obtain ⟨q0, q1, qP, qK, qD⟩ := q; exact ⟨q0, q1, qP, va_K.moved (u := U) (U := U.calling g mk a) (Vm.Alike.refl U.vm) qK, qD⟩, va_recv hK hPc (ci := 5) (q0 := 0) rfl rfl, fun U hU hW => ⟨rfl, by rw [hU], by rw [hU]; exact hPc, va_K.moved hW.alike hK, hDc.weaken (fun _ _ _ _ => trivial)⟩⟩ rfl rfl hl.1 rfl (lv_room (Nat.le_of_ble_eq_true rfl)) d_Row_pad_16 ⟨Nat.zero_le _, Nat.zero_le _⟩) hS (fun q _ h => hFc q h) hFc (fun u t H1 locs ht hvm hw hB hz1 hk1 hS => ?_)
    obtain ⟨hP1, hK1, hD1⟩ := hB
    rw [ht] at hP1
    obtain ⟨hP, hD⟩ := va_join (wr := []) (w1 := [(a_this, .inr (5, [.ref a_words, .int i_room, .int i_used_2, .int i_held_3, .int i_many_4])), (a_words, .inl (cL, n_words, .inr (.inl v_words_5)))]) hP hD [0, 1] [] rfl rfl (by decide) (by decide) hk1 hFc hP1 hD1
    clear hPc hDc hFc hk1 hP1 hD1 hK1
    generalize H1 = H at hP hS ⊢
    have hP : va_P D classes [(a_this, .inr (5, [.ref a_words, .int i_room, .int i_used_2, .int i_held_3, .int i_many_4])), (a_words, .inl (cL, n_words, .inr (.inl v_words_5)))] H := hP.sub [0, 1] rfl
    have hD : va_D A [(a_this, .inr (5, [.ref a_words, .int i_room, .int i_used_2, .int i_held_3, .int i_many_4])), (a_words, .inl (cL, n_words, .inr (.inl v_words_5)))] := hD.sub [0, 1] (by decide) rfl
    exact hret _ _ _ _ i_used_2 i_held_3 i_many_4 v_words_5 h d_Row_pad_19 hP hD hS
set_option maxHeartbeats 4000000 in
set_option maxRecDepth 100000 in
theorem c_Row_pad (l : Launch) (D : va_G) (cI cL cZ : ClassId) (sz N : Nat) (a_this : Nat) (a_words : Nat) (i_room : Int32) (i_used : Int32) (i_held : Int32) (i_many : Int32) (n_words : Nat) (v_words : Nat → Int64) (i_used' : Int32) (i_held' : Int32) (i_many' : Int32) (v_words' : Nat → Int64) (h : f_Row_pad N i_room n_words i_used i_held i_many v_words = some (i_used', i_held', i_many', v_words')) : Met l ({ cls := "PrefixMill$Row", name := "pad", desc := "()V" } : Jvm.MethodName) ws_Row_pad R_Row_pad (va_Pc [.ref a_this] (fun U => U.heap.size = sz ∧ va_P D classes [(a_this, .inr (5, [.ref a_words, .int i_room, .int i_used, .int i_held, .int i_many])), (a_words, .inl (cL, n_words, .inr (.inl v_words)))] U.heap ∧ va_K D classes [(cI, .int), (cL, .long), (cZ, .boolean)] U ∧ va_D (fun _ => True) [(a_this, .inr (5, [.ref a_words, .int i_room, .int i_used, .int i_held, .int i_many])), (a_words, .inl (cL, n_words, .inr (.inl v_words)))])) (va_Qv (fun _ : Unit => True) (fun _ t => va_P D classes [(a_this, .inr (5, [.ref a_words, .int i_room, .int i_used', .int i_held', .int i_many'])), (a_words, .inl (cL, n_words, .inr (.inl v_words')))] t.heap ∧ va_K D classes [(cI, .int), (cL, .long), (cZ, .boolean)] t ∧ va_D (va_A [(a_this, .inr (5, [.ref a_words, .int i_room, .int i_used, .int i_held, .int i_many])), (a_words, .inl (cL, n_words, .inr (.inl v_words)))] sz) [(a_this, .inr (5, [.ref a_words, .int i_room, .int i_used', .int i_held', .int i_many'])), (a_words, .inl (cL, n_words, .inr (.inl v_words')))]) (va_A [(a_this, .inr (5, [.ref a_words, .int i_room, .int i_used, .int i_held, .int i_many])), (a_words, .inl (cL, n_words, .inr (.inl v_words)))] sz)) 0 0 (va_A [(a_this, .inr (5, [.ref a_words, .int i_room, .int i_used, .int i_held, .int i_many])), (a_words, .inl (cL, n_words, .inr (.inl v_words)))] sz) := by
  refine Met.ofW (cc := b_Row_pad) (maxL := 1) (ret := none) (by decide) rfl ?_
  intro p e s m args below meth c s₁ B hml hv
  obtain ⟨rfl, hsz, hP, hK, hD0⟩ := hv
  have hx := B.exec
  have hb := B.bytes
  have hr := B.returns
  have hts0 := atoms_spec (ws := ws_Row_pad) B.pre
  have hts := gd_tl hts0
  clear hts0
  have hown : s.vm.findClass "PrefixMill$Row" = some m.cls := findClass_of_methodNamed B.named
  have hlocks := B.notSynchronized
  subst hsz
  have hD := hD0.self (sz := s.heap.size)
  generalize hAe : va_A [(a_this, .inr (5, [.ref a_words, .int i_room, .int i_used, .int i_held, .int i_many])), (a_words, .inl (cL, n_words, .inr (.inl v_words)))] s.heap.size = A at hD ⊢
  have hA : ∀ q : Nat, s.heap.size ≤ q → A q := fun q h => by rw [← hAe]; exact Or.inr h
  have hS : va_S A s.heap s.heap [] := va_S.rf
  have hP : va_P D classes [(a_this, .inr (5, [.ref a_words, .int i_room, .int i_used, .int i_held, .int i_many])), (a_words, .inl (cL, n_words, .inr (.inl v_words)))] s.heap := hP
  have hl := lv_entry ([.ref a_this]) (n := 1) (Nat.le_of_ble_eq_true rfl)
  rw [lg_entry_eq]
  generalize (lg_sl ([.ref a_this]) ++ List.replicate (1 - (lg_sl ([.ref a_this])).length) Slot.unset).toArray = ls at hl ⊢
  have hl : lv_has ls 1 [(0, .ref a_this)] := hl
  have C : Cx p s m ([.ref a_this] : List Value).toArray c b_Row_pad 1 "PrefixMill$Row" D [(cI, .int), (cL, .long), (cZ, .boolean)] A := ⟨hx, hb, hml, hown, hts, hK, hA⟩
  refine w_Row_pad_b0 (res := (i_used', i_held', i_many', v_words')) C ?_ _ _ _ _ h s.heap [] ls hl hP hD hS
  intro pc9 H9 locs9 ls9 i_used9 i_held9 i_many9 v_words9 e9 d9 hP9 hD9 hS9
  cases e9
  exact W.vret hx hb hr (fun t ht hW => ⟨⟨(), rfl, trivial, by rw [ht]; exact hP9, va_K.moved hW.alike hK, hD9⟩, hS9.F ht⟩) hS9.2.2 d9
abbrev b_Share_put : ByteArray := prog_6_method_14_code
def ws_Share_put : List Cond := .code ({ cls := "PrefixMill$Share", name := "put", desc := "(LPrefixMill$Row;)V" } : Jvm.MethodName) b_Share_put 4 none :: tt
theorem d_Share_put_0 : decode b_Share_put 0 = .ok (.aload_n 1, 1) := by decide +kernel
theorem d_Share_put_1 : decode b_Share_put 1 = .ok (.aload_n 0, 1) := by decide +kernel
theorem d_Share_put_2 : decode b_Share_put 2 = .ok (.getfield 42, 3) := by decide +kernel
theorem d_Share_put_5 : decode b_Share_put 5 = .ok (.iconst 5, 1) := by decide +kernel
theorem d_Share_put_6 : decode b_Share_put 6 = .ok (.isub, 1) := by decide +kernel
theorem d_Share_put_7 : decode b_Share_put 7 = .ok (.iconst 4, 1) := by decide +kernel
theorem d_Share_put_8 : decode b_Share_put 8 = .ok (.invokevirtual 85, 3) := by decide +kernel
theorem d_Share_put_11 : decode b_Share_put 11 = .ok (.iconst 1, 1) := by decide +kernel
theorem d_Share_put_12 : decode b_Share_put 12 = .ok (.aload_n 0, 1) := by decide +kernel
theorem d_Share_put_13 : decode b_Share_put 13 = .ok (.getfield 42, 3) := by decide +kernel
theorem d_Share_put_16 : decode b_Share_put 16 = .ok (.ishl, 1) := by decide +kernel
theorem d_Share_put_17 : decode b_Share_put 17 = .ok (.istore_n 2, 1) := by decide +kernel
theorem d_Share_put_18 : decode b_Share_put 18 = .ok (.iconst 0, 1) := by decide +kernel
theorem d_Share_put_19 : decode b_Share_put 19 = .ok (.istore_n 3, 1) := by decide +kernel
theorem d_Share_put_20 : decode b_Share_put 20 = .ok (.iload_n 3, 1) := by decide +kernel
theorem d_Share_put_21 : decode b_Share_put 21 = .ok (.bipush 12, 2) := by decide +kernel
theorem d_Share_put_23 : decode b_Share_put 23 = .ok (.if_icmp .ge 55, 3) := by decide +kernel
theorem d_Share_put_26 : decode b_Share_put 26 = .ok (.iload_n 2, 1) := by decide +kernel
theorem d_Share_put_27 : decode b_Share_put 27 = .ok (.ifCond .le 51, 3) := by decide +kernel
theorem d_Share_put_30 : decode b_Share_put 30 = .ok (.aload_n 1, 1) := by decide +kernel
theorem d_Share_put_31 : decode b_Share_put 31 = .ok (.aload_n 0, 1) := by decide +kernel
theorem d_Share_put_32 : decode b_Share_put 32 = .ok (.getfield 9, 3) := by decide +kernel
theorem d_Share_put_35 : decode b_Share_put 35 = .ok (.iload_n 3, 1) := by decide +kernel
theorem d_Share_put_36 : decode b_Share_put 36 = .ok (.iaload, 1) := by decide +kernel
theorem d_Share_put_37 : decode b_Share_put 37 = .ok (.iconst 1, 1) := by decide +kernel
theorem d_Share_put_38 : decode b_Share_put 38 = .ok (.iadd, 1) := by decide +kernel
theorem d_Share_put_39 : decode b_Share_put 39 = .ok (.iload_n 2, 1) := by decide +kernel
theorem d_Share_put_40 : decode b_Share_put 40 = .ok (.invokestatic 91, 3) := by decide +kernel
theorem d_Share_put_43 : decode b_Share_put 43 = .ok (.iload_n 2, 1) := by decide +kernel
theorem d_Share_put_44 : decode b_Share_put 44 = .ok (.aload_n 0, 1) := by decide +kernel
theorem d_Share_put_45 : decode b_Share_put 45 = .ok (.iload_n 3, 1) := by decide +kernel
theorem d_Share_put_46 : decode b_Share_put 46 = .ok (.invokevirtual 46, 3) := by decide +kernel
theorem d_Share_put_49 : decode b_Share_put 49 = .ok (.isub, 1) := by decide +kernel
theorem d_Share_put_50 : decode b_Share_put 50 = .ok (.istore_n 2, 1) := by decide +kernel
theorem d_Share_put_51 : decode b_Share_put 51 = .ok (.aload_n 0, 1) := by decide +kernel
theorem d_Share_put_52 : decode b_Share_put 52 = .ok (.getfield 9, 3) := by decide +kernel
theorem d_Share_put_55 : decode b_Share_put 55 = .ok (.iload_n 3, 1) := by decide +kernel
theorem d_Share_put_56 : decode b_Share_put 56 = .ok (.iaload, 1) := by decide +kernel
theorem d_Share_put_57 : decode b_Share_put 57 = .ok (.ifCond .ne 14, 3) := by decide +kernel
theorem d_Share_put_60 : decode b_Share_put 60 = .ok (.aload_n 0, 1) := by decide +kernel
theorem d_Share_put_61 : decode b_Share_put 61 = .ok (.aload_n 1, 1) := by decide +kernel
theorem d_Share_put_62 : decode b_Share_put 62 = .ok (.iload_n 3, 1) := by decide +kernel
theorem d_Share_put_63 : decode b_Share_put 63 = .ok (.iconst 1, 1) := by decide +kernel
theorem d_Share_put_64 : decode b_Share_put 64 = .ok (.iadd, 1) := by decide +kernel
theorem d_Share_put_65 : decode b_Share_put 65 = .ok (.invokevirtual 95, 3) := by decide +kernel
theorem d_Share_put_68 : decode b_Share_put 68 = .ok (.goto 6, 3) := by decide +kernel
theorem d_Share_put_71 : decode b_Share_put 71 = .ok (.iload_n 3, 1) := by decide +kernel
theorem d_Share_put_72 : decode b_Share_put 72 = .ok (.iconst 1, 1) := by decide +kernel
theorem d_Share_put_73 : decode b_Share_put 73 = .ok (.iadd, 1) := by decide +kernel
theorem d_Share_put_74 : decode b_Share_put 74 = .ok (.istore_n 3, 1) := by decide +kernel
theorem d_Share_put_75 : decode b_Share_put 75 = .ok (.goto (-55), 3) := by decide +kernel
theorem d_Share_put_78 : decode b_Share_put 78 = .ok (.aload_n 1, 1) := by decide +kernel
theorem d_Share_put_79 : decode b_Share_put 79 = .ok (.invokevirtual 99, 3) := by decide +kernel
theorem d_Share_put_82 : decode b_Share_put 82 = .ok (.return_, 1) := by decide +kernel
abbrev R_Share_put : Room := ({ frames := 3, cells := 0, slots := 0, locals := 70 } : Room)
def E_Share_put (p : Program) (l : Launch) (e : Env) (s : State) (m : MethodId) (args : Array Value) (below : List Frame) (meth : Method) (c : Code) (Q : State → Prop) (A : Nat → Prop) (D : va_G) (cI cL cZ : ClassId) (a_this : Nat) (a_points : Nat) (a_p1 : Nat) (a_p1_words : Nat) (o_cuts : Nat) (o_queue : Nat) (o_owners : Nat) (o_takes : Nat) (o_bases : Nat) (o_ranked : Nat) (o_starts : Nat) (o_numbers : Nat) (o_walk : Nat) (i_order : Int32) (i_next : Int32) (v_points : Nat → Int32) (i_p1_room : Int32) (n_p1_words : Nat) (res : Int32 × Int32 × Int32 × (Nat → Int64)) : Prop := ∀ (pc : Nat) (H : Heap) (locs : List Loc) (ls : Array Slot) (i_p1_used : Int32) (i_p1_held : Int32) (i_p1_many : Int32) (v_p1_words : Nat → Int64), some (i_p1_used, i_p1_held, i_p1_many, v_p1_words) = some res → decode b_Share_put pc = .ok (.return_, 1) → va_P D classes [(a_this, .inr (6, [.ref a_points, .ref o_cuts, .ref o_queue, .ref o_owners, .ref o_takes, .ref o_bases, .ref o_ranked, .ref o_starts, .ref o_numbers, .ref o_walk, .int i_order, .int i_next])), (a_points, .inl (cI, 12, .inl v_points)), (a_p1, .inr (5, [.ref a_p1_words, .int i_p1_room, .int i_p1_used, .int i_p1_held, .int i_p1_many])), (a_p1_words, .inl (cL, n_p1_words, .inr (.inl v_p1_words)))] H → va_D A [(a_this, .inr (6, [.ref a_points, .ref o_cuts, .ref o_queue, .ref o_owners, .ref o_takes, .ref o_bases, .ref o_ranked, .ref o_starts, .ref o_numbers, .ref o_walk, .int i_order, .int i_next])), (a_points, .inl (cI, 12, .inl v_points)), (a_p1, .inr (5, [.ref a_p1_words, .int i_p1_room, .int i_p1_used, .int i_p1_held, .int i_p1_many])), (a_p1_words, .inl (cL, n_p1_words, .inr (.inl v_p1_words)))] → va_S A s.heap H locs → W p l e R_Share_put s m args below meth c H locs 0 0 Q (F0 m pc ls [])
def I_Share_put_b74 (p : Program) (l : Launch) (e : Env) (s : State) (m : MethodId) (args : Array Value) (below : List Frame) (meth : Method) (c : Code) (Q : State → Prop) (A : Nat → Prop) (D : va_G) (cI cL cZ : ClassId) (a_this : Nat) (a_points : Nat) (a_p1 : Nat) (a_p1_words : Nat) (o_cuts : Nat) (o_queue : Nat) (o_owners : Nat) (o_takes : Nat) (o_bases : Nat) (o_ranked : Nat) (o_starts : Nat) (o_numbers : Nat) (o_walk : Nat) (i_order : Int32) (i_next : Int32) (v_points : Nat → Int32) (i_p1_room : Int32) (n_p1_words : Nat) (res : Int32 × Int32 × Int32 × (Nat → Int64)) (kf : Int32 → Int32 → Int32 → Int32 → Int32 → (Nat → Int64) → Option (Int32 × Int32 × Int32 × (Nat → Int64))) : Prop := ∀ (l2 : Int32) (s0 : Int32) (i_p1_used : Int32) (i_p1_held : Int32) (i_p1_many : Int32) (v_p1_words : Nat → Int64), kf l2 s0 i_p1_used i_p1_held i_p1_many v_p1_words = some res → ∀ (H : Heap) (locs : List Loc) (ls : Array Slot), lv_has ls 4 [(0, .ref a_this), (1, .ref a_p1), (2, .int l2)] → va_P D classes [(a_this, .inr (6, [.ref a_points, .ref o_cuts, .ref o_queue, .ref o_owners, .ref o_takes, .ref o_bases, .ref o_ranked, .ref o_starts, .ref o_numbers, .ref o_walk, .int i_order, .int i_next])), (a_points, .inl (cI, 12, .inl v_points)), (a_p1, .inr (5, [.ref a_p1_words, .int i_p1_room, .int i_p1_used, .int i_p1_held, .int i_p1_many])), (a_p1_words, .inl (cL, n_p1_words, .inr (.inl v_p1_words)))] H → va_D A [(a_this, .inr (6, [.ref a_points, .ref o_cuts, .ref o_queue, .ref o_owners, .ref o_takes, .ref o_bases, .ref o_ranked, .ref o_starts, .ref o_numbers, .ref o_walk, .int i_order, .int i_next])), (a_points, .inl (cI, 12, .inl v_points)), (a_p1, .inr (5, [.ref a_p1_words, .int i_p1_room, .int i_p1_used, .int i_p1_held, .int i_p1_many])), (a_p1_words, .inl (cL, n_p1_words, .inr (.inl v_p1_words)))] → va_S A s.heap H locs → W p l e R_Share_put s m args below meth c H locs 0 0 Q (F0 m 74 ls [.int s0])
def I_Share_put_b78 (p : Program) (l : Launch) (e : Env) (s : State) (m : MethodId) (args : Array Value) (below : List Frame) (meth : Method) (c : Code) (Q : State → Prop) (A : Nat → Prop) (D : va_G) (cI cL cZ : ClassId) (a_this : Nat) (a_points : Nat) (a_p1 : Nat) (a_p1_words : Nat) (o_cuts : Nat) (o_queue : Nat) (o_owners : Nat) (o_takes : Nat) (o_bases : Nat) (o_ranked : Nat) (o_starts : Nat) (o_numbers : Nat) (o_walk : Nat) (i_order : Int32) (i_next : Int32) (v_points : Nat → Int32) (i_p1_room : Int32) (n_p1_words : Nat) (res : Int32 × Int32 × Int32 × (Nat → Int64)) (kf : Int32 → Int32 → Int32 → (Nat → Int64) → Option (Int32 × Int32 × Int32 × (Nat → Int64))) : Prop := ∀ (i_p1_used : Int32) (i_p1_held : Int32) (i_p1_many : Int32) (v_p1_words : Nat → Int64), kf i_p1_used i_p1_held i_p1_many v_p1_words = some res → ∀ (H : Heap) (locs : List Loc) (ls : Array Slot), lv_has ls 4 [(1, .ref a_p1)] → va_P D classes [(a_this, .inr (6, [.ref a_points, .ref o_cuts, .ref o_queue, .ref o_owners, .ref o_takes, .ref o_bases, .ref o_ranked, .ref o_starts, .ref o_numbers, .ref o_walk, .int i_order, .int i_next])), (a_points, .inl (cI, 12, .inl v_points)), (a_p1, .inr (5, [.ref a_p1_words, .int i_p1_room, .int i_p1_used, .int i_p1_held, .int i_p1_many])), (a_p1_words, .inl (cL, n_p1_words, .inr (.inl v_p1_words)))] H → va_D A [(a_this, .inr (6, [.ref a_points, .ref o_cuts, .ref o_queue, .ref o_owners, .ref o_takes, .ref o_bases, .ref o_ranked, .ref o_starts, .ref o_numbers, .ref o_walk, .int i_order, .int i_next])), (a_points, .inl (cI, 12, .inl v_points)), (a_p1, .inr (5, [.ref a_p1_words, .int i_p1_room, .int i_p1_used, .int i_p1_held, .int i_p1_many])), (a_p1_words, .inl (cL, n_p1_words, .inr (.inl v_p1_words)))] → va_S A s.heap H locs → W p l e R_Share_put s m args below meth c H locs 0 0 Q (F0 m 78 ls [])
def I_Share_put_b20 (p : Program) (l : Launch) (e : Env) (s : State) (m : MethodId) (args : Array Value) (below : List Frame) (meth : Method) (c : Code) (Q : State → Prop) (A : Nat → Prop) (D : va_G) (cI cL cZ : ClassId) (a_this : Nat) (a_points : Nat) (a_p1 : Nat) (a_p1_words : Nat) (o_cuts : Nat) (o_queue : Nat) (o_owners : Nat) (o_takes : Nat) (o_bases : Nat) (o_ranked : Nat) (o_starts : Nat) (o_numbers : Nat) (o_walk : Nat) (i_order : Int32) (i_next : Int32) (v_points : Nat → Int32) (i_p1_room : Int32) (n_p1_words : Nat) (res : Int32 × Int32 × Int32 × (Nat → Int64)) (kf : Int32 → Int32 → Int32 → Int32 → Int32 → (Nat → Int64) → Option (Int32 × Int32 × Int32 × (Nat → Int64))) : Prop := ∀ (l2 : Int32) (l3 : Int32) (i_p1_used : Int32) (i_p1_held : Int32) (i_p1_many : Int32) (v_p1_words : Nat → Int64), kf l2 l3 i_p1_used i_p1_held i_p1_many v_p1_words = some res → ∀ (H : Heap) (locs : List Loc) (ls : Array Slot), lv_has ls 4 [(0, .ref a_this), (1, .ref a_p1), (2, .int l2), (3, .int l3)] → va_P D classes [(a_this, .inr (6, [.ref a_points, .ref o_cuts, .ref o_queue, .ref o_owners, .ref o_takes, .ref o_bases, .ref o_ranked, .ref o_starts, .ref o_numbers, .ref o_walk, .int i_order, .int i_next])), (a_points, .inl (cI, 12, .inl v_points)), (a_p1, .inr (5, [.ref a_p1_words, .int i_p1_room, .int i_p1_used, .int i_p1_held, .int i_p1_many])), (a_p1_words, .inl (cL, n_p1_words, .inr (.inl v_p1_words)))] H → va_D A [(a_this, .inr (6, [.ref a_points, .ref o_cuts, .ref o_queue, .ref o_owners, .ref o_takes, .ref o_bases, .ref o_ranked, .ref o_starts, .ref o_numbers, .ref o_walk, .int i_order, .int i_next])), (a_points, .inl (cI, 12, .inl v_points)), (a_p1, .inr (5, [.ref a_p1_words, .int i_p1_room, .int i_p1_used, .int i_p1_held, .int i_p1_many])), (a_p1_words, .inl (cL, n_p1_words, .inr (.inl v_p1_words)))] → va_S A s.heap H locs → W p l e R_Share_put s m args below meth c H locs 0 0 Q (F0 m 20 ls [])
def I_Share_put_b0 (p : Program) (l : Launch) (e : Env) (s : State) (m : MethodId) (args : Array Value) (below : List Frame) (meth : Method) (c : Code) (Q : State → Prop) (A : Nat → Prop) (D : va_G) (cI cL cZ : ClassId) (a_this : Nat) (a_points : Nat) (a_p1 : Nat) (a_p1_words : Nat) (o_cuts : Nat) (o_queue : Nat) (o_owners : Nat) (o_takes : Nat) (o_bases : Nat) (o_ranked : Nat) (o_starts : Nat) (o_numbers : Nat) (o_walk : Nat) (i_order : Int32) (i_next : Int32) (v_points : Nat → Int32) (i_p1_room : Int32) (n_p1_words : Nat) (res : Int32 × Int32 × Int32 × (Nat → Int64)) (kf : Int32 → Int32 → Int32 → (Nat → Int64) → Option (Int32 × Int32 × Int32 × (Nat → Int64))) : Prop := ∀ (i_p1_used : Int32) (i_p1_held : Int32) (i_p1_many : Int32) (v_p1_words : Nat → Int64), kf i_p1_used i_p1_held i_p1_many v_p1_words = some res → ∀ (H : Heap) (locs : List Loc) (ls : Array Slot), lv_has ls 4 [(0, .ref a_this), (1, .ref a_p1)] → va_P D classes [(a_this, .inr (6, [.ref a_points, .ref o_cuts, .ref o_queue, .ref o_owners, .ref o_takes, .ref o_bases, .ref o_ranked, .ref o_starts, .ref o_numbers, .ref o_walk, .int i_order, .int i_next])), (a_points, .inl (cI, 12, .inl v_points)), (a_p1, .inr (5, [.ref a_p1_words, .int i_p1_room, .int i_p1_used, .int i_p1_held, .int i_p1_many])), (a_p1_words, .inl (cL, n_p1_words, .inr (.inl v_p1_words)))] H → va_D A [(a_this, .inr (6, [.ref a_points, .ref o_cuts, .ref o_queue, .ref o_owners, .ref o_takes, .ref o_bases, .ref o_ranked, .ref o_starts, .ref o_numbers, .ref o_walk, .int i_order, .int i_next])), (a_points, .inl (cI, 12, .inl v_points)), (a_p1, .inr (5, [.ref a_p1_words, .int i_p1_room, .int i_p1_used, .int i_p1_held, .int i_p1_many])), (a_p1_words, .inl (cL, n_p1_words, .inr (.inl v_p1_words)))] → va_S A s.heap H locs → W p l e R_Share_put s m args below meth c H locs 0 0 Q (F0 m 0 ls [])
set_option maxHeartbeats 4000000 in
set_option maxRecDepth 100000 in
theorem w_Share_put_b74 {p : Program} {l : Launch} {e : Env} {s : State} {m : MethodId} {args : Array Value} {below : List Frame} {meth : Method} {c : Code} {Q : State → Prop} {A : Nat → Prop} {D : va_G} {cI cL cZ : ClassId} {a_this : Nat} {a_points : Nat} {a_p1 : Nat} {a_p1_words : Nat} {o_cuts : Nat} {o_queue : Nat} {o_owners : Nat} {o_takes : Nat} {o_bases : Nat} {o_ranked : Nat} {o_starts : Nat} {o_numbers : Nat} {o_walk : Nat} {i_order : Int32} {i_next : Int32} {v_points : Nat → Int32} {i_p1_room : Int32} {n_p1_words : Nat} {N : Nat} {res : Int32 × Int32 × Int32 × (Nat → Int64)} {k20 : Int32 → Int32 → Int32 → Int32 → Int32 → (Nat → Int64) → Option (Int32 × Int32 × Int32 × (Nat → Int64))} (C : Cx p s m args c b_Share_put 4 "PrefixMill$Share" D [(cI, .int), (cL, .long), (cZ, .boolean)] A) (hret : E_Share_put p l e s m args below meth c Q A D cI cL cZ a_this a_points a_p1 a_p1_words o_cuts o_queue o_owners o_takes o_bases o_ranked o_starts o_numbers o_walk i_order i_next v_points i_p1_room n_p1_words res) (hk20 : I_Share_put_b20 p l e s m args below meth c Q A D cI cL cZ a_this a_points a_p1 a_p1_words o_cuts o_queue o_owners o_takes o_bases o_ranked o_starts o_numbers o_walk i_order i_next v_points i_p1_room n_p1_words res k20) : I_Share_put_b74 p l e s m args below meth c Q A D cI cL cZ a_this a_points a_p1 a_p1_words o_cuts o_queue o_owners o_takes o_bases o_ranked o_starts o_numbers o_walk i_order i_next v_points i_p1_room n_p1_words res (f_Share_put_b74 N i_order v_points i_p1_room n_p1_words k20) := by
  obtain ⟨hx, hb, hml, hown, hts, hK, hA⟩ := C
  intro l2 s0 i_p1_used i_p1_held i_p1_many v_p1_words h H locs ls hl hP hD hS
  unfold f_Share_put_b74 at h
  refine lv_istore_n (lv' := [(3, .int s0), (0, .ref a_this), (1, .ref a_p1), (2, .int l2)]) hx hb d_Share_put_74 rfl hl (by decide) rfl (fun ls hl => ?_)
  refine lv_goto (tgt := 20) hx hb d_Share_put_75 (by decide) ?_
  exact hk20 _ _ _ _ _ _ h H locs ls (lv_sub hl [1, 2, 3, 0] rfl) hP hD hS
set_option maxHeartbeats 4000000 in
set_option maxRecDepth 100000 in
theorem w_Share_put_b78 {p : Program} {l : Launch} {e : Env} {s : State} {m : MethodId} {args : Array Value} {below : List Frame} {meth : Method} {c : Code} {Q : State → Prop} {A : Nat → Prop} {D : va_G} {cI cL cZ : ClassId} {a_this : Nat} {a_points : Nat} {a_p1 : Nat} {a_p1_words : Nat} {o_cuts : Nat} {o_queue : Nat} {o_owners : Nat} {o_takes : Nat} {o_bases : Nat} {o_ranked : Nat} {o_starts : Nat} {o_numbers : Nat} {o_walk : Nat} {i_order : Int32} {i_next : Int32} {v_points : Nat → Int32} {i_p1_room : Int32} {n_p1_words : Nat} {N : Nat} {res : Int32 × Int32 × Int32 × (Nat → Int64)}  (C : Cx p s m args c b_Share_put 4 "PrefixMill$Share" D [(cI, .int), (cL, .long), (cZ, .boolean)] A) (hret : E_Share_put p l e s m args below meth c Q A D cI cL cZ a_this a_points a_p1 a_p1_words o_cuts o_queue o_owners o_takes o_bases o_ranked o_starts o_numbers o_walk i_order i_next v_points i_p1_room n_p1_words res)  : I_Share_put_b78 p l e s m args below meth c Q A D cI cL cZ a_this a_points a_p1 a_p1_words o_cuts o_queue o_owners o_takes o_bases o_ranked o_starts o_numbers o_walk i_order i_next v_points i_p1_room n_p1_words res (f_Share_put_b78 N i_order v_points i_p1_room n_p1_words ) := by
  obtain ⟨hx, hb, hml, hown, hts, hK, hA⟩ := C
  intro i_p1_used i_p1_held i_p1_many v_p1_words h H locs ls hl hP hD hS
  unfold f_Share_put_b78 at h
  refine lv_aload_n hx hb d_Share_put_78 rfl (lv_at hl 0 rfl) ?_
  obtain ⟨i_p1_used_1, i_p1_held_2, i_p1_many_3, v_p1_words_4, hc_5, h⟩ := bd4_s h
  have hPc := hP.sub (ws' := [(a_p1, .inr (5, [.ref a_p1_words, .int i_p1_room, .int i_p1_used, .int i_p1_held, .int i_p1_many])), (a_p1_words, .inl (cL, n_p1_words, .inr (.inl v_p1_words)))]) [2, 3] rfl
  have hDc := hD.sub (ws' := [(a_p1, .inr (5, [.ref a_p1_words, .int i_p1_room, .int i_p1_used, .int i_p1_held, .int i_p1_many])), (a_p1_words, .inl (cL, n_p1_words, .inr (.inl v_p1_words)))]) [2, 3] (by decide) rfl
  have hFc := va_free (wc := [(a_p1, .inr (5, [.ref a_p1_words, .int i_p1_room, .int i_p1_used, .int i_p1_held, .int i_p1_many])), (a_p1_words, .inl (cL, n_p1_words, .inr (.inl v_p1_words)))]) hD hS hA [2, 3] rfl
  refine va_callv (va_runV (As := []) (rest := []) ⟨hx, hb, hml, hown, hts⟩ (c_Row_pad l D cI cL cZ H.size N a_p1 a_p1_words i_p1_room i_p1_used i_p1_held i_p1_many n_p1_words v_p1_words i_p1_used_1 i_p1_held_2 i_p1_many_3 v_p1_words_4 hc_5) ⟨(my_cb 0 hts m_585 rfl rfl (hts _ m_67) (hts _ m_582) (by decide +kernel) ⟨Nat.le_of_ble_eq_true rfl, Nat.le_of_ble_eq_true rfl⟩), hts _ m_583, hts _ m_584⟩ ⟨fun a U g mk q => by obtain ⟨q0, q1, qP, qK, qD⟩ := q; exact ⟨q0, q1, qP, va_K.moved (u := U) (U := U.calling g mk a) (Vm.Alike.refl U.vm) qK, qD⟩, va_recv hK hPc (ci := 5) (q0 := 0) rfl rfl, fun U hU hW => ⟨rfl, by rw [hU], by rw [hU]; exact hPc, va_K.moved hW.alike hK, hDc.weaken (fun _ _ _ _ => trivial)⟩⟩ rfl rfl hl.1 rfl (lv_room (Nat.le_of_ble_eq_true rfl)) d_Share_put_79 ⟨Nat.zero_le _, Nat.zero_le _⟩) hS (fun q _ h => hFc q h) hFc (fun u t H1 locs ht hvm hw hB hz1 hk1 hS => ?_)
  obtain ⟨hP1, hK1, hD1⟩ := hB
  rw [ht] at hP1
  obtain ⟨hP, hD⟩ := va_join (wr := [(a_this, .inr (6, [.ref a_points, .ref o_cuts, .ref o_queue, .ref o_owners, .ref o_takes, .ref o_bases, .ref o_ranked, .ref o_starts, .ref o_numbers, .ref o_walk, .int i_order, .int i_next])), (a_points, .inl (cI, 12, .inl v_points))]) (w1 := [(a_p1, .inr (5, [.ref a_p1_words, .int i_p1_room, .int i_p1_used_1, .int i_p1_held_2, .int i_p1_many_3])), (a_p1_words, .inl (cL, n_p1_words, .inr (.inl v_p1_words_4)))]) hP hD [2, 3] [0, 1] rfl rfl (by decide) (by decide) hk1 hFc hP1 hD1
  clear hPc hDc hFc hk1 hP1 hD1 hK1
  generalize H1 = H at hP hS ⊢
  have hP : va_P D classes [(a_this, .inr (6, [.ref a_points, .ref o_cuts, .ref o_queue, .ref o_owners, .ref o_takes, .ref o_bases, .ref o_ranked, .ref o_starts, .ref o_numbers, .ref o_walk, .int i_order, .int i_next])), (a_points, .inl (cI, 12, .inl v_points)), (a_p1, .inr (5, [.ref a_p1_words, .int i_p1_room, .int i_p1_used_1, .int i_p1_held_2, .int i_p1_many_3])), (a_p1_words, .inl (cL, n_p1_words, .inr (.inl v_p1_words_4)))] H := hP.sub [0, 1, 2, 3] rfl
  have hD : va_D A [(a_this, .inr (6, [.ref a_points, .ref o_cuts, .ref o_queue, .ref o_owners, .ref o_takes, .ref o_bases, .ref o_ranked, .ref o_starts, .ref o_numbers, .ref o_walk, .int i_order, .int i_next])), (a_points, .inl (cI, 12, .inl v_points)), (a_p1, .inr (5, [.ref a_p1_words, .int i_p1_room, .int i_p1_used_1, .int i_p1_held_2, .int i_p1_many_3])), (a_p1_words, .inl (cL, n_p1_words, .inr (.inl v_p1_words_4)))] := hD.sub [0, 1, 2, 3] (by decide) rfl
  exact hret _ _ _ _ i_p1_used_1 i_p1_held_2 i_p1_many_3 v_p1_words_4 h d_Share_put_82 hP hD hS
set_option maxHeartbeats 4000000 in
set_option maxRecDepth 100000 in
theorem w_Share_put_b20 {p : Program} {l : Launch} {e : Env} {s : State} {m : MethodId} {args : Array Value} {below : List Frame} {meth : Method} {c : Code} {Q : State → Prop} {A : Nat → Prop} {D : va_G} {cI cL cZ : ClassId} {a_this : Nat} {a_points : Nat} {a_p1 : Nat} {a_p1_words : Nat} {o_cuts : Nat} {o_queue : Nat} {o_owners : Nat} {o_takes : Nat} {o_bases : Nat} {o_ranked : Nat} {o_starts : Nat} {o_numbers : Nat} {o_walk : Nat} {i_order : Int32} {i_next : Int32} {v_points : Nat → Int32} {i_p1_room : Int32} {n_p1_words : Nat} {N : Nat} {res : Int32 × Int32 × Int32 × (Nat → Int64)}  (C : Cx p s m args c b_Share_put 4 "PrefixMill$Share" D [(cI, .int), (cL, .long), (cZ, .boolean)] A) (hret : E_Share_put p l e s m args below meth c Q A D cI cL cZ a_this a_points a_p1 a_p1_words o_cuts o_queue o_owners o_takes o_bases o_ranked o_starts o_numbers o_walk i_order i_next v_points i_p1_room n_p1_words res)  : ∀ z : Nat, I_Share_put_b20 p l e s m args below meth c Q A D cI cL cZ a_this a_points a_p1 a_p1_words o_cuts o_queue o_owners o_takes o_bases o_ranked o_starts o_numbers o_walk i_order i_next v_points i_p1_room n_p1_words res (f_Share_put_b20 N i_order v_points i_p1_room n_p1_words  z) := by
  obtain ⟨hx, hb, hml, hown, hts, hK, hA⟩ := C
  intro z
  induction z with
  | zero => intro l2 l3 i_p1_used i_p1_held i_p1_many v_p1_words h; cases h
  | succ z ih =>
    intro l2 l3 i_p1_used i_p1_held i_p1_many v_p1_words h H locs ls hl hP hD hS
    refine lv_iload_n hx hb d_Share_put_20 rfl (lv_at hl 3 rfl) ?_
    refine lv_bipush (v := 12) hx hb d_Share_put_21 (by decide) ?_
    refine lv_icmp_ge (tgt := 78) hx hb d_Share_put_23 (by decide) (fun c_1 => ?_) (fun c_1 => ?_)
    · replace h := if_t h c_1
      exact w_Share_put_b78 ⟨hx, hb, hml, hown, hts, hK, hA⟩ hret  _ _ _ _ h H locs ls (lv_sub hl [1] rfl) hP hD hS
    · replace h := if_f h c_1
      refine lv_iload_n hx hb d_Share_put_26 rfl (lv_at hl 2 rfl) ?_
      refine lv_if_le (tgt := 78) hx hb d_Share_put_27 (by decide) (fun c_2 => ?_) (fun c_2 => ?_)
      · replace h := if_t h c_2
        exact w_Share_put_b78 ⟨hx, hb, hml, hown, hts, hK, hA⟩ hret  _ _ _ _ h H locs ls (lv_sub hl [1] rfl) hP hD hS
      · replace h := if_f h c_2
        refine lv_aload_n hx hb d_Share_put_30 rfl (lv_at hl 1 rfl) ?_
        refine lv_aload_n hx hb d_Share_put_31 rfl (lv_at hl 0 rfl) ?_
        refine va_get hx hb hts in_Share hown hK hP 0 rfl rfl 0 (by decide) (hts _ m_211) (fun _ h9 => h9) rfl d_Share_put_32 ?_
        refine lv_iload_n hx hb d_Share_put_35 rfl (lv_at hl 3 rfl) ?_
        obtain ⟨g_3, h⟩ := ck_s h
        refine va_iald hx hb hK hP 1 0 rfl rfl (inb_s g_3) d_Share_put_36 ?_
        refine lv_iconst (v := 1) hx hb d_Share_put_37 (by decide) ?_
        refine lv_iadd hx hb d_Share_put_38 ?_
        refine lv_iload_n hx hb d_Share_put_39 rfl (lv_at hl 2 rfl) ?_
        obtain ⟨i_p1_used_4, i_p1_held_5, i_p1_many_6, v_p1_words_7, hc_8, h⟩ := bd4_s h
        have hPc := hP.sub (ws' := [(a_p1, .inr (5, [.ref a_p1_words, .int i_p1_room, .int i_p1_used, .int i_p1_held, .int i_p1_many])), (a_p1_words, .inl (cL, n_p1_words, .inr (.inl v_p1_words)))]) [2, 3] rfl
        have hDc := hD.sub (ws' := [(a_p1, .inr (5, [.ref a_p1_words, .int i_p1_room, .int i_p1_used, .int i_p1_held, .int i_p1_many])), (a_p1_words, .inl (cL, n_p1_words, .inr (.inl v_p1_words)))]) [2, 3] (by decide) rfl
        have hFc := va_free (wc := [(a_p1, .inr (5, [.ref a_p1_words, .int i_p1_room, .int i_p1_used, .int i_p1_held, .int i_p1_many])), (a_p1_words, .inl (cL, n_p1_words, .inr (.inl v_p1_words)))]) hD hS hA [2, 3] rfl
        refine va_callv (va_runS (As := [.ref a_p1, .int ((v_points (Int32.toNatClampNeg l3)) + 1), .int l2]) (rest := []) ⟨hx, hb, hml, hown, hts⟩ (c_Share_putPoints l D cI cL cZ H.size N a_p1 a_p1_words i_p1_room i_p1_used i_p1_held i_p1_many n_p1_words v_p1_words ((v_points (Int32.toNatClampNeg l3)) + 1) l2 i_p1_used_4 i_p1_held_5 i_p1_many_6 v_p1_words_7 hc_8) ⟨(my_cb 3 hts m_577 rfl rfl (hts _ m_72) (hts _ m_575) (by decide +kernel) ⟨Nat.le_of_ble_eq_true rfl, Nat.le_of_ble_eq_true rfl⟩), hts _ m_576⟩ ⟨fun a U g mk q => by obtain ⟨q0, q1, qP, qK, qD⟩ := q; exact ⟨q0, q1, qP, va_K.moved (u := U) (U := U.calling g mk a) (Vm.Alike.refl U.vm) qK, qD⟩, fun U hU hW => ⟨rfl, by rw [hU], by rw [hU]; exact hPc, va_K.moved hW.alike hK, hDc.weaken (fun _ _ _ _ => trivial)⟩⟩ rfl rfl hl.1 rfl (lv_room (Nat.le_of_ble_eq_true rfl)) d_Share_put_40 ⟨Nat.zero_le _, Nat.zero_le _⟩) hS (fun q _ h => hFc q h) hFc (fun u t H1 locs ht hvm hw hB hz1 hk1 hS => ?_)
        obtain ⟨hP1, hK1, hD1⟩ := hB
        rw [ht] at hP1
        obtain ⟨hP, hD⟩ := va_join (wr := [(a_this, .inr (6, [.ref a_points, .ref o_cuts, .ref o_queue, .ref o_owners, .ref o_takes, .ref o_bases, .ref o_ranked, .ref o_starts, .ref o_numbers, .ref o_walk, .int i_order, .int i_next])), (a_points, .inl (cI, 12, .inl v_points))]) (w1 := [(a_p1, .inr (5, [.ref a_p1_words, .int i_p1_room, .int i_p1_used_4, .int i_p1_held_5, .int i_p1_many_6])), (a_p1_words, .inl (cL, n_p1_words, .inr (.inl v_p1_words_7)))]) hP hD [2, 3] [0, 1] rfl rfl (by decide) (by decide) hk1 hFc hP1 hD1
        clear hPc hDc hFc hk1 hP1 hD1 hK1
        generalize H1 = H at hP hS ⊢
        have hP : va_P D classes [(a_this, .inr (6, [.ref a_points, .ref o_cuts, .ref o_queue, .ref o_owners, .ref o_takes, .ref o_bases, .ref o_ranked, .ref o_starts, .ref o_numbers, .ref o_walk, .int i_order, .int i_next])), (a_points, .inl (cI, 12, .inl v_points)), (a_p1, .inr (5, [.ref a_p1_words, .int i_p1_room, .int i_p1_used_4, .int i_p1_held_5, .int i_p1_many_6])), (a_p1_words, .inl (cL, n_p1_words, .inr (.inl v_p1_words_7)))] H := hP.sub [0, 1, 2, 3] rfl
        have hD : va_D A [(a_this, .inr (6, [.ref a_points, .ref o_cuts, .ref o_queue, .ref o_owners, .ref o_takes, .ref o_bases, .ref o_ranked, .ref o_starts, .ref o_numbers, .ref o_walk, .int i_order, .int i_next])), (a_points, .inl (cI, 12, .inl v_points)), (a_p1, .inr (5, [.ref a_p1_words, .int i_p1_room, .int i_p1_used_4, .int i_p1_held_5, .int i_p1_many_6])), (a_p1_words, .inl (cL, n_p1_words, .inr (.inl v_p1_words_7)))] := hD.sub [0, 1, 2, 3] (by decide) rfl
        refine lv_iload_n hx hb d_Share_put_43 rfl (lv_at hl 2 rfl) ?_
        refine lv_aload_n hx hb d_Share_put_44 rfl (lv_at hl 0 rfl) ?_
        refine lv_iload_n hx hb d_Share_put_45 rfl (lv_at hl 3 rfl) ?_
        obtain ⟨r_9, hc_10, h⟩ := bd1_s h
        have hPc := hP.sub (ws' := [(a_this, .inr (6, [.ref a_points, .ref o_cuts, .ref o_queue, .ref o_owners, .ref o_takes, .ref o_bases, .ref o_ranked, .ref o_starts, .ref o_numbers, .ref o_walk, .int i_order, .int i_next])), (a_points, .inl (cI, 12, .inl v_points))]) [0, 1] rfl
        have hDc := hD.sub (ws' := [(a_this, .inr (6, [.ref a_points, .ref o_cuts, .ref o_queue, .ref o_owners, .ref o_takes, .ref o_bases, .ref o_ranked, .ref o_starts, .ref o_numbers, .ref o_walk, .int i_order, .int i_next])), (a_points, .inl (cI, 12, .inl v_points))]) [0, 1] (by decide) rfl
        have hFc := va_free (wc := [(a_this, .inr (6, [.ref a_points, .ref o_cuts, .ref o_queue, .ref o_owners, .ref o_takes, .ref o_bases, .ref o_ranked, .ref o_starts, .ref o_numbers, .ref o_walk, .int i_order, .int i_next])), (a_points, .inl (cI, 12, .inl v_points))]) hD hS hA [0, 1] rfl
        refine va_calli (va_runV (As := [.int l3]) (rest := [.int l2]) ⟨hx, hb, hml, hown, hts⟩ (c_Share_massOf l D cI cL cZ H.size N a_this a_points o_cuts o_queue o_owners o_takes o_bases o_ranked o_starts o_numbers o_walk i_order i_next v_points l3 r_9 hc_10) ⟨(my_cb 1 hts m_534 rfl rfl (hts _ m_72) (hts _ m_531) (by decide +kernel) ⟨Nat.le_of_ble_eq_true rfl, Nat.le_of_ble_eq_true rfl⟩), hts _ m_533, hts _ m_10⟩ ⟨fun a U g mk q => by obtain ⟨q0, q1, qP, qK, qD⟩ := q; exact ⟨q0, q1, qP, va_K.moved (u := U) (U := U.calling g mk a) (Vm.Alike.refl U.vm) qK, qD⟩, va_recv hK hPc (ci := 6) (q0 := 0) rfl rfl, fun U hU hW => ⟨rfl, by rw [hU], by rw [hU]; exact hPc, va_K.moved hW.alike hK, hDc.weaken (fun _ _ _ _ => trivial)⟩⟩ rfl rfl hl.1 rfl (lv_room (Nat.le_of_ble_eq_true rfl)) d_Share_put_46 ⟨Nat.zero_le _, Nat.zero_le _⟩) hS (fun q _ h => hFc q h) hFc (fun rr u t H1 locs ht hvm hw hB hz1 hk1 hS => ?_)
        obtain ⟨hP1, hK1, hD1⟩ := hB
        rw [ht] at hP1
        subst hw
        obtain ⟨hP, hD⟩ := va_join (wr := [(a_p1, .inr (5, [.ref a_p1_words, .int i_p1_room, .int i_p1_used_4, .int i_p1_held_5, .int i_p1_many_6])), (a_p1_words, .inl (cL, n_p1_words, .inr (.inl v_p1_words_7)))]) (w1 := [(a_this, .inr (6, [.ref a_points, .ref o_cuts, .ref o_queue, .ref o_owners, .ref o_takes, .ref o_bases, .ref o_ranked, .ref o_starts, .ref o_numbers, .ref o_walk, .int i_order, .int i_next])), (a_points, .inl (cI, 12, .inl v_points))]) hP hD [0, 1] [2, 3] rfl rfl (by decide) (by decide) hk1 hFc hP1 hD1
        clear hPc hDc hFc hk1 hP1 hD1 hK1
        generalize H1 = H at hP hS ⊢
        have hP : va_P D classes [(a_this, .inr (6, [.ref a_points, .ref o_cuts, .ref o_queue, .ref o_owners, .ref o_takes, .ref o_bases, .ref o_ranked, .ref o_starts, .ref o_numbers, .ref o_walk, .int i_order, .int i_next])), (a_points, .inl (cI, 12, .inl v_points)), (a_p1, .inr (5, [.ref a_p1_words, .int i_p1_room, .int i_p1_used_4, .int i_p1_held_5, .int i_p1_many_6])), (a_p1_words, .inl (cL, n_p1_words, .inr (.inl v_p1_words_7)))] H := hP.sub [2, 3, 0, 1] rfl
        have hD : va_D A [(a_this, .inr (6, [.ref a_points, .ref o_cuts, .ref o_queue, .ref o_owners, .ref o_takes, .ref o_bases, .ref o_ranked, .ref o_starts, .ref o_numbers, .ref o_walk, .int i_order, .int i_next])), (a_points, .inl (cI, 12, .inl v_points)), (a_p1, .inr (5, [.ref a_p1_words, .int i_p1_room, .int i_p1_used_4, .int i_p1_held_5, .int i_p1_many_6])), (a_p1_words, .inl (cL, n_p1_words, .inr (.inl v_p1_words_7)))] := hD.sub [2, 3, 0, 1] (by decide) rfl
        refine lv_isub hx hb d_Share_put_49 ?_
        refine lv_topi (fun l2_11 el2_11 => ?_)
        replace h := nm_s h el2_11
        refine lv_istore_n (lv' := [(2, .int l2_11), (0, .ref a_this), (1, .ref a_p1), (3, .int l3)]) hx hb d_Share_put_50 rfl hl (by decide) rfl (fun ls hl => ?_)
        refine lv_aload_n hx hb d_Share_put_51 rfl (lv_at hl 1 rfl) ?_
        refine va_get hx hb hts in_Share hown hK hP 0 rfl rfl 0 (by decide) (hts _ m_211) (fun _ h9 => h9) rfl d_Share_put_52 ?_
        refine lv_iload_n hx hb d_Share_put_55 rfl (lv_at hl 3 rfl) ?_
        obtain ⟨g_12, h⟩ := ck_s h
        refine va_iald hx hb hK hP 1 0 rfl rfl (inb_s g_12) d_Share_put_56 ?_
        refine lv_if_ne (tgt := 71) hx hb d_Share_put_57 (by decide) (fun c_13 => ?_) (fun c_13 => ?_)
        · replace h := if_f h c_13
          refine lv_iload_n hx hb d_Share_put_71 rfl (lv_at hl 3 rfl) ?_
          refine lv_iconst (v := 1) hx hb d_Share_put_72 (by decide) ?_
          refine lv_iadd hx hb d_Share_put_73 ?_
          exact w_Share_put_b74 ⟨hx, hb, hml, hown, hts, hK, hA⟩ hret ih _ _ _ _ _ _ h H locs ls (lv_sub hl [1, 2, 0] rfl) hP hD hS
        · replace h := if_t h c_13
          refine lv_aload_n hx hb d_Share_put_60 rfl (lv_at hl 1 rfl) ?_
          refine lv_aload_n hx hb d_Share_put_61 rfl (lv_at hl 2 rfl) ?_
          refine lv_iload_n hx hb d_Share_put_62 rfl (lv_at hl 3 rfl) ?_
          refine lv_iconst (v := 1) hx hb d_Share_put_63 (by decide) ?_
          refine lv_iadd hx hb d_Share_put_64 ?_
          obtain ⟨r_14, i_p1_used_15, i_p1_held_16, i_p1_many_17, v_p1_words_18, hc_19, h⟩ := bd5_s h
          have hPc := hP.sub (ws' := [(a_this, .inr (6, [.ref a_points, .ref o_cuts, .ref o_queue, .ref o_owners, .ref o_takes, .ref o_bases, .ref o_ranked, .ref o_starts, .ref o_numbers, .ref o_walk, .int i_order, .int i_next])), (a_points, .inl (cI, 12, .inl v_points)), (a_p1, .inr (5, [.ref a_p1_words, .int i_p1_room, .int i_p1_used_4, .int i_p1_held_5, .int i_p1_many_6])), (a_p1_words, .inl (cL, n_p1_words, .inr (.inl v_p1_words_7)))]) [0, 1, 2, 3] rfl
          have hDc := hD.sub (ws' := [(a_this, .inr (6, [.ref a_points, .ref o_cuts, .ref o_queue, .ref o_owners, .ref o_takes, .ref o_bases, .ref o_ranked, .ref o_starts, .ref o_numbers, .ref o_walk, .int i_order, .int i_next])), (a_points, .inl (cI, 12, .inl v_points)), (a_p1, .inr (5, [.ref a_p1_words, .int i_p1_room, .int i_p1_used_4, .int i_p1_held_5, .int i_p1_many_6])), (a_p1_words, .inl (cL, n_p1_words, .inr (.inl v_p1_words_7)))]) [0, 1, 2, 3] (by decide) rfl
          have hFc := va_free (wc := [(a_this, .inr (6, [.ref a_points, .ref o_cuts, .ref o_queue, .ref o_owners, .ref o_takes, .ref o_bases, .ref o_ranked, .ref o_starts, .ref o_numbers, .ref o_walk, .int i_order, .int i_next])), (a_points, .inl (cI, 12, .inl v_points)), (a_p1, .inr (5, [.ref a_p1_words, .int i_p1_room, .int i_p1_used_4, .int i_p1_held_5, .int i_p1_many_6])), (a_p1_words, .inl (cL, n_p1_words, .inr (.inl v_p1_words_7)))]) hD hS hA [0, 1, 2, 3] rfl
          refine va_calli (va_runV (As := [.ref a_p1, .int (l3 + 1)]) (rest := []) ⟨hx, hb, hml, hown, hts⟩ (c_Share_putNone l D cI cL cZ H.size N a_this a_points a_p1 a_p1_words o_cuts o_queue o_owners o_takes o_bases o_ranked o_starts o_numbers o_walk i_order i_next v_points i_p1_room i_p1_used_4 i_p1_held_5 i_p1_many_6 n_p1_words v_p1_words_7 (l3 + 1) r_14 i_p1_used_15 i_p1_held_16 i_p1_many_17 v_p1_words_18 hc_19) ⟨(my_cb 2 hts m_581 rfl rfl (hts _ m_72) (hts _ m_578) (by decide +kernel) ⟨Nat.le_of_ble_eq_true rfl, Nat.le_of_ble_eq_true rfl⟩), hts _ m_580, hts _ m_18⟩ ⟨fun a U g mk q => by obtain ⟨q0, q1, qP, qK, qD⟩ := q; exact ⟨q0, q1, qP, va_K.moved (u := U) (U := U.calling g mk a) (Vm.Alike.refl U.vm) qK, qD⟩, va_recv hK hPc (ci := 6) (q0 := 0) rfl rfl, fun U hU hW => ⟨rfl, by rw [hU], by rw [hU]; exact hPc, va_K.moved hW.alike hK, hDc.weaken (fun _ _ _ _ => trivial)⟩⟩ rfl rfl hl.1 rfl (lv_room (Nat.le_of_ble_eq_true rfl)) d_Share_put_65 ⟨Nat.zero_le _, Nat.zero_le _⟩) hS (fun q _ h => hFc q h) hFc (fun rr u t H1 locs ht hvm hw hB hz1 hk1 hS => ?_)
          obtain ⟨hP1, hK1, hD1⟩ := hB
          rw [ht] at hP1
          subst hw
          obtain ⟨hP, hD⟩ := va_join (wr := []) (w1 := [(a_this, .inr (6, [.ref a_points, .ref o_cuts, .ref o_queue, .ref o_owners, .ref o_takes, .ref o_bases, .ref o_ranked, .ref o_starts, .ref o_numbers, .ref o_walk, .int i_order, .int i_next])), (a_points, .inl (cI, 12, .inl v_points)), (a_p1, .inr (5, [.ref a_p1_words, .int i_p1_room, .int i_p1_used_15, .int i_p1_held_16, .int i_p1_many_17])), (a_p1_words, .inl (cL, n_p1_words, .inr (.inl v_p1_words_18)))]) hP hD [0, 1, 2, 3] [] rfl rfl (by decide) (by decide) hk1 hFc hP1 hD1
          clear hPc hDc hFc hk1 hP1 hD1 hK1
          generalize H1 = H at hP hS ⊢
          have hP : va_P D classes [(a_this, .inr (6, [.ref a_points, .ref o_cuts, .ref o_queue, .ref o_owners, .ref o_takes, .ref o_bases, .ref o_ranked, .ref o_starts, .ref o_numbers, .ref o_walk, .int i_order, .int i_next])), (a_points, .inl (cI, 12, .inl v_points)), (a_p1, .inr (5, [.ref a_p1_words, .int i_p1_room, .int i_p1_used_15, .int i_p1_held_16, .int i_p1_many_17])), (a_p1_words, .inl (cL, n_p1_words, .inr (.inl v_p1_words_18)))] H := hP.sub [0, 1, 2, 3] rfl
          have hD : va_D A [(a_this, .inr (6, [.ref a_points, .ref o_cuts, .ref o_queue, .ref o_owners, .ref o_takes, .ref o_bases, .ref o_ranked, .ref o_starts, .ref o_numbers, .ref o_walk, .int i_order, .int i_next])), (a_points, .inl (cI, 12, .inl v_points)), (a_p1, .inr (5, [.ref a_p1_words, .int i_p1_room, .int i_p1_used_15, .int i_p1_held_16, .int i_p1_many_17])), (a_p1_words, .inl (cL, n_p1_words, .inr (.inl v_p1_words_18)))] := hD.sub [0, 1, 2, 3] (by decide) rfl
          refine lv_goto (tgt := 74) hx hb d_Share_put_68 (by decide) ?_
          exact w_Share_put_b74 ⟨hx, hb, hml, hown, hts, hK, hA⟩ hret ih _ _ _ _ _ _ h H locs ls (lv_sub hl [1, 2, 0] rfl) hP hD hS
set_option maxHeartbeats 4000000 in
set_option maxRecDepth 100000 in
theorem w_Share_put_b0 {p : Program} {l : Launch} {e : Env} {s : State} {m : MethodId} {args : Array Value} {below : List Frame} {meth : Method} {c : Code} {Q : State → Prop} {A : Nat → Prop} {D : va_G} {cI cL cZ : ClassId} {a_this : Nat} {a_points : Nat} {a_p1 : Nat} {a_p1_words : Nat} {o_cuts : Nat} {o_queue : Nat} {o_owners : Nat} {o_takes : Nat} {o_bases : Nat} {o_ranked : Nat} {o_starts : Nat} {o_numbers : Nat} {o_walk : Nat} {i_order : Int32} {i_next : Int32} {v_points : Nat → Int32} {i_p1_room : Int32} {n_p1_words : Nat} {N : Nat} {res : Int32 × Int32 × Int32 × (Nat → Int64)}  (C : Cx p s m args c b_Share_put 4 "PrefixMill$Share" D [(cI, .int), (cL, .long), (cZ, .boolean)] A) (hret : E_Share_put p l e s m args below meth c Q A D cI cL cZ a_this a_points a_p1 a_p1_words o_cuts o_queue o_owners o_takes o_bases o_ranked o_starts o_numbers o_walk i_order i_next v_points i_p1_room n_p1_words res)  : I_Share_put_b0 p l e s m args below meth c Q A D cI cL cZ a_this a_points a_p1 a_p1_words o_cuts o_queue o_owners o_takes o_bases o_ranked o_starts o_numbers o_walk i_order i_next v_points i_p1_room n_p1_words res (f_Share_put N i_order v_points i_p1_room n_p1_words ) := by
  obtain ⟨hx, hb, hml, hown, hts, hK, hA⟩ := C
  intro i_p1_used i_p1_held i_p1_many v_p1_words h H locs ls hl hP hD hS
  unfold f_Share_put at h
  refine lv_aload_n hx hb d_Share_put_0 rfl (lv_at hl 1 rfl) ?_
  refine lv_aload_n hx hb d_Share_put_1 rfl (lv_at hl 0 rfl) ?_
  refine va_get hx hb hts in_Share hown hK hP 0 rfl rfl 10 (by decide) (hts _ m_226) (fun _ h9 => h9) rfl d_Share_put_2 ?_
  refine lv_iconst (v := 5) hx hb d_Share_put_5 (by decide) ?_
  refine lv_isub hx hb d_Share_put_6 ?_
  refine lv_iconst (v := 4) hx hb d_Share_put_7 (by decide) ?_
  obtain ⟨i_p1_used_1, i_p1_held_2, i_p1_many_3, v_p1_words_4, hc_5, h⟩ := bd4_s h
  have hPc := hP.sub (ws' := [(a_p1, .inr (5, [.ref a_p1_words, .int i_p1_room, .int i_p1_used, .int i_p1_held, .int i_p1_many])), (a_p1_words, .inl (cL, n_p1_words, .inr (.inl v_p1_words)))]) [2, 3] rfl
  have hDc := hD.sub (ws' := [(a_p1, .inr (5, [.ref a_p1_words, .int i_p1_room, .int i_p1_used, .int i_p1_held, .int i_p1_many])), (a_p1_words, .inl (cL, n_p1_words, .inr (.inl v_p1_words)))]) [2, 3] (by decide) rfl
  have hFc := va_free (wc := [(a_p1, .inr (5, [.ref a_p1_words, .int i_p1_room, .int i_p1_used, .int i_p1_held, .int i_p1_many])), (a_p1_words, .inl (cL, n_p1_words, .inr (.inl v_p1_words)))]) hD hS hA [2, 3] rfl
  refine va_callv (va_runV (As := [.int (i_order - 5), .int 4]) (rest := []) ⟨hx, hb, hml, hown, hts⟩ (c_Row_put l D cI cL cZ H.size N a_p1 a_p1_words i_p1_room i_p1_used i_p1_held i_p1_many n_p1_words v_p1_words (i_order - 5) 4 i_p1_used_1 i_p1_held_2 i_p1_many_3 v_p1_words_4 hc_5) ⟨(my_cb 2 hts m_573 rfl rfl (hts _ m_67) (hts _ m_570) (by decide +kernel) ⟨Nat.le_of_ble_eq_true rfl, Nat.le_of_ble_eq_true rfl⟩), hts _ m_571, hts _ m_572⟩ ⟨fun a U g mk q => by obtain ⟨q0, q1, qP, qK, qD⟩ := q; exact ⟨q0, q1, qP, va_K.moved (u := U) (U := U.calling g mk a) (Vm.Alike.refl U.vm) qK, qD⟩, va_recv hK hPc (ci := 5) (q0 := 0) rfl rfl, fun U hU hW => ⟨rfl, by rw [hU], by rw [hU]; exact hPc, va_K.moved hW.alike hK, hDc.weaken (fun _ _ _ _ => trivial)⟩⟩ rfl rfl hl.1 rfl (lv_room (Nat.le_of_ble_eq_true rfl)) d_Share_put_8 ⟨Nat.zero_le _, Nat.zero_le _⟩) hS (fun q _ h => hFc q h) hFc (fun u t H1 locs ht hvm hw hB hz1 hk1 hS => ?_)
  obtain ⟨hP1, hK1, hD1⟩ := hB
  rw [ht] at hP1
  obtain ⟨hP, hD⟩ := va_join (wr := [(a_this, .inr (6, [.ref a_points, .ref o_cuts, .ref o_queue, .ref o_owners, .ref o_takes, .ref o_bases, .ref o_ranked, .ref o_starts, .ref o_numbers, .ref o_walk, .int i_order, .int i_next])), (a_points, .inl (cI, 12, .inl v_points))]) (w1 := [(a_p1, .inr (5, [.ref a_p1_words, .int i_p1_room, .int i_p1_used_1, .int i_p1_held_2, .int i_p1_many_3])), (a_p1_words, .inl (cL, n_p1_words, .inr (.inl v_p1_words_4)))]) hP hD [2, 3] [0, 1] rfl rfl (by decide) (by decide) hk1 hFc hP1 hD1
  clear hPc hDc hFc hk1 hP1 hD1 hK1
  generalize H1 = H at hP hS ⊢
  have hP : va_P D classes [(a_this, .inr (6, [.ref a_points, .ref o_cuts, .ref o_queue, .ref o_owners, .ref o_takes, .ref o_bases, .ref o_ranked, .ref o_starts, .ref o_numbers, .ref o_walk, .int i_order, .int i_next])), (a_points, .inl (cI, 12, .inl v_points)), (a_p1, .inr (5, [.ref a_p1_words, .int i_p1_room, .int i_p1_used_1, .int i_p1_held_2, .int i_p1_many_3])), (a_p1_words, .inl (cL, n_p1_words, .inr (.inl v_p1_words_4)))] H := hP.sub [0, 1, 2, 3] rfl
  have hD : va_D A [(a_this, .inr (6, [.ref a_points, .ref o_cuts, .ref o_queue, .ref o_owners, .ref o_takes, .ref o_bases, .ref o_ranked, .ref o_starts, .ref o_numbers, .ref o_walk, .int i_order, .int i_next])), (a_points, .inl (cI, 12, .inl v_points)), (a_p1, .inr (5, [.ref a_p1_words, .int i_p1_room, .int i_p1_used_1, .int i_p1_held_2, .int i_p1_many_3])), (a_p1_words, .inl (cL, n_p1_words, .inr (.inl v_p1_words_4)))] := hD.sub [0, 1, 2, 3] (by decide) rfl
  refine lv_iconst (v := 1) hx hb d_Share_put_11 (by decide) ?_
  refine lv_aload_n hx hb d_Share_put_12 rfl (lv_at hl 0 rfl) ?_
  refine va_get hx hb hts in_Share hown hK hP 0 rfl rfl 10 (by decide) (hts _ m_226) (fun _ h9 => h9) rfl d_Share_put_13 ?_
  refine lv_ishl hx hb d_Share_put_16 ?_
  refine lv_topi (fun l2_6 el2_6 => ?_)
  replace h := nm_s h el2_6
  refine lv_istore_n (lv' := [(2, .int l2_6), (0, .ref a_this), (1, .ref a_p1)]) hx hb d_Share_put_17 rfl hl (by decide) rfl (fun ls hl => ?_)
  refine lv_iconst (v := 0) hx hb d_Share_put_18 (by decide) ?_
  refine lv_istore_n (lv' := [(3, .int 0), (2, .int l2_6), (0, .ref a_this), (1, .ref a_p1)]) hx hb d_Share_put_19 rfl hl (by decide) rfl (fun ls hl => ?_)
  exact w_Share_put_b20 ⟨hx, hb, hml, hown, hts, hK, hA⟩ hret  N _ _ _ _ _ _ h H locs ls (lv_sub hl [2, 3, 1, 0] rfl) hP hD hS
set_option maxHeartbeats 4000000 in
set_option maxRecDepth 100000 in
theorem c_Share_put (l : Launch) (D : va_G) (cI cL cZ : ClassId) (sz N : Nat) (a_this : Nat) (a_points : Nat) (a_p1 : Nat) (a_p1_words : Nat) (o_cuts : Nat) (o_queue : Nat) (o_owners : Nat) (o_takes : Nat) (o_bases : Nat) (o_ranked : Nat) (o_starts : Nat) (o_numbers : Nat) (o_walk : Nat) (i_order : Int32) (i_next : Int32) (v_points : Nat → Int32) (i_p1_room : Int32) (i_p1_used : Int32) (i_p1_held : Int32) (i_p1_many : Int32) (n_p1_words : Nat) (v_p1_words : Nat → Int64) (i_p1_used' : Int32) (i_p1_held' : Int32) (i_p1_many' : Int32) (v_p1_words' : Nat → Int64) (h : f_Share_put N i_order v_points i_p1_room n_p1_words i_p1_used i_p1_held i_p1_many v_p1_words = some (i_p1_used', i_p1_held', i_p1_many', v_p1_words')) : Met l ({ cls := "PrefixMill$Share", name := "put", desc := "(LPrefixMill$Row;)V" } : Jvm.MethodName) ws_Share_put R_Share_put (va_Pc [.ref a_this, .ref a_p1] (fun U => U.heap.size = sz ∧ va_P D classes [(a_this, .inr (6, [.ref a_points, .ref o_cuts, .ref o_queue, .ref o_owners, .ref o_takes, .ref o_bases, .ref o_ranked, .ref o_starts, .ref o_numbers, .ref o_walk, .int i_order, .int i_next])), (a_points, .inl (cI, 12, .inl v_points)), (a_p1, .inr (5, [.ref a_p1_words, .int i_p1_room, .int i_p1_used, .int i_p1_held, .int i_p1_many])), (a_p1_words, .inl (cL, n_p1_words, .inr (.inl v_p1_words)))] U.heap ∧ va_K D classes [(cI, .int), (cL, .long), (cZ, .boolean)] U ∧ va_D (fun _ => True) [(a_this, .inr (6, [.ref a_points, .ref o_cuts, .ref o_queue, .ref o_owners, .ref o_takes, .ref o_bases, .ref o_ranked, .ref o_starts, .ref o_numbers, .ref o_walk, .int i_order, .int i_next])), (a_points, .inl (cI, 12, .inl v_points)), (a_p1, .inr (5, [.ref a_p1_words, .int i_p1_room, .int i_p1_used, .int i_p1_held, .int i_p1_many])), (a_p1_words, .inl (cL, n_p1_words, .inr (.inl v_p1_words)))])) (va_Qv (fun _ : Unit => True) (fun _ t => va_P D classes [(a_this, .inr (6, [.ref a_points, .ref o_cuts, .ref o_queue, .ref o_owners, .ref o_takes, .ref o_bases, .ref o_ranked, .ref o_starts, .ref o_numbers, .ref o_walk, .int i_order, .int i_next])), (a_points, .inl (cI, 12, .inl v_points)), (a_p1, .inr (5, [.ref a_p1_words, .int i_p1_room, .int i_p1_used', .int i_p1_held', .int i_p1_many'])), (a_p1_words, .inl (cL, n_p1_words, .inr (.inl v_p1_words')))] t.heap ∧ va_K D classes [(cI, .int), (cL, .long), (cZ, .boolean)] t ∧ va_D (va_A [(a_this, .inr (6, [.ref a_points, .ref o_cuts, .ref o_queue, .ref o_owners, .ref o_takes, .ref o_bases, .ref o_ranked, .ref o_starts, .ref o_numbers, .ref o_walk, .int i_order, .int i_next])), (a_points, .inl (cI, 12, .inl v_points)), (a_p1, .inr (5, [.ref a_p1_words, .int i_p1_room, .int i_p1_used, .int i_p1_held, .int i_p1_many])), (a_p1_words, .inl (cL, n_p1_words, .inr (.inl v_p1_words)))] sz) [(a_this, .inr (6, [.ref a_points, .ref o_cuts, .ref o_queue, .ref o_owners, .ref o_takes, .ref o_bases, .ref o_ranked, .ref o_starts, .ref o_numbers, .ref o_walk, .int i_order, .int i_next])), (a_points, .inl (cI, 12, .inl v_points)), (a_p1, .inr (5, [.ref a_p1_words, .int i_p1_room, .int i_p1_used', .int i_p1_held', .int i_p1_many'])), (a_p1_words, .inl (cL, n_p1_words, .inr (.inl v_p1_words')))]) (va_A [(a_this, .inr (6, [.ref a_points, .ref o_cuts, .ref o_queue, .ref o_owners, .ref o_takes, .ref o_bases, .ref o_ranked, .ref o_starts, .ref o_numbers, .ref o_walk, .int i_order, .int i_next])), (a_points, .inl (cI, 12, .inl v_points)), (a_p1, .inr (5, [.ref a_p1_words, .int i_p1_room, .int i_p1_used, .int i_p1_held, .int i_p1_many])), (a_p1_words, .inl (cL, n_p1_words, .inr (.inl v_p1_words)))] sz)) 0 0 (va_A [(a_this, .inr (6, [.ref a_points, .ref o_cuts, .ref o_queue, .ref o_owners, .ref o_takes, .ref o_bases, .ref o_ranked, .ref o_starts, .ref o_numbers, .ref o_walk, .int i_order, .int i_next])), (a_points, .inl (cI, 12, .inl v_points)), (a_p1, .inr (5, [.ref a_p1_words, .int i_p1_room, .int i_p1_used, .int i_p1_held, .int i_p1_many])), (a_p1_words, .inl (cL, n_p1_words, .inr (.inl v_p1_words)))] sz) := by
  refine Met.ofW (cc := b_Share_put) (maxL := 4) (ret := none) (by decide) rfl ?_
  intro p e s m args below meth c s₁ B hml hv
  obtain ⟨rfl, hsz, hP, hK, hD0⟩ := hv
  have hx := B.exec
  have hb := B.bytes
  have hr := B.returns
  have hts0 := atoms_spec (ws := ws_Share_put) B.pre
  have hts := gd_tl hts0
  clear hts0
  have hown : s.vm.findClass "PrefixMill$Share" = some m.cls := findClass_of_methodNamed B.named
  have hlocks := B.notSynchronized
  subst hsz
  have hD := hD0.self (sz := s.heap.size)
  generalize hAe : va_A [(a_this, .inr (6, [.ref a_points, .ref o_cuts, .ref o_queue, .ref o_owners, .ref o_takes, .ref o_bases, .ref o_ranked, .ref o_starts, .ref o_numbers, .ref o_walk, .int i_order, .int i_next])), (a_points, .inl (cI, 12, .inl v_points)), (a_p1, .inr (5, [.ref a_p1_words, .int i_p1_room, .int i_p1_used, .int i_p1_held, .int i_p1_many])), (a_p1_words, .inl (cL, n_p1_words, .inr (.inl v_p1_words)))] s.heap.size = A at hD ⊢
  have hA : ∀ q : Nat, s.heap.size ≤ q → A q := fun q h => by rw [← hAe]; exact Or.inr h
  have hS : va_S A s.heap s.heap [] := va_S.rf
  have hP : va_P D classes [(a_this, .inr (6, [.ref a_points, .ref o_cuts, .ref o_queue, .ref o_owners, .ref o_takes, .ref o_bases, .ref o_ranked, .ref o_starts, .ref o_numbers, .ref o_walk, .int i_order, .int i_next])), (a_points, .inl (cI, 12, .inl v_points)), (a_p1, .inr (5, [.ref a_p1_words, .int i_p1_room, .int i_p1_used, .int i_p1_held, .int i_p1_many])), (a_p1_words, .inl (cL, n_p1_words, .inr (.inl v_p1_words)))] s.heap := hP
  have hl := lv_entry ([.ref a_this, .ref a_p1]) (n := 4) (Nat.le_of_ble_eq_true rfl)
  rw [lg_entry_eq]
  generalize (lg_sl ([.ref a_this, .ref a_p1]) ++ List.replicate (4 - (lg_sl ([.ref a_this, .ref a_p1])).length) Slot.unset).toArray = ls at hl ⊢
  have hl : lv_has ls 4 [(0, .ref a_this), (1, .ref a_p1)] := hl
  have C : Cx p s m ([.ref a_this, .ref a_p1] : List Value).toArray c b_Share_put 4 "PrefixMill$Share" D [(cI, .int), (cL, .long), (cZ, .boolean)] A := ⟨hx, hb, hml, hown, hts, hK, hA⟩
  refine w_Share_put_b0 (res := (i_p1_used', i_p1_held', i_p1_many', v_p1_words')) C ?_ _ _ _ _ h s.heap [] ls hl hP hD hS
  intro pc9 H9 locs9 ls9 i_p1_used9 i_p1_held9 i_p1_many9 v_p1_words9 e9 d9 hP9 hD9 hS9
  cases e9
  exact W.vret hx hb hr (fun t ht hW => ⟨⟨(), rfl, trivial, by rw [ht]; exact hP9, va_K.moved hW.alike hK, hD9⟩, hS9.F ht⟩) hS9.2.2 d9
abbrev b_Share_lowestPlace : ByteArray := prog_6_method_12_code
def ws_Share_lowestPlace : List Cond := .code ({ cls := "PrefixMill$Share", name := "lowestPlace", desc := "(I)I" } : Jvm.MethodName) b_Share_lowestPlace 2 (some .int) :: tt
theorem d_Share_lowestPlace_0 : decode b_Share_lowestPlace 0 = .ok (.aload_n 0, 1) := by decide +kernel
theorem d_Share_lowestPlace_1 : decode b_Share_lowestPlace 1 = .ok (.getfield 30, 3) := by decide +kernel
theorem d_Share_lowestPlace_4 : decode b_Share_lowestPlace 4 = .ok (.aload_n 0, 1) := by decide +kernel
theorem d_Share_lowestPlace_5 : decode b_Share_lowestPlace 5 = .ok (.getfield 33, 3) := by decide +kernel
theorem d_Share_lowestPlace_8 : decode b_Share_lowestPlace 8 = .ok (.iload_n 1, 1) := by decide +kernel
theorem d_Share_lowestPlace_9 : decode b_Share_lowestPlace 9 = .ok (.iaload, 1) := by decide +kernel
theorem d_Share_lowestPlace_10 : decode b_Share_lowestPlace 10 = .ok (.iaload, 1) := by decide +kernel
theorem d_Share_lowestPlace_11 : decode b_Share_lowestPlace 11 = .ok (.ireturn, 1) := by decide +kernel
abbrev R_Share_lowestPlace : Room := ({ frames := 0, cells := 0, slots := 0, locals := 0 } : Room)
def E_Share_lowestPlace (p : Program) (l : Launch) (e : Env) (s : State) (m : MethodId) (args : Array Value) (below : List Frame) (meth : Method) (c : Code) (Q : State → Prop) (A : Nat → Prop) (D : va_G) (cI cL cZ : ClassId) (a_this : Nat) (a_ranked : Nat) (a_starts : Nat) (o_points : Nat) (o_cuts : Nat) (o_queue : Nat) (o_owners : Nat) (o_takes : Nat) (o_bases : Nat) (o_numbers : Nat) (o_walk : Nat) (i_order : Int32) (i_next : Int32) (v_ranked : Nat → Int32) (v_starts : Nat → Int32) (l1 : Int32) (res : Int32) : Prop := ∀ (pc : Nat) (H : Heap) (locs : List Loc) (ls : Array Slot) (rv : Int32), some (rv) = some res → decode b_Share_lowestPlace pc = .ok (.ireturn, 1) → va_P D classes [(a_this, .inr (6, [.ref o_points, .ref o_cuts, .ref o_queue, .ref o_owners, .ref o_takes, .ref o_bases, .ref a_ranked, .ref a_starts, .ref o_numbers, .ref o_walk, .int i_order, .int i_next])), (a_ranked, .inl (cI, 64, .inl v_ranked)), (a_starts, .inl (cI, 12, .inl v_starts))] H → va_D A [(a_this, .inr (6, [.ref o_points, .ref o_cuts, .ref o_queue, .ref o_owners, .ref o_takes, .ref o_bases, .ref a_ranked, .ref a_starts, .ref o_numbers, .ref o_walk, .int i_order, .int i_next])), (a_ranked, .inl (cI, 64, .inl v_ranked)), (a_starts, .inl (cI, 12, .inl v_starts))] → va_S A s.heap H locs → W p l e R_Share_lowestPlace s m args below meth c H locs 0 0 Q (F0 m pc ls [.int rv])
def I_Share_lowestPlace_b0 (p : Program) (l : Launch) (e : Env) (s : State) (m : MethodId) (args : Array Value) (below : List Frame) (meth : Method) (c : Code) (Q : State → Prop) (A : Nat → Prop) (D : va_G) (cI cL cZ : ClassId) (a_this : Nat) (a_ranked : Nat) (a_starts : Nat) (o_points : Nat) (o_cuts : Nat) (o_queue : Nat) (o_owners : Nat) (o_takes : Nat) (o_bases : Nat) (o_numbers : Nat) (o_walk : Nat) (i_order : Int32) (i_next : Int32) (v_ranked : Nat → Int32) (v_starts : Nat → Int32) (l1 : Int32) (res : Int32) (kf : Option (Int32)) : Prop := ∀ (_ : Unit), kf  = some res → ∀ (H : Heap) (locs : List Loc) (ls : Array Slot), lv_has ls 2 [(0, .ref a_this), (1, .int l1)] → va_P D classes [(a_this, .inr (6, [.ref o_points, .ref o_cuts, .ref o_queue, .ref o_owners, .ref o_takes, .ref o_bases, .ref a_ranked, .ref a_starts, .ref o_numbers, .ref o_walk, .int i_order, .int i_next])), (a_ranked, .inl (cI, 64, .inl v_ranked)), (a_starts, .inl (cI, 12, .inl v_starts))] H → va_D A [(a_this, .inr (6, [.ref o_points, .ref o_cuts, .ref o_queue, .ref o_owners, .ref o_takes, .ref o_bases, .ref a_ranked, .ref a_starts, .ref o_numbers, .ref o_walk, .int i_order, .int i_next])), (a_ranked, .inl (cI, 64, .inl v_ranked)), (a_starts, .inl (cI, 12, .inl v_starts))] → va_S A s.heap H locs → W p l e R_Share_lowestPlace s m args below meth c H locs 0 0 Q (F0 m 0 ls [])
set_option maxHeartbeats 4000000 in
set_option maxRecDepth 100000 in
theorem w_Share_lowestPlace_b0 {p : Program} {l : Launch} {e : Env} {s : State} {m : MethodId} {args : Array Value} {below : List Frame} {meth : Method} {c : Code} {Q : State → Prop} {A : Nat → Prop} {D : va_G} {cI cL cZ : ClassId} {a_this : Nat} {a_ranked : Nat} {a_starts : Nat} {o_points : Nat} {o_cuts : Nat} {o_queue : Nat} {o_owners : Nat} {o_takes : Nat} {o_bases : Nat} {o_numbers : Nat} {o_walk : Nat} {i_order : Int32} {i_next : Int32} {v_ranked : Nat → Int32} {v_starts : Nat → Int32} {l1 : Int32} {N : Nat} {res : Int32}  (C : Cx p s m args c b_Share_lowestPlace 2 "PrefixMill$Share" D [(cI, .int), (cL, .long), (cZ, .boolean)] A) (hret : E_Share_lowestPlace p l e s m args below meth c Q A D cI cL cZ a_this a_ranked a_starts o_points o_cuts o_queue o_owners o_takes o_bases o_numbers o_walk i_order i_next v_ranked v_starts l1 res)  : I_Share_lowestPlace_b0 p l e s m args below meth c Q A D cI cL cZ a_this a_ranked a_starts o_points o_cuts o_queue o_owners o_takes o_bases o_numbers o_walk i_order i_next v_ranked v_starts l1 res (f_Share_lowestPlace N v_ranked v_starts l1 ) := by
  obtain ⟨hx, hb, hml, hown, hts, hK, hA⟩ := C
  intro _ h H locs ls hl hP hD hS
  unfold f_Share_lowestPlace at h
  refine lv_aload_n hx hb d_Share_lowestPlace_0 rfl (lv_at hl 0 rfl) ?_
  refine va_get hx hb hts in_Share hown hK hP 0 rfl rfl 6 (by decide) (hts _ m_222) (fun _ h9 => h9) rfl d_Share_lowestPlace_1 ?_
  refine lv_aload_n hx hb d_Share_lowestPlace_4 rfl (lv_at hl 0 rfl) ?_
  refine va_get hx hb hts in_Share hown hK hP 0 rfl rfl 7 (by decide) (hts _ m_223) (fun _ h9 => h9) rfl d_Share_lowestPlace_5 ?_
  refine lv_iload_n hx hb d_Share_lowestPlace_8 rfl (lv_at hl 1 rfl) ?_
  obtain ⟨g_1, h⟩ := ck_s h
  refine va_iald hx hb hK hP 2 0 rfl rfl (inb_s g_1) d_Share_lowestPlace_9 ?_
  obtain ⟨g_2, h⟩ := ck_s h
  refine va_iald hx hb hK hP 1 0 rfl rfl (inb_s g_2) d_Share_lowestPlace_10 ?_
  exact hret _ _ _ _ (v_ranked (Int32.toNatClampNeg (v_starts (Int32.toNatClampNeg l1))))  h d_Share_lowestPlace_11 hP hD hS
set_option maxHeartbeats 4000000 in
set_option maxRecDepth 100000 in
theorem c_Share_lowestPlace (l : Launch) (D : va_G) (cI cL cZ : ClassId) (sz N : Nat) (a_this : Nat) (a_ranked : Nat) (a_starts : Nat) (o_points : Nat) (o_cuts : Nat) (o_queue : Nat) (o_owners : Nat) (o_takes : Nat) (o_bases : Nat) (o_numbers : Nat) (o_walk : Nat) (i_order : Int32) (i_next : Int32) (v_ranked : Nat → Int32) (v_starts : Nat → Int32) (l1 : Int32) (rv : Int32) (h : f_Share_lowestPlace N v_ranked v_starts l1  = some (rv)) : Met l ({ cls := "PrefixMill$Share", name := "lowestPlace", desc := "(I)I" } : Jvm.MethodName) ws_Share_lowestPlace R_Share_lowestPlace (va_Pc [.ref a_this, .int l1] (fun U => U.heap.size = sz ∧ va_P D classes [(a_this, .inr (6, [.ref o_points, .ref o_cuts, .ref o_queue, .ref o_owners, .ref o_takes, .ref o_bases, .ref a_ranked, .ref a_starts, .ref o_numbers, .ref o_walk, .int i_order, .int i_next])), (a_ranked, .inl (cI, 64, .inl v_ranked)), (a_starts, .inl (cI, 12, .inl v_starts))] U.heap ∧ va_K D classes [(cI, .int), (cL, .long), (cZ, .boolean)] U ∧ va_D (fun _ => True) [(a_this, .inr (6, [.ref o_points, .ref o_cuts, .ref o_queue, .ref o_owners, .ref o_takes, .ref o_bases, .ref a_ranked, .ref a_starts, .ref o_numbers, .ref o_walk, .int i_order, .int i_next])), (a_ranked, .inl (cI, 64, .inl v_ranked)), (a_starts, .inl (cI, 12, .inl v_starts))])) (va_Qi (fun (r0 : Int32) (_ : Unit) => rv = r0) (fun _ t => va_P D classes [(a_this, .inr (6, [.ref o_points, .ref o_cuts, .ref o_queue, .ref o_owners, .ref o_takes, .ref o_bases, .ref a_ranked, .ref a_starts, .ref o_numbers, .ref o_walk, .int i_order, .int i_next])), (a_ranked, .inl (cI, 64, .inl v_ranked)), (a_starts, .inl (cI, 12, .inl v_starts))] t.heap ∧ va_K D classes [(cI, .int), (cL, .long), (cZ, .boolean)] t ∧ va_D (va_A [(a_this, .inr (6, [.ref o_points, .ref o_cuts, .ref o_queue, .ref o_owners, .ref o_takes, .ref o_bases, .ref a_ranked, .ref a_starts, .ref o_numbers, .ref o_walk, .int i_order, .int i_next])), (a_ranked, .inl (cI, 64, .inl v_ranked)), (a_starts, .inl (cI, 12, .inl v_starts))] sz) [(a_this, .inr (6, [.ref o_points, .ref o_cuts, .ref o_queue, .ref o_owners, .ref o_takes, .ref o_bases, .ref a_ranked, .ref a_starts, .ref o_numbers, .ref o_walk, .int i_order, .int i_next])), (a_ranked, .inl (cI, 64, .inl v_ranked)), (a_starts, .inl (cI, 12, .inl v_starts))]) (va_A [(a_this, .inr (6, [.ref o_points, .ref o_cuts, .ref o_queue, .ref o_owners, .ref o_takes, .ref o_bases, .ref a_ranked, .ref a_starts, .ref o_numbers, .ref o_walk, .int i_order, .int i_next])), (a_ranked, .inl (cI, 64, .inl v_ranked)), (a_starts, .inl (cI, 12, .inl v_starts))] sz)) 0 0 (va_A [(a_this, .inr (6, [.ref o_points, .ref o_cuts, .ref o_queue, .ref o_owners, .ref o_takes, .ref o_bases, .ref a_ranked, .ref a_starts, .ref o_numbers, .ref o_walk, .int i_order, .int i_next])), (a_ranked, .inl (cI, 64, .inl v_ranked)), (a_starts, .inl (cI, 12, .inl v_starts))] sz) := by
  refine Met.ofW (cc := b_Share_lowestPlace) (maxL := 2) (ret := (some .int)) (by decide) rfl ?_
  intro p e s m args below meth c s₁ B hml hv
  obtain ⟨rfl, hsz, hP, hK, hD0⟩ := hv
  have hx := B.exec
  have hb := B.bytes
  have hr := B.returns
  have hts0 := atoms_spec (ws := ws_Share_lowestPlace) B.pre
  have hts := gd_tl hts0
  clear hts0
  have hown : s.vm.findClass "PrefixMill$Share" = some m.cls := findClass_of_methodNamed B.named
  have hlocks := B.notSynchronized
  subst hsz
  have hD := hD0.self (sz := s.heap.size)
  generalize hAe : va_A [(a_this, .inr (6, [.ref o_points, .ref o_cuts, .ref o_queue, .ref o_owners, .ref o_takes, .ref o_bases, .ref a_ranked, .ref a_starts, .ref o_numbers, .ref o_walk, .int i_order, .int i_next])), (a_ranked, .inl (cI, 64, .inl v_ranked)), (a_starts, .inl (cI, 12, .inl v_starts))] s.heap.size = A at hD ⊢
  have hA : ∀ q : Nat, s.heap.size ≤ q → A q := fun q h => by rw [← hAe]; exact Or.inr h
  have hS : va_S A s.heap s.heap [] := va_S.rf
  have hP : va_P D classes [(a_this, .inr (6, [.ref o_points, .ref o_cuts, .ref o_queue, .ref o_owners, .ref o_takes, .ref o_bases, .ref a_ranked, .ref a_starts, .ref o_numbers, .ref o_walk, .int i_order, .int i_next])), (a_ranked, .inl (cI, 64, .inl v_ranked)), (a_starts, .inl (cI, 12, .inl v_starts))] s.heap := hP
  have hl := lv_entry ([.ref a_this, .int l1]) (n := 2) (Nat.le_of_ble_eq_true rfl)
  rw [lg_entry_eq]
  generalize (lg_sl ([.ref a_this, .int l1]) ++ List.replicate (2 - (lg_sl ([.ref a_this, .int l1])).length) Slot.unset).toArray = ls at hl ⊢
  have hl : lv_has ls 2 [(0, .ref a_this), (1, .int l1)] := hl
  have C : Cx p s m ([.ref a_this, .int l1] : List Value).toArray c b_Share_lowestPlace 2 "PrefixMill$Share" D [(cI, .int), (cL, .long), (cZ, .boolean)] A := ⟨hx, hb, hml, hown, hts, hK, hA⟩
  refine w_Share_lowestPlace_b0 (res := (rv)) C ?_ () h s.heap [] ls hl hP hD hS
  intro pc9 H9 locs9 ls9 rv9 e9 d9 hP9 hD9 hS9
  cases e9
  exact W.iret (v := rv) hx hb hr (fun t ht hW => ⟨⟨rv, (), rfl, rfl, by rw [ht]; exact hP9, va_K.moved hW.alike hK, hD9⟩, hS9.F ht⟩) hS9.2.2 d9
abbrev b_Share_placeBefore : ByteArray := prog_6_method_13_code
def ws_Share_placeBefore : List Cond := .code ({ cls := "PrefixMill$Share", name := "placeBefore", desc := "(II)I" } : Jvm.MethodName) b_Share_placeBefore 5 (some .int) :: tt
theorem d_Share_placeBefore_0 : decode b_Share_placeBefore 0 = .ok (.iload_n 1, 1) := by decide +kernel
theorem d_Share_placeBefore_1 : decode b_Share_placeBefore 1 = .ok (.iconst 1, 1) := by decide +kernel
theorem d_Share_placeBefore_2 : decode b_Share_placeBefore 2 = .ok (.aload_n 0, 1) := by decide +kernel
theorem d_Share_placeBefore_3 : decode b_Share_placeBefore 3 = .ok (.getfield 42, 3) := by decide +kernel
theorem d_Share_placeBefore_6 : decode b_Share_placeBefore 6 = .ok (.ishl, 1) := by decide +kernel
theorem d_Share_placeBefore_7 : decode b_Share_placeBefore 7 = .ok (.iadd, 1) := by decide +kernel
theorem d_Share_placeBefore_8 : decode b_Share_placeBefore 8 = .ok (.istore_n 3, 1) := by decide +kernel
theorem d_Share_placeBefore_9 : decode b_Share_placeBefore 9 = .ok (.iconst 0, 1) := by decide +kernel
theorem d_Share_placeBefore_10 : decode b_Share_placeBefore 10 = .ok (.istore 4, 2) := by decide +kernel
theorem d_Share_placeBefore_12 : decode b_Share_placeBefore 12 = .ok (.iload 4, 2) := by decide +kernel
theorem d_Share_placeBefore_14 : decode b_Share_placeBefore 14 = .ok (.aload_n 0, 1) := by decide +kernel
theorem d_Share_placeBefore_15 : decode b_Share_placeBefore 15 = .ok (.getfield 42, 3) := by decide +kernel
theorem d_Share_placeBefore_18 : decode b_Share_placeBefore 18 = .ok (.if_icmp .ge 24, 3) := by decide +kernel
theorem d_Share_placeBefore_21 : decode b_Share_placeBefore 21 = .ok (.iload_n 3, 1) := by decide +kernel
theorem d_Share_placeBefore_22 : decode b_Share_placeBefore 22 = .ok (.iconst 2, 1) := by decide +kernel
theorem d_Share_placeBefore_23 : decode b_Share_placeBefore 23 = .ok (.aload_n 0, 1) := by decide +kernel
theorem d_Share_placeBefore_24 : decode b_Share_placeBefore 24 = .ok (.iload_n 2, 1) := by decide +kernel
theorem d_Share_placeBefore_25 : decode b_Share_placeBefore 25 = .ok (.invokevirtual 46, 3) := by decide +kernel
theorem d_Share_placeBefore_28 : decode b_Share_placeBefore 28 = .ok (.imul, 1) := by decide +kernel
theorem d_Share_placeBefore_29 : decode b_Share_placeBefore 29 = .ok (.if_icmp .lt 13, 3) := by decide +kernel
theorem d_Share_placeBefore_32 : decode b_Share_placeBefore 32 = .ok (.iload_n 3, 1) := by decide +kernel
theorem d_Share_placeBefore_33 : decode b_Share_placeBefore 33 = .ok (.iconst 1, 1) := by decide +kernel
theorem d_Share_placeBefore_34 : decode b_Share_placeBefore 34 = .ok (.ishr, 1) := by decide +kernel
theorem d_Share_placeBefore_35 : decode b_Share_placeBefore 35 = .ok (.istore_n 3, 1) := by decide +kernel
theorem d_Share_placeBefore_36 : decode b_Share_placeBefore 36 = .ok (.iinc 4 1, 3) := by decide +kernel
theorem d_Share_placeBefore_39 : decode b_Share_placeBefore 39 = .ok (.goto (-27), 3) := by decide +kernel
theorem d_Share_placeBefore_42 : decode b_Share_placeBefore 42 = .ok (.aload_n 0, 1) := by decide +kernel
theorem d_Share_placeBefore_43 : decode b_Share_placeBefore 43 = .ok (.getfield 30, 3) := by decide +kernel
theorem d_Share_placeBefore_46 : decode b_Share_placeBefore 46 = .ok (.aload_n 0, 1) := by decide +kernel
theorem d_Share_placeBefore_47 : decode b_Share_placeBefore 47 = .ok (.getfield 33, 3) := by decide +kernel
theorem d_Share_placeBefore_50 : decode b_Share_placeBefore 50 = .ok (.iload_n 2, 1) := by decide +kernel
theorem d_Share_placeBefore_51 : decode b_Share_placeBefore 51 = .ok (.iaload, 1) := by decide +kernel
theorem d_Share_placeBefore_52 : decode b_Share_placeBefore 52 = .ok (.iload_n 3, 1) := by decide +kernel
theorem d_Share_placeBefore_53 : decode b_Share_placeBefore 53 = .ok (.iadd, 1) := by decide +kernel
theorem d_Share_placeBefore_54 : decode b_Share_placeBefore 54 = .ok (.aload_n 0, 1) := by decide +kernel
theorem d_Share_placeBefore_55 : decode b_Share_placeBefore 55 = .ok (.iload_n 2, 1) := by decide +kernel
theorem d_Share_placeBefore_56 : decode b_Share_placeBefore 56 = .ok (.invokevirtual 46, 3) := by decide +kernel
theorem d_Share_placeBefore_59 : decode b_Share_placeBefore 59 = .ok (.isub, 1) := by decide +kernel
theorem d_Share_placeBefore_60 : decode b_Share_placeBefore 60 = .ok (.iaload, 1) := by decide +kernel
theorem d_Share_placeBefore_61 : decode b_Share_placeBefore 61 = .ok (.ireturn, 1) := by decide +kernel
abbrev R_Share_placeBefore : Room := ({ frames := 1, cells := 0, slots := 0, locals := 21 } : Room)
def E_Share_placeBefore (p : Program) (l : Launch) (e : Env) (s : State) (m : MethodId) (args : Array Value) (below : List Frame) (meth : Method) (c : Code) (Q : State → Prop) (A : Nat → Prop) (D : va_G) (cI cL cZ : ClassId) (a_this : Nat) (a_points : Nat) (a_ranked : Nat) (a_starts : Nat) (o_cuts : Nat) (o_queue : Nat) (o_owners : Nat) (o_takes : Nat) (o_bases : Nat) (o_numbers : Nat) (o_walk : Nat) (i_order : Int32) (i_next : Int32) (v_points : Nat → Int32) (v_ranked : Nat → Int32) (v_starts : Nat → Int32) (l1 : Int32) (l2 : Int32) (res : Int32) : Prop := ∀ (pc : Nat) (H : Heap) (locs : List Loc) (ls : Array Slot) (rv : Int32), some (rv) = some res → decode b_Share_placeBefore pc = .ok (.ireturn, 1) → va_P D classes [(a_this, .inr (6, [.ref a_points, .ref o_cuts, .ref o_queue, .ref o_owners, .ref o_takes, .ref o_bases, .ref a_ranked, .ref a_starts, .ref o_numbers, .ref o_walk, .int i_order, .int i_next])), (a_points, .inl (cI, 12, .inl v_points)), (a_ranked, .inl (cI, 64, .inl v_ranked)), (a_starts, .inl (cI, 12, .inl v_starts))] H → va_D A [(a_this, .inr (6, [.ref a_points, .ref o_cuts, .ref o_queue, .ref o_owners, .ref o_takes, .ref o_bases, .ref a_ranked, .ref a_starts, .ref o_numbers, .ref o_walk, .int i_order, .int i_next])), (a_points, .inl (cI, 12, .inl v_points)), (a_ranked, .inl (cI, 64, .inl v_ranked)), (a_starts, .inl (cI, 12, .inl v_starts))] → va_S A s.heap H locs → W p l e R_Share_placeBefore s m args below meth c H locs 0 0 Q (F0 m pc ls [.int rv])
def I_Share_placeBefore_b42 (p : Program) (l : Launch) (e : Env) (s : State) (m : MethodId) (args : Array Value) (below : List Frame) (meth : Method) (c : Code) (Q : State → Prop) (A : Nat → Prop) (D : va_G) (cI cL cZ : ClassId) (a_this : Nat) (a_points : Nat) (a_ranked : Nat) (a_starts : Nat) (o_cuts : Nat) (o_queue : Nat) (o_owners : Nat) (o_takes : Nat) (o_bases : Nat) (o_numbers : Nat) (o_walk : Nat) (i_order : Int32) (i_next : Int32) (v_points : Nat → Int32) (v_ranked : Nat → Int32) (v_starts : Nat → Int32) (l1 : Int32) (l2 : Int32) (res : Int32) (kf : Int32 → Option (Int32)) : Prop := ∀ (l3 : Int32), kf l3 = some res → ∀ (H : Heap) (locs : List Loc) (ls : Array Slot), lv_has ls 5 [(0, .ref a_this), (2, .int l2), (3, .int l3)] → va_P D classes [(a_this, .inr (6, [.ref a_points, .ref o_cuts, .ref o_queue, .ref o_owners, .ref o_takes, .ref o_bases, .ref a_ranked, .ref a_starts, .ref o_numbers, .ref o_walk, .int i_order, .int i_next])), (a_points, .inl (cI, 12, .inl v_points)), (a_ranked, .inl (cI, 64, .inl v_ranked)), (a_starts, .inl (cI, 12, .inl v_starts))] H → va_D A [(a_this, .inr (6, [.ref a_points, .ref o_cuts, .ref o_queue, .ref o_owners, .ref o_takes, .ref o_bases, .ref a_ranked, .ref a_starts, .ref o_numbers, .ref o_walk, .int i_order, .int i_next])), (a_points, .inl (cI, 12, .inl v_points)), (a_ranked, .inl (cI, 64, .inl v_ranked)), (a_starts, .inl (cI, 12, .inl v_starts))] → va_S A s.heap H locs → W p l e R_Share_placeBefore s m args below meth c H locs 0 0 Q (F0 m 42 ls [])
def I_Share_placeBefore_b12 (p : Program) (l : Launch) (e : Env) (s : State) (m : MethodId) (args : Array Value) (below : List Frame) (meth : Method) (c : Code) (Q : State → Prop) (A : Nat → Prop) (D : va_G) (cI cL cZ : ClassId) (a_this : Nat) (a_points : Nat) (a_ranked : Nat) (a_starts : Nat) (o_cuts : Nat) (o_queue : Nat) (o_owners : Nat) (o_takes : Nat) (o_bases : Nat) (o_numbers : Nat) (o_walk : Nat) (i_order : Int32) (i_next : Int32) (v_points : Nat → Int32) (v_ranked : Nat → Int32) (v_starts : Nat → Int32) (l1 : Int32) (l2 : Int32) (res : Int32) (kf : Int32 → Int32 → Option (Int32)) : Prop := ∀ (l3 : Int32) (l4 : Int32), kf l3 l4 = some res → ∀ (H : Heap) (locs : List Loc) (ls : Array Slot), lv_has ls 5 [(0, .ref a_this), (2, .int l2), (3, .int l3), (4, .int l4)] → va_P D classes [(a_this, .inr (6, [.ref a_points, .ref o_cuts, .ref o_queue, .ref o_owners, .ref o_takes, .ref o_bases, .ref a_ranked, .ref a_starts, .ref o_numbers, .ref o_walk, .int i_order, .int i_next])), (a_points, .inl (cI, 12, .inl v_points)), (a_ranked, .inl (cI, 64, .inl v_ranked)), (a_starts, .inl (cI, 12, .inl v_starts))] H → va_D A [(a_this, .inr (6, [.ref a_points, .ref o_cuts, .ref o_queue, .ref o_owners, .ref o_takes, .ref o_bases, .ref a_ranked, .ref a_starts, .ref o_numbers, .ref o_walk, .int i_order, .int i_next])), (a_points, .inl (cI, 12, .inl v_points)), (a_ranked, .inl (cI, 64, .inl v_ranked)), (a_starts, .inl (cI, 12, .inl v_starts))] → va_S A s.heap H locs → W p l e R_Share_placeBefore s m args below meth c H locs 0 0 Q (F0 m 12 ls [])
def I_Share_placeBefore_b0 (p : Program) (l : Launch) (e : Env) (s : State) (m : MethodId) (args : Array Value) (below : List Frame) (meth : Method) (c : Code) (Q : State → Prop) (A : Nat → Prop) (D : va_G) (cI cL cZ : ClassId) (a_this : Nat) (a_points : Nat) (a_ranked : Nat) (a_starts : Nat) (o_cuts : Nat) (o_queue : Nat) (o_owners : Nat) (o_takes : Nat) (o_bases : Nat) (o_numbers : Nat) (o_walk : Nat) (i_order : Int32) (i_next : Int32) (v_points : Nat → Int32) (v_ranked : Nat → Int32) (v_starts : Nat → Int32) (l1 : Int32) (l2 : Int32) (res : Int32) (kf : Option (Int32)) : Prop := ∀ (_ : Unit), kf  = some res → ∀ (H : Heap) (locs : List Loc) (ls : Array Slot), lv_has ls 5 [(0, .ref a_this), (1, .int l1), (2, .int l2)] → va_P D classes [(a_this, .inr (6, [.ref a_points, .ref o_cuts, .ref o_queue, .ref o_owners, .ref o_takes, .ref o_bases, .ref a_ranked, .ref a_starts, .ref o_numbers, .ref o_walk, .int i_order, .int i_next])), (a_points, .inl (cI, 12, .inl v_points)), (a_ranked, .inl (cI, 64, .inl v_ranked)), (a_starts, .inl (cI, 12, .inl v_starts))] H → va_D A [(a_this, .inr (6, [.ref a_points, .ref o_cuts, .ref o_queue, .ref o_owners, .ref o_takes, .ref o_bases, .ref a_ranked, .ref a_starts, .ref o_numbers, .ref o_walk, .int i_order, .int i_next])), (a_points, .inl (cI, 12, .inl v_points)), (a_ranked, .inl (cI, 64, .inl v_ranked)), (a_starts, .inl (cI, 12, .inl v_starts))] → va_S A s.heap H locs → W p l e R_Share_placeBefore s m args below meth c H locs 0 0 Q (F0 m 0 ls [])
set_option maxHeartbeats 4000000 in
set_option maxRecDepth 100000 in
theorem w_Share_placeBefore_b42 {p : Program} {l : Launch} {e : Env} {s : State} {m : MethodId} {args : Array Value} {below : List Frame} {meth : Method} {c : Code} {Q : State → Prop} {A : Nat → Prop} {D : va_G} {cI cL cZ : ClassId} {a_this : Nat} {a_points : Nat} {a_ranked : Nat} {a_starts : Nat} {o_cuts : Nat} {o_queue : Nat} {o_owners : Nat} {o_takes : Nat} {o_bases : Nat} {o_numbers : Nat} {o_walk : Nat} {i_order : Int32} {i_next : Int32} {v_points : Nat → Int32} {v_ranked : Nat → Int32} {v_starts : Nat → Int32} {l1 : Int32} {l2 : Int32} {N : Nat} {res : Int32}  (C : Cx p s m args c b_Share_placeBefore 5 "PrefixMill$Share" D [(cI, .int), (cL, .long), (cZ, .boolean)] A) (hret : E_Share_placeBefore p l e s m args below meth c Q A D cI cL cZ a_this a_points a_ranked a_starts o_cuts o_queue o_owners o_takes o_bases o_numbers o_walk i_order i_next v_points v_ranked v_starts l1 l2 res)  : I_Share_placeBefore_b42 p l e s m args below meth c Q A D cI cL cZ a_this a_points a_ranked a_starts o_cuts o_queue o_owners o_takes o_bases o_numbers o_walk i_order i_next v_points v_ranked v_starts l1 l2 res (f_Share_placeBefore_b42 N i_order v_points v_ranked v_starts l1 l2 ) := by
  obtain ⟨hx, hb, hml, hown, hts, hK, hA⟩ := C
  intro l3 h H locs ls hl hP hD hS
  unfold f_Share_placeBefore_b42 at h
  refine lv_aload_n hx hb d_Share_placeBefore_42 rfl (lv_at hl 0 rfl) ?_
  refine va_get hx hb hts in_Share hown hK hP 0 rfl rfl 6 (by decide) (hts _ m_222) (fun _ h9 => h9) rfl d_Share_placeBefore_43 ?_
  refine lv_aload_n hx hb d_Share_placeBefore_46 rfl (lv_at hl 0 rfl) ?_
  refine va_get hx hb hts in_Share hown hK hP 0 rfl rfl 7 (by decide) (hts _ m_223) (fun _ h9 => h9) rfl d_Share_placeBefore_47 ?_
  refine lv_iload_n hx hb d_Share_placeBefore_50 rfl (lv_at hl 1 rfl) ?_
  obtain ⟨g_1, h⟩ := ck_s h
  refine va_iald hx hb hK hP 3 0 rfl rfl (inb_s g_1) d_Share_placeBefore_51 ?_
  refine lv_iload_n hx hb d_Share_placeBefore_52 rfl (lv_at hl 2 rfl) ?_
  refine lv_iadd hx hb d_Share_placeBefore_53 ?_
  refine lv_aload_n hx hb d_Share_placeBefore_54 rfl (lv_at hl 0 rfl) ?_
  refine lv_iload_n hx hb d_Share_placeBefore_55 rfl (lv_at hl 1 rfl) ?_
  obtain ⟨r_2, hc_3, h⟩ := bd1_s h
  have hPc := hP.sub (ws' := [(a_this, .inr (6, [.ref a_points, .ref o_cuts, .ref o_queue, .ref o_owners, .ref o_takes, .ref o_bases, .ref a_ranked, .ref a_starts, .ref o_numbers, .ref o_walk, .int i_order, .int i_next])), (a_points, .inl (cI, 12, .inl v_points))]) [0, 1] rfl
  have hDc := hD.sub (ws' := [(a_this, .inr (6, [.ref a_points, .ref o_cuts, .ref o_queue, .ref o_owners, .ref o_takes, .ref o_bases, .ref a_ranked, .ref a_starts, .ref o_numbers, .ref o_walk, .int i_order, .int i_next])), (a_points, .inl (cI, 12, .inl v_points))]) [0, 1] (by decide) rfl
  have hFc := va_free (wc := [(a_this, .inr (6, [.ref a_points, .ref o_cuts, .ref o_queue, .ref o_owners, .ref o_takes, .ref o_bases, .ref a_ranked, .ref a_starts, .ref o_numbers, .ref o_walk, .int i_order, .int i_next])), (a_points, .inl (cI, 12, .inl v_points))]) hD hS hA [0, 1] rfl
  refine va_calli (va_runV (As := [.int l2]) (rest := [.int ((v_starts (Int32.toNatClampNeg l2)) + l3), .ref a_ranked]) ⟨hx, hb, hml, hown, hts⟩ (c_Share_massOf l D cI cL cZ H.size N a_this a_points o_cuts o_queue o_owners o_takes o_bases a_ranked a_starts o_numbers o_walk i_order i_next v_points l2 r_2 hc_3) ⟨(my_cb 1 hts m_534 rfl rfl (hts _ m_72) (hts _ m_531) (by decide +kernel) ⟨Nat.le_of_ble_eq_true rfl, Nat.le_of_ble_eq_true rfl⟩), hts _ m_533, hts _ m_10⟩ ⟨fun a U g mk q => by obtain ⟨q0, q1, qP, qK, qD⟩ := q; exact ⟨q0, q1, qP, va_K.moved (u := U) (U := U.calling g mk a) (Vm.Alike.refl U.vm) qK, qD⟩, va_recv hK hPc (ci := 6) (q0 := 0) rfl rfl, fun U hU hW => ⟨rfl, by rw [hU], by rw [hU]; exact hPc, va_K.moved hW.alike hK, hDc.weaken (fun _ _ _ _ => trivial)⟩⟩ rfl rfl hl.1 rfl (lv_room (Nat.le_of_ble_eq_true rfl)) d_Share_placeBefore_56 ⟨Nat.zero_le _, Nat.zero_le _⟩) hS (fun q _ h => hFc q h) hFc (fun rr u t H1 locs ht hvm hw hB hz1 hk1 hS => ?_)
  obtain ⟨hP1, hK1, hD1⟩ := hB
  rw [ht] at hP1
  subst hw
  obtain ⟨hP, hD⟩ := va_join (wr := [(a_ranked, .inl (cI, 64, .inl v_ranked)), (a_starts, .inl (cI, 12, .inl v_starts))]) (w1 := [(a_this, .inr (6, [.ref a_points, .ref o_cuts, .ref o_queue, .ref o_owners, .ref o_takes, .ref o_bases, .ref a_ranked, .ref a_starts, .ref o_numbers, .ref o_walk, .int i_order, .int i_next])), (a_points, .inl (cI, 12, .inl v_points))]) hP hD [0, 1] [2, 3] rfl rfl (by decide) (by decide) hk1 hFc hP1 hD1
  clear hPc hDc hFc hk1 hP1 hD1 hK1
  generalize H1 = H at hP hS ⊢
  have hP : va_P D classes [(a_this, .inr (6, [.ref a_points, .ref o_cuts, .ref o_queue, .ref o_owners, .ref o_takes, .ref o_bases, .ref a_ranked, .ref a_starts, .ref o_numbers, .ref o_walk, .int i_order, .int i_next])), (a_points, .inl (cI, 12, .inl v_points)), (a_ranked, .inl (cI, 64, .inl v_ranked)), (a_starts, .inl (cI, 12, .inl v_starts))] H := hP.sub [2, 3, 0, 1] rfl
  have hD : va_D A [(a_this, .inr (6, [.ref a_points, .ref o_cuts, .ref o_queue, .ref o_owners, .ref o_takes, .ref o_bases, .ref a_ranked, .ref a_starts, .ref o_numbers, .ref o_walk, .int i_order, .int i_next])), (a_points, .inl (cI, 12, .inl v_points)), (a_ranked, .inl (cI, 64, .inl v_ranked)), (a_starts, .inl (cI, 12, .inl v_starts))] := hD.sub [2, 3, 0, 1] (by decide) rfl
  refine lv_isub hx hb d_Share_placeBefore_59 ?_
  obtain ⟨g_4, h⟩ := ck_s h
  refine va_iald hx hb hK hP 2 0 rfl rfl (inb_s g_4) d_Share_placeBefore_60 ?_
  exact hret _ _ _ _ (v_ranked (Int32.toNatClampNeg (((v_starts (Int32.toNatClampNeg l2)) + l3) - r_2)))  h d_Share_placeBefore_61 hP hD hS
set_option maxHeartbeats 4000000 in
set_option maxRecDepth 100000 in
theorem w_Share_placeBefore_b12 {p : Program} {l : Launch} {e : Env} {s : State} {m : MethodId} {args : Array Value} {below : List Frame} {meth : Method} {c : Code} {Q : State → Prop} {A : Nat → Prop} {D : va_G} {cI cL cZ : ClassId} {a_this : Nat} {a_points : Nat} {a_ranked : Nat} {a_starts : Nat} {o_cuts : Nat} {o_queue : Nat} {o_owners : Nat} {o_takes : Nat} {o_bases : Nat} {o_numbers : Nat} {o_walk : Nat} {i_order : Int32} {i_next : Int32} {v_points : Nat → Int32} {v_ranked : Nat → Int32} {v_starts : Nat → Int32} {l1 : Int32} {l2 : Int32} {N : Nat} {res : Int32}  (C : Cx p s m args c b_Share_placeBefore 5 "PrefixMill$Share" D [(cI, .int), (cL, .long), (cZ, .boolean)] A) (hret : E_Share_placeBefore p l e s m args below meth c Q A D cI cL cZ a_this a_points a_ranked a_starts o_cuts o_queue o_owners o_takes o_bases o_numbers o_walk i_order i_next v_points v_ranked v_starts l1 l2 res)  : ∀ z : Nat, I_Share_placeBefore_b12 p l e s m args below meth c Q A D cI cL cZ a_this a_points a_ranked a_starts o_cuts o_queue o_owners o_takes o_bases o_numbers o_walk i_order i_next v_points v_ranked v_starts l1 l2 res (f_Share_placeBefore_b12 N i_order v_points v_ranked v_starts l1 l2  z) := by
  obtain ⟨hx, hb, hml, hown, hts, hK, hA⟩ := C
  intro z
  induction z with
  | zero => intro l3 l4 h; cases h
  | succ z ih =>
    intro l3 l4 h H locs ls hl hP hD hS
    refine lv_iload hx hb d_Share_placeBefore_12 (lv_at hl 3 rfl) ?_
    refine lv_aload_n hx hb d_Share_placeBefore_14 rfl (lv_at hl 0 rfl) ?_
    refine va_get hx hb hts in_Share hown hK hP 0 rfl rfl 10 (by decide) (hts _ m_226) (fun _ h9 => h9) rfl d_Share_placeBefore_15 ?_
    refine lv_icmp_ge (tgt := 42) hx hb d_Share_placeBefore_18 (by decide) (fun c_1 => ?_) (fun c_1 => ?_)
    · replace h := if_t h c_1
      exact w_Share_placeBefore_b42 ⟨hx, hb, hml, hown, hts, hK, hA⟩ hret  _ h H locs ls (lv_sub hl [0, 1, 2] rfl) hP hD hS
    · replace h := if_f h c_1
      refine lv_iload_n hx hb d_Share_placeBefore_21 rfl (lv_at hl 2 rfl) ?_
      refine lv_iconst (v := 2) hx hb d_Share_placeBefore_22 (by decide) ?_
      refine lv_aload_n hx hb d_Share_placeBefore_23 rfl (lv_at hl 0 rfl) ?_
      refine lv_iload_n hx hb d_Share_placeBefore_24 rfl (lv_at hl 1 rfl) ?_
      obtain ⟨r_2, hc_3, h⟩ := bd1_s h
      have hPc := hP.sub (ws' := [(a_this, .inr (6, [.ref a_points, .ref o_cuts, .ref o_queue, .ref o_owners, .ref o_takes, .ref o_bases, .ref a_ranked, .ref a_starts, .ref o_numbers, .ref o_walk, .int i_order, .int i_next])), (a_points, .inl (cI, 12, .inl v_points))]) [0, 1] rfl
      have hDc := hD.sub (ws' := [(a_this, .inr (6, [.ref a_points, .ref o_cuts, .ref o_queue, .ref o_owners, .ref o_takes, .ref o_bases, .ref a_ranked, .ref a_starts, .ref o_numbers, .ref o_walk, .int i_order, .int i_next])), (a_points, .inl (cI, 12, .inl v_points))]) [0, 1] (by decide) rfl
      have hFc := va_free (wc := [(a_this, .inr (6, [.ref a_points, .ref o_cuts, .ref o_queue, .ref o_owners, .ref o_takes, .ref o_bases, .ref a_ranked, .ref a_starts, .ref o_numbers, .ref o_walk, .int i_order, .int i_next])), (a_points, .inl (cI, 12, .inl v_points))]) hD hS hA [0, 1] rfl
      refine va_calli (va_runV (As := [.int l2]) (rest := [.int 2, .int l3]) ⟨hx, hb, hml, hown, hts⟩ (c_Share_massOf l D cI cL cZ H.size N a_this a_points o_cuts o_queue o_owners o_takes o_bases a_ranked a_starts o_numbers o_walk i_order i_next v_points l2 r_2 hc_3) ⟨(my_cb 1 hts m_534 rfl rfl (hts _ m_72) (hts _ m_531) (by decide +kernel) ⟨Nat.le_of_ble_eq_true rfl, Nat.le_of_ble_eq_true rfl⟩), hts _ m_533, hts _ m_10⟩ ⟨fun a U g mk q => by obtain ⟨q0, q1, qP, qK, qD⟩ := q; exact ⟨q0, q1, qP, va_K.moved (u := U) (U := U.calling g mk a) (Vm.Alike.refl U.vm) qK, qD⟩, va_recv hK hPc (ci := 6) (q0 := 0) rfl rfl, fun U hU hW => ⟨rfl, by rw [hU], by rw [hU]; exact hPc, va_K.moved hW.alike hK, hDc.weaken (fun _ _ _ _ => trivial)⟩⟩ rfl rfl hl.1 rfl (lv_room (Nat.le_of_ble_eq_true rfl)) d_Share_placeBefore_25 ⟨Nat.zero_le _, Nat.zero_le _⟩) hS (fun q _ h => hFc q h) hFc (fun rr u t H1 locs ht hvm hw hB hz1 hk1 hS => ?_)
      obtain ⟨hP1, hK1, hD1⟩ := hB
      rw [ht] at hP1
      subst hw
      obtain ⟨hP, hD⟩ := va_join (wr := [(a_ranked, .inl (cI, 64, .inl v_ranked)), (a_starts, .inl (cI, 12, .inl v_starts))]) (w1 := [(a_this, .inr (6, [.ref a_points, .ref o_cuts, .ref o_queue, .ref o_owners, .ref o_takes, .ref o_bases, .ref a_ranked, .ref a_starts, .ref o_numbers, .ref o_walk, .int i_order, .int i_next])), (a_points, .inl (cI, 12, .inl v_points))]) hP hD [0, 1] [2, 3] rfl rfl (by decide) (by decide) hk1 hFc hP1 hD1
      clear hPc hDc hFc hk1 hP1 hD1 hK1
      generalize H1 = H at hP hS ⊢
      have hP : va_P D classes [(a_this, .inr (6, [.ref a_points, .ref o_cuts, .ref o_queue, .ref o_owners, .ref o_takes, .ref o_bases, .ref a_ranked, .ref a_starts, .ref o_numbers, .ref o_walk, .int i_order, .int i_next])), (a_points, .inl (cI, 12, .inl v_points)), (a_ranked, .inl (cI, 64, .inl v_ranked)), (a_starts, .inl (cI, 12, .inl v_starts))] H := hP.sub [2, 3, 0, 1] rfl
      have hD : va_D A [(a_this, .inr (6, [.ref a_points, .ref o_cuts, .ref o_queue, .ref o_owners, .ref o_takes, .ref o_bases, .ref a_ranked, .ref a_starts, .ref o_numbers, .ref o_walk, .int i_order, .int i_next])), (a_points, .inl (cI, 12, .inl v_points)), (a_ranked, .inl (cI, 64, .inl v_ranked)), (a_starts, .inl (cI, 12, .inl v_starts))] := hD.sub [2, 3, 0, 1] (by decide) rfl
      refine lv_imul hx hb d_Share_placeBefore_28 ?_
      refine lv_icmp_lt (tgt := 42) hx hb d_Share_placeBefore_29 (by decide) (fun c_4 => ?_) (fun c_4 => ?_)
      · replace h := if_t h c_4
        exact w_Share_placeBefore_b42 ⟨hx, hb, hml, hown, hts, hK, hA⟩ hret  _ h H locs ls (lv_sub hl [0, 1, 2] rfl) hP hD hS
      · replace h := if_f h c_4
        refine lv_iload_n hx hb d_Share_placeBefore_32 rfl (lv_at hl 2 rfl) ?_
        refine lv_iconst (v := 1) hx hb d_Share_placeBefore_33 (by decide) ?_
        refine lv_ishr hx hb d_Share_placeBefore_34 ?_
        refine lv_topi (fun l3_5 el3_5 => ?_)
        replace h := nm_s h el3_5
        refine lv_istore_n (lv' := [(3, .int l3_5), (0, .ref a_this), (2, .int l2), (4, .int l4)]) hx hb d_Share_placeBefore_35 rfl hl (by decide) rfl (fun ls hl => ?_)
        obtain ⟨l4_6, el4_6⟩ : ∃ y : Int32, y = l4 + 1 := ⟨_, rfl⟩
        replace h := nm_s h el4_6
        refine lv_iinc (v := l4_6) (lv' := [(4, .int l4_6), (3, .int l3_5), (0, .ref a_this), (2, .int l2)]) hx hb d_Share_placeBefore_36 hl (k := 3) rfl (by rw [el4_6]; rfl) (by decide) rfl (fun ls hl => ?_)
        refine lv_goto (tgt := 12) hx hb d_Share_placeBefore_39 (by decide) ?_
        exact ih _ _ h H locs ls (lv_sub hl [2, 3, 1, 0] rfl) hP hD hS
set_option maxHeartbeats 4000000 in
set_option maxRecDepth 100000 in
theorem w_Share_placeBefore_b0 {p : Program} {l : Launch} {e : Env} {s : State} {m : MethodId} {args : Array Value} {below : List Frame} {meth : Method} {c : Code} {Q : State → Prop} {A : Nat → Prop} {D : va_G} {cI cL cZ : ClassId} {a_this : Nat} {a_points : Nat} {a_ranked : Nat} {a_starts : Nat} {o_cuts : Nat} {o_queue : Nat} {o_owners : Nat} {o_takes : Nat} {o_bases : Nat} {o_numbers : Nat} {o_walk : Nat} {i_order : Int32} {i_next : Int32} {v_points : Nat → Int32} {v_ranked : Nat → Int32} {v_starts : Nat → Int32} {l1 : Int32} {l2 : Int32} {N : Nat} {res : Int32}  (C : Cx p s m args c b_Share_placeBefore 5 "PrefixMill$Share" D [(cI, .int), (cL, .long), (cZ, .boolean)] A) (hret : E_Share_placeBefore p l e s m args below meth c Q A D cI cL cZ a_this a_points a_ranked a_starts o_cuts o_queue o_owners o_takes o_bases o_numbers o_walk i_order i_next v_points v_ranked v_starts l1 l2 res)  : I_Share_placeBefore_b0 p l e s m args below meth c Q A D cI cL cZ a_this a_points a_ranked a_starts o_cuts o_queue o_owners o_takes o_bases o_numbers o_walk i_order i_next v_points v_ranked v_starts l1 l2 res (f_Share_placeBefore N i_order v_points v_ranked v_starts l1 l2 ) := by
  obtain ⟨hx, hb, hml, hown, hts, hK, hA⟩ := C
  intro _ h H locs ls hl hP hD hS
  unfold f_Share_placeBefore at h
  refine lv_iload_n hx hb d_Share_placeBefore_0 rfl (lv_at hl 1 rfl) ?_
  refine lv_iconst (v := 1) hx hb d_Share_placeBefore_1 (by decide) ?_
  refine lv_aload_n hx hb d_Share_placeBefore_2 rfl (lv_at hl 0 rfl) ?_
  refine va_get hx hb hts in_Share hown hK hP 0 rfl rfl 10 (by decide) (hts _ m_226) (fun _ h9 => h9) rfl d_Share_placeBefore_3 ?_
  refine lv_ishl hx hb d_Share_placeBefore_6 ?_
  refine lv_iadd hx hb d_Share_placeBefore_7 ?_
  refine lv_topi (fun l3_1 el3_1 => ?_)
  replace h := nm_s h el3_1
  refine lv_istore_n (lv' := [(3, .int l3_1), (0, .ref a_this), (1, .int l1), (2, .int l2)]) hx hb d_Share_placeBefore_8 rfl hl (by decide) rfl (fun ls hl => ?_)
  refine lv_iconst (v := 0) hx hb d_Share_placeBefore_9 (by decide) ?_
  refine lv_istore (lv' := [(4, .int 0), (3, .int l3_1), (0, .ref a_this), (1, .int l1), (2, .int l2)]) hx hb d_Share_placeBefore_10 hl (by decide) rfl (fun ls hl => ?_)
  exact w_Share_placeBefore_b12 ⟨hx, hb, hml, hown, hts, hK, hA⟩ hret  N _ _ h H locs ls (lv_sub hl [2, 4, 1, 0] rfl) hP hD hS
set_option maxHeartbeats 4000000 in
set_option maxRecDepth 100000 in
theorem c_Share_placeBefore (l : Launch) (D : va_G) (cI cL cZ : ClassId) (sz N : Nat) (a_this : Nat) (a_points : Nat) (a_ranked : Nat) (a_starts : Nat) (o_cuts : Nat) (o_queue : Nat) (o_owners : Nat) (o_takes : Nat) (o_bases : Nat) (o_numbers : Nat) (o_walk : Nat) (i_order : Int32) (i_next : Int32) (v_points : Nat → Int32) (v_ranked : Nat → Int32) (v_starts : Nat → Int32) (l1 : Int32) (l2 : Int32) (rv : Int32) (h : f_Share_placeBefore N i_order v_points v_ranked v_starts l1 l2  = some (rv)) : Met l ({ cls := "PrefixMill$Share", name := "placeBefore", desc := "(II)I" } : Jvm.MethodName) ws_Share_placeBefore R_Share_placeBefore (va_Pc [.ref a_this, .int l1, .int l2] (fun U => U.heap.size = sz ∧ va_P D classes [(a_this, .inr (6, [.ref a_points, .ref o_cuts, .ref o_queue, .ref o_owners, .ref o_takes, .ref o_bases, .ref a_ranked, .ref a_starts, .ref o_numbers, .ref o_walk, .int i_order, .int i_next])), (a_points, .inl (cI, 12, .inl v_points)), (a_ranked, .inl (cI, 64, .inl v_ranked)), (a_starts, .inl (cI, 12, .inl v_starts))] U.heap ∧ va_K D classes [(cI, .int), (cL, .long), (cZ, .boolean)] U ∧ va_D (fun _ => True) [(a_this, .inr (6, [.ref a_points, .ref o_cuts, .ref o_queue, .ref o_owners, .ref o_takes, .ref o_bases, .ref a_ranked, .ref a_starts, .ref o_numbers, .ref o_walk, .int i_order, .int i_next])), (a_points, .inl (cI, 12, .inl v_points)), (a_ranked, .inl (cI, 64, .inl v_ranked)), (a_starts, .inl (cI, 12, .inl v_starts))])) (va_Qi (fun (r0 : Int32) (_ : Unit) => rv = r0) (fun _ t => va_P D classes [(a_this, .inr (6, [.ref a_points, .ref o_cuts, .ref o_queue, .ref o_owners, .ref o_takes, .ref o_bases, .ref a_ranked, .ref a_starts, .ref o_numbers, .ref o_walk, .int i_order, .int i_next])), (a_points, .inl (cI, 12, .inl v_points)), (a_ranked, .inl (cI, 64, .inl v_ranked)), (a_starts, .inl (cI, 12, .inl v_starts))] t.heap ∧ va_K D classes [(cI, .int), (cL, .long), (cZ, .boolean)] t ∧ va_D (va_A [(a_this, .inr (6, [.ref a_points, .ref o_cuts, .ref o_queue, .ref o_owners, .ref o_takes, .ref o_bases, .ref a_ranked, .ref a_starts, .ref o_numbers, .ref o_walk, .int i_order, .int i_next])), (a_points, .inl (cI, 12, .inl v_points)), (a_ranked, .inl (cI, 64, .inl v_ranked)), (a_starts, .inl (cI, 12, .inl v_starts))] sz) [(a_this, .inr (6, [.ref a_points, .ref o_cuts, .ref o_queue, .ref o_owners, .ref o_takes, .ref o_bases, .ref a_ranked, .ref a_starts, .ref o_numbers, .ref o_walk, .int i_order, .int i_next])), (a_points, .inl (cI, 12, .inl v_points)), (a_ranked, .inl (cI, 64, .inl v_ranked)), (a_starts, .inl (cI, 12, .inl v_starts))]) (va_A [(a_this, .inr (6, [.ref a_points, .ref o_cuts, .ref o_queue, .ref o_owners, .ref o_takes, .ref o_bases, .ref a_ranked, .ref a_starts, .ref o_numbers, .ref o_walk, .int i_order, .int i_next])), (a_points, .inl (cI, 12, .inl v_points)), (a_ranked, .inl (cI, 64, .inl v_ranked)), (a_starts, .inl (cI, 12, .inl v_starts))] sz)) 0 0 (va_A [(a_this, .inr (6, [.ref a_points, .ref o_cuts, .ref o_queue, .ref o_owners, .ref o_takes, .ref o_bases, .ref a_ranked, .ref a_starts, .ref o_numbers, .ref o_walk, .int i_order, .int i_next])), (a_points, .inl (cI, 12, .inl v_points)), (a_ranked, .inl (cI, 64, .inl v_ranked)), (a_starts, .inl (cI, 12, .inl v_starts))] sz) := by
  refine Met.ofW (cc := b_Share_placeBefore) (maxL := 5) (ret := (some .int)) (by decide) rfl ?_
  intro p e s m args below meth c s₁ B hml hv
  obtain ⟨rfl, hsz, hP, hK, hD0⟩ := hv
  have hx := B.exec
  have hb := B.bytes
  have hr := B.returns
  have hts0 := atoms_spec (ws := ws_Share_placeBefore) B.pre
  have hts := gd_tl hts0
  clear hts0
  have hown : s.vm.findClass "PrefixMill$Share" = some m.cls := findClass_of_methodNamed B.named
  have hlocks := B.notSynchronized
  subst hsz
  have hD := hD0.self (sz := s.heap.size)
  generalize hAe : va_A [(a_this, .inr (6, [.ref a_points, .ref o_cuts, .ref o_queue, .ref o_owners, .ref o_takes, .ref o_bases, .ref a_ranked, .ref a_starts, .ref o_numbers, .ref o_walk, .int i_order, .int i_next])), (a_points, .inl (cI, 12, .inl v_points)), (a_ranked, .inl (cI, 64, .inl v_ranked)), (a_starts, .inl (cI, 12, .inl v_starts))] s.heap.size = A at hD ⊢
  have hA : ∀ q : Nat, s.heap.size ≤ q → A q := fun q h => by rw [← hAe]; exact Or.inr h
  have hS : va_S A s.heap s.heap [] := va_S.rf
  have hP : va_P D classes [(a_this, .inr (6, [.ref a_points, .ref o_cuts, .ref o_queue, .ref o_owners, .ref o_takes, .ref o_bases, .ref a_ranked, .ref a_starts, .ref o_numbers, .ref o_walk, .int i_order, .int i_next])), (a_points, .inl (cI, 12, .inl v_points)), (a_ranked, .inl (cI, 64, .inl v_ranked)), (a_starts, .inl (cI, 12, .inl v_starts))] s.heap := hP
  have hl := lv_entry ([.ref a_this, .int l1, .int l2]) (n := 5) (Nat.le_of_ble_eq_true rfl)
  rw [lg_entry_eq]
  generalize (lg_sl ([.ref a_this, .int l1, .int l2]) ++ List.replicate (5 - (lg_sl ([.ref a_this, .int l1, .int l2])).length) Slot.unset).toArray = ls at hl ⊢
  have hl : lv_has ls 5 [(0, .ref a_this), (1, .int l1), (2, .int l2)] := hl
  have C : Cx p s m ([.ref a_this, .int l1, .int l2] : List Value).toArray c b_Share_placeBefore 5 "PrefixMill$Share" D [(cI, .int), (cL, .long), (cZ, .boolean)] A := ⟨hx, hb, hml, hown, hts, hK, hA⟩
  refine w_Share_placeBefore_b0 (res := (rv)) C ?_ () h s.heap [] ls hl hP hD hS
  intro pc9 H9 locs9 ls9 rv9 e9 d9 hP9 hD9 hS9
  cases e9
  exact W.iret (v := rv) hx hb hr (fun t ht hW => ⟨⟨rv, (), rfl, rfl, by rw [ht]; exact hP9, va_K.moved hW.alike hK, hD9⟩, hS9.F ht⟩) hS9.2.2 d9
abbrev b_Row_finish : ByteArray := prog_5_method_9_code
def ws_Row_finish : List Cond := .code ({ cls := "PrefixMill$Row", name := "finish", desc := "()V" } : Jvm.MethodName) b_Row_finish 1 none :: tt
theorem d_Row_finish_0 : decode b_Row_finish 0 = .ok (.aload_n 0, 1) := by decide +kernel
theorem d_Row_finish_1 : decode b_Row_finish 1 = .ok (.iconst 1, 1) := by decide +kernel
theorem d_Row_finish_2 : decode b_Row_finish 2 = .ok (.iconst 1, 1) := by decide +kernel
theorem d_Row_finish_3 : decode b_Row_finish 3 = .ok (.invokevirtual 53, 3) := by decide +kernel
theorem d_Row_finish_6 : decode b_Row_finish 6 = .ok (.aload_n 0, 1) := by decide +kernel
theorem d_Row_finish_7 : decode b_Row_finish 7 = .ok (.invokevirtual 57, 3) := by decide +kernel
theorem d_Row_finish_10 : decode b_Row_finish 10 = .ok (.return_, 1) := by decide +kernel
abbrev R_Row_finish : Room := ({ frames := 3, cells := 0, slots := 0, locals := 65 } : Room)
def E_Row_finish (p : Program) (l : Launch) (e : Env) (s : State) (m : MethodId) (args : Array Value) (below : List Frame) (meth : Method) (c : Code) (Q : State → Prop) (A : Nat → Prop) (D : va_G) (cI cL cZ : ClassId) (a_this : Nat) (a_words : Nat) (i_room : Int32) (n_words : Nat) (res : Int32 × Int32 × Int32 × (Nat → Int64)) : Prop := ∀ (pc : Nat) (H : Heap) (locs : List Loc) (ls : Array Slot) (i_used : Int32) (i_held : Int32) (i_many : Int32) (v_words : Nat → Int64), some (i_used, i_held, i_many, v_words) = some res → decode b_Row_finish pc = .ok (.return_, 1) → va_P D classes [(a_this, .inr (5, [.ref a_words, .int i_room, .int i_used, .int i_held, .int i_many])), (a_words, .inl (cL, n_words, .inr (.inl v_words)))] H → va_D A [(a_this, .inr (5, [.ref a_words, .int i_room, .int i_used, .int i_held, .int i_many])), (a_words, .inl (cL, n_words, .inr (.inl v_words)))] → va_S A s.heap H locs → W p l e R_Row_finish s m args below meth c H locs 0 0 Q (F0 m pc ls [])
def I_Row_finish_b0 (p : Program) (l : Launch) (e : Env) (s : State) (m : MethodId) (args : Array Value) (below : List Frame) (meth : Method) (c : Code) (Q : State → Prop) (A : Nat → Prop) (D : va_G) (cI cL cZ : ClassId) (a_this : Nat) (a_words : Nat) (i_room : Int32) (n_words : Nat) (res : Int32 × Int32 × Int32 × (Nat → Int64)) (kf : Int32 → Int32 → Int32 → (Nat → Int64) → Option (Int32 × Int32 × Int32 × (Nat → Int64))) : Prop := ∀ (i_used : Int32) (i_held : Int32) (i_many : Int32) (v_words : Nat → Int64), kf i_used i_held i_many v_words = some res → ∀ (H : Heap) (locs : List Loc) (ls : Array Slot), lv_has ls 1 [(0, .ref a_this)] → va_P D classes [(a_this, .inr (5, [.ref a_words, .int i_room, .int i_used, .int i_held, .int i_many])), (a_words, .inl (cL, n_words, .inr (.inl v_words)))] H → va_D A [(a_this, .inr (5, [.ref a_words, .int i_room, .int i_used, .int i_held, .int i_many])), (a_words, .inl (cL, n_words, .inr (.inl v_words)))] → va_S A s.heap H locs → W p l e R_Row_finish s m args below meth c H locs 0 0 Q (F0 m 0 ls [])
set_option maxHeartbeats 4000000 in
set_option maxRecDepth 100000 in
theorem w_Row_finish_b0 {p : Program} {l : Launch} {e : Env} {s : State} {m : MethodId} {args : Array Value} {below : List Frame} {meth : Method} {c : Code} {Q : State → Prop} {A : Nat → Prop} {D : va_G} {cI cL cZ : ClassId} {a_this : Nat} {a_words : Nat} {i_room : Int32} {n_words : Nat} {N : Nat} {res : Int32 × Int32 × Int32 × (Nat → Int64)}  (C : Cx p s m args c b_Row_finish 1 "PrefixMill$Row" D [(cI, .int), (cL, .long), (cZ, .boolean)] A) (hret : E_Row_finish p l e s m args below meth c Q A D cI cL cZ a_this a_words i_room n_words res)  : I_Row_finish_b0 p l e s m args below meth c Q A D cI cL cZ a_this a_words i_room n_words res (f_Row_finish N i_room n_words ) := by
  obtain ⟨hx, hb, hml, hown, hts, hK, hA⟩ := C
  intro i_used i_held i_many v_words h H locs ls hl hP hD hS
  unfold f_Row_finish at h
  refine lv_aload_n hx hb d_Row_finish_0 rfl (lv_at hl 0 rfl) ?_
  refine lv_iconst (v := 1) hx hb d_Row_finish_1 (by decide) ?_
  refine lv_iconst (v := 1) hx hb d_Row_finish_2 (by decide) ?_
  obtain ⟨i_used_1, i_held_2, i_many_3, v_words_4, hc_5, h⟩ := bd4_s h
  have hPc := hP.sub (ws' := [(a_this, .inr (5, [.ref a_words, .int i_room, .int i_used, .int i_held, .int i_many])), (a_words, .inl (cL, n_words, .inr (.inl v_words)))]) [0, 1] rfl
  have hDc := hD.sub (ws' := [(a_this, .inr (5, [.ref a_words, .int i_room, .int i_used, .int i_held, .int i_many])), (a_words, .inl (cL, n_words, .inr (.inl v_words)))]) [0, 1] (by decide) rfl
  have hFc := va_free (wc := [(a_this, .inr (5, [.ref a_words, .int i_room, .int i_used, .int i_held, .int i_many])), (a_words, .inl (cL, n_words, .inr (.inl v_words)))]) hD hS hA [0, 1] rfl
  refine va_callv (va_runV (As := [.int 1, .int 1]) (rest := []) ⟨hx, hb, hml, hown, hts⟩ (c_Row_put l D cI cL cZ H.size N a_this a_words i_room i_used i_held i_many n_words v_words 1 1 i_used_1 i_held_2 i_many_3 v_words_4 hc_5) ⟨(my_cb 2 hts m_573 rfl rfl (hts _ m_67) (hts _ m_586) (by decide +kernel) ⟨Nat.le_of_ble_eq_true rfl, Nat.le_of_ble_eq_true rfl⟩), hts _ m_571, hts _ m_572⟩ ⟨fun a U g mk q => by obtain ⟨q0, q1, qP, qK, qD⟩ := q; exact ⟨q0, q1, qP, va_K.moved (u := U) (U := U.calling g mk a) (Vm.Alike.refl U.vm) qK, qD⟩, va_recv hK hPc (ci := 5) (q0 := 0) rfl rfl, fun U hU hW => ⟨rfl, by rw [hU], by rw [hU]; exact hPc, va_K.moved hW.alike hK, hDc.weaken (fun _ _ _ _ => trivial)⟩⟩ rfl rfl hl.1 rfl (lv_room (Nat.le_of_ble_eq_true rfl)) d_Row_finish_3 ⟨Nat.zero_le _, Nat.zero_le _⟩) hS (fun q _ h => hFc q h) hFc (fun u t H1 locs ht hvm hw hB hz1 hk1 hS => ?_)
  obtain ⟨hP1, hK1, hD1⟩ := hB
  rw [ht] at hP1
  obtain ⟨hP, hD⟩ := va_join (wr := []) (w1 := [(a_this, .inr (5, [.ref a_words, .int i_room, .int i_used_1, .int i_held_2, .int i_many_3])), (a_words, .inl (cL, n_words, .inr (.inl v_words_4)))]) hP hD [0, 1] [] rfl rfl (by decide) (by decide) hk1 hFc hP1 hD1
  clear hPc hDc hFc hk1 hP1 hD1 hK1
  generalize H1 = H at hP hS ⊢
  have hP : va_P D classes [(a_this, .inr (5, [.ref a_words, .int i_room, .int i_used_1, .int i_held_2, .int i_many_3])), (a_words, .inl (cL, n_words, .inr (.inl v_words_4)))] H := hP.sub [0, 1] rfl
  have hD : va_D A [(a_this, .inr (5, [.ref a_words, .int i_room, .int i_used_1, .int i_held_2, .int i_many_3])), (a_words, .inl (cL, n_words, .inr (.inl v_words_4)))] := hD.sub [0, 1] (by decide) rfl
  refine lv_aload_n hx hb d_Row_finish_6 rfl (lv_at hl 0 rfl) ?_
  obtain ⟨i_used_6, i_held_7, i_many_8, v_words_9, hc_10, h⟩ := bd4_s h
  have hPc := hP.sub (ws' := [(a_this, .inr (5, [.ref a_words, .int i_room, .int i_used_1, .int i_held_2, .int i_many_3])), (a_words, .inl (cL, n_words, .inr (.inl v_words_4)))]) [0, 1] rfl
  have hDc := hD.sub (ws' := [(a_this, .inr (5, [.ref a_words, .int i_room, .int i_used_1, .int i_held_2, .int i_many_3])), (a_words, .inl (cL, n_words, .inr (.inl v_words_4)))]) [0, 1] (by decide) rfl
  have hFc := va_free (wc := [(a_this, .inr (5, [.ref a_words, .int i_room, .int i_used_1, .int i_held_2, .int i_many_3])), (a_words, .inl (cL, n_words, .inr (.inl v_words_4)))]) hD hS hA [0, 1] rfl
  refine va_callv (va_runV (As := []) (rest := []) ⟨hx, hb, hml, hown, hts⟩ (c_Row_pad l D cI cL cZ H.size N a_this a_words i_room i_used_1 i_held_2 i_many_3 n_words v_words_4 i_used_6 i_held_7 i_many_8 v_words_9 hc_10) ⟨(my_cb 0 hts m_585 rfl rfl (hts _ m_67) (hts _ m_600) (by decide +kernel) ⟨Nat.le_of_ble_eq_true rfl, Nat.le_of_ble_eq_true rfl⟩), hts _ m_583, hts _ m_584⟩ ⟨fun a U g mk q => by obtain ⟨q0, q1, qP, qK, qD⟩ := q; exact ⟨q0, q1, qP, va_K.moved (u := U) (U := U.calling g mk a) (Vm.Alike.refl U.vm) qK, qD⟩, va_recv hK hPc (ci := 5) (q0 := 0) rfl rfl, fun U hU hW => ⟨rfl, by rw [hU], by rw [hU]; exact hPc, va_K.moved hW.alike hK, hDc.weaken (fun _ _ _ _ => trivial)⟩⟩ rfl rfl hl.1 rfl (lv_room (Nat.le_of_ble_eq_true rfl)) d_Row_finish_7 ⟨Nat.zero_le _, Nat.zero_le _⟩) hS (fun q _ h => hFc q h) hFc (fun u t H1 locs ht hvm hw hB hz1 hk1 hS => ?_)
  obtain ⟨hP1, hK1, hD1⟩ := hB
  rw [ht] at hP1
  obtain ⟨hP, hD⟩ := va_join (wr := []) (w1 := [(a_this, .inr (5, [.ref a_words, .int i_room, .int i_used_6, .int i_held_7, .int i_many_8])), (a_words, .inl (cL, n_words, .inr (.inl v_words_9)))]) hP hD [0, 1] [] rfl rfl (by decide) (by decide) hk1 hFc hP1 hD1
  clear hPc hDc hFc hk1 hP1 hD1 hK1
  generalize H1 = H at hP hS ⊢
  have hP : va_P D classes [(a_this, .inr (5, [.ref a_words, .int i_room, .int i_used_6, .int i_held_7, .int i_many_8])), (a_words, .inl (cL, n_words, .inr (.inl v_words_9)))] H := hP.sub [0, 1] rfl
  have hD : va_D A [(a_this, .inr (5, [.ref a_words, .int i_room, .int i_used_6, .int i_held_7, .int i_many_8])), (a_words, .inl (cL, n_words, .inr (.inl v_words_9)))] := hD.sub [0, 1] (by decide) rfl
  exact hret _ _ _ _ i_used_6 i_held_7 i_many_8 v_words_9 h d_Row_finish_10 hP hD hS
set_option maxHeartbeats 4000000 in
set_option maxRecDepth 100000 in
theorem c_Row_finish (l : Launch) (D : va_G) (cI cL cZ : ClassId) (sz N : Nat) (a_this : Nat) (a_words : Nat) (i_room : Int32) (i_used : Int32) (i_held : Int32) (i_many : Int32) (n_words : Nat) (v_words : Nat → Int64) (i_used' : Int32) (i_held' : Int32) (i_many' : Int32) (v_words' : Nat → Int64) (h : f_Row_finish N i_room n_words i_used i_held i_many v_words = some (i_used', i_held', i_many', v_words')) : Met l ({ cls := "PrefixMill$Row", name := "finish", desc := "()V" } : Jvm.MethodName) ws_Row_finish R_Row_finish (va_Pc [.ref a_this] (fun U => U.heap.size = sz ∧ va_P D classes [(a_this, .inr (5, [.ref a_words, .int i_room, .int i_used, .int i_held, .int i_many])), (a_words, .inl (cL, n_words, .inr (.inl v_words)))] U.heap ∧ va_K D classes [(cI, .int), (cL, .long), (cZ, .boolean)] U ∧ va_D (fun _ => True) [(a_this, .inr (5, [.ref a_words, .int i_room, .int i_used, .int i_held, .int i_many])), (a_words, .inl (cL, n_words, .inr (.inl v_words)))])) (va_Qv (fun _ : Unit => True) (fun _ t => va_P D classes [(a_this, .inr (5, [.ref a_words, .int i_room, .int i_used', .int i_held', .int i_many'])), (a_words, .inl (cL, n_words, .inr (.inl v_words')))] t.heap ∧ va_K D classes [(cI, .int), (cL, .long), (cZ, .boolean)] t ∧ va_D (va_A [(a_this, .inr (5, [.ref a_words, .int i_room, .int i_used, .int i_held, .int i_many])), (a_words, .inl (cL, n_words, .inr (.inl v_words)))] sz) [(a_this, .inr (5, [.ref a_words, .int i_room, .int i_used', .int i_held', .int i_many'])), (a_words, .inl (cL, n_words, .inr (.inl v_words')))]) (va_A [(a_this, .inr (5, [.ref a_words, .int i_room, .int i_used, .int i_held, .int i_many])), (a_words, .inl (cL, n_words, .inr (.inl v_words)))] sz)) 0 0 (va_A [(a_this, .inr (5, [.ref a_words, .int i_room, .int i_used, .int i_held, .int i_many])), (a_words, .inl (cL, n_words, .inr (.inl v_words)))] sz) := by
  refine Met.ofW (cc := b_Row_finish) (maxL := 1) (ret := none) (by decide) rfl ?_
  intro p e s m args below meth c s₁ B hml hv
  obtain ⟨rfl, hsz, hP, hK, hD0⟩ := hv
  have hx := B.exec
  have hb := B.bytes
  have hr := B.returns
  have hts0 := atoms_spec (ws := ws_Row_finish) B.pre
  have hts := gd_tl hts0
  clear hts0
  have hown : s.vm.findClass "PrefixMill$Row" = some m.cls := findClass_of_methodNamed B.named
  have hlocks := B.notSynchronized
  subst hsz
  have hD := hD0.self (sz := s.heap.size)
  generalize hAe : va_A [(a_this, .inr (5, [.ref a_words, .int i_room, .int i_used, .int i_held, .int i_many])), (a_words, .inl (cL, n_words, .inr (.inl v_words)))] s.heap.size = A at hD ⊢
  have hA : ∀ q : Nat, s.heap.size ≤ q → A q := fun q h => by rw [← hAe]; exact Or.inr h
  have hS : va_S A s.heap s.heap [] := va_S.rf
  have hP : va_P D classes [(a_this, .inr (5, [.ref a_words, .int i_room, .int i_used, .int i_held, .int i_many])), (a_words, .inl (cL, n_words, .inr (.inl v_words)))] s.heap := hP
  have hl := lv_entry ([.ref a_this]) (n := 1) (Nat.le_of_ble_eq_true rfl)
  rw [lg_entry_eq]
  generalize (lg_sl ([.ref a_this]) ++ List.replicate (1 - (lg_sl ([.ref a_this])).length) Slot.unset).toArray = ls at hl ⊢
  have hl : lv_has ls 1 [(0, .ref a_this)] := hl
  have C : Cx p s m ([.ref a_this] : List Value).toArray c b_Row_finish 1 "PrefixMill$Row" D [(cI, .int), (cL, .long), (cZ, .boolean)] A := ⟨hx, hb, hml, hown, hts, hK, hA⟩
  refine w_Row_finish_b0 (res := (i_used', i_held', i_many', v_words')) C ?_ _ _ _ _ h s.heap [] ls hl hP hD hS
  intro pc9 H9 locs9 ls9 i_used9 i_held9 i_many9 v_words9 e9 d9 hP9 hD9 hS9
  cases e9
  exact W.vret hx hb hr (fun t ht hW => ⟨⟨(), rfl, trivial, by rw [ht]; exact hP9, va_K.moved hW.alike hK, hD9⟩, hS9.F ht⟩) hS9.2.2 d9
