abbrev b_Row_add : ByteArray := prog_5_method_3_code
def ws_Row_add : List Cond := .code ({ cls := "PrefixMill$Row", name := "add", desc := "(I)V" } : Jvm.MethodName) b_Row_add 4 none :: tt
theorem d_Row_add_0 : decode b_Row_add 0 = .ok (.aload_n 0, 1) := by decide +kernel
theorem d_Row_add_1 : decode b_Row_add 1 = .ok (.getfield 17, 3) := by decide +kernel
theorem d_Row_add_4 : decode b_Row_add 4 = .ok (.aload_n 0, 1) := by decide +kernel
theorem d_Row_add_5 : decode b_Row_add 5 = .ok (.getfield 7, 3) := by decide +kernel
theorem d_Row_add_8 : decode b_Row_add 8 = .ok (.if_icmp .ge 62, 3) := by decide +kernel
theorem d_Row_add_11 : decode b_Row_add 11 = .ok (.bipush 8, 2) := by decide +kernel
theorem d_Row_add_13 : decode b_Row_add 13 = .ok (.aload_n 0, 1) := by decide +kernel
theorem d_Row_add_14 : decode b_Row_add 14 = .ok (.getfield 17, 3) := by decide +kernel
theorem d_Row_add_17 : decode b_Row_add 17 = .ok (.bipush 7, 2) := by decide +kernel
theorem d_Row_add_19 : decode b_Row_add 19 = .ok (.iand, 1) := by decide +kernel
theorem d_Row_add_20 : decode b_Row_add 20 = .ok (.imul, 1) := by decide +kernel
theorem d_Row_add_21 : decode b_Row_add 21 = .ok (.istore_n 2, 1) := by decide +kernel
theorem d_Row_add_22 : decode b_Row_add 22 = .ok (.aload_n 0, 1) := by decide +kernel
theorem d_Row_add_23 : decode b_Row_add 23 = .ok (.getfield 17, 3) := by decide +kernel
theorem d_Row_add_26 : decode b_Row_add 26 = .ok (.iconst 3, 1) := by decide +kernel
theorem d_Row_add_27 : decode b_Row_add 27 = .ok (.ishr, 1) := by decide +kernel
theorem d_Row_add_28 : decode b_Row_add 28 = .ok (.istore_n 3, 1) := by decide +kernel
theorem d_Row_add_29 : decode b_Row_add 29 = .ok (.aload_n 0, 1) := by decide +kernel
theorem d_Row_add_30 : decode b_Row_add 30 = .ok (.getfield 13, 3) := by decide +kernel
theorem d_Row_add_33 : decode b_Row_add 33 = .ok (.iload_n 3, 1) := by decide +kernel
theorem d_Row_add_34 : decode b_Row_add 34 = .ok (.aload_n 0, 1) := by decide +kernel
theorem d_Row_add_35 : decode b_Row_add 35 = .ok (.getfield 13, 3) := by decide +kernel
theorem d_Row_add_38 : decode b_Row_add 38 = .ok (.iload_n 3, 1) := by decide +kernel
theorem d_Row_add_39 : decode b_Row_add 39 = .ok (.laload, 1) := by decide +kernel
theorem d_Row_add_40 : decode b_Row_add 40 = .ok (.ldc2_w 20, 3) := by decide +kernel
theorem d_Row_add_43 : decode b_Row_add 43 = .ok (.iload_n 2, 1) := by decide +kernel
theorem d_Row_add_44 : decode b_Row_add 44 = .ok (.lshl, 1) := by decide +kernel
theorem d_Row_add_45 : decode b_Row_add 45 = .ok (.ldc2_w 22, 3) := by decide +kernel
theorem d_Row_add_48 : decode b_Row_add 48 = .ok (.lxor, 1) := by decide +kernel
theorem d_Row_add_49 : decode b_Row_add 49 = .ok (.land, 1) := by decide +kernel
theorem d_Row_add_50 : decode b_Row_add 50 = .ok (.iload_n 1, 1) := by decide +kernel
theorem d_Row_add_51 : decode b_Row_add 51 = .ok (.i2l, 1) := by decide +kernel
theorem d_Row_add_52 : decode b_Row_add 52 = .ok (.ldc2_w 20, 3) := by decide +kernel
theorem d_Row_add_55 : decode b_Row_add 55 = .ok (.land, 1) := by decide +kernel
theorem d_Row_add_56 : decode b_Row_add 56 = .ok (.iload_n 2, 1) := by decide +kernel
theorem d_Row_add_57 : decode b_Row_add 57 = .ok (.lshl, 1) := by decide +kernel
theorem d_Row_add_58 : decode b_Row_add 58 = .ok (.lor, 1) := by decide +kernel
theorem d_Row_add_59 : decode b_Row_add 59 = .ok (.lastore, 1) := by decide +kernel
theorem d_Row_add_60 : decode b_Row_add 60 = .ok (.aload_n 0, 1) := by decide +kernel
theorem d_Row_add_61 : decode b_Row_add 61 = .ok (.dup, 1) := by decide +kernel
theorem d_Row_add_62 : decode b_Row_add 62 = .ok (.getfield 17, 3) := by decide +kernel
theorem d_Row_add_65 : decode b_Row_add 65 = .ok (.iconst 1, 1) := by decide +kernel
theorem d_Row_add_66 : decode b_Row_add 66 = .ok (.iadd, 1) := by decide +kernel
theorem d_Row_add_67 : decode b_Row_add 67 = .ok (.putfield 17, 3) := by decide +kernel
theorem d_Row_add_70 : decode b_Row_add 70 = .ok (.return_, 1) := by decide +kernel
def f_Row_add (N : Nat) (i_room : Int32) (n_words : Nat) (l1 : Int32)  (i_used : Int32) (v_words : Nat → Int64) : Option (Int32 × (Nat → Int64)) :=
  if i_room ≤ i_used then
  some (i_used, v_words)
  else
  nm (8 * (i_used &&& 7)) fun l2_2 =>
  nm (i_used >>> (3 &&& 31)) fun l3_3 =>
  ck (inb l3_3 n_words) <|
  ck (inb l3_3 n_words) <|
  nm (vp_updL v_words (Int32.toNatClampNeg l3_3) (((v_words (Int32.toNatClampNeg l3_3)) &&& (((255 : Int64) <<< (Int32.toInt64 l2_2 &&& 63)) ^^^ (-1))) ||| (((Int32.toInt64 l1) &&& 255) <<< (Int32.toInt64 l2_2 &&& 63)))) fun v_words_6 =>
  nm (i_used + 1) fun i_used_7 =>
  some (i_used_7, v_words_6)
abbrev R_Row_add : Room := ({ frames := 0, cells := 0, slots := 0, locals := 0 } : Room)
def E_Row_add (p : Program) (l : Launch) (e : Env) (s : State) (m : MethodId) (args : Array Value) (below : List Frame) (meth : Method) (c : Code) (Q : State → Prop) (A : Nat → Prop) (D : va_G) (cI cL cZ : ClassId) (a_this : Nat) (a_words : Nat) (i_room : Int32) (i_held : Int32) (i_many : Int32) (n_words : Nat) (l1 : Int32) (res : Int32 × (Nat → Int64)) : Prop := ∀ (pc : Nat) (H : Heap) (locs : List Loc) (ls : Array Slot) (i_used : Int32) (v_words : Nat → Int64), some (i_used, v_words) = some res → decode b_Row_add pc = .ok (.return_, 1) → va_P D classes [(a_this, .inr (5, [.ref a_words, .int i_room, .int i_used, .int i_held, .int i_many])), (a_words, .inl (cL, n_words, .inr (.inl v_words)))] H → va_D A [(a_this, .inr (5, [.ref a_words, .int i_room, .int i_used, .int i_held, .int i_many])), (a_words, .inl (cL, n_words, .inr (.inl v_words)))] → va_S A s.heap H locs → W p l e R_Row_add s m args below meth c H locs 0 0 Q (F0 m pc ls [])
def I_Row_add_b0 (p : Program) (l : Launch) (e : Env) (s : State) (m : MethodId) (args : Array Value) (below : List Frame) (meth : Method) (c : Code) (Q : State → Prop) (A : Nat → Prop) (D : va_G) (cI cL cZ : ClassId) (a_this : Nat) (a_words : Nat) (i_room : Int32) (i_held : Int32) (i_many : Int32) (n_words : Nat) (l1 : Int32) (res : Int32 × (Nat → Int64)) (kf : Int32 → (Nat → Int64) → Option (Int32 × (Nat → Int64))) : Prop := ∀ (i_used : Int32) (v_words : Nat → Int64), kf i_used v_words = some res → ∀ (H : Heap) (locs : List Loc) (ls : Array Slot), lv_has ls 4 [(0, .ref a_this), (1, .int l1)] → va_P D classes [(a_this, .inr (5, [.ref a_words, .int i_room, .int i_used, .int i_held, .int i_many])), (a_words, .inl (cL, n_words, .inr (.inl v_words)))] H → va_D A [(a_this, .inr (5, [.ref a_words, .int i_room, .int i_used, .int i_held, .int i_many])), (a_words, .inl (cL, n_words, .inr (.inl v_words)))] → va_S A s.heap H locs → W p l e R_Row_add s m args below meth c H locs 0 0 Q (F0 m 0 ls [])
set_option maxHeartbeats 4000000 in
set_option maxRecDepth 100000 in
theorem w_Row_add_b0 {p : Program} {l : Launch} {e : Env} {s : State} {m : MethodId} {args : Array Value} {below : List Frame} {meth : Method} {c : Code} {Q : State → Prop} {A : Nat → Prop} {D : va_G} {cI cL cZ : ClassId} {a_this : Nat} {a_words : Nat} {i_room : Int32} {i_held : Int32} {i_many : Int32} {n_words : Nat} {l1 : Int32} {N : Nat} {res : Int32 × (Nat → Int64)}  (C : Cx p s m args c b_Row_add 4 "PrefixMill$Row" D [(cI, .int), (cL, .long), (cZ, .boolean)] A) (hret : E_Row_add p l e s m args below meth c Q A D cI cL cZ a_this a_words i_room i_held i_many n_words l1 res)  : I_Row_add_b0 p l e s m args below meth c Q A D cI cL cZ a_this a_words i_room i_held i_many n_words l1 res (f_Row_add N i_room n_words l1 ) := by
  obtain ⟨hx, hb, hml, hown, hts, hK, hA⟩ := C
  intro i_used v_words h H locs ls hl hP hD hS
  unfold f_Row_add at h
  refine lv_aload_n hx hb d_Row_add_0 rfl (lv_at hl 0 rfl) ?_
  refine va_get hx hb hts in_Row hown hK hP 0 rfl rfl 2 (by decide) (hts _ m_96) (fun _ h9 => h9) rfl d_Row_add_1 ?_
  refine lv_aload_n hx hb d_Row_add_4 rfl (lv_at hl 0 rfl) ?_
  refine va_get hx hb hts in_Row hown hK hP 0 rfl rfl 1 (by decide) (hts _ m_95) (fun _ h9 => h9) rfl d_Row_add_5 ?_
  refine lv_icmp_ge (tgt := 70) hx hb d_Row_add_8 (by decide) (fun c_1 => ?_) (fun c_1 => ?_)
  · replace h := if_t h c_1
    exact hret _ _ _ _ i_used v_words h d_Row_add_70 hP hD hS
  · replace h := if_f h c_1
    refine lv_bipush (v := 8) hx hb d_Row_add_11 (by decide) ?_
    refine lv_aload_n hx hb d_Row_add_13 rfl (lv_at hl 0 rfl) ?_
    refine va_get hx hb hts in_Row hown hK hP 0 rfl rfl 2 (by decide) (hts _ m_96) (fun _ h9 => h9) rfl d_Row_add_14 ?_
    refine lv_bipush (v := 7) hx hb d_Row_add_17 (by decide) ?_
    refine lv_iand hx hb d_Row_add_19 ?_
    refine lv_imul hx hb d_Row_add_20 ?_
    refine lv_topi (fun l2_2 el2_2 => ?_)
    replace h := nm_s h el2_2
    refine lv_istore_n (lv' := [(2, .int l2_2), (0, .ref a_this), (1, .int l1)]) hx hb d_Row_add_21 rfl hl (by decide) rfl (fun ls hl => ?_)
    refine lv_aload_n hx hb d_Row_add_22 rfl (lv_at hl 1 rfl) ?_
    refine va_get hx hb hts in_Row hown hK hP 0 rfl rfl 2 (by decide) (hts _ m_96) (fun _ h9 => h9) rfl d_Row_add_23 ?_
    refine lv_iconst (v := 3) hx hb d_Row_add_26 (by decide) ?_
    refine lv_ishr hx hb d_Row_add_27 ?_
    refine lv_topi (fun l3_3 el3_3 => ?_)
    replace h := nm_s h el3_3
    refine lv_istore_n (lv' := [(3, .int l3_3), (2, .int l2_2), (0, .ref a_this), (1, .int l1)]) hx hb d_Row_add_28 rfl hl (by decide) rfl (fun ls hl => ?_)
    refine lv_aload_n hx hb d_Row_add_29 rfl (lv_at hl 2 rfl) ?_
    refine va_get hx hb hts in_Row hown hK hP 0 rfl rfl 0 (by decide) (hts _ m_94) (fun _ h9 => h9) rfl d_Row_add_30 ?_
    refine lv_iload_n hx hb d_Row_add_33 rfl (lv_at hl 0 rfl) ?_
    refine lv_aload_n hx hb d_Row_add_34 rfl (lv_at hl 2 rfl) ?_
    refine va_get hx hb hts in_Row hown hK hP 0 rfl rfl 0 (by decide) (hts _ m_94) (fun _ h9 => h9) rfl d_Row_add_35 ?_
    refine lv_iload_n hx hb d_Row_add_38 rfl (lv_at hl 0 rfl) ?_
    obtain ⟨g_4, h⟩ := ck_s h
    refine va_lald hx hb hK hP 1 1 rfl rfl (inb_s g_4) d_Row_add_39 ?_
    refine lv_ldc2 (v := 255) hx hb hown (hts _ m_376) d_Row_add_40 ?_
    refine lv_iload_n hx hb d_Row_add_43 rfl (lv_at hl 1 rfl) ?_
    refine lv_lshl hx hb d_Row_add_44 rfl ?_
    refine lv_ldc2 (v := (-1)) hx hb hown (hts _ m_377) d_Row_add_45 ?_
    refine lv_lxor hx hb d_Row_add_48 ?_
    refine lv_land hx hb d_Row_add_49 ?_
    refine lv_iload_n hx hb d_Row_add_50 rfl (lv_at hl 3 rfl) ?_
    refine lv_i2l hx hb d_Row_add_51 rfl ?_
    refine lv_ldc2 (v := 255) hx hb hown (hts _ m_376) d_Row_add_52 ?_
    refine lv_land hx hb d_Row_add_55 ?_
    refine lv_iload_n hx hb d_Row_add_56 rfl (lv_at hl 1 rfl) ?_
    refine lv_lshl hx hb d_Row_add_57 rfl ?_
    refine lv_lor hx hb d_Row_add_58 ?_
    obtain ⟨g_5, h⟩ := ck_s h
    refine va_last hx hb hK hP hD hS 1 1 rfl rfl (inb_s g_5) d_Row_add_59 (fun H locs hP hD hS => ?_)
    obtain ⟨v_words_6, ev_words_6⟩ : ∃ y, y = (vp_updL v_words (Int32.toNatClampNeg l3_3) (((v_words (Int32.toNatClampNeg l3_3)) &&& (((255 : Int64) <<< (Int32.toInt64 l2_2 &&& 63)) ^^^ (-1))) ||| (((Int32.toInt64 l1) &&& 255) <<< (Int32.toInt64 l2_2 &&& 63)))) := ⟨_, rfl⟩
    replace h := nm_s h ev_words_6
    have hP : va_P D classes [(a_this, .inr (5, [.ref a_words, .int i_room, .int i_used, .int i_held, .int i_many])), (a_words, .inl (cL, n_words, .inr (.inl v_words_6)))] H := by rw [ev_words_6]; exact hP
    have hD : va_D A [(a_this, .inr (5, [.ref a_words, .int i_room, .int i_used, .int i_held, .int i_many])), (a_words, .inl (cL, n_words, .inr (.inl v_words_6)))] := by rw [ev_words_6]; exact hD
    refine lv_aload_n hx hb d_Row_add_60 rfl (lv_at hl 2 rfl) ?_
    refine lv_dup hx hb d_Row_add_61 rfl ?_
    refine va_get hx hb hts in_Row hown hK hP 0 rfl rfl 2 (by decide) (hts _ m_96) (fun _ h9 => h9) rfl d_Row_add_62 ?_
    refine lv_iconst (v := 1) hx hb d_Row_add_65 (by decide) ?_
    refine lv_iadd hx hb d_Row_add_66 ?_
    refine lv_topi (fun i_used_7 ei_used_7 => ?_)
    replace h := nm_s h ei_used_7
    refine va_put (v := .int i_used_7) (ty := .int) hx hb hts in_Row t_Row t_Row_ok n_Row hown hK hP hD hS 0 rfl rfl 2 (by decide) (hts _ m_96) (fun _ h9 => h9) rfl (by decide +kernel) rfl rfl (Nat.le_of_ble_eq_true rfl) d_Row_add_67 (fun H locs hP hD hS => ?_)
    have hP : va_P D classes [(a_this, .inr (5, [.ref a_words, .int i_room, .int i_used_7, .int i_held, .int i_many])), (a_words, .inl (cL, n_words, .inr (.inl v_words_6)))] H := by exact hP
    have hD : va_D A [(a_this, .inr (5, [.ref a_words, .int i_room, .int i_used_7, .int i_held, .int i_many])), (a_words, .inl (cL, n_words, .inr (.inl v_words_6)))] := by exact hD
    exact hret _ _ _ _ i_used_7 v_words_6 h d_Row_add_70 hP hD hS
set_option maxHeartbeats 4000000 in
set_option maxRecDepth 100000 in
theorem c_Row_add (l : Launch) (D : va_G) (cI cL cZ : ClassId) (sz N : Nat) (a_this : Nat) (a_words : Nat) (i_room : Int32) (i_used : Int32) (i_held : Int32) (i_many : Int32) (n_words : Nat) (v_words : Nat → Int64) (l1 : Int32) (i_used' : Int32) (v_words' : Nat → Int64) (h : f_Row_add N i_room n_words l1 i_used v_words = some (i_used', v_words')) : Met l ({ cls := "PrefixMill$Row", name := "add", desc := "(I)V" } : Jvm.MethodName) ws_Row_add R_Row_add (va_Pc [.ref a_this, .int l1] (fun U => U.heap.size = sz ∧ va_P D classes [(a_this, .inr (5, [.ref a_words, .int i_room, .int i_used, .int i_held, .int i_many])), (a_words, .inl (cL, n_words, .inr (.inl v_words)))] U.heap ∧ va_K D classes [(cI, .int), (cL, .long), (cZ, .boolean)] U ∧ va_D (fun _ => True) [(a_this, .inr (5, [.ref a_words, .int i_room, .int i_used, .int i_held, .int i_many])), (a_words, .inl (cL, n_words, .inr (.inl v_words)))])) (va_Qv (fun _ : Unit => True) (fun _ t => va_P D classes [(a_this, .inr (5, [.ref a_words, .int i_room, .int i_used', .int i_held, .int i_many])), (a_words, .inl (cL, n_words, .inr (.inl v_words')))] t.heap ∧ va_K D classes [(cI, .int), (cL, .long), (cZ, .boolean)] t ∧ va_D (va_A [(a_this, .inr (5, [.ref a_words, .int i_room, .int i_used, .int i_held, .int i_many])), (a_words, .inl (cL, n_words, .inr (.inl v_words)))] sz) [(a_this, .inr (5, [.ref a_words, .int i_room, .int i_used', .int i_held, .int i_many])), (a_words, .inl (cL, n_words, .inr (.inl v_words')))]) (va_A [(a_this, .inr (5, [.ref a_words, .int i_room, .int i_used, .int i_held, .int i_many])), (a_words, .inl (cL, n_words, .inr (.inl v_words)))] sz)) 0 0 (va_A [(a_this, .inr (5, [.ref a_words, .int i_room, .int i_used, .int i_held, .int i_many])), (a_words, .inl (cL, n_words, .inr (.inl v_words)))] sz) := by
  refine Met.ofW (cc := b_Row_add) (maxL := 4) (ret := none) (by decide) rfl ?_
  intro p e s m args below meth c s₁ B hml hv
  obtain ⟨rfl, hsz, hP, hK, hD0⟩ := hv
  have hx := B.exec
  have hb := B.bytes
  have hr := B.returns
  have hts0 := atoms_spec (ws := ws_Row_add) B.pre
  have hts := gd_tl hts0
  clear hts0
  have hown : s.vm.findClass "PrefixMill$Row" = some m.cls := findClass_of_methodNamed B.named
  have hlocks := B.notSynchronized
  subst hsz
  have hD := hD0.self (sz := s.heap.size)
  generalize hAe : va_A [(a_this, .inr (5, [.ref a_words, .int i_room, .int i_used, .int i_held, .int i_many])), (a_words, .inl (cL, n_words, .inr (.inl v_words)))] s.heap.size = A at hD ⊢
  have hA : ∀ q : Nat, s.heap.size ≤ q → A q := fun q h => by rw [← hAe]; exact Or.inr h
  have hS : va_S A s.heap s.heap [] := va_S.rf
  have hP : va_P D classes [(a_this, .inr (5, [.ref a_words, .int i_room, .int i_used, .int i_held, .int i_many])), (a_words, .inl (cL, n_words, .inr (.inl v_words)))] s.heap := hP
  have hl := lv_entry ([.ref a_this, .int l1]) (n := 4) (Nat.le_of_ble_eq_true rfl)
  rw [lg_entry_eq]
  generalize (lg_sl ([.ref a_this, .int l1]) ++ List.replicate (4 - (lg_sl ([.ref a_this, .int l1])).length) Slot.unset).toArray = ls at hl ⊢
  have hl : lv_has ls 4 [(0, .ref a_this), (1, .int l1)] := hl
  have C : Cx p s m ([.ref a_this, .int l1] : List Value).toArray c b_Row_add 4 "PrefixMill$Row" D [(cI, .int), (cL, .long), (cZ, .boolean)] A := ⟨hx, hb, hml, hown, hts, hK, hA⟩
  refine w_Row_add_b0 (res := (i_used', v_words')) C ?_ _ _ h s.heap [] ls hl hP hD hS
  intro pc9 H9 locs9 ls9 i_used9 v_words9 e9 d9 hP9 hD9 hS9
  cases e9
  exact W.vret hx hb hr (fun t ht hW => ⟨⟨(), rfl, trivial, by rw [ht]; exact hP9, va_K.moved hW.alike hK, hD9⟩, hS9.F ht⟩) hS9.2.2 d9
