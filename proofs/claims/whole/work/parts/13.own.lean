abbrev b_Row_add : ByteArray := prog_5_method_3_code
def ws_Row_add : List Cond := .code ({ cls := "PrefixMill$Row", name := "add", desc := "(I)V" } : Jvm.MethodName) b_Row_add 4 none :: tt
theorem d_Row_add_0 : decode b_Row_add 0 = .ok (.aload_n 0, 1) := by decide +kernel
theorem d_Row_add_1 : decode b_Row_add 1 = .ok (.getfield 17, 3) := by decide +kernel
theorem d_Row_add_4 : decode b_Row_add 4 = .ok (.aload_n 0, 1) := by decide +kernel
theorem d_Row_add_5 : decode b_Row_add 5 = .ok (.getfield 7, 3) := by decide +kernel
theorem d_Row_add_8 : decode b_Row_add 8 = .ok (.if_icmp .ge 62, 3) := by decide +kernel
theorem d_Row_add_11 : decode b_Row_add 11 = .ok (.bipush 8, 2) := by decide +kernel
theorem d_Row_add_13 : decode b_Row_add 13 = .ok (.aload_n 0, 1) := by decide +kernel
theorem d_Row_add_14 : decode b_Row_add 14 = .ok (.getfield 17, 3) := by decide +kernel
theorem d_Row_add_17 : decode b_Row_add 17 = .ok (.bipush 7, 2) := by decide +kernel
theorem d_Row_add_19 : decode b_Row_add 19 = .ok (.iand, 1) := by decide +kernel
theorem d_Row_add_20 : decode b_Row_add 20 = .ok (.imul, 1) := by decide +kernel
theorem d_Row_add_21 : decode b_Row_add 21 = .ok (.istore_n 2, 1) := by decide +kernel
theorem d_Row_add_22 : decode b_Row_add 22 = .ok (.aload_n 0, 1) := by decide +kernel
theorem d_Row_add_23 : decode b_Row_add 23 = .ok (.getfield 17, 3) := by decide +kernel
theorem d_Row_add_26 : decode b_Row_add 26 = .ok (.iconst 3, 1) := by decide +kernel
theorem d_Row_add_27 : decode b_Row_add 27 = .ok (.ishr, 1) := by decide +kernel
theorem d_Row_add_28 : decode b_Row_add 28 = .ok (.istore_n 3, 1) := by decide +kernel
theorem d_Row_add_29 : decode b_Row_add 29 = .ok (.aload_n 0, 1) := by decide +kernel
theorem d_Row_add_30 : decode b_Row_add 30 = .ok (.getfield 13, 3) := by decide +kernel
theorem d_Row_add_33 : decode b_Row_add 33 = .ok (.iload_n 3, 1) := by decide +kernel
theorem d_Row_add_34 : decode b_Row_add 34 = .ok (.aload_n 0, 1) := by decide +kernel
theorem d_Row_add_35 : decode b_Row_add 35 = .ok (.getfield 13, 3) := by decide +kernel
theorem d_Row_add_38 : decode b_Row_add 38 = .ok (.iload_n 3, 1) := by decide +kernel
theorem d_Row_add_39 : decode b_Row_add 39 = .ok (.laload, 1) := by decide +kernel
theorem d_Row_add_40 : decode b_Row_add 40 = .ok (.ldc2_w 20, 3) := by decide +kernel
theorem d_Row_add_43 : decode b_Row_add 43 = .ok (.iload_n 2, 1) := by decide +kernel
theorem d_Row_add_44 : decode b_Row_add 44 = .ok (.lshl, 1) := by decide +kernel
theorem d_Row_add_45 : decode b_Row_add 45 = .ok (.ldc2_w 22, 3) := by decide +kernel
theorem d_Row_add_48 : decode b_Row_add 48 = .ok (.lxor, 1) := by decide +kernel
theorem d_Row_add_49 : decode b_Row_add 49 = .ok (.land, 1) := by decide +kernel
theorem d_Row_add_50 : decode b_Row_add 50 = .ok (.iload_n 1, 1) := by decide +kernel
theorem d_Row_add_51 : decode b_Row_add 51 = .ok (.i2l, 1) := by decide +kernel
theorem d_Row_add_52 : decode b_Row_add 52 = .ok (.ldc2_w 20, 3) := by decide +kernel
theorem d_Row_add_55 : decode b_Row_add 55 = .ok (.land, 1) := by decide +kernel
theorem d_Row_add_56 : decode b_Row_add 56 = .ok (.iload_n 2, 1) := by decide +kernel
theorem d_Row_add_57 : decode b_Row_add 57 = .ok (.lshl, 1) := by decide +kernel
theorem d_Row_add_58 : decode b_Row_add 58 = .ok (.lor, 1) := by decide +kernel
theorem d_Row_add_59 : decode b_Row_add 59 = .ok (.lastore, 1) := by decide +kernel
theorem d_Row_add_60 : decode b_Row_add 60 = .ok (.aload_n 0, 1) := by decide +kernel
theorem d_Row_add_61 : decode b_Row_add 61 = .ok (.dup, 1) := by decide +kernel
theorem d_Row_add_62 : decode b_Row_add 62 = .ok (.getfield 17, 3) := by decide +kernel
theorem d_Row_add_65 : decode b_Row_add 65 = .ok (.iconst 1, 1) := by decide +kernel
theorem d_Row_add_66 : decode b_Row_add 66 = .ok (.iadd, 1) := by decide +kernel
theorem d_Row_add_67 : decode b_Row_add 67 = .ok (.putfield 17, 3) := by decide +kernel
theorem d_Row_add_70 : decode b_Row_add 70 = .ok (.return_, 1) := by decide +kernel
abbrev R_Row_add : Room := ({ frames := 0, cells := 0, slots := 0, locals := 0 } : Room)
def E_Row_add (p : Program) (l : Launch) (e : Env) (s : State) (m : MethodId) (args : Array Value) (below : List Frame) (meth : Method) (c : Code) (Q : State → Prop) (A : Nat → Prop) (D : va_G) (cI cL cZ : ClassId) (a_this : Nat) (a_words : Nat) (i_room : Int32) (i_held : Int32) (i_many : Int32) (n_words : Nat) (l1 : Int32) (res : Int32 × (Nat → Int64)) : Prop := ∀ (pc : Nat) (H : Heap) (locs : List Loc) (ls : Array Slot) (i_used : Int32) (v_words : Nat → Int64), some (i_used, v_words) = some res → decode b_Row_add pc = .ok (.return_, 1) → va_P D classes [(a_this, .inr (5, [.ref a_words, .int i_room, .int i_used, .int i_held, .int i_many])), (a_words, .inl (cL, n_words, .inr (.inl v_words)))] H → va_D A [(a_this, .inr (5, [.ref a_words, .int i_room, .int i_used, .int i_held, .int i_many])), (a_words, .inl (cL, n_words, .inr (.inl v_words)))] → va_S A s.heap H locs → W p l e R_Row_add s m args below meth c H locs 0 0 Q (F0 m pc ls [])
def I_Row_add_b0 (p : Program) (l : Launch) (e : Env) (s : State) (m : MethodId) (args : Array Value) (below : List Frame) (meth : Method) (c : Code) (Q : State → Prop) (A : Nat → Prop) (D : va_G) (cI cL cZ : ClassId) (a_this : Nat) (a_words : Nat) (i_room : Int32) (i_held : Int32) (i_many : Int32) (n_words : Nat) (l1 : Int32) (res : Int32 × (Nat → Int64)) (kf : Int32 → (Nat → Int64) → Option (Int32 × (Nat → Int64))) : Prop := ∀ (i_used : Int32) (v_words : Nat → Int64), kf i_used v_words = some res → ∀ (H : Heap) (locs : List Loc) (ls : Array Slot), lv_has ls 4 [(0, .ref a_this), (1, .int l1)] → va_P D classes [(a_this, .inr (5, [.ref a_words, .int i_room, .int i_used, .int i_held, .int i_many])), (a_words, .inl (cL, n_words, .inr (.inl v_words)))] H → va_D A [(a_this, .inr (5, [.ref a_words, .int i_room, .int i_used, .int i_held, .int i_many])), (a_words, .inl (cL, n_words, .inr (.inl v_words)))] → va_S A s.heap H locs → W p l e R_Row_add s m args below meth c H locs 0 0 Q (F0 m 0 ls [])
set_option maxHeartbeats 4000000 in
set_option maxRecDepth 100000 in
theorem w_Row_add_b0 {p : Program} {l : Launch} {e : Env} {s : State} {m : MethodId} {args : Array Value} {below : List Frame} {meth : Method} {c : Code} {Q : State → Prop} {A : Nat → Prop} {D : va_G} {cI cL cZ : ClassId} {a_this : Nat} {a_words : Nat} {i_room : Int32} {i_held : Int32} {i_many : Int32} {n_words : Nat} {l1 : Int32} {N : Nat} {res : Int32 × (Nat → Int64)}  (C : Cx p s m args c b_Row_add 4 "PrefixMill$Row" D [(cI, .int), (cL, .long), (cZ, .boolean)] A) (hret : E_Row_add p l e s m args below meth c Q A D cI cL cZ a_this a_words i_room i_held i_many n_words l1 res)  : I_Row_add_b0 p l e s m args below meth c Q A D cI cL cZ a_this a_words i_room i_held i_many n_words l1 res (f_Row_add N i_room n_words l1 ) := by
  obtain ⟨hx, hb, hml, hown, hts, hK, hA⟩ := C
  intro i_used v_words h H locs ls hl hP hD hS
  unfold f_Row_add at h
  refine lv_aload_n hx hb d_Row_add_0 rfl (lv_at hl 0 rfl) ?_
  refine va_get hx hb hts in_Row hown hK hP 0 rfl rfl 2 (by decide) (hts _ m_96) (fun _ h9 => h9) rfl d_Row_add_1 ?_
  refine lv_aload_n hx hb d_Row_add_4 rfl (lv_at hl 0 rfl) ?_
  refine va_get hx hb hts in_Row hown hK hP 0 rfl rfl 1 (by decide) (hts _ m_95) (fun _ h9 => h9) rfl d_Row_add_5 ?_
  refine lv_icmp_ge (tgt := 70) hx hb d_Row_add_8 (by decide) (fun c_1 => ?_) (fun c_1 => ?_)
  · replace h := if_t h c_1
    exact hret _ _ _ _ i_used v_words h d_Row_add_70 hP hD hS
  · replace h := if_f h c_1
    refine lv_bipush (v := 8) hx hb d_Row_add_11 (by decide) ?_
    refine lv_aload_n hx hb d_Row_add_13 rfl (lv_at hl 0 rfl) ?_
    refine va_get hx hb hts in_Row hown hK hP 0 rfl rfl 2 (by decide) (hts _ m_96) (fun _ h9 => h9) rfl d_Row_add_14 ?_
    refine lv_bipush (v := 7) hx hb d_Row_add_17 (by decide) ?_
    refine lv_iand hx hb d_Row_add_19 ?_
    refine lv_imul hx hb d_Row_add_20 ?_
    refine lv_topi (fun l2_2 el2_2 => ?_)
    replace h := nm_s h el2_2
    refine lv_istore_n (lv' := [(2, .int l2_2), (0, .ref a_this), (1, .int l1)]) hx hb d_Row_add_21 rfl hl (by decide) rfl (fun ls hl => ?_)
    refine lv_aload_n hx hb d_Row_add_22 rfl (lv_at hl 1 rfl) ?_
    refine va_get hx hb hts in_Row hown hK hP 0 rfl rfl 2 (by decide) (hts _ m_96) (fun _ h9 => h9) rfl d_Row_add_23 ?_
    refine lv_iconst (v := 3) hx hb d_Row_add_26 (by decide) ?_
    refine lv_ishr hx hb d_Row_add_27 ?_
    refine lv_topi (fun l3_3 el3_3 => ?_)
    replace h := nm_s h el3_3
    refine lv_istore_n (lv' := [(3, .int l3_3), (2, .int l2_2), (0, .ref a_this), (1, .int l1)]) hx hb d_Row_add_28 rfl hl (by decide) rfl (fun ls hl => ?_)
    refine lv_aload_n hx hb d_Row_add_29 rfl (lv_at hl 2 rfl) ?_
    refine va_get hx hb hts in_Row hown hK hP 0 rfl rfl 0 (by decide) (hts _ m_94) (fun _ h9 => h9) rfl d_Row_add_30 ?_
    refine lv_iload_n hx hb d_Row_add_33 rfl (lv_at hl 0 rfl) ?_
    refine lv_aload_n hx hb d_Row_add_34 rfl (lv_at hl 2 rfl) ?_
    refine va_get hx hb hts in_Row hown hK hP 0 rfl rfl 0 (by decide) (hts _ m_94) (fun _ h9 => h9) rfl d_Row_add_35 ?_
    refine lv_iload_n hx hb d_Row_add_38 rfl (lv_at hl 0 rfl) ?_
    obtain ⟨g_4, h⟩ := ck_s h
    refine va_lald hx hb hK hP 1 1 rfl rfl (inb_s g_4) d_Row_add_39 ?_
    refine lv_ldc2 (v := 255) hx hb hown (hts _ m_376) d_Row_add_40 ?_
    refine lv_iload_n hx hb d_Row_add_43 rfl (lv_at hl 1 rfl) ?_
    refine lv_lshl hx hb d_Row_add_44 rfl ?_
    refine lv_ldc2 (v := (-1)) hx hb hown (hts _ m_377) d_Row_add_45 ?_
    refine lv_lxor hx hb d_Row_add_48 ?_
    refine lv_land hx hb d_Row_add_49 ?_
    refine lv_iload_n hx hb d_Row_add_50 rfl (lv_at hl 3 rfl) ?_
    refine lv_i2l hx hb d_Row_add_51 rfl ?_
    refine lv_ldc2 (v := 255) hx hb hown (hts _ m_376) d_Row_add_52 ?_
    refine lv_land hx hb d_Row_add_55 ?_
    refine lv_iload_n hx hb d_Row_add_56 rfl (lv_at hl 1 rfl) ?_
    refine lv_lshl hx hb d_Row_add_57 rfl ?_
    refine lv_lor hx hb d_Row_add_58 ?_
    obtain ⟨g_5, h⟩ := ck_s h
    refine va_last hx hb hK hP hD hS 1 1 rfl rfl (inb_s g_5) d_Row_add_59 (fun H locs hP hD hS => ?_)
    obtain ⟨v_words_6, ev_words_6⟩ : ∃ y, y = (vp_updL v_words (Int32.toNatClampNeg l3_3) (((v_words (Int32.toNatClampNeg l3_3)) &&& (((255 : Int64) <<< (Int32.toInt64 l2_2 &&& 63)) ^^^ (-1))) ||| (((Int32.toInt64 l1) &&& 255) <<< (Int32.toInt64 l2_2 &&& 63)))) := ⟨_, rfl⟩
    replace h := nm_s h ev_words_6
    have hP : va_P D classes [(a_this, .inr (5, [.ref a_words, .int i_room, .int i_used, .int i_held, .int i_many])), (a_words, .inl (cL, n_words, .inr (.inl v_words_6)))] H := by rw [ev_words_6]; exact hP
    have hD : va_D A [(a_this, .inr (5, [.ref a_words, .int i_room, .int i_used, .int i_held, .int i_many])), (a_words, .inl (cL, n_words, .inr (.inl v_words_6)))] := by rw [ev_words_6]; exact hD
    refine lv_aload_n hx hb d_Row_add_60 rfl (lv_at hl 2 rfl) ?_
    refine lv_dup hx hb d_Row_add_61 rfl ?_
    refine va_get hx hb hts in_Row hown hK hP 0 rfl rfl 2 (by decide) (hts _ m_96) (fun _ h9 => h9) rfl d_Row_add_62 ?_
    refine lv_iconst (v := 1) hx hb d_Row_add_65 (by decide) ?_
    refine lv_iadd hx hb d_Row_add_66 ?_
    refine lv_topi (fun i_used_7 ei_used_7 => ?_)
    replace h := nm_s h ei_used_7
    refine va_put (v := .int i_used_7) (ty := .int) hx hb hts in_Row t_Row t_Row_ok n_Row hown hK hP hD hS 0 rfl rfl 2 (by decide) (hts _ m_96) (fun _ h9 => h9) rfl (by decide +kernel) rfl rfl (Nat.le_of_ble_eq_true rfl) d_Row_add_67 (fun H locs hP hD hS => ?_)
    have hP : va_P D classes [(a_this, .inr (5, [.ref a_words, .int i_room, .int i_used_7, .int i_held, .int i_many])), (a_words, .inl (cL, n_words, .inr (.inl v_words_6)))] H := by exact hP
    have hD : va_D A [(a_this, .inr (5, [.ref a_words, .int i_room, .int i_used_7, .int i_held, .int i_many])), (a_words, .inl (cL, n_words, .inr (.inl v_words_6)))] := by exact hD
    exact hret _ _ _ _ i_used_7 v_words_6 h d_Row_add_70 hP hD hS
set_option maxHeartbeats 4000000 in
set_option maxRecDepth 100000 in
theorem c_Row_add (l : Launch) (D : va_G) (cI cL cZ : ClassId) (sz N : Nat) (a_this : Nat) (a_words : Nat) (i_room : Int32) (i_used : Int32) (i_held : Int32) (i_many : Int32) (n_words : Nat) (v_words : Nat → Int64) (l1 : Int32) (i_used' : Int32) (v_words' : Nat → Int64) (h : f_Row_add N i_room n_words l1 i_used v_words = some (i_used', v_words')) : Met l ({ cls := "PrefixMill$Row", name := "add", desc := "(I)V" } : Jvm.MethodName) ws_Row_add R_Row_add (va_Pc [.ref a_this, .int l1] (fun U => U.heap.size = sz ∧ va_P D classes [(a_this, .inr (5, [.ref a_words, .int i_room, .int i_used, .int i_held, .int i_many])), (a_words, .inl (cL, n_words, .inr (.inl v_words)))] U.heap ∧ va_K D classes [(cI, .int), (cL, .long), (cZ, .boolean)] U ∧ va_D (fun _ => True) [(a_this, .inr (5, [.ref a_words, .int i_room, .int i_used, .int i_held, .int i_many])), (a_words, .inl (cL, n_words, .inr (.inl v_words)))])) (va_Qv (fun _ : Unit => True) (fun _ t => va_P D classes [(a_this, .inr (5, [.ref a_words, .int i_room, .int i_used', .int i_held, .int i_many])), (a_words, .inl (cL, n_words, .inr (.inl v_words')))] t.heap ∧ va_K D classes [(cI, .int), (cL, .long), (cZ, .boolean)] t ∧ va_D (va_A [(a_this, .inr (5, [.ref a_words, .int i_room, .int i_used, .int i_held, .int i_many])), (a_words, .inl (cL, n_words, .inr (.inl v_words)))] sz) [(a_this, .inr (5, [.ref a_words, .int i_room, .int i_used', .int i_held, .int i_many])), (a_words, .inl (cL, n_words, .inr (.inl v_words')))]) (va_A [(a_this, .inr (5, [.ref a_words, .int i_room, .int i_used, .int i_held, .int i_many])), (a_words, .inl (cL, n_words, .inr (.inl v_words)))] sz)) 0 0 (va_A [(a_this, .inr (5, [.ref a_words, .int i_room, .int i_used, .int i_held, .int i_many])), (a_words, .inl (cL, n_words, .inr (.inl v_words)))] sz) := by
  refine Met.ofW (cc := b_Row_add) (maxL := 4) (ret := none) (by decide) rfl ?_
  intro p e s m args below meth c s₁ B hml hv
  obtain ⟨rfl, hsz, hP, hK, hD0⟩ := hv
  have hx := B.exec
  have hb := B.bytes
  have hr := B.returns
  have hts0 := atoms_spec (ws := ws_Row_add) B.pre
  have hts := gd_tl hts0
  clear hts0
  have hown : s.vm.findClass "PrefixMill$Row" = some m.cls := findClass_of_methodNamed B.named
  have hlocks := B.notSynchronized
  subst hsz
  have hD := hD0.self (sz := s.heap.size)
  generalize hAe : va_A [(a_this, .inr (5, [.ref a_words, .int i_room, .int i_used, .int i_held, .int i_many])), (a_words, .inl (cL, n_words, .inr (.inl v_words)))] s.heap.size = A at hD ⊢
  have hA : ∀ q : Nat, s.heap.size ≤ q → A q := fun q h => by rw [← hAe]; exact Or.inr h
  have hS : va_S A s.heap s.heap [] := va_S.rf
  have hP : va_P D classes [(a_this, .inr (5, [.ref a_words, .int i_room, .int i_used, .int i_held, .int i_many])), (a_words, .inl (cL, n_words, .inr (.inl v_words)))] s.heap := hP
  have hl := lv_entry ([.ref a_this, .int l1]) (n := 4) (Nat.le_of_ble_eq_true rfl)
  rw [lg_entry_eq]
  generalize (lg_sl ([.ref a_this, .int l1]) ++ List.replicate (4 - (lg_sl ([.ref a_this, .int l1])).length) Slot.unset).toArray = ls at hl ⊢
  have hl : lv_has ls 4 [(0, .ref a_this), (1, .int l1)] := hl
  have C : Cx p s m ([.ref a_this, .int l1] : List Value).toArray c b_Row_add 4 "PrefixMill$Row" D [(cI, .int), (cL, .long), (cZ, .boolean)] A := ⟨hx, hb, hml, hown, hts, hK, hA⟩
  refine w_Row_add_b0 (res := (i_used', v_words')) C ?_ _ _ h s.heap [] ls hl hP hD hS
  intro pc9 H9 locs9 ls9 i_used9 v_words9 e9 d9 hP9 hD9 hS9
  cases e9
  exact W.vret hx hb hr (fun t ht hW => ⟨⟨(), rfl, trivial, by rw [ht]; exact hP9, va_K.moved hW.alike hK, hD9⟩, hS9.F ht⟩) hS9.2.2 d9
abbrev b_PM_write : ByteArray := prog_1_method_2_code
def ws_PM_write : List Cond := .code ({ cls := "PrefixMill", name := "write", desc := "(JI)Z" } : Jvm.MethodName) b_PM_write 5 (some .boolean) :: tt
theorem d_PM_write_0 : decode b_PM_write 0 = .ok (.iload_n 3, 1) := by decide +kernel
theorem d_PM_write_1 : decode b_PM_write 1 = .ok (.iconst 1, 1) := by decide +kernel
theorem d_PM_write_2 : decode b_PM_write 2 = .ok (.if_icmp .lt 24, 3) := by decide +kernel
theorem d_PM_write_5 : decode b_PM_write 5 = .ok (.iload_n 3, 1) := by decide +kernel
theorem d_PM_write_6 : decode b_PM_write 6 = .ok (.bipush 8, 2) := by decide +kernel
theorem d_PM_write_8 : decode b_PM_write 8 = .ok (.if_icmp .gt 18, 3) := by decide +kernel
theorem d_PM_write_11 : decode b_PM_write 11 = .ok (.iload_n 3, 1) := by decide +kernel
theorem d_PM_write_12 : decode b_PM_write 12 = .ok (.sipush 6000, 3) := by decide +kernel
theorem d_PM_write_15 : decode b_PM_write 15 = .ok (.aload_n 0, 1) := by decide +kernel
theorem d_PM_write_16 : decode b_PM_write 16 = .ok (.getfield 14, 3) := by decide +kernel
theorem d_PM_write_19 : decode b_PM_write 19 = .ok (.getfield 64, 3) := by decide +kernel
theorem d_PM_write_22 : decode b_PM_write 22 = .ok (.isub, 1) := by decide +kernel
theorem d_PM_write_23 : decode b_PM_write 23 = .ok (.if_icmp .le 5, 3) := by decide +kernel
theorem d_PM_write_26 : decode b_PM_write 26 = .ok (.iconst 0, 1) := by decide +kernel
theorem d_PM_write_27 : decode b_PM_write 27 = .ok (.ireturn, 1) := by decide +kernel
theorem d_PM_write_28 : decode b_PM_write 28 = .ok (.iconst 0, 1) := by decide +kernel
theorem d_PM_write_29 : decode b_PM_write 29 = .ok (.istore 4, 2) := by decide +kernel
theorem d_PM_write_31 : decode b_PM_write 31 = .ok (.iload 4, 2) := by decide +kernel
theorem d_PM_write_33 : decode b_PM_write 33 = .ok (.iload_n 3, 1) := by decide +kernel
theorem d_PM_write_34 : decode b_PM_write 34 = .ok (.if_icmp .ge 31, 3) := by decide +kernel
theorem d_PM_write_37 : decode b_PM_write 37 = .ok (.aload_n 0, 1) := by decide +kernel
theorem d_PM_write_38 : decode b_PM_write 38 = .ok (.getfield 14, 3) := by decide +kernel
theorem d_PM_write_41 : decode b_PM_write 41 = .ok (.lload_n 1, 1) := by decide +kernel
theorem d_PM_write_42 : decode b_PM_write 42 = .ok (.bipush 56, 2) := by decide +kernel
theorem d_PM_write_44 : decode b_PM_write 44 = .ok (.bipush 8, 2) := by decide +kernel
theorem d_PM_write_46 : decode b_PM_write 46 = .ok (.iload 4, 2) := by decide +kernel
theorem d_PM_write_48 : decode b_PM_write 48 = .ok (.imul, 1) := by decide +kernel
theorem d_PM_write_49 : decode b_PM_write 49 = .ok (.isub, 1) := by decide +kernel
theorem d_PM_write_50 : decode b_PM_write 50 = .ok (.lushr, 1) := by decide +kernel
theorem d_PM_write_51 : decode b_PM_write 51 = .ok (.l2i, 1) := by decide +kernel
theorem d_PM_write_52 : decode b_PM_write 52 = .ok (.sipush 255, 3) := by decide +kernel
theorem d_PM_write_55 : decode b_PM_write 55 = .ok (.iand, 1) := by decide +kernel
theorem d_PM_write_56 : decode b_PM_write 56 = .ok (.invokevirtual 67, 3) := by decide +kernel
theorem d_PM_write_59 : decode b_PM_write 59 = .ok (.iinc 4 1, 3) := by decide +kernel
theorem d_PM_write_62 : decode b_PM_write 62 = .ok (.goto (-31), 3) := by decide +kernel
theorem d_PM_write_65 : decode b_PM_write 65 = .ok (.iconst 1, 1) := by decide +kernel
theorem d_PM_write_66 : decode b_PM_write 66 = .ok (.ireturn, 1) := by decide +kernel
abbrev R_PM_write : Room := ({ frames := 1, cells := 0, slots := 0, locals := 23 } : Room)
def E_PM_write (p : Program) (l : Launch) (e : Env) (s : State) (m : MethodId) (args : Array Value) (below : List Frame) (meth : Method) (c : Code) (Q : State → Prop) (A : Nat → Prop) (D : va_G) (cI cL cZ : ClassId) (a_this : Nat) (a_in : Nat) (a_in_words : Nat) (o_out : Nat) (o_counts : Nat) (o_codes : Nat) (o_tree : Nat) (o_writer : Nat) (o_reader : Nat) (o_streams : Nat) (i_place : Int32) (i_in_room : Int32) (i_in_held : Int32) (i_in_many : Int32) (n_in_words : Nat) (l1 : Int64) (l3 : Int32) (res : Int32 × Int32 × (Nat → Int64)) : Prop := ∀ (pc : Nat) (H : Heap) (locs : List Loc) (ls : Array Slot) (rv : Int32) (i_in_used : Int32) (v_in_words : Nat → Int64), some (rv, i_in_used, v_in_words) = some res → narrow .boolean (.int rv) = .int rv → decode b_PM_write pc = .ok (.ireturn, 1) → va_P D classes [(a_this, .inr (0, [.ref a_in, .ref o_out, .ref o_counts, .ref o_codes, .ref o_tree, .ref o_writer, .ref o_reader, .ref o_streams, .int i_place])), (a_in, .inr (5, [.ref a_in_words, .int i_in_room, .int i_in_used, .int i_in_held, .int i_in_many])), (a_in_words, .inl (cL, n_in_words, .inr (.inl v_in_words)))] H → va_D A [(a_this, .inr (0, [.ref a_in, .ref o_out, .ref o_counts, .ref o_codes, .ref o_tree, .ref o_writer, .ref o_reader, .ref o_streams, .int i_place])), (a_in, .inr (5, [.ref a_in_words, .int i_in_room, .int i_in_used, .int i_in_held, .int i_in_many])), (a_in_words, .inl (cL, n_in_words, .inr (.inl v_in_words)))] → va_S A s.heap H locs → W p l e R_PM_write s m args below meth c H locs 0 0 Q (F0 m pc ls [.int rv])
def I_PM_write_b26 (p : Program) (l : Launch) (e : Env) (s : State) (m : MethodId) (args : Array Value) (below : List Frame) (meth : Method) (c : Code) (Q : State → Prop) (A : Nat → Prop) (D : va_G) (cI cL cZ : ClassId) (a_this : Nat) (a_in : Nat) (a_in_words : Nat) (o_out : Nat) (o_counts : Nat) (o_codes : Nat) (o_tree : Nat) (o_writer : Nat) (o_reader : Nat) (o_streams : Nat) (i_place : Int32) (i_in_room : Int32) (i_in_held : Int32) (i_in_many : Int32) (n_in_words : Nat) (l1 : Int64) (l3 : Int32) (res : Int32 × Int32 × (Nat → Int64)) (kf : Int32 → (Nat → Int64) → Option (Int32 × Int32 × (Nat → Int64))) : Prop := ∀ (i_in_used : Int32) (v_in_words : Nat → Int64), kf i_in_used v_in_words = some res → ∀ (H : Heap) (locs : List Loc) (ls : Array Slot), lv_has ls 5 [] → va_P D classes [(a_this, .inr (0, [.ref a_in, .ref o_out, .ref o_counts, .ref o_codes, .ref o_tree, .ref o_writer, .ref o_reader, .ref o_streams, .int i_place])), (a_in, .inr (5, [.ref a_in_words, .int i_in_room, .int i_in_used, .int i_in_held, .int i_in_many])), (a_in_words, .inl (cL, n_in_words, .inr (.inl v_in_words)))] H → va_D A [(a_this, .inr (0, [.ref a_in, .ref o_out, .ref o_counts, .ref o_codes, .ref o_tree, .ref o_writer, .ref o_reader, .ref o_streams, .int i_place])), (a_in, .inr (5, [.ref a_in_words, .int i_in_room, .int i_in_used, .int i_in_held, .int i_in_many])), (a_in_words, .inl (cL, n_in_words, .inr (.inl v_in_words)))] → va_S A s.heap H locs → W p l e R_PM_write s m args below meth c H locs 0 0 Q (F0 m 26 ls [])
def I_PM_write_b65 (p : Program) (l : Launch) (e : Env) (s : State) (m : MethodId) (args : Array Value) (below : List Frame) (meth : Method) (c : Code) (Q : State → Prop) (A : Nat → Prop) (D : va_G) (cI cL cZ : ClassId) (a_this : Nat) (a_in : Nat) (a_in_words : Nat) (o_out : Nat) (o_counts : Nat) (o_codes : Nat) (o_tree : Nat) (o_writer : Nat) (o_reader : Nat) (o_streams : Nat) (i_place : Int32) (i_in_room : Int32) (i_in_held : Int32) (i_in_many : Int32) (n_in_words : Nat) (l1 : Int64) (l3 : Int32) (res : Int32 × Int32 × (Nat → Int64)) (kf : Int32 → (Nat → Int64) → Option (Int32 × Int32 × (Nat → Int64))) : Prop := ∀ (i_in_used : Int32) (v_in_words : Nat → Int64), kf i_in_used v_in_words = some res → ∀ (H : Heap) (locs : List Loc) (ls : Array Slot), lv_has ls 5 [] → va_P D classes [(a_this, .inr (0, [.ref a_in, .ref o_out, .ref o_counts, .ref o_codes, .ref o_tree, .ref o_writer, .ref o_reader, .ref o_streams, .int i_place])), (a_in, .inr (5, [.ref a_in_words, .int i_in_room, .int i_in_used, .int i_in_held, .int i_in_many])), (a_in_words, .inl (cL, n_in_words, .inr (.inl v_in_words)))] H → va_D A [(a_this, .inr (0, [.ref a_in, .ref o_out, .ref o_counts, .ref o_codes, .ref o_tree, .ref o_writer, .ref o_reader, .ref o_streams, .int i_place])), (a_in, .inr (5, [.ref a_in_words, .int i_in_room, .int i_in_used, .int i_in_held, .int i_in_many])), (a_in_words, .inl (cL, n_in_words, .inr (.inl v_in_words)))] → va_S A s.heap H locs → W p l e R_PM_write s m args below meth c H locs 0 0 Q (F0 m 65 ls [])
def I_PM_write_b31 (p : Program) (l : Launch) (e : Env) (s : State) (m : MethodId) (args : Array Value) (below : List Frame) (meth : Method) (c : Code) (Q : State → Prop) (A : Nat → Prop) (D : va_G) (cI cL cZ : ClassId) (a_this : Nat) (a_in : Nat) (a_in_words : Nat) (o_out : Nat) (o_counts : Nat) (o_codes : Nat) (o_tree : Nat) (o_writer : Nat) (o_reader : Nat) (o_streams : Nat) (i_place : Int32) (i_in_room : Int32) (i_in_held : Int32) (i_in_many : Int32) (n_in_words : Nat) (l1 : Int64) (l3 : Int32) (res : Int32 × Int32 × (Nat → Int64)) (kf : Int32 → Int32 → (Nat → Int64) → Option (Int32 × Int32 × (Nat → Int64))) : Prop := ∀ (l4 : Int32) (i_in_used : Int32) (v_in_words : Nat → Int64), kf l4 i_in_used v_in_words = some res → ∀ (H : Heap) (locs : List Loc) (ls : Array Slot), lv_has ls 5 [(0, .ref a_this), (1, .long l1), (3, .int l3), (4, .int l4)] → va_P D classes [(a_this, .inr (0, [.ref a_in, .ref o_out, .ref o_counts, .ref o_codes, .ref o_tree, .ref o_writer, .ref o_reader, .ref o_streams, .int i_place])), (a_in, .inr (5, [.ref a_in_words, .int i_in_room, .int i_in_used, .int i_in_held, .int i_in_many])), (a_in_words, .inl (cL, n_in_words, .inr (.inl v_in_words)))] H → va_D A [(a_this, .inr (0, [.ref a_in, .ref o_out, .ref o_counts, .ref o_codes, .ref o_tree, .ref o_writer, .ref o_reader, .ref o_streams, .int i_place])), (a_in, .inr (5, [.ref a_in_words, .int i_in_room, .int i_in_used, .int i_in_held, .int i_in_many])), (a_in_words, .inl (cL, n_in_words, .inr (.inl v_in_words)))] → va_S A s.heap H locs → W p l e R_PM_write s m args below meth c H locs 0 0 Q (F0 m 31 ls [])
def I_PM_write_b0 (p : Program) (l : Launch) (e : Env) (s : State) (m : MethodId) (args : Array Value) (below : List Frame) (meth : Method) (c : Code) (Q : State → Prop) (A : Nat → Prop) (D : va_G) (cI cL cZ : ClassId) (a_this : Nat) (a_in : Nat) (a_in_words : Nat) (o_out : Nat) (o_counts : Nat) (o_codes : Nat) (o_tree : Nat) (o_writer : Nat) (o_reader : Nat) (o_streams : Nat) (i_place : Int32) (i_in_room : Int32) (i_in_held : Int32) (i_in_many : Int32) (n_in_words : Nat) (l1 : Int64) (l3 : Int32) (res : Int32 × Int32 × (Nat → Int64)) (kf : Int32 → (Nat → Int64) → Option (Int32 × Int32 × (Nat → Int64))) : Prop := ∀ (i_in_used : Int32) (v_in_words : Nat → Int64), kf i_in_used v_in_words = some res → ∀ (H : Heap) (locs : List Loc) (ls : Array Slot), lv_has ls 5 [(0, .ref a_this), (1, .long l1), (3, .int l3)] → va_P D classes [(a_this, .inr (0, [.ref a_in, .ref o_out, .ref o_counts, .ref o_codes, .ref o_tree, .ref o_writer, .ref o_reader, .ref o_streams, .int i_place])), (a_in, .inr (5, [.ref a_in_words, .int i_in_room, .int i_in_used, .int i_in_held, .int i_in_many])), (a_in_words, .inl (cL, n_in_words, .inr (.inl v_in_words)))] H → va_D A [(a_this, .inr (0, [.ref a_in, .ref o_out, .ref o_counts, .ref o_codes, .ref o_tree, .ref o_writer, .ref o_reader, .ref o_streams, .int i_place])), (a_in, .inr (5, [.ref a_in_words, .int i_in_room, .int i_in_used, .int i_in_held, .int i_in_many])), (a_in_words, .inl (cL, n_in_words, .inr (.inl v_in_words)))] → va_S A s.heap H locs → W p l e R_PM_write s m args below meth c H locs 0 0 Q (F0 m 0 ls [])
set_option maxHeartbeats 4000000 in
set_option maxRecDepth 100000 in
theorem w_PM_write_b26 {p : Program} {l : Launch} {e : Env} {s : State} {m : MethodId} {args : Array Value} {below : List Frame} {meth : Method} {c : Code} {Q : State → Prop} {A : Nat → Prop} {D : va_G} {cI cL cZ : ClassId} {a_this : Nat} {a_in : Nat} {a_in_words : Nat} {o_out : Nat} {o_counts : Nat} {o_codes : Nat} {o_tree : Nat} {o_writer : Nat} {o_reader : Nat} {o_streams : Nat} {i_place : Int32} {i_in_room : Int32} {i_in_held : Int32} {i_in_many : Int32} {n_in_words : Nat} {l1 : Int64} {l3 : Int32} {N : Nat} {res : Int32 × Int32 × (Nat → Int64)}  (C : Cx p s m args c b_PM_write 5 "PrefixMill" D [(cI, .int), (cL, .long), (cZ, .boolean)] A) (hret : E_PM_write p l e s m args below meth c Q A D cI cL cZ a_this a_in a_in_words o_out o_counts o_codes o_tree o_writer o_reader o_streams i_place i_in_room i_in_held i_in_many n_in_words l1 l3 res)  : I_PM_write_b26 p l e s m args below meth c Q A D cI cL cZ a_this a_in a_in_words o_out o_counts o_codes o_tree o_writer o_reader o_streams i_place i_in_room i_in_held i_in_many n_in_words l1 l3 res (f_PM_write_b26 N i_in_room n_in_words l1 l3 ) := by
  obtain ⟨hx, hb, hml, hown, hts, hK, hA⟩ := C
  intro i_in_used v_in_words h H locs ls hl hP hD hS
  unfold f_PM_write_b26 at h
  refine lv_iconst (v := 0) hx hb d_PM_write_26 (by decide) ?_
  exact hret _ _ _ _ 0 i_in_used v_in_words h rfl d_PM_write_27 hP hD hS
set_option maxHeartbeats 4000000 in
set_option maxRecDepth 100000 in
theorem w_PM_write_b65 {p : Program} {l : Launch} {e : Env} {s : State} {m : MethodId} {args : Array Value} {below : List Frame} {meth : Method} {c : Code} {Q : State → Prop} {A : Nat → Prop} {D : va_G} {cI cL cZ : ClassId} {a_this : Nat} {a_in : Nat} {a_in_words : Nat} {o_out : Nat} {o_counts : Nat} {o_codes : Nat} {o_tree : Nat} {o_writer : Nat} {o_reader : Nat} {o_streams : Nat} {i_place : Int32} {i_in_room : Int32} {i_in_held : Int32} {i_in_many : Int32} {n_in_words : Nat} {l1 : Int64} {l3 : Int32} {N : Nat} {res : Int32 × Int32 × (Nat → Int64)}  (C : Cx p s m args c b_PM_write 5 "PrefixMill" D [(cI, .int), (cL, .long), (cZ, .boolean)] A) (hret : E_PM_write p l e s m args below meth c Q A D cI cL cZ a_this a_in a_in_words o_out o_counts o_codes o_tree o_writer o_reader o_streams i_place i_in_room i_in_held i_in_many n_in_words l1 l3 res)  : I_PM_write_b65 p l e s m args below meth c Q A D cI cL cZ a_this a_in a_in_words o_out o_counts o_codes o_tree o_writer o_reader o_streams i_place i_in_room i_in_held i_in_many n_in_words l1 l3 res (f_PM_write_b65 N i_in_room n_in_words l1 l3 ) := by
  obtain ⟨hx, hb, hml, hown, hts, hK, hA⟩ := C
  intro i_in_used v_in_words h H locs ls hl hP hD hS
  unfold f_PM_write_b65 at h
  refine lv_iconst (v := 1) hx hb d_PM_write_65 (by decide) ?_
  exact hret _ _ _ _ 1 i_in_used v_in_words h rfl d_PM_write_66 hP hD hS
set_option maxHeartbeats 4000000 in
set_option maxRecDepth 100000 in
theorem w_PM_write_b31 {p : Program} {l : Launch} {e : Env} {s : State} {m : MethodId} {args : Array Value} {below : List Frame} {meth : Method} {c : Code} {Q : State → Prop} {A : Nat → Prop} {D : va_G} {cI cL cZ : ClassId} {a_this : Nat} {a_in : Nat} {a_in_words : Nat} {o_out : Nat} {o_counts : Nat} {o_codes : Nat} {o_tree : Nat} {o_writer : Nat} {o_reader : Nat} {o_streams : Nat} {i_place : Int32} {i_in_room : Int32} {i_in_held : Int32} {i_in_many : Int32} {n_in_words : Nat} {l1 : Int64} {l3 : Int32} {N : Nat} {res : Int32 × Int32 × (Nat → Int64)}  (C : Cx p s m args c b_PM_write 5 "PrefixMill" D [(cI, .int), (cL, .long), (cZ, .boolean)] A) (hret : E_PM_write p l e s m args below meth c Q A D cI cL cZ a_this a_in a_in_words o_out o_counts o_codes o_tree o_writer o_reader o_streams i_place i_in_room i_in_held i_in_many n_in_words l1 l3 res)  : ∀ z : Nat, I_PM_write_b31 p l e s m args below meth c Q A D cI cL cZ a_this a_in a_in_words o_out o_counts o_codes o_tree o_writer o_reader o_streams i_place i_in_room i_in_held i_in_many n_in_words l1 l3 res (f_PM_write_b31 N i_in_room n_in_words l1 l3  z) := by
  obtain ⟨hx, hb, hml, hown, hts, hK, hA⟩ := C
  intro z
  induction z with
  | zero => intro l4 i_in_used v_in_words h; cases h
  | succ z ih =>
    intro l4 i_in_used v_in_words h H locs ls hl hP hD hS
    refine lv_iload hx hb d_PM_write_31 (lv_at hl 3 rfl) ?_
    refine lv_iload_n hx hb d_PM_write_33 rfl (lv_at hl 2 rfl) ?_
    refine lv_icmp_ge (tgt := 65) hx hb d_PM_write_34 (by decide) (fun c_1 => ?_) (fun c_1 => ?_)
    · replace h := if_t h c_1
      exact w_PM_write_b65 ⟨hx, hb, hml, hown, hts, hK, hA⟩ hret  _ _ h H locs ls (lv_sub hl [] rfl) hP hD hS
    · replace h := if_f h c_1
      refine lv_aload_n hx hb d_PM_write_37 rfl (lv_at hl 0 rfl) ?_
      refine va_get hx hb hts in_PM hown hK hP 0 rfl rfl 0 (by decide) (hts _ m_340) (fun _ h9 => h9) rfl d_PM_write_38 ?_
      refine lv_lload_n hx hb d_PM_write_41 rfl (lv_at hl 1 rfl) ?_
      refine lv_bipush (v := 56) hx hb d_PM_write_42 (by decide) ?_
      refine lv_bipush (v := 8) hx hb d_PM_write_44 (by decide) ?_
      refine lv_iload hx hb d_PM_write_46 (lv_at hl 3 rfl) ?_
      refine lv_imul hx hb d_PM_write_48 ?_
      refine lv_isub hx hb d_PM_write_49 ?_
      refine lv_lushr hx hb d_PM_write_50 rfl ?_
      refine lv_l2i hx hb d_PM_write_51 rfl ?_
      refine lv_sipush (v := 255) hx hb d_PM_write_52 (by decide) ?_
      refine lv_iand hx hb d_PM_write_55 ?_
      obtain ⟨i_in_used_2, v_in_words_3, hc_4, h⟩ := bd2_s h
      have hPc := hP.sub (ws' := [(a_in, .inr (5, [.ref a_in_words, .int i_in_room, .int i_in_used, .int i_in_held, .int i_in_many])), (a_in_words, .inl (cL, n_in_words, .inr (.inl v_in_words)))]) [1, 2] rfl
      have hDc := hD.sub (ws' := [(a_in, .inr (5, [.ref a_in_words, .int i_in_room, .int i_in_used, .int i_in_held, .int i_in_many])), (a_in_words, .inl (cL, n_in_words, .inr (.inl v_in_words)))]) [1, 2] (by decide) rfl
      have hFc := va_free (wc := [(a_in, .inr (5, [.ref a_in_words, .int i_in_room, .int i_in_used, .int i_in_held, .int i_in_many])), (a_in_words, .inl (cL, n_in_words, .inr (.inl v_in_words)))]) hD hS hA [1, 2] rfl
      refine va_callv (va_runV (As := [.int ((Int64.toInt32 ((Int64.toUInt64 l1 >>> (Int64.toUInt64 (Int32.toInt64 (56 - (8 * l4))) &&& Int64.toUInt64 63)).toInt64)) &&& 255)]) (rest := []) ⟨hx, hb, hml, hown, hts⟩ (c_Row_add l D cI cL cZ H.size N a_in a_in_words i_in_room i_in_used i_in_held i_in_many n_in_words v_in_words ((Int64.toInt32 ((Int64.toUInt64 l1 >>> (Int64.toUInt64 (Int32.toInt64 (56 - (8 * l4))) &&& Int64.toUInt64 63)).toInt64)) &&& 255) i_in_used_2 v_in_words_3 hc_4) ⟨(my_cb 1 hts m_375 rfl rfl (hts _ m_67) (hts _ m_372) (by decide +kernel) ⟨Nat.le_of_ble_eq_true rfl, Nat.le_of_ble_eq_true rfl⟩), hts _ m_373, hts _ m_374⟩ ⟨fun a U g mk q => by obtain ⟨q0, q1, qP, qK, qD⟩ := q; exact ⟨q0, q1, qP, va_K.moved (u := U) (U := U.calling g mk a) (Vm.Alike.refl U.vm) qK, qD⟩, va_recv hK hPc (ci := 5) (q0 := 0) rfl rfl, fun U hU hW => ⟨rfl, by rw [hU], by rw [hU]; exact hPc, va_K.moved hW.alike hK, hDc.weaken (fun _ _ _ _ => trivial)⟩⟩ rfl rfl hl.1 rfl (lv_room (Nat.le_of_ble_eq_true rfl)) d_PM_write_56 ⟨Nat.zero_le _, Nat.zero_le _⟩) hS (fun q _ h => hFc q h) hFc (fun u t H1 locs ht hvm hw hB hz1 hk1 hS => ?_)
      obtain ⟨hP1, hK1, hD1⟩ := hB
      rw [ht] at hP1
      obtain ⟨hP, hD⟩ := va_join (wr := [(a_this, .inr (0, [.ref a_in, .ref o_out, .ref o_counts, .ref o_codes, .ref o_tree, .ref o_writer, .ref o_reader, .ref o_streams, .int i_place]))]) (w1 := [(a_in, .inr (5, [.ref a_in_words, .int i_in_room, .int i_in_used_2, .int i_in_held, .int i_in_many])), (a_in_words, .inl (cL, n_in_words, .inr (.inl v_in_words_3)))]) hP hD [1, 2] [0] rfl rfl (by decide) (by decide) hk1 hFc hP1 hD1
      clear hPc hDc hFc hk1 hP1 hD1 hK1
      generalize H1 = H at hP hS ⊢
      have hP : va_P D classes [(a_this, .inr (0, [.ref a_in, .ref o_out, .ref o_counts, .ref o_codes, .ref o_tree, .ref o_writer, .ref o_reader, .ref o_streams, .int i_place])), (a_in, .inr (5, [.ref a_in_words, .int i_in_room, .int i_in_used_2, .int i_in_held, .int i_in_many])), (a_in_words, .inl (cL, n_in_words, .inr (.inl v_in_words_3)))] H := hP.sub [0, 1, 2] rfl
      have hD : va_D A [(a_this, .inr (0, [.ref a_in, .ref o_out, .ref o_counts, .ref o_codes, .ref o_tree, .ref o_writer, .ref o_reader, .ref o_streams, .int i_place])), (a_in, .inr (5, [.ref a_in_words, .int i_in_room, .int i_in_used_2, .int i_in_held, .int i_in_many])), (a_in_words, .inl (cL, n_in_words, .inr (.inl v_in_words_3)))] := hD.sub [0, 1, 2] (by decide) rfl
      obtain ⟨l4_5, el4_5⟩ : ∃ y : Int32, y = l4 + 1 := ⟨_, rfl⟩
      replace h := nm_s h el4_5
      refine lv_iinc (v := l4_5) (lv' := [(4, .int l4_5), (0, .ref a_this), (1, .long l1), (3, .int l3)]) hx hb d_PM_write_59 hl (k := 3) rfl (by rw [el4_5]; rfl) (by decide) rfl (fun ls hl => ?_)
      refine lv_goto (tgt := 31) hx hb d_PM_write_62 (by decide) ?_
      exact ih _ _ _ h H locs ls (lv_sub hl [1, 2, 3, 0] rfl) hP hD hS
set_option maxHeartbeats 4000000 in
set_option maxRecDepth 100000 in
theorem w_PM_write_b0 {p : Program} {l : Launch} {e : Env} {s : State} {m : MethodId} {args : Array Value} {below : List Frame} {meth : Method} {c : Code} {Q : State → Prop} {A : Nat → Prop} {D : va_G} {cI cL cZ : ClassId} {a_this : Nat} {a_in : Nat} {a_in_words : Nat} {o_out : Nat} {o_counts : Nat} {o_codes : Nat} {o_tree : Nat} {o_writer : Nat} {o_reader : Nat} {o_streams : Nat} {i_place : Int32} {i_in_room : Int32} {i_in_held : Int32} {i_in_many : Int32} {n_in_words : Nat} {l1 : Int64} {l3 : Int32} {N : Nat} {res : Int32 × Int32 × (Nat → Int64)}  (C : Cx p s m args c b_PM_write 5 "PrefixMill" D [(cI, .int), (cL, .long), (cZ, .boolean)] A) (hret : E_PM_write p l e s m args below meth c Q A D cI cL cZ a_this a_in a_in_words o_out o_counts o_codes o_tree o_writer o_reader o_streams i_place i_in_room i_in_held i_in_many n_in_words l1 l3 res)  : I_PM_write_b0 p l e s m args below meth c Q A D cI cL cZ a_this a_in a_in_words o_out o_counts o_codes o_tree o_writer o_reader o_streams i_place i_in_room i_in_held i_in_many n_in_words l1 l3 res (f_PM_write N i_in_room n_in_words l1 l3 ) := by
  obtain ⟨hx, hb, hml, hown, hts, hK, hA⟩ := C
  intro i_in_used v_in_words h H locs ls hl hP hD hS
  unfold f_PM_write at h
  refine lv_iload_n hx hb d_PM_write_0 rfl (lv_at hl 2 rfl) ?_
  refine lv_iconst (v := 1) hx hb d_PM_write_1 (by decide) ?_
  refine lv_icmp_lt (tgt := 26) hx hb d_PM_write_2 (by decide) (fun c_1 => ?_) (fun c_1 => ?_)
  · replace h := if_t h c_1
    exact w_PM_write_b26 ⟨hx, hb, hml, hown, hts, hK, hA⟩ hret  _ _ h H locs ls (lv_sub hl [] rfl) hP hD hS
  · replace h := if_f h c_1
    refine lv_iload_n hx hb d_PM_write_5 rfl (lv_at hl 2 rfl) ?_
    refine lv_bipush (v := 8) hx hb d_PM_write_6 (by decide) ?_
    refine lv_icmp_gt (tgt := 26) hx hb d_PM_write_8 (by decide) (fun c_2 => ?_) (fun c_2 => ?_)
    · replace h := if_t h c_2
      exact w_PM_write_b26 ⟨hx, hb, hml, hown, hts, hK, hA⟩ hret  _ _ h H locs ls (lv_sub hl [] rfl) hP hD hS
    · replace h := if_f h c_2
      refine lv_iload_n hx hb d_PM_write_11 rfl (lv_at hl 2 rfl) ?_
      refine lv_sipush (v := 6000) hx hb d_PM_write_12 (by decide) ?_
      refine lv_aload_n hx hb d_PM_write_15 rfl (lv_at hl 0 rfl) ?_
      refine va_get hx hb hts in_PM hown hK hP 0 rfl rfl 0 (by decide) (hts _ m_340) (fun _ h9 => h9) rfl d_PM_write_16 ?_
      refine va_getN hx hb hts in_Row hown hK hP 1 rfl rfl 2 (by decide) (hts _ m_97) (fun _ h9 => h9) rfl d_PM_write_19 ?_
      refine lv_isub hx hb d_PM_write_22 ?_
      refine lv_icmp_le (tgt := 28) hx hb d_PM_write_23 (by decide) (fun c_3 => ?_) (fun c_3 => ?_)
      · replace h := if_t h c_3
        refine lv_iconst (v := 0) hx hb d_PM_write_28 (by decide) ?_
        refine lv_istore (lv' := [(4, .int 0), (0, .ref a_this), (1, .long l1), (3, .int l3)]) hx hb d_PM_write_29 hl (by decide) rfl (fun ls hl => ?_)
        exact w_PM_write_b31 ⟨hx, hb, hml, hown, hts, hK, hA⟩ hret  N _ _ _ h H locs ls (lv_sub hl [1, 2, 3, 0] rfl) hP hD hS
      · replace h := if_f h c_3
        exact w_PM_write_b26 ⟨hx, hb, hml, hown, hts, hK, hA⟩ hret  _ _ h H locs ls (lv_sub hl [] rfl) hP hD hS
set_option maxHeartbeats 4000000 in
set_option maxRecDepth 100000 in
theorem c_PM_write (l : Launch) (D : va_G) (cI cL cZ : ClassId) (sz N : Nat) (a_this : Nat) (a_in : Nat) (a_in_words : Nat) (o_out : Nat) (o_counts : Nat) (o_codes : Nat) (o_tree : Nat) (o_writer : Nat) (o_reader : Nat) (o_streams : Nat) (i_place : Int32) (i_in_room : Int32) (i_in_used : Int32) (i_in_held : Int32) (i_in_many : Int32) (n_in_words : Nat) (v_in_words : Nat → Int64) (l1 : Int64) (l3 : Int32) (rv : Int32) (i_in_used' : Int32) (v_in_words' : Nat → Int64) (h : f_PM_write N i_in_room n_in_words l1 l3 i_in_used v_in_words = some (rv, i_in_used', v_in_words')) : Met l ({ cls := "PrefixMill", name := "write", desc := "(JI)Z" } : Jvm.MethodName) ws_PM_write R_PM_write (va_Pc [.ref a_this, .long l1, .int l3] (fun U => U.heap.size = sz ∧ va_P D classes [(a_this, .inr (0, [.ref a_in, .ref o_out, .ref o_counts, .ref o_codes, .ref o_tree, .ref o_writer, .ref o_reader, .ref o_streams, .int i_place])), (a_in, .inr (5, [.ref a_in_words, .int i_in_room, .int i_in_used, .int i_in_held, .int i_in_many])), (a_in_words, .inl (cL, n_in_words, .inr (.inl v_in_words)))] U.heap ∧ va_K D classes [(cI, .int), (cL, .long), (cZ, .boolean)] U ∧ va_D (fun _ => True) [(a_this, .inr (0, [.ref a_in, .ref o_out, .ref o_counts, .ref o_codes, .ref o_tree, .ref o_writer, .ref o_reader, .ref o_streams, .int i_place])), (a_in, .inr (5, [.ref a_in_words, .int i_in_room, .int i_in_used, .int i_in_held, .int i_in_many])), (a_in_words, .inl (cL, n_in_words, .inr (.inl v_in_words)))])) (va_Qi (fun (r0 : Int32) (_ : Unit) => rv = r0) (fun _ t => va_P D classes [(a_this, .inr (0, [.ref a_in, .ref o_out, .ref o_counts, .ref o_codes, .ref o_tree, .ref o_writer, .ref o_reader, .ref o_streams, .int i_place])), (a_in, .inr (5, [.ref a_in_words, .int i_in_room, .int i_in_used', .int i_in_held, .int i_in_many])), (a_in_words, .inl (cL, n_in_words, .inr (.inl v_in_words')))] t.heap ∧ va_K D classes [(cI, .int), (cL, .long), (cZ, .boolean)] t ∧ va_D (va_A [(a_this, .inr (0, [.ref a_in, .ref o_out, .ref o_counts, .ref o_codes, .ref o_tree, .ref o_writer, .ref o_reader, .ref o_streams, .int i_place])), (a_in, .inr (5, [.ref a_in_words, .int i_in_room, .int i_in_used, .int i_in_held, .int i_in_many])), (a_in_words, .inl (cL, n_in_words, .inr (.inl v_in_words)))] sz) [(a_this, .inr (0, [.ref a_in, .ref o_out, .ref o_counts, .ref o_codes, .ref o_tree, .ref o_writer, .ref o_reader, .ref o_streams, .int i_place])), (a_in, .inr (5, [.ref a_in_words, .int i_in_room, .int i_in_used', .int i_in_held, .int i_in_many])), (a_in_words, .inl (cL, n_in_words, .inr (.inl v_in_words')))]) (va_A [(a_this, .inr (0, [.ref a_in, .ref o_out, .ref o_counts, .ref o_codes, .ref o_tree, .ref o_writer, .ref o_reader, .ref o_streams, .int i_place])), (a_in, .inr (5, [.ref a_in_words, .int i_in_room, .int i_in_used, .int i_in_held, .int i_in_many])), (a_in_words, .inl (cL, n_in_words, .inr (.inl v_in_words)))] sz)) 0 0 (va_A [(a_this, .inr (0, [.ref a_in, .ref o_out, .ref o_counts, .ref o_codes, .ref o_tree, .ref o_writer, .ref o_reader, .ref o_streams, .int i_place])), (a_in, .inr (5, [.ref a_in_words, .int i_in_room, .int i_in_used, .int i_in_held, .int i_in_many])), (a_in_words, .inl (cL, n_in_words, .inr (.inl v_in_words)))] sz) := by
  refine Met.ofW (cc := b_PM_write) (maxL := 5) (ret := (some .boolean)) (by decide) rfl ?_
  intro p e s m args below meth c s₁ B hml hv
  obtain ⟨rfl, hsz, hP, hK, hD0⟩ := hv
  have hx := B.exec
  have hb := B.bytes
  have hr := B.returns
  have hts0 := atoms_spec (ws := ws_PM_write) B.pre
  have hts := gd_tl hts0
  clear hts0
  have hown : s.vm.findClass "PrefixMill" = some m.cls := findClass_of_methodNamed B.named
  have hlocks := B.notSynchronized
  subst hsz
  have hD := hD0.self (sz := s.heap.size)
  generalize hAe : va_A [(a_this, .inr (0, [.ref a_in, .ref o_out, .ref o_counts, .ref o_codes, .ref o_tree, .ref o_writer, .ref o_reader, .ref o_streams, .int i_place])), (a_in, .inr (5, [.ref a_in_words, .int i_in_room, .int i_in_used, .int i_in_held, .int i_in_many])), (a_in_words, .inl (cL, n_in_words, .inr (.inl v_in_words)))] s.heap.size = A at hD ⊢
  have hA : ∀ q : Nat, s.heap.size ≤ q → A q := fun q h => by rw [← hAe]; exact Or.inr h
  have hS : va_S A s.heap s.heap [] := va_S.rf
  have hP : va_P D classes [(a_this, .inr (0, [.ref a_in, .ref o_out, .ref o_counts, .ref o_codes, .ref o_tree, .ref o_writer, .ref o_reader, .ref o_streams, .int i_place])), (a_in, .inr (5, [.ref a_in_words, .int i_in_room, .int i_in_used, .int i_in_held, .int i_in_many])), (a_in_words, .inl (cL, n_in_words, .inr (.inl v_in_words)))] s.heap := hP
  have hl := lv_entry ([.ref a_this, .long l1, .int l3]) (n := 5) (Nat.le_of_ble_eq_true rfl)
  rw [lg_entry_eq]
  generalize (lg_sl ([.ref a_this, .long l1, .int l3]) ++ List.replicate (5 - (lg_sl ([.ref a_this, .long l1, .int l3])).length) Slot.unset).toArray = ls at hl ⊢
  have hl : lv_has ls 5 [(0, .ref a_this), (1, .long l1), (3, .int l3)] := hl
  have C : Cx p s m ([.ref a_this, .long l1, .int l3] : List Value).toArray c b_PM_write 5 "PrefixMill" D [(cI, .int), (cL, .long), (cZ, .boolean)] A := ⟨hx, hb, hml, hown, hts, hK, hA⟩
  refine w_PM_write_b0 (res := (rv, i_in_used', v_in_words')) C ?_ _ _ h s.heap [] ls hl hP hD hS
  intro pc9 H9 locs9 ls9 rv9 i_in_used9 v_in_words9 e9 z9 d9 hP9 hD9 hS9
  cases e9
  exact W.zret (v := rv) hx hb hr z9 (fun t ht hW => ⟨⟨rv, (), rfl, rfl, by rw [ht]; exact hP9, va_K.moved hW.alike hK, hD9⟩, hS9.F ht⟩) hS9.2.2 d9
abbrev b_Row_get : ByteArray := prog_5_method_4_code
def ws_Row_get : List Cond := .code ({ cls := "PrefixMill$Row", name := "get", desc := "(I)I" } : Jvm.MethodName) b_Row_get 2 (some .int) :: tt
theorem d_Row_get_0 : decode b_Row_get 0 = .ok (.iload_n 1, 1) := by decide +kernel
theorem d_Row_get_1 : decode b_Row_get 1 = .ok (.ifCond .lt 11, 3) := by decide +kernel
theorem d_Row_get_4 : decode b_Row_get 4 = .ok (.iload_n 1, 1) := by decide +kernel
theorem d_Row_get_5 : decode b_Row_get 5 = .ok (.aload_n 0, 1) := by decide +kernel
theorem d_Row_get_6 : decode b_Row_get 6 = .ok (.getfield 17, 3) := by decide +kernel
theorem d_Row_get_9 : decode b_Row_get 9 = .ok (.if_icmp .lt 5, 3) := by decide +kernel
theorem d_Row_get_12 : decode b_Row_get 12 = .ok (.iconst (-1), 1) := by decide +kernel
theorem d_Row_get_13 : decode b_Row_get 13 = .ok (.ireturn, 1) := by decide +kernel
theorem d_Row_get_14 : decode b_Row_get 14 = .ok (.aload_n 0, 1) := by decide +kernel
theorem d_Row_get_15 : decode b_Row_get 15 = .ok (.getfield 13, 3) := by decide +kernel
theorem d_Row_get_18 : decode b_Row_get 18 = .ok (.iload_n 1, 1) := by decide +kernel
theorem d_Row_get_19 : decode b_Row_get 19 = .ok (.iconst 3, 1) := by decide +kernel
theorem d_Row_get_20 : decode b_Row_get 20 = .ok (.ishr, 1) := by decide +kernel
theorem d_Row_get_21 : decode b_Row_get 21 = .ok (.laload, 1) := by decide +kernel
theorem d_Row_get_22 : decode b_Row_get 22 = .ok (.bipush 8, 2) := by decide +kernel
theorem d_Row_get_24 : decode b_Row_get 24 = .ok (.iload_n 1, 1) := by decide +kernel
theorem d_Row_get_25 : decode b_Row_get 25 = .ok (.bipush 7, 2) := by decide +kernel
theorem d_Row_get_27 : decode b_Row_get 27 = .ok (.iand, 1) := by decide +kernel
theorem d_Row_get_28 : decode b_Row_get 28 = .ok (.imul, 1) := by decide +kernel
theorem d_Row_get_29 : decode b_Row_get 29 = .ok (.lushr, 1) := by decide +kernel
theorem d_Row_get_30 : decode b_Row_get 30 = .ok (.l2i, 1) := by decide +kernel
theorem d_Row_get_31 : decode b_Row_get 31 = .ok (.sipush 255, 3) := by decide +kernel
theorem d_Row_get_34 : decode b_Row_get 34 = .ok (.iand, 1) := by decide +kernel
theorem d_Row_get_35 : decode b_Row_get 35 = .ok (.ireturn, 1) := by decide +kernel
abbrev R_Row_get : Room := ({ frames := 0, cells := 0, slots := 0, locals := 0 } : Room)
def E_Row_get (p : Program) (l : Launch) (e : Env) (s : State) (m : MethodId) (args : Array Value) (below : List Frame) (meth : Method) (c : Code) (Q : State → Prop) (A : Nat → Prop) (D : va_G) (cI cL cZ : ClassId) (a_this : Nat) (a_words : Nat) (i_room : Int32) (i_used : Int32) (i_held : Int32) (i_many : Int32) (n_words : Nat) (v_words : Nat → Int64) (l1 : Int32) (res : Int32) : Prop := ∀ (pc : Nat) (H : Heap) (locs : List Loc) (ls : Array Slot) (rv : Int32), some (rv) = some res → decode b_Row_get pc = .ok (.ireturn, 1) → va_P D classes [(a_this, .inr (5, [.ref a_words, .int i_room, .int i_used, .int i_held, .int i_many])), (a_words, .inl (cL, n_words, .inr (.inl v_words)))] H → va_D A [(a_this, .inr (5, [.ref a_words, .int i_room, .int i_used, .int i_held, .int i_many])), (a_words, .inl (cL, n_words, .inr (.inl v_words)))] → va_S A s.heap H locs → W p l e R_Row_get s m args below meth c H locs 0 0 Q (F0 m pc ls [.int rv])
def I_Row_get_b12 (p : Program) (l : Launch) (e : Env) (s : State) (m : MethodId) (args : Array Value) (below : List Frame) (meth : Method) (c : Code) (Q : State → Prop) (A : Nat → Prop) (D : va_G) (cI cL cZ : ClassId) (a_this : Nat) (a_words : Nat) (i_room : Int32) (i_used : Int32) (i_held : Int32) (i_many : Int32) (n_words : Nat) (v_words : Nat → Int64) (l1 : Int32) (res : Int32) (kf : Option (Int32)) : Prop := ∀ (_ : Unit), kf  = some res → ∀ (H : Heap) (locs : List Loc) (ls : Array Slot), lv_has ls 2 [] → va_P D classes [(a_this, .inr (5, [.ref a_words, .int i_room, .int i_used, .int i_held, .int i_many])), (a_words, .inl (cL, n_words, .inr (.inl v_words)))] H → va_D A [(a_this, .inr (5, [.ref a_words, .int i_room, .int i_used, .int i_held, .int i_many])), (a_words, .inl (cL, n_words, .inr (.inl v_words)))] → va_S A s.heap H locs → W p l e R_Row_get s m args below meth c H locs 0 0 Q (F0 m 12 ls [])
def I_Row_get_b0 (p : Program) (l : Launch) (e : Env) (s : State) (m : MethodId) (args : Array Value) (below : List Frame) (meth : Method) (c : Code) (Q : State → Prop) (A : Nat → Prop) (D : va_G) (cI cL cZ : ClassId) (a_this : Nat) (a_words : Nat) (i_room : Int32) (i_used : Int32) (i_held : Int32) (i_many : Int32) (n_words : Nat) (v_words : Nat → Int64) (l1 : Int32) (res : Int32) (kf : Option (Int32)) : Prop := ∀ (_ : Unit), kf  = some res → ∀ (H : Heap) (locs : List Loc) (ls : Array Slot), lv_has ls 2 [(0, .ref a_this), (1, .int l1)] → va_P D classes [(a_this, .inr (5, [.ref a_words, .int i_room, .int i_used, .int i_held, .int i_many])), (a_words, .inl (cL, n_words, .inr (.inl v_words)))] H → va_D A [(a_this, .inr (5, [.ref a_words, .int i_room, .int i_used, .int i_held, .int i_many])), (a_words, .inl (cL, n_words, .inr (.inl v_words)))] → va_S A s.heap H locs → W p l e R_Row_get s m args below meth c H locs 0 0 Q (F0 m 0 ls [])
set_option maxHeartbeats 4000000 in
set_option maxRecDepth 100000 in
theorem w_Row_get_b12 {p : Program} {l : Launch} {e : Env} {s : State} {m : MethodId} {args : Array Value} {below : List Frame} {meth : Method} {c : Code} {Q : State → Prop} {A : Nat → Prop} {D : va_G} {cI cL cZ : ClassId} {a_this : Nat} {a_words : Nat} {i_room : Int32} {i_used : Int32} {i_held : Int32} {i_many : Int32} {n_words : Nat} {v_words : Nat → Int64} {l1 : Int32} {N : Nat} {res : Int32}  (C : Cx p s m args c b_Row_get 2 "PrefixMill$Row" D [(cI, .int), (cL, .long), (cZ, .boolean)] A) (hret : E_Row_get p l e s m args below meth c Q A D cI cL cZ a_this a_words i_room i_used i_held i_many n_words v_words l1 res)  : I_Row_get_b12 p l e s m args below meth c Q A D cI cL cZ a_this a_words i_room i_used i_held i_many n_words v_words l1 res (f_Row_get_b12 N i_used n_words v_words l1 ) := by
  obtain ⟨hx, hb, hml, hown, hts, hK, hA⟩ := C
  intro _ h H locs ls hl hP hD hS
  unfold f_Row_get_b12 at h
  refine lv_iconst (v := (-1)) hx hb d_Row_get_12 (by decide) ?_
  exact hret _ _ _ _ (-1)  h d_Row_get_13 hP hD hS
set_option maxHeartbeats 4000000 in
set_option maxRecDepth 100000 in
theorem w_Row_get_b0 {p : Program} {l : Launch} {e : Env} {s : State} {m : MethodId} {args : Array Value} {below : List Frame} {meth : Method} {c : Code} {Q : State → Prop} {A : Nat → Prop} {D : va_G} {cI cL cZ : ClassId} {a_this : Nat} {a_words : Nat} {i_room : Int32} {i_used : Int32} {i_held : Int32} {i_many : Int32} {n_words : Nat} {v_words : Nat → Int64} {l1 : Int32} {N : Nat} {res : Int32}  (C : Cx p s m args c b_Row_get 2 "PrefixMill$Row" D [(cI, .int), (cL, .long), (cZ, .boolean)] A) (hret : E_Row_get p l e s m args below meth c Q A D cI cL cZ a_this a_words i_room i_used i_held i_many n_words v_words l1 res)  : I_Row_get_b0 p l e s m args below meth c Q A D cI cL cZ a_this a_words i_room i_used i_held i_many n_words v_words l1 res (f_Row_get N i_used n_words v_words l1 ) := by
  obtain ⟨hx, hb, hml, hown, hts, hK, hA⟩ := C
  intro _ h H locs ls hl hP hD hS
  unfold f_Row_get at h
  refine lv_iload_n hx hb d_Row_get_0 rfl (lv_at hl 1 rfl) ?_
  refine lv_if_lt (tgt := 12) hx hb d_Row_get_1 (by decide) (fun c_1 => ?_) (fun c_1 => ?_)
  · replace h := if_t h c_1
    exact w_Row_get_b12 ⟨hx, hb, hml, hown, hts, hK, hA⟩ hret  () h H locs ls (lv_sub hl [] rfl) hP hD hS
  · replace h := if_f h c_1
    refine lv_iload_n hx hb d_Row_get_4 rfl (lv_at hl 1 rfl) ?_
    refine lv_aload_n hx hb d_Row_get_5 rfl (lv_at hl 0 rfl) ?_
    refine va_get hx hb hts in_Row hown hK hP 0 rfl rfl 2 (by decide) (hts _ m_96) (fun _ h9 => h9) rfl d_Row_get_6 ?_
    refine lv_icmp_lt (tgt := 14) hx hb d_Row_get_9 (by decide) (fun c_2 => ?_) (fun c_2 => ?_)
    · replace h := if_t h c_2
      refine lv_aload_n hx hb d_Row_get_14 rfl (lv_at hl 0 rfl) ?_
      refine va_get hx hb hts in_Row hown hK hP 0 rfl rfl 0 (by decide) (hts _ m_94) (fun _ h9 => h9) rfl d_Row_get_15 ?_
      refine lv_iload_n hx hb d_Row_get_18 rfl (lv_at hl 1 rfl) ?_
      refine lv_iconst (v := 3) hx hb d_Row_get_19 (by decide) ?_
      refine lv_ishr hx hb d_Row_get_20 ?_
      obtain ⟨g_3, h⟩ := ck_s h
      refine va_lald hx hb hK hP 1 1 rfl rfl (inb_s g_3) d_Row_get_21 ?_
      refine lv_bipush (v := 8) hx hb d_Row_get_22 (by decide) ?_
      refine lv_iload_n hx hb d_Row_get_24 rfl (lv_at hl 1 rfl) ?_
      refine lv_bipush (v := 7) hx hb d_Row_get_25 (by decide) ?_
      refine lv_iand hx hb d_Row_get_27 ?_
      refine lv_imul hx hb d_Row_get_28 ?_
      refine lv_lushr hx hb d_Row_get_29 rfl ?_
      refine lv_l2i hx hb d_Row_get_30 rfl ?_
      refine lv_sipush (v := 255) hx hb d_Row_get_31 (by decide) ?_
      refine lv_iand hx hb d_Row_get_34 ?_
      exact hret _ _ _ _ ((Int64.toInt32 ((Int64.toUInt64 (v_words (Int32.toNatClampNeg (l1 >>> (3 &&& 31)))) >>> (Int64.toUInt64 (Int32.toInt64 (8 * (l1 &&& 7))) &&& Int64.toUInt64 63)).toInt64)) &&& 255)  h d_Row_get_35 hP hD hS
    · replace h := if_f h c_2
      exact w_Row_get_b12 ⟨hx, hb, hml, hown, hts, hK, hA⟩ hret  () h H locs ls (lv_sub hl [] rfl) hP hD hS
set_option maxHeartbeats 4000000 in
set_option maxRecDepth 100000 in
theorem c_Row_get (l : Launch) (D : va_G) (cI cL cZ : ClassId) (sz N : Nat) (a_this : Nat) (a_words : Nat) (i_room : Int32) (i_used : Int32) (i_held : Int32) (i_many : Int32) (n_words : Nat) (v_words : Nat → Int64) (l1 : Int32) (rv : Int32) (h : f_Row_get N i_used n_words v_words l1  = some (rv)) : Met l ({ cls := "PrefixMill$Row", name := "get", desc := "(I)I" } : Jvm.MethodName) ws_Row_get R_Row_get (va_Pc [.ref a_this, .int l1] (fun U => U.heap.size = sz ∧ va_P D classes [(a_this, .inr (5, [.ref a_words, .int i_room, .int i_used, .int i_held, .int i_many])), (a_words, .inl (cL, n_words, .inr (.inl v_words)))] U.heap ∧ va_K D classes [(cI, .int), (cL, .long), (cZ, .boolean)] U ∧ va_D (fun _ => True) [(a_this, .inr (5, [.ref a_words, .int i_room, .int i_used, .int i_held, .int i_many])), (a_words, .inl (cL, n_words, .inr (.inl v_words)))])) (va_Qi (fun (r0 : Int32) (_ : Unit) => rv = r0) (fun _ t => va_P D classes [(a_this, .inr (5, [.ref a_words, .int i_room, .int i_used, .int i_held, .int i_many])), (a_words, .inl (cL, n_words, .inr (.inl v_words)))] t.heap ∧ va_K D classes [(cI, .int), (cL, .long), (cZ, .boolean)] t ∧ va_D (va_A [(a_this, .inr (5, [.ref a_words, .int i_room, .int i_used, .int i_held, .int i_many])), (a_words, .inl (cL, n_words, .inr (.inl v_words)))] sz) [(a_this, .inr (5, [.ref a_words, .int i_room, .int i_used, .int i_held, .int i_many])), (a_words, .inl (cL, n_words, .inr (.inl v_words)))]) (va_A [(a_this, .inr (5, [.ref a_words, .int i_room, .int i_used, .int i_held, .int i_many])), (a_words, .inl (cL, n_words, .inr (.inl v_words)))] sz)) 0 0 (va_A [(a_this, .inr (5, [.ref a_words, .int i_room, .int i_used, .int i_held, .int i_many])), (a_words, .inl (cL, n_words, .inr (.inl v_words)))] sz) := by
  refine Met.ofW (cc := b_Row_get) (maxL := 2) (ret := (some .int)) (by decide) rfl ?_
  intro p e s m args below meth c s₁ B hml hv
  obtain ⟨rfl, hsz, hP, hK, hD0⟩ := hv
  have hx := B.exec
  have hb := B.bytes
  have hr := B.returns
  have hts0 := atoms_spec (ws := ws_Row_get) B.pre
  have hts := gd_tl hts0
  clear hts0
  have hown : s.vm.findClass "PrefixMill$Row" = some m.cls := findClass_of_methodNamed B.named
  have hlocks := B.notSynchronized
  subst hsz
  have hD := hD0.self (sz := s.heap.size)
  generalize hAe : va_A [(a_this, .inr (5, [.ref a_words, .int i_room, .int i_used, .int i_held, .int i_many])), (a_words, .inl (cL, n_words, .inr (.inl v_words)))] s.heap.size = A at hD ⊢
  have hA : ∀ q : Nat, s.heap.size ≤ q → A q := fun q h => by rw [← hAe]; exact Or.inr h
  have hS : va_S A s.heap s.heap [] := va_S.rf
  have hP : va_P D classes [(a_this, .inr (5, [.ref a_words, .int i_room, .int i_used, .int i_held, .int i_many])), (a_words, .inl (cL, n_words, .inr (.inl v_words)))] s.heap := hP
  have hl := lv_entry ([.ref a_this, .int l1]) (n := 2) (Nat.le_of_ble_eq_true rfl)
  rw [lg_entry_eq]
  generalize (lg_sl ([.ref a_this, .int l1]) ++ List.replicate (2 - (lg_sl ([.ref a_this, .int l1])).length) Slot.unset).toArray = ls at hl ⊢
  have hl : lv_has ls 2 [(0, .ref a_this), (1, .int l1)] := hl
  have C : Cx p s m ([.ref a_this, .int l1] : List Value).toArray c b_Row_get 2 "PrefixMill$Row" D [(cI, .int), (cL, .long), (cZ, .boolean)] A := ⟨hx, hb, hml, hown, hts, hK, hA⟩
  refine w_Row_get_b0 (res := (rv)) C ?_ () h s.heap [] ls hl hP hD hS
  intro pc9 H9 locs9 ls9 rv9 e9 d9 hP9 hD9 hS9
  cases e9
  exact W.iret (v := rv) hx hb hr (fun t ht hW => ⟨⟨rv, (), rfl, rfl, by rw [ht]; exact hP9, va_K.moved hW.alike hK, hD9⟩, hS9.F ht⟩) hS9.2.2 d9
abbrev b_PM_again : ByteArray := prog_1_method_3_code
def ws_PM_again : List Cond := .code ({ cls := "PrefixMill", name := "again", desc := "(II)Z" } : Jvm.MethodName) b_PM_again 5 (some .boolean) :: tt
theorem d_PM_again_0 : decode b_PM_again 0 = .ok (.iload_n 1, 1) := by decide +kernel
theorem d_PM_again_1 : decode b_PM_again 1 = .ok (.iconst 1, 1) := by decide +kernel
theorem d_PM_again_2 : decode b_PM_again 2 = .ok (.if_icmp .lt 39, 3) := by decide +kernel
theorem d_PM_again_5 : decode b_PM_again 5 = .ok (.iload_n 1, 1) := by decide +kernel
theorem d_PM_again_6 : decode b_PM_again 6 = .ok (.aload_n 0, 1) := by decide +kernel
theorem d_PM_again_7 : decode b_PM_again 7 = .ok (.getfield 14, 3) := by decide +kernel
theorem d_PM_again_10 : decode b_PM_again 10 = .ok (.getfield 64, 3) := by decide +kernel
theorem d_PM_again_13 : decode b_PM_again 13 = .ok (.if_icmp .gt 28, 3) := by decide +kernel
theorem d_PM_again_16 : decode b_PM_again 16 = .ok (.iload_n 2, 1) := by decide +kernel
theorem d_PM_again_17 : decode b_PM_again 17 = .ok (.ifCond .lt 24, 3) := by decide +kernel
theorem d_PM_again_20 : decode b_PM_again 20 = .ok (.iload_n 1, 1) := by decide +kernel
theorem d_PM_again_21 : decode b_PM_again 21 = .ok (.i2l, 1) := by decide +kernel
theorem d_PM_again_22 : decode b_PM_again 22 = .ok (.iload_n 2, 1) := by decide +kernel
theorem d_PM_again_23 : decode b_PM_again 23 = .ok (.i2l, 1) := by decide +kernel
theorem d_PM_again_24 : decode b_PM_again 24 = .ok (.lmul, 1) := by decide +kernel
theorem d_PM_again_25 : decode b_PM_again 25 = .ok (.sipush 6000, 3) := by decide +kernel
theorem d_PM_again_28 : decode b_PM_again 28 = .ok (.aload_n 0, 1) := by decide +kernel
theorem d_PM_again_29 : decode b_PM_again 29 = .ok (.getfield 14, 3) := by decide +kernel
theorem d_PM_again_32 : decode b_PM_again 32 = .ok (.getfield 64, 3) := by decide +kernel
theorem d_PM_again_35 : decode b_PM_again 35 = .ok (.isub, 1) := by decide +kernel
theorem d_PM_again_36 : decode b_PM_again 36 = .ok (.i2l, 1) := by decide +kernel
theorem d_PM_again_37 : decode b_PM_again 37 = .ok (.lcmp, 1) := by decide +kernel
theorem d_PM_again_38 : decode b_PM_again 38 = .ok (.ifCond .le 5, 3) := by decide +kernel
theorem d_PM_again_41 : decode b_PM_again 41 = .ok (.iconst 0, 1) := by decide +kernel
theorem d_PM_again_42 : decode b_PM_again 42 = .ok (.ireturn, 1) := by decide +kernel
theorem d_PM_again_43 : decode b_PM_again 43 = .ok (.iload_n 1, 1) := by decide +kernel
theorem d_PM_again_44 : decode b_PM_again 44 = .ok (.iload_n 2, 1) := by decide +kernel
theorem d_PM_again_45 : decode b_PM_again 45 = .ok (.imul, 1) := by decide +kernel
theorem d_PM_again_46 : decode b_PM_again 46 = .ok (.istore_n 3, 1) := by decide +kernel
theorem d_PM_again_47 : decode b_PM_again 47 = .ok (.iconst 0, 1) := by decide +kernel
theorem d_PM_again_48 : decode b_PM_again 48 = .ok (.istore 4, 2) := by decide +kernel
theorem d_PM_again_50 : decode b_PM_again 50 = .ok (.iload 4, 2) := by decide +kernel
theorem d_PM_again_52 : decode b_PM_again 52 = .ok (.iload_n 3, 1) := by decide +kernel
theorem d_PM_again_53 : decode b_PM_again 53 = .ok (.if_icmp .ge 32, 3) := by decide +kernel
theorem d_PM_again_56 : decode b_PM_again 56 = .ok (.aload_n 0, 1) := by decide +kernel
theorem d_PM_again_57 : decode b_PM_again 57 = .ok (.getfield 14, 3) := by decide +kernel
theorem d_PM_again_60 : decode b_PM_again 60 = .ok (.aload_n 0, 1) := by decide +kernel
theorem d_PM_again_61 : decode b_PM_again 61 = .ok (.getfield 14, 3) := by decide +kernel
theorem d_PM_again_64 : decode b_PM_again 64 = .ok (.aload_n 0, 1) := by decide +kernel
theorem d_PM_again_65 : decode b_PM_again 65 = .ok (.getfield 14, 3) := by decide +kernel
theorem d_PM_again_68 : decode b_PM_again 68 = .ok (.getfield 64, 3) := by decide +kernel
theorem d_PM_again_71 : decode b_PM_again 71 = .ok (.iload_n 1, 1) := by decide +kernel
theorem d_PM_again_72 : decode b_PM_again 72 = .ok (.isub, 1) := by decide +kernel
theorem d_PM_again_73 : decode b_PM_again 73 = .ok (.invokevirtual 70, 3) := by decide +kernel
theorem d_PM_again_76 : decode b_PM_again 76 = .ok (.invokevirtual 67, 3) := by decide +kernel
theorem d_PM_again_79 : decode b_PM_again 79 = .ok (.iinc 4 1, 3) := by decide +kernel
theorem d_PM_again_82 : decode b_PM_again 82 = .ok (.goto (-32), 3) := by decide +kernel
theorem d_PM_again_85 : decode b_PM_again 85 = .ok (.iconst 1, 1) := by decide +kernel
theorem d_PM_again_86 : decode b_PM_again 86 = .ok (.ireturn, 1) := by decide +kernel
abbrev R_PM_again : Room := ({ frames := 1, cells := 0, slots := 0, locals := 23 } : Room)
def E_PM_again (p : Program) (l : Launch) (e : Env) (s : State) (m : MethodId) (args : Array Value) (below : List Frame) (meth : Method) (c : Code) (Q : State → Prop) (A : Nat → Prop) (D : va_G) (cI cL cZ : ClassId) (a_this : Nat) (a_in : Nat) (a_in_words : Nat) (o_out : Nat) (o_counts : Nat) (o_codes : Nat) (o_tree : Nat) (o_writer : Nat) (o_reader : Nat) (o_streams : Nat) (i_place : Int32) (i_in_room : Int32) (i_in_held : Int32) (i_in_many : Int32) (n_in_words : Nat) (l1 : Int32) (l2 : Int32) (res : Int32 × Int32 × (Nat → Int64)) : Prop := ∀ (pc : Nat) (H : Heap) (locs : List Loc) (ls : Array Slot) (rv : Int32) (i_in_used : Int32) (v_in_words : Nat → Int64), some (rv, i_in_used, v_in_words) = some res → narrow .boolean (.int rv) = .int rv → decode b_PM_again pc = .ok (.ireturn, 1) → va_P D classes [(a_this, .inr (0, [.ref a_in, .ref o_out, .ref o_counts, .ref o_codes, .ref o_tree, .ref o_writer, .ref o_reader, .ref o_streams, .int i_place])), (a_in, .inr (5, [.ref a_in_words, .int i_in_room, .int i_in_used, .int i_in_held, .int i_in_many])), (a_in_words, .inl (cL, n_in_words, .inr (.inl v_in_words)))] H → va_D A [(a_this, .inr (0, [.ref a_in, .ref o_out, .ref o_counts, .ref o_codes, .ref o_tree, .ref o_writer, .ref o_reader, .ref o_streams, .int i_place])), (a_in, .inr (5, [.ref a_in_words, .int i_in_room, .int i_in_used, .int i_in_held, .int i_in_many])), (a_in_words, .inl (cL, n_in_words, .inr (.inl v_in_words)))] → va_S A s.heap H locs → W p l e R_PM_again s m args below meth c H locs 0 0 Q (F0 m pc ls [.int rv])
def I_PM_again_b41 (p : Program) (l : Launch) (e : Env) (s : State) (m : MethodId) (args : Array Value) (below : List Frame) (meth : Method) (c : Code) (Q : State → Prop) (A : Nat → Prop) (D : va_G) (cI cL cZ : ClassId) (a_this : Nat) (a_in : Nat) (a_in_words : Nat) (o_out : Nat) (o_counts : Nat) (o_codes : Nat) (o_tree : Nat) (o_writer : Nat) (o_reader : Nat) (o_streams : Nat) (i_place : Int32) (i_in_room : Int32) (i_in_held : Int32) (i_in_many : Int32) (n_in_words : Nat) (l1 : Int32) (l2 : Int32) (res : Int32 × Int32 × (Nat → Int64)) (kf : Int32 → (Nat → Int64) → Option (Int32 × Int32 × (Nat → Int64))) : Prop := ∀ (i_in_used : Int32) (v_in_words : Nat → Int64), kf i_in_used v_in_words = some res → ∀ (H : Heap) (locs : List Loc) (ls : Array Slot), lv_has ls 5 [] → va_P D classes [(a_this, .inr (0, [.ref a_in, .ref o_out, .ref o_counts, .ref o_codes, .ref o_tree, .ref o_writer, .ref o_reader, .ref o_streams, .int i_place])), (a_in, .inr (5, [.ref a_in_words, .int i_in_room, .int i_in_used, .int i_in_held, .int i_in_many])), (a_in_words, .inl (cL, n_in_words, .inr (.inl v_in_words)))] H → va_D A [(a_this, .inr (0, [.ref a_in, .ref o_out, .ref o_counts, .ref o_codes, .ref o_tree, .ref o_writer, .ref o_reader, .ref o_streams, .int i_place])), (a_in, .inr (5, [.ref a_in_words, .int i_in_room, .int i_in_used, .int i_in_held, .int i_in_many])), (a_in_words, .inl (cL, n_in_words, .inr (.inl v_in_words)))] → va_S A s.heap H locs → W p l e R_PM_again s m args below meth c H locs 0 0 Q (F0 m 41 ls [])
def I_PM_again_b85 (p : Program) (l : Launch) (e : Env) (s : State) (m : MethodId) (args : Array Value) (below : List Frame) (meth : Method) (c : Code) (Q : State → Prop) (A : Nat → Prop) (D : va_G) (cI cL cZ : ClassId) (a_this : Nat) (a_in : Nat) (a_in_words : Nat) (o_out : Nat) (o_counts : Nat) (o_codes : Nat) (o_tree : Nat) (o_writer : Nat) (o_reader : Nat) (o_streams : Nat) (i_place : Int32) (i_in_room : Int32) (i_in_held : Int32) (i_in_many : Int32) (n_in_words : Nat) (l1 : Int32) (l2 : Int32) (res : Int32 × Int32 × (Nat → Int64)) (kf : Int32 → (Nat → Int64) → Option (Int32 × Int32 × (Nat → Int64))) : Prop := ∀ (i_in_used : Int32) (v_in_words : Nat → Int64), kf i_in_used v_in_words = some res → ∀ (H : Heap) (locs : List Loc) (ls : Array Slot), lv_has ls 5 [] → va_P D classes [(a_this, .inr (0, [.ref a_in, .ref o_out, .ref o_counts, .ref o_codes, .ref o_tree, .ref o_writer, .ref o_reader, .ref o_streams, .int i_place])), (a_in, .inr (5, [.ref a_in_words, .int i_in_room, .int i_in_used, .int i_in_held, .int i_in_many])), (a_in_words, .inl (cL, n_in_words, .inr (.inl v_in_words)))] H → va_D A [(a_this, .inr (0, [.ref a_in, .ref o_out, .ref o_counts, .ref o_codes, .ref o_tree, .ref o_writer, .ref o_reader, .ref o_streams, .int i_place])), (a_in, .inr (5, [.ref a_in_words, .int i_in_room, .int i_in_used, .int i_in_held, .int i_in_many])), (a_in_words, .inl (cL, n_in_words, .inr (.inl v_in_words)))] → va_S A s.heap H locs → W p l e R_PM_again s m args below meth c H locs 0 0 Q (F0 m 85 ls [])
def I_PM_again_b50 (p : Program) (l : Launch) (e : Env) (s : State) (m : MethodId) (args : Array Value) (below : List Frame) (meth : Method) (c : Code) (Q : State → Prop) (A : Nat → Prop) (D : va_G) (cI cL cZ : ClassId) (a_this : Nat) (a_in : Nat) (a_in_words : Nat) (o_out : Nat) (o_counts : Nat) (o_codes : Nat) (o_tree : Nat) (o_writer : Nat) (o_reader : Nat) (o_streams : Nat) (i_place : Int32) (i_in_room : Int32) (i_in_held : Int32) (i_in_many : Int32) (n_in_words : Nat) (l1 : Int32) (l2 : Int32) (res : Int32 × Int32 × (Nat → Int64)) (kf : Int32 → Int32 → Int32 → (Nat → Int64) → Option (Int32 × Int32 × (Nat → Int64))) : Prop := ∀ (l3 : Int32) (l4 : Int32) (i_in_used : Int32) (v_in_words : Nat → Int64), kf l3 l4 i_in_used v_in_words = some res → ∀ (H : Heap) (locs : List Loc) (ls : Array Slot), lv_has ls 5 [(0, .ref a_this), (1, .int l1), (3, .int l3), (4, .int l4)] → va_P D classes [(a_this, .inr (0, [.ref a_in, .ref o_out, .ref o_counts, .ref o_codes, .ref o_tree, .ref o_writer, .ref o_reader, .ref o_streams, .int i_place])), (a_in, .inr (5, [.ref a_in_words, .int i_in_room, .int i_in_used, .int i_in_held, .int i_in_many])), (a_in_words, .inl (cL, n_in_words, .inr (.inl v_in_words)))] H → va_D A [(a_this, .inr (0, [.ref a_in, .ref o_out, .ref o_counts, .ref o_codes, .ref o_tree, .ref o_writer, .ref o_reader, .ref o_streams, .int i_place])), (a_in, .inr (5, [.ref a_in_words, .int i_in_room, .int i_in_used, .int i_in_held, .int i_in_many])), (a_in_words, .inl (cL, n_in_words, .inr (.inl v_in_words)))] → va_S A s.heap H locs → W p l e R_PM_again s m args below meth c H locs 0 0 Q (F0 m 50 ls [])
def I_PM_again_b0 (p : Program) (l : Launch) (e : Env) (s : State) (m : MethodId) (args : Array Value) (below : List Frame) (meth : Method) (c : Code) (Q : State → Prop) (A : Nat → Prop) (D : va_G) (cI cL cZ : ClassId) (a_this : Nat) (a_in : Nat) (a_in_words : Nat) (o_out : Nat) (o_counts : Nat) (o_codes : Nat) (o_tree : Nat) (o_writer : Nat) (o_reader : Nat) (o_streams : Nat) (i_place : Int32) (i_in_room : Int32) (i_in_held : Int32) (i_in_many : Int32) (n_in_words : Nat) (l1 : Int32) (l2 : Int32) (res : Int32 × Int32 × (Nat → Int64)) (kf : Int32 → (Nat → Int64) → Option (Int32 × Int32 × (Nat → Int64))) : Prop := ∀ (i_in_used : Int32) (v_in_words : Nat → Int64), kf i_in_used v_in_words = some res → ∀ (H : Heap) (locs : List Loc) (ls : Array Slot), lv_has ls 5 [(0, .ref a_this), (1, .int l1), (2, .int l2)] → va_P D classes [(a_this, .inr (0, [.ref a_in, .ref o_out, .ref o_counts, .ref o_codes, .ref o_tree, .ref o_writer, .ref o_reader, .ref o_streams, .int i_place])), (a_in, .inr (5, [.ref a_in_words, .int i_in_room, .int i_in_used, .int i_in_held, .int i_in_many])), (a_in_words, .inl (cL, n_in_words, .inr (.inl v_in_words)))] H → va_D A [(a_this, .inr (0, [.ref a_in, .ref o_out, .ref o_counts, .ref o_codes, .ref o_tree, .ref o_writer, .ref o_reader, .ref o_streams, .int i_place])), (a_in, .inr (5, [.ref a_in_words, .int i_in_room, .int i_in_used, .int i_in_held, .int i_in_many])), (a_in_words, .inl (cL, n_in_words, .inr (.inl v_in_words)))] → va_S A s.heap H locs → W p l e R_PM_again s m args below meth c H locs 0 0 Q (F0 m 0 ls [])
set_option maxHeartbeats 4000000 in
set_option maxRecDepth 100000 in
theorem w_PM_again_b41 {p : Program} {l : Launch} {e : Env} {s : State} {m : MethodId} {args : Array Value} {below : List Frame} {meth : Method} {c : Code} {Q : State → Prop} {A : Nat → Prop} {D : va_G} {cI cL cZ : ClassId} {a_this : Nat} {a_in : Nat} {a_in_words : Nat} {o_out : Nat} {o_counts : Nat} {o_codes : Nat} {o_tree : Nat} {o_writer : Nat} {o_reader : Nat} {o_streams : Nat} {i_place : Int32} {i_in_room : Int32} {i_in_held : Int32} {i_in_many : Int32} {n_in_words : Nat} {l1 : Int32} {l2 : Int32} {N : Nat} {res : Int32 × Int32 × (Nat → Int64)}  (C : Cx p s m args c b_PM_again 5 "PrefixMill" D [(cI, .int), (cL, .long), (cZ, .boolean)] A) (hret : E_PM_again p l e s m args below meth c Q A D cI cL cZ a_this a_in a_in_words o_out o_counts o_codes o_tree o_writer o_reader o_streams i_place i_in_room i_in_held i_in_many n_in_words l1 l2 res)  : I_PM_again_b41 p l e s m args below meth c Q A D cI cL cZ a_this a_in a_in_words o_out o_counts o_codes o_tree o_writer o_reader o_streams i_place i_in_room i_in_held i_in_many n_in_words l1 l2 res (f_PM_again_b41 N i_in_room n_in_words l1 l2 ) := by
  obtain ⟨hx, hb, hml, hown, hts, hK, hA⟩ := C
  intro i_in_used v_in_words h H locs ls hl hP hD hS
  unfold f_PM_again_b41 at h
  refine lv_iconst (v := 0) hx hb d_PM_again_41 (by decide) ?_
  exact hret _ _ _ _ 0 i_in_used v_in_words h rfl d_PM_again_42 hP hD hS
set_option maxHeartbeats 4000000 in
set_option maxRecDepth 100000 in
theorem w_PM_again_b85 {p : Program} {l : Launch} {e : Env} {s : State} {m : MethodId} {args : Array Value} {below : List Frame} {meth : Method} {c : Code} {Q : State → Prop} {A : Nat → Prop} {D : va_G} {cI cL cZ : ClassId} {a_this : Nat} {a_in : Nat} {a_in_words : Nat} {o_out : Nat} {o_counts : Nat} {o_codes : Nat} {o_tree : Nat} {o_writer : Nat} {o_reader : Nat} {o_streams : Nat} {i_place : Int32} {i_in_room : Int32} {i_in_held : Int32} {i_in_many : Int32} {n_in_words : Nat} {l1 : Int32} {l2 : Int32} {N : Nat} {res : Int32 × Int32 × (Nat → Int64)}  (C : Cx p s m args c b_PM_again 5 "PrefixMill" D [(cI, .int), (cL, .long), (cZ, .boolean)] A) (hret : E_PM_again p l e s m args below meth c Q A D cI cL cZ a_this a_in a_in_words o_out o_counts o_codes o_tree o_writer o_reader o_streams i_place i_in_room i_in_held i_in_many n_in_words l1 l2 res)  : I_PM_again_b85 p l e s m args below meth c Q A D cI cL cZ a_this a_in a_in_words o_out o_counts o_codes o_tree o_writer o_reader o_streams i_place i_in_room i_in_held i_in_many n_in_words l1 l2 res (f_PM_again_b85 N i_in_room n_in_words l1 l2 ) := by
  obtain ⟨hx, hb, hml, hown, hts, hK, hA⟩ := C
  intro i_in_used v_in_words h H locs ls hl hP hD hS
  unfold f_PM_again_b85 at h
  refine lv_iconst (v := 1) hx hb d_PM_again_85 (by decide) ?_
  exact hret _ _ _ _ 1 i_in_used v_in_words h rfl d_PM_again_86 hP hD hS
set_option maxHeartbeats 4000000 in
set_option maxRecDepth 100000 in
theorem w_PM_again_b50 {p : Program} {l : Launch} {e : Env} {s : State} {m : MethodId} {args : Array Value} {below : List Frame} {meth : Method} {c : Code} {Q : State → Prop} {A : Nat → Prop} {D : va_G} {cI cL cZ : ClassId} {a_this : Nat} {a_in : Nat} {a_in_words : Nat} {o_out : Nat} {o_counts : Nat} {o_codes : Nat} {o_tree : Nat} {o_writer : Nat} {o_reader : Nat} {o_streams : Nat} {i_place : Int32} {i_in_room : Int32} {i_in_held : Int32} {i_in_many : Int32} {n_in_words : Nat} {l1 : Int32} {l2 : Int32} {N : Nat} {res : Int32 × Int32 × (Nat → Int64)}  (C : Cx p s m args c b_PM_again 5 "PrefixMill" D [(cI, .int), (cL, .long), (cZ, .boolean)] A) (hret : E_PM_again p l e s m args below meth c Q A D cI cL cZ a_this a_in a_in_words o_out o_counts o_codes o_tree o_writer o_reader o_streams i_place i_in_room i_in_held i_in_many n_in_words l1 l2 res)  : ∀ z : Nat, I_PM_again_b50 p l e s m args below meth c Q A D cI cL cZ a_this a_in a_in_words o_out o_counts o_codes o_tree o_writer o_reader o_streams i_place i_in_room i_in_held i_in_many n_in_words l1 l2 res (f_PM_again_b50 N i_in_room n_in_words l1 l2  z) := by
  obtain ⟨hx, hb, hml, hown, hts, hK, hA⟩ := C
  intro z
  induction z with
  | zero => intro l3 l4 i_in_used v_in_words h; cases h
  | succ z ih =>
    intro l3 l4 i_in_used v_in_words h H locs ls hl hP hD hS
    refine lv_iload hx hb d_PM_again_50 (lv_at hl 3 rfl) ?_
    refine lv_iload_n hx hb d_PM_again_52 rfl (lv_at hl 2 rfl) ?_
    refine lv_icmp_ge (tgt := 85) hx hb d_PM_again_53 (by decide) (fun c_1 => ?_) (fun c_1 => ?_)
    · replace h := if_t h c_1
      exact w_PM_again_b85 ⟨hx, hb, hml, hown, hts, hK, hA⟩ hret  _ _ h H locs ls (lv_sub hl [] rfl) hP hD hS
    · replace h := if_f h c_1
      refine lv_aload_n hx hb d_PM_again_56 rfl (lv_at hl 0 rfl) ?_
      refine va_get hx hb hts in_PM hown hK hP 0 rfl rfl 0 (by decide) (hts _ m_340) (fun _ h9 => h9) rfl d_PM_again_57 ?_
      refine lv_aload_n hx hb d_PM_again_60 rfl (lv_at hl 0 rfl) ?_
      refine va_get hx hb hts in_PM hown hK hP 0 rfl rfl 0 (by decide) (hts _ m_340) (fun _ h9 => h9) rfl d_PM_again_61 ?_
      refine lv_aload_n hx hb d_PM_again_64 rfl (lv_at hl 0 rfl) ?_
      refine va_get hx hb hts in_PM hown hK hP 0 rfl rfl 0 (by decide) (hts _ m_340) (fun _ h9 => h9) rfl d_PM_again_65 ?_
      refine va_getN hx hb hts in_Row hown hK hP 1 rfl rfl 2 (by decide) (hts _ m_97) (fun _ h9 => h9) rfl d_PM_again_68 ?_
      refine lv_iload_n hx hb d_PM_again_71 rfl (lv_at hl 1 rfl) ?_
      refine lv_isub hx hb d_PM_again_72 ?_
      obtain ⟨r_2, hc_3, h⟩ := bd1_s h
      have hPc := hP.sub (ws' := [(a_in, .inr (5, [.ref a_in_words, .int i_in_room, .int i_in_used, .int i_in_held, .int i_in_many])), (a_in_words, .inl (cL, n_in_words, .inr (.inl v_in_words)))]) [1, 2] rfl
      have hDc := hD.sub (ws' := [(a_in, .inr (5, [.ref a_in_words, .int i_in_room, .int i_in_used, .int i_in_held, .int i_in_many])), (a_in_words, .inl (cL, n_in_words, .inr (.inl v_in_words)))]) [1, 2] (by decide) rfl
      have hFc := va_free (wc := [(a_in, .inr (5, [.ref a_in_words, .int i_in_room, .int i_in_used, .int i_in_held, .int i_in_many])), (a_in_words, .inl (cL, n_in_words, .inr (.inl v_in_words)))]) hD hS hA [1, 2] rfl
      refine va_calli (va_runV (As := [.int (i_in_used - l1)]) (rest := [.ref a_in]) ⟨hx, hb, hml, hown, hts⟩ (c_Row_get l D cI cL cZ H.size N a_in a_in_words i_in_room i_in_used i_in_held i_in_many n_in_words v_in_words (i_in_used - l1) r_2 hc_3) ⟨(my_cb 1 hts m_385 rfl rfl (hts _ m_67) (hts _ m_382) (by decide +kernel) ⟨Nat.le_of_ble_eq_true rfl, Nat.le_of_ble_eq_true rfl⟩), hts _ m_383, hts _ m_384⟩ ⟨fun a U g mk q => by obtain ⟨q0, q1, qP, qK, qD⟩ := q; exact ⟨q0, q1, qP, va_K.moved (u := U) (U := U.calling g mk a) (Vm.Alike.refl U.vm) qK, qD⟩, va_recv hK hPc (ci := 5) (q0 := 0) rfl rfl, fun U hU hW => ⟨rfl, by rw [hU], by rw [hU]; exact hPc, va_K.moved hW.alike hK, hDc.weaken (fun _ _ _ _ => trivial)⟩⟩ rfl rfl hl.1 rfl (lv_room (Nat.le_of_ble_eq_true rfl)) d_PM_again_73 ⟨Nat.zero_le _, Nat.zero_le _⟩) hS (fun q _ h => hFc q h) hFc (fun rr u t H1 locs ht hvm hw hB hz1 hk1 hS => ?_)
      obtain ⟨hP1, hK1, hD1⟩ := hB
      rw [ht] at hP1
      subst hw
      obtain ⟨hP, hD⟩ := va_join (wr := [(a_this, .inr (0, [.ref a_in, .ref o_out, .ref o_counts, .ref o_codes, .ref o_tree, .ref o_writer, .ref o_reader, .ref o_streams, .int i_place]))]) (w1 := [(a_in, .inr (5, [.ref a_in_words, .int i_in_room, .int i_in_used, .int i_in_held, .int i_in_many])), (a_in_words, .inl (cL, n_in_words, .inr (.inl v_in_words)))]) hP hD [1, 2] [0] rfl rfl (by decide) (by decide) hk1 hFc hP1 hD1
      clear hPc hDc hFc hk1 hP1 hD1 hK1
      generalize H1 = H at hP hS ⊢
      have hP : va_P D classes [(a_this, .inr (0, [.ref a_in, .ref o_out, .ref o_counts, .ref o_codes, .ref o_tree, .ref o_writer, .ref o_reader, .ref o_streams, .int i_place])), (a_in, .inr (5, [.ref a_in_words, .int i_in_room, .int i_in_used, .int i_in_held, .int i_in_many])), (a_in_words, .inl (cL, n_in_words, .inr (.inl v_in_words)))] H := hP.sub [0, 1, 2] rfl
      have hD : va_D A [(a_this, .inr (0, [.ref a_in, .ref o_out, .ref o_counts, .ref o_codes, .ref o_tree, .ref o_writer, .ref o_reader, .ref o_streams, .int i_place])), (a_in, .inr (5, [.ref a_in_words, .int i_in_room, .int i_in_used, .int i_in_held, .int i_in_many])), (a_in_words, .inl (cL, n_in_words, .inr (.inl v_in_words)))] := hD.sub [0, 1, 2] (by decide) rfl
      obtain ⟨i_in_used_4, v_in_words_5, hc_6, h⟩ := bd2_s h
      have hPc := hP.sub (ws' := [(a_in, .inr (5, [.ref a_in_words, .int i_in_room, .int i_in_used, .int i_in_held, .int i_in_many])), (a_in_words, .inl (cL, n_in_words, .inr (.inl v_in_words)))]) [1, 2] rfl
      have hDc := hD.sub (ws' := [(a_in, .inr (5, [.ref a_in_words, .int i_in_room, .int i_in_used, .int i_in_held, .int i_in_many])), (a_in_words, .inl (cL, n_in_words, .inr (.inl v_in_words)))]) [1, 2] (by decide) rfl
      have hFc := va_free (wc := [(a_in, .inr (5, [.ref a_in_words, .int i_in_room, .int i_in_used, .int i_in_held, .int i_in_many])), (a_in_words, .inl (cL, n_in_words, .inr (.inl v_in_words)))]) hD hS hA [1, 2] rfl
      refine va_callv (va_runV (As := [.int r_2]) (rest := []) ⟨hx, hb, hml, hown, hts⟩ (c_Row_add l D cI cL cZ H.size N a_in a_in_words i_in_room i_in_used i_in_held i_in_many n_in_words v_in_words r_2 i_in_used_4 v_in_words_5 hc_6) ⟨(my_cb 1 hts m_375 rfl rfl (hts _ m_67) (hts _ m_372) (by decide +kernel) ⟨Nat.le_of_ble_eq_true rfl, Nat.le_of_ble_eq_true rfl⟩), hts _ m_373, hts _ m_374⟩ ⟨fun a U g mk q => by obtain ⟨q0, q1, qP, qK, qD⟩ := q; exact ⟨q0, q1, qP, va_K.moved (u := U) (U := U.calling g mk a) (Vm.Alike.refl U.vm) qK, qD⟩, va_recv hK hPc (ci := 5) (q0 := 0) rfl rfl, fun U hU hW => ⟨rfl, by rw [hU], by rw [hU]; exact hPc, va_K.moved hW.alike hK, hDc.weaken (fun _ _ _ _ => trivial)⟩⟩ rfl rfl hl.1 rfl (lv_room (Nat.le_of_ble_eq_true rfl)) d_PM_again_76 ⟨Nat.zero_le _, Nat.zero_le _⟩) hS (fun q _ h => hFc q h) hFc (fun u t H1 locs ht hvm hw hB hz1 hk1 hS => ?_)
      obtain ⟨hP1, hK1, hD1⟩ := hB
      rw [ht] at hP1
      obtain ⟨hP, hD⟩ := va_join (wr := [(a_this, .inr (0, [.ref a_in, .ref o_out, .ref o_counts, .ref o_codes, .ref o_tree, .ref o_writer, .ref o_reader, .ref o_streams, .int i_place]))]) (w1 := [(a_in, .inr (5, [.ref a_in_words, .int i_in_room, .int i_in_used_4, .int i_in_held, .int i_in_many])), (a_in_words, .inl (cL, n_in_words, .inr (.inl v_in_words_5)))]) hP hD [1, 2] [0] rfl rfl (by decide) (by decide) hk1 hFc hP1 hD1
      clear hPc hDc hFc hk1 hP1 hD1 hK1
      generalize H1 = H at hP hS ⊢
      have hP : va_P D classes [(a_this, .inr (0, [.ref a_in, .ref o_out, .ref o_counts, .ref o_codes, .ref o_tree, .ref o_writer, .ref o_reader, .ref o_streams, .int i_place])), (a_in, .inr (5, [.ref a_in_words, .int i_in_room, .int i_in_used_4, .int i_in_held, .int i_in_many])), (a_in_words, .inl (cL, n_in_words, .inr (.inl v_in_words_5)))] H := hP.sub [0, 1, 2] rfl
      have hD : va_D A [(a_this, .inr (0, [.ref a_in, .ref o_out, .ref o_counts, .ref o_codes, .ref o_tree, .ref o_writer, .ref o_reader, .ref o_streams, .int i_place])), (a_in, .inr (5, [.ref a_in_words, .int i_in_room, .int i_in_used_4, .int i_in_held, .int i_in_many])), (a_in_words, .inl (cL, n_in_words, .inr (.inl v_in_words_5)))] := hD.sub [0, 1, 2] (by decide) rfl
      obtain ⟨l4_7, el4_7⟩ : ∃ y : Int32, y = l4 + 1 := ⟨_, rfl⟩
      replace h := nm_s h el4_7
      refine lv_iinc (v := l4_7) (lv' := [(4, .int l4_7), (0, .ref a_this), (1, .int l1), (3, .int l3)]) hx hb d_PM_again_79 hl (k := 3) rfl (by rw [el4_7]; rfl) (by decide) rfl (fun ls hl => ?_)
      refine lv_goto (tgt := 50) hx hb d_PM_again_82 (by decide) ?_
      exact ih _ _ _ _ h H locs ls (lv_sub hl [1, 2, 3, 0] rfl) hP hD hS
set_option maxHeartbeats 4000000 in
set_option maxRecDepth 100000 in
theorem w_PM_again_b0 {p : Program} {l : Launch} {e : Env} {s : State} {m : MethodId} {args : Array Value} {below : List Frame} {meth : Method} {c : Code} {Q : State → Prop} {A : Nat → Prop} {D : va_G} {cI cL cZ : ClassId} {a_this : Nat} {a_in : Nat} {a_in_words : Nat} {o_out : Nat} {o_counts : Nat} {o_codes : Nat} {o_tree : Nat} {o_writer : Nat} {o_reader : Nat} {o_streams : Nat} {i_place : Int32} {i_in_room : Int32} {i_in_held : Int32} {i_in_many : Int32} {n_in_words : Nat} {l1 : Int32} {l2 : Int32} {N : Nat} {res : Int32 × Int32 × (Nat → Int64)}  (C : Cx p s m args c b_PM_again 5 "PrefixMill" D [(cI, .int), (cL, .long), (cZ, .boolean)] A) (hret : E_PM_again p l e s m args below meth c Q A D cI cL cZ a_this a_in a_in_words o_out o_counts o_codes o_tree o_writer o_reader o_streams i_place i_in_room i_in_held i_in_many n_in_words l1 l2 res)  : I_PM_again_b0 p l e s m args below meth c Q A D cI cL cZ a_this a_in a_in_words o_out o_counts o_codes o_tree o_writer o_reader o_streams i_place i_in_room i_in_held i_in_many n_in_words l1 l2 res (f_PM_again N i_in_room n_in_words l1 l2 ) := by
  obtain ⟨hx, hb, hml, hown, hts, hK, hA⟩ := C
  intro i_in_used v_in_words h H locs ls hl hP hD hS
  unfold f_PM_again at h
  refine lv_iload_n hx hb d_PM_again_0 rfl (lv_at hl 1 rfl) ?_
  refine lv_iconst (v := 1) hx hb d_PM_again_1 (by decide) ?_
  refine lv_icmp_lt (tgt := 41) hx hb d_PM_again_2 (by decide) (fun c_1 => ?_) (fun c_1 => ?_)
  · replace h := if_t h c_1
    exact w_PM_again_b41 ⟨hx, hb, hml, hown, hts, hK, hA⟩ hret  _ _ h H locs ls (lv_sub hl [] rfl) hP hD hS
  · replace h := if_f h c_1
    refine lv_iload_n hx hb d_PM_again_5 rfl (lv_at hl 1 rfl) ?_
    refine lv_aload_n hx hb d_PM_again_6 rfl (lv_at hl 0 rfl) ?_
    refine va_get hx hb hts in_PM hown hK hP 0 rfl rfl 0 (by decide) (hts _ m_340) (fun _ h9 => h9) rfl d_PM_again_7 ?_
    refine va_getN hx hb hts in_Row hown hK hP 1 rfl rfl 2 (by decide) (hts _ m_97) (fun _ h9 => h9) rfl d_PM_again_10 ?_
    refine lv_icmp_gt (tgt := 41) hx hb d_PM_again_13 (by decide) (fun c_2 => ?_) (fun c_2 => ?_)
    · replace h := if_t h c_2
      exact w_PM_again_b41 ⟨hx, hb, hml, hown, hts, hK, hA⟩ hret  _ _ h H locs ls (lv_sub hl [] rfl) hP hD hS
    · replace h := if_f h c_2
      refine lv_iload_n hx hb d_PM_again_16 rfl (lv_at hl 2 rfl) ?_
      refine lv_if_lt (tgt := 41) hx hb d_PM_again_17 (by decide) (fun c_3 => ?_) (fun c_3 => ?_)
      · replace h := if_t h c_3
        exact w_PM_again_b41 ⟨hx, hb, hml, hown, hts, hK, hA⟩ hret  _ _ h H locs ls (lv_sub hl [] rfl) hP hD hS
      · replace h := if_f h c_3
        refine lv_iload_n hx hb d_PM_again_20 rfl (lv_at hl 1 rfl) ?_
        refine lv_i2l hx hb d_PM_again_21 rfl ?_
        refine lv_iload_n hx hb d_PM_again_22 rfl (lv_at hl 2 rfl) ?_
        refine lv_i2l hx hb d_PM_again_23 rfl ?_
        refine lv_lmul hx hb d_PM_again_24 ?_
        refine lv_sipush (v := 6000) hx hb d_PM_again_25 (by decide) ?_
        refine lv_aload_n hx hb d_PM_again_28 rfl (lv_at hl 0 rfl) ?_
        refine va_get hx hb hts in_PM hown hK hP 0 rfl rfl 0 (by decide) (hts _ m_340) (fun _ h9 => h9) rfl d_PM_again_29 ?_
        refine va_getN hx hb hts in_Row hown hK hP 1 rfl rfl 2 (by decide) (hts _ m_97) (fun _ h9 => h9) rfl d_PM_again_32 ?_
        refine lv_isub hx hb d_PM_again_35 ?_
        refine lv_i2l hx hb d_PM_again_36 rfl ?_
        refine W.lcmp hx hb d_PM_again_37 ?_
        refine lv_if_le (tgt := 43) hx hb d_PM_again_38 (by decide) (fun c_4 => ?_) (fun c_4 => ?_)
        · replace h := if_t h c_4
          refine lv_iload_n hx hb d_PM_again_43 rfl (lv_at hl 1 rfl) ?_
          refine lv_iload_n hx hb d_PM_again_44 rfl (lv_at hl 2 rfl) ?_
          refine lv_imul hx hb d_PM_again_45 ?_
          refine lv_topi (fun l3_5 el3_5 => ?_)
          replace h := nm_s h el3_5
          refine lv_istore_n (lv' := [(3, .int l3_5), (0, .ref a_this), (1, .int l1), (2, .int l2)]) hx hb d_PM_again_46 rfl hl (by decide) rfl (fun ls hl => ?_)
          refine lv_iconst (v := 0) hx hb d_PM_again_47 (by decide) ?_
          refine lv_istore (lv' := [(4, .int 0), (3, .int l3_5), (0, .ref a_this), (1, .int l1), (2, .int l2)]) hx hb d_PM_again_48 hl (by decide) rfl (fun ls hl => ?_)
          exact w_PM_again_b50 ⟨hx, hb, hml, hown, hts, hK, hA⟩ hret  N _ _ _ _ h H locs ls (lv_sub hl [2, 3, 1, 0] rfl) hP hD hS
        · replace h := if_f h c_4
          exact w_PM_again_b41 ⟨hx, hb, hml, hown, hts, hK, hA⟩ hret  _ _ h H locs ls (lv_sub hl [] rfl) hP hD hS
set_option maxHeartbeats 4000000 in
set_option maxRecDepth 100000 in
theorem c_PM_again (l : Launch) (D : va_G) (cI cL cZ : ClassId) (sz N : Nat) (a_this : Nat) (a_in : Nat) (a_in_words : Nat) (o_out : Nat) (o_counts : Nat) (o_codes : Nat) (o_tree : Nat) (o_writer : Nat) (o_reader : Nat) (o_streams : Nat) (i_place : Int32) (i_in_room : Int32) (i_in_used : Int32) (i_in_held : Int32) (i_in_many : Int32) (n_in_words : Nat) (v_in_words : Nat → Int64) (l1 : Int32) (l2 : Int32) (rv : Int32) (i_in_used' : Int32) (v_in_words' : Nat → Int64) (h : f_PM_again N i_in_room n_in_words l1 l2 i_in_used v_in_words = some (rv, i_in_used', v_in_words')) : Met l ({ cls := "PrefixMill", name := "again", desc := "(II)Z" } : Jvm.MethodName) ws_PM_again R_PM_again (va_Pc [.ref a_this, .int l1, .int l2] (fun U => U.heap.size = sz ∧ va_P D classes [(a_this, .inr (0, [.ref a_in, .ref o_out, .ref o_counts, .ref o_codes, .ref o_tree, .ref o_writer, .ref o_reader, .ref o_streams, .int i_place])), (a_in, .inr (5, [.ref a_in_words, .int i_in_room, .int i_in_used, .int i_in_held, .int i_in_many])), (a_in_words, .inl (cL, n_in_words, .inr (.inl v_in_words)))] U.heap ∧ va_K D classes [(cI, .int), (cL, .long), (cZ, .boolean)] U ∧ va_D (fun _ => True) [(a_this, .inr (0, [.ref a_in, .ref o_out, .ref o_counts, .ref o_codes, .ref o_tree, .ref o_writer, .ref o_reader, .ref o_streams, .int i_place])), (a_in, .inr (5, [.ref a_in_words, .int i_in_room, .int i_in_used, .int i_in_held, .int i_in_many])), (a_in_words, .inl (cL, n_in_words, .inr (.inl v_in_words)))])) (va_Qi (fun (r0 : Int32) (_ : Unit) => rv = r0) (fun _ t => va_P D classes [(a_this, .inr (0, [.ref a_in, .ref o_out, .ref o_counts, .ref o_codes, .ref o_tree, .ref o_writer, .ref o_reader, .ref o_streams, .int i_place])), (a_in, .inr (5, [.ref a_in_words, .int i_in_room, .int i_in_used', .int i_in_held, .int i_in_many])), (a_in_words, .inl (cL, n_in_words, .inr (.inl v_in_words')))] t.heap ∧ va_K D classes [(cI, .int), (cL, .long), (cZ, .boolean)] t ∧ va_D (va_A [(a_this, .inr (0, [.ref a_in, .ref o_out, .ref o_counts, .ref o_codes, .ref o_tree, .ref o_writer, .ref o_reader, .ref o_streams, .int i_place])), (a_in, .inr (5, [.ref a_in_words, .int i_in_room, .int i_in_used, .int i_in_held, .int i_in_many])), (a_in_words, .inl (cL, n_in_words, .inr (.inl v_in_words)))] sz) [(a_this, .inr (0, [.ref a_in, .ref o_out, .ref o_counts, .ref o_codes, .ref o_tree, .ref o_writer, .ref o_reader, .ref o_streams, .int i_place])), (a_in, .inr (5, [.ref a_in_words, .int i_in_room, .int i_in_used', .int i_in_held, .int i_in_many])), (a_in_words, .inl (cL, n_in_words, .inr (.inl v_in_words')))]) (va_A [(a_this, .inr (0, [.ref a_in, .ref o_out, .ref o_counts, .ref o_codes, .ref o_tree, .ref o_writer, .ref o_reader, .ref o_streams, .int i_place])), (a_in, .inr (5, [.ref a_in_words, .int i_in_room, .int i_in_used, .int i_in_held, .int i_in_many])), (a_in_words, .inl (cL, n_in_words, .inr (.inl v_in_words)))] sz)) 0 0 (va_A [(a_this, .inr (0, [.ref a_in, .ref o_out, .ref o_counts, .ref o_codes, .ref o_tree, .ref o_writer, .ref o_reader, .ref o_streams, .int i_place])), (a_in, .inr (5, [.ref a_in_words, .int i_in_room, .int i_in_used, .int i_in_held, .int i_in_many])), (a_in_words, .inl (cL, n_in_words, .inr (.inl v_in_words)))] sz) := by
  refine Met.ofW (cc := b_PM_again) (maxL := 5) (ret := (some .boolean)) (by decide) rfl ?_
  intro p e s m args below meth c s₁ B hml hv
  obtain ⟨rfl, hsz, hP, hK, hD0⟩ := hv
  have hx := B.exec
  have hb := B.bytes
  have hr := B.returns
  have hts0 := atoms_spec (ws := ws_PM_again) B.pre
  have hts := gd_tl hts0
  clear hts0
  have hown : s.vm.findClass "PrefixMill" = some m.cls := findClass_of_methodNamed B.named
  have hlocks := B.notSynchronized
  subst hsz
  have hD := hD0.self (sz := s.heap.size)
  generalize hAe : va_A [(a_this, .inr (0, [.ref a_in, .ref o_out, .ref o_counts, .ref o_codes, .ref o_tree, .ref o_writer, .ref o_reader, .ref o_streams, .int i_place])), (a_in, .inr (5, [.ref a_in_words, .int i_in_room, .int i_in_used, .int i_in_held, .int i_in_many])), (a_in_words, .inl (cL, n_in_words, .inr (.inl v_in_words)))] s.heap.size = A at hD ⊢
  have hA : ∀ q : Nat, s.heap.size ≤ q → A q := fun q h => by rw [← hAe]; exact Or.inr h
  have hS : va_S A s.heap s.heap [] := va_S.rf
  have hP : va_P D classes [(a_this, .inr (0, [.ref a_in, .ref o_out, .ref o_counts, .ref o_codes, .ref o_tree, .ref o_writer, .ref o_reader, .ref o_streams, .int i_place])), (a_in, .inr (5, [.ref a_in_words, .int i_in_room, .int i_in_used, .int i_in_held, .int i_in_many])), (a_in_words, .inl (cL, n_in_words, .inr (.inl v_in_words)))] s.heap := hP
  have hl := lv_entry ([.ref a_this, .int l1, .int l2]) (n := 5) (Nat.le_of_ble_eq_true rfl)
  rw [lg_entry_eq]
  generalize (lg_sl ([.ref a_this, .int l1, .int l2]) ++ List.replicate (5 - (lg_sl ([.ref a_this, .int l1, .int l2])).length) Slot.unset).toArray = ls at hl ⊢
  have hl : lv_has ls 5 [(0, .ref a_this), (1, .int l1), (2, .int l2)] := hl
  have C : Cx p s m ([.ref a_this, .int l1, .int l2] : List Value).toArray c b_PM_again 5 "PrefixMill" D [(cI, .int), (cL, .long), (cZ, .boolean)] A := ⟨hx, hb, hml, hown, hts, hK, hA⟩
  refine w_PM_again_b0 (res := (rv, i_in_used', v_in_words')) C ?_ _ _ h s.heap [] ls hl hP hD hS
  intro pc9 H9 locs9 ls9 rv9 i_in_used9 v_in_words9 e9 z9 d9 hP9 hD9 hS9
  cases e9
  exact W.zret (v := rv) hx hb hr z9 (fun t ht hW => ⟨⟨rv, (), rfl, rfl, by rw [ht]; exact hP9, va_K.moved hW.alike hK, hD9⟩, hS9.F ht⟩) hS9.2.2 d9
abbrev b_JMath_min : ByteArray := prog_13_method_69_code
def ws_JMath_min : List Cond := .code ({ cls := "java/lang/Math", name := "min", desc := "(II)I" } : Jvm.MethodName) b_JMath_min 2 (some .int) :: tt
theorem d_JMath_min_0 : decode b_JMath_min 0 = .ok (.iload_n 0, 1) := by decide +kernel
theorem d_JMath_min_1 : decode b_JMath_min 1 = .ok (.iload_n 1, 1) := by decide +kernel
theorem d_JMath_min_2 : decode b_JMath_min 2 = .ok (.if_icmp .gt 7, 3) := by decide +kernel
theorem d_JMath_min_5 : decode b_JMath_min 5 = .ok (.iload_n 0, 1) := by decide +kernel
theorem d_JMath_min_6 : decode b_JMath_min 6 = .ok (.goto 4, 3) := by decide +kernel
theorem d_JMath_min_9 : decode b_JMath_min 9 = .ok (.iload_n 1, 1) := by decide +kernel
theorem d_JMath_min_10 : decode b_JMath_min 10 = .ok (.ireturn, 1) := by decide +kernel
abbrev R_JMath_min : Room := ({ frames := 0, cells := 0, slots := 0, locals := 0 } : Room)
def E_JMath_min (p : Program) (l : Launch) (e : Env) (s : State) (m : MethodId) (args : Array Value) (below : List Frame) (meth : Method) (c : Code) (Q : State → Prop) (A : Nat → Prop) (D : va_G) (cI cL cZ : ClassId) (l0 : Int32) (l1 : Int32) (res : Int32) : Prop := ∀ (pc : Nat) (H : Heap) (locs : List Loc) (ls : Array Slot) (rv : Int32), some (rv) = some res → decode b_JMath_min pc = .ok (.ireturn, 1) → va_P D classes [] H → va_D A [] → va_S A s.heap H locs → W p l e R_JMath_min s m args below meth c H locs 0 0 Q (F0 m pc ls [.int rv])
def I_JMath_min_b0 (p : Program) (l : Launch) (e : Env) (s : State) (m : MethodId) (args : Array Value) (below : List Frame) (meth : Method) (c : Code) (Q : State → Prop) (A : Nat → Prop) (D : va_G) (cI cL cZ : ClassId) (l0 : Int32) (l1 : Int32) (res : Int32) (kf : Option (Int32)) : Prop := ∀ (_ : Unit), kf  = some res → ∀ (H : Heap) (locs : List Loc) (ls : Array Slot), lv_has ls 2 [(0, .int l0), (1, .int l1)] → va_P D classes [] H → va_D A [] → va_S A s.heap H locs → W p l e R_JMath_min s m args below meth c H locs 0 0 Q (F0 m 0 ls [])
set_option maxHeartbeats 4000000 in
set_option maxRecDepth 100000 in
theorem w_JMath_min_b0 {p : Program} {l : Launch} {e : Env} {s : State} {m : MethodId} {args : Array Value} {below : List Frame} {meth : Method} {c : Code} {Q : State → Prop} {A : Nat → Prop} {D : va_G} {cI cL cZ : ClassId} {l0 : Int32} {l1 : Int32} {N : Nat} {res : Int32}  (C : Cx p s m args c b_JMath_min 2 "java/lang/Math" D [(cI, .int), (cL, .long), (cZ, .boolean)] A) (hret : E_JMath_min p l e s m args below meth c Q A D cI cL cZ l0 l1 res)  : I_JMath_min_b0 p l e s m args below meth c Q A D cI cL cZ l0 l1 res (f_JMath_min N l0 l1 ) := by
  obtain ⟨hx, hb, hml, hown, hts, hK, hA⟩ := C
  intro _ h H locs ls hl hP hD hS
  unfold f_JMath_min at h
  refine lv_iload_n hx hb d_JMath_min_0 rfl (lv_at hl 0 rfl) ?_
  refine lv_iload_n hx hb d_JMath_min_1 rfl (lv_at hl 1 rfl) ?_
  refine lv_icmp_gt (tgt := 9) hx hb d_JMath_min_2 (by decide) (fun c_1 => ?_) (fun c_1 => ?_)
  · replace h := if_t h c_1
    refine lv_iload_n hx hb d_JMath_min_9 rfl (lv_at hl 1 rfl) ?_
    exact hret _ _ _ _ l1  h d_JMath_min_10 hP hD hS
  · replace h := if_f h c_1
    refine lv_iload_n hx hb d_JMath_min_5 rfl (lv_at hl 0 rfl) ?_
    refine lv_goto (tgt := 10) hx hb d_JMath_min_6 (by decide) ?_
    exact hret _ _ _ _ l0  h d_JMath_min_10 hP hD hS
set_option maxHeartbeats 4000000 in
set_option maxRecDepth 100000 in
theorem c_JMath_min (l : Launch) (D : va_G) (cI cL cZ : ClassId) (sz N : Nat) (l0 : Int32) (l1 : Int32) (rv : Int32) (h : f_JMath_min N l0 l1  = some (rv)) : Met l ({ cls := "java/lang/Math", name := "min", desc := "(II)I" } : Jvm.MethodName) ws_JMath_min R_JMath_min (va_Pc [.int l0, .int l1] (fun U => U.heap.size = sz ∧ va_P D classes [] U.heap ∧ va_K D classes [(cI, .int), (cL, .long), (cZ, .boolean)] U ∧ va_D (fun _ => True) [])) (va_Qi (fun (r0 : Int32) (_ : Unit) => rv = r0) (fun _ t => va_P D classes [] t.heap ∧ va_K D classes [(cI, .int), (cL, .long), (cZ, .boolean)] t ∧ va_D (va_A [] sz) []) (va_A [] sz)) 0 0 (va_A [] sz) := by
  refine va_MetF (cc := b_JMath_min) (maxL := 2) (ret := (some .int)) (by decide +kernel) rfl ?_
  intro p e s m args below meth c s₁ B hml hv
  obtain ⟨rfl, hsz, hP, hK, hD0⟩ := hv
  have hx := B.exec
  have hb := B.bytes
  have hr := B.returns
  have hts0 := atoms_spec (ws := ws_JMath_min) B.pre
  have hts := gd_tl hts0
  clear hts0
  have hown : s.vm.findClass "java/lang/Math" = some m.cls := findClass_of_methodNamed B.named
  have hlocks := B.notSynchronized
  subst hsz
  have hD := hD0.self (sz := s.heap.size)
  generalize hAe : va_A [] s.heap.size = A at hD ⊢
  have hA : ∀ q : Nat, s.heap.size ≤ q → A q := fun q h => by rw [← hAe]; exact Or.inr h
  have hS : va_S A s.heap s.heap [] := va_S.rf
  have hP : va_P D classes [] s.heap := hP
  have hl := lv_entry ([.int l0, .int l1]) (n := 2) (Nat.le_of_ble_eq_true rfl)
  rw [lg_entry_eq]
  generalize (lg_sl ([.int l0, .int l1]) ++ List.replicate (2 - (lg_sl ([.int l0, .int l1])).length) Slot.unset).toArray = ls at hl ⊢
  have hl : lv_has ls 2 [(0, .int l0), (1, .int l1)] := hl
  have C : Cx p s m ([.int l0, .int l1] : List Value).toArray c b_JMath_min 2 "java/lang/Math" D [(cI, .int), (cL, .long), (cZ, .boolean)] A := ⟨hx, hb, hml, hown, hts, hK, hA⟩
  refine w_JMath_min_b0 (res := (rv)) C ?_ () h s.heap [] ls hl hP hD hS
  intro pc9 H9 locs9 ls9 rv9 e9 d9 hP9 hD9 hS9
  cases e9
  exact W.iret (v := rv) hx hb hr (fun t ht hW => ⟨⟨rv, (), rfl, rfl, by rw [ht]; exact hP9, va_K.moved hW.alike hK, hD9⟩, hS9.F ht⟩) hS9.2.2 d9
abbrev b_Row_copy : ByteArray := prog_5_method_6_code
def ws_Row_copy : List Cond := .code ({ cls := "PrefixMill$Row", name := "copy", desc := "(LPrefixMill$Row;)V" } : Jvm.MethodName) b_Row_copy 3 none :: tt
theorem d_Row_copy_0 : decode b_Row_copy 0 = .ok (.aload_n 0, 1) := by decide +kernel
theorem d_Row_copy_1 : decode b_Row_copy 1 = .ok (.getfield 13, 3) := by decide +kernel
theorem d_Row_copy_4 : decode b_Row_copy 4 = .ok (.arraylength, 1) := by decide +kernel
theorem d_Row_copy_5 : decode b_Row_copy 5 = .ok (.aload_n 1, 1) := by decide +kernel
theorem d_Row_copy_6 : decode b_Row_copy 6 = .ok (.getfield 13, 3) := by decide +kernel
theorem d_Row_copy_9 : decode b_Row_copy 9 = .ok (.arraylength, 1) := by decide +kernel
theorem d_Row_copy_10 : decode b_Row_copy 10 = .ok (.invokestatic 34, 3) := by decide +kernel
theorem d_Row_copy_13 : decode b_Row_copy 13 = .ok (.istore_n 2, 1) := by decide +kernel
theorem d_Row_copy_14 : decode b_Row_copy 14 = .ok (.aload_n 1, 1) := by decide +kernel
theorem d_Row_copy_15 : decode b_Row_copy 15 = .ok (.getfield 13, 3) := by decide +kernel
theorem d_Row_copy_18 : decode b_Row_copy 18 = .ok (.iconst 0, 1) := by decide +kernel
theorem d_Row_copy_19 : decode b_Row_copy 19 = .ok (.aload_n 0, 1) := by decide +kernel
theorem d_Row_copy_20 : decode b_Row_copy 20 = .ok (.getfield 13, 3) := by decide +kernel
theorem d_Row_copy_23 : decode b_Row_copy 23 = .ok (.iconst 0, 1) := by decide +kernel
theorem d_Row_copy_24 : decode b_Row_copy 24 = .ok (.iload_n 2, 1) := by decide +kernel
theorem d_Row_copy_25 : decode b_Row_copy 25 = .ok (.invokestatic 37, 3) := by decide +kernel
theorem d_Row_copy_28 : decode b_Row_copy 28 = .ok (.aload_n 0, 1) := by decide +kernel
theorem d_Row_copy_29 : decode b_Row_copy 29 = .ok (.aload_n 1, 1) := by decide +kernel
theorem d_Row_copy_30 : decode b_Row_copy 30 = .ok (.getfield 17, 3) := by decide +kernel
theorem d_Row_copy_33 : decode b_Row_copy 33 = .ok (.aload_n 0, 1) := by decide +kernel
theorem d_Row_copy_34 : decode b_Row_copy 34 = .ok (.getfield 7, 3) := by decide +kernel
theorem d_Row_copy_37 : decode b_Row_copy 37 = .ok (.invokestatic 34, 3) := by decide +kernel
theorem d_Row_copy_40 : decode b_Row_copy 40 = .ok (.putfield 17, 3) := by decide +kernel
theorem d_Row_copy_43 : decode b_Row_copy 43 = .ok (.return_, 1) := by decide +kernel
abbrev R_Row_copy : Room := ({ frames := 1, cells := 0, slots := 0, locals := 60 } : Room)
def E_Row_copy (p : Program) (l : Launch) (e : Env) (s : State) (m : MethodId) (args : Array Value) (below : List Frame) (meth : Method) (c : Code) (Q : State → Prop) (A : Nat → Prop) (D : va_G) (cI cL cZ : ClassId) (a_this : Nat) (a_words : Nat) (a_p1 : Nat) (a_p1_words : Nat) (i_room : Int32) (i_held : Int32) (i_many : Int32) (n_words : Nat) (i_p1_room : Int32) (i_p1_used : Int32) (i_p1_held : Int32) (i_p1_many : Int32) (n_p1_words : Nat) (v_p1_words : Nat → Int64) (res : Int32 × (Nat → Int64)) : Prop := ∀ (pc : Nat) (H : Heap) (locs : List Loc) (ls : Array Slot) (i_used : Int32) (v_words : Nat → Int64), some (i_used, v_words) = some res → decode b_Row_copy pc = .ok (.return_, 1) → va_P D classes [(a_this, .inr (5, [.ref a_words, .int i_room, .int i_used, .int i_held, .int i_many])), (a_words, .inl (cL, n_words, .inr (.inl v_words))), (a_p1, .inr (5, [.ref a_p1_words, .int i_p1_room, .int i_p1_used, .int i_p1_held, .int i_p1_many])), (a_p1_words, .inl (cL, n_p1_words, .inr (.inl v_p1_words)))] H → va_D A [(a_this, .inr (5, [.ref a_words, .int i_room, .int i_used, .int i_held, .int i_many])), (a_words, .inl (cL, n_words, .inr (.inl v_words))), (a_p1, .inr (5, [.ref a_p1_words, .int i_p1_room, .int i_p1_used, .int i_p1_held, .int i_p1_many])), (a_p1_words, .inl (cL, n_p1_words, .inr (.inl v_p1_words)))] → va_S A s.heap H locs → W p l e R_Row_copy s m args below meth c H locs 0 0 Q (F0 m pc ls [])
def I_Row_copy_b0 (p : Program) (l : Launch) (e : Env) (s : State) (m : MethodId) (args : Array Value) (below : List Frame) (meth : Method) (c : Code) (Q : State → Prop) (A : Nat → Prop) (D : va_G) (cI cL cZ : ClassId) (a_this : Nat) (a_words : Nat) (a_p1 : Nat) (a_p1_words : Nat) (i_room : Int32) (i_held : Int32) (i_many : Int32) (n_words : Nat) (i_p1_room : Int32) (i_p1_used : Int32) (i_p1_held : Int32) (i_p1_many : Int32) (n_p1_words : Nat) (v_p1_words : Nat → Int64) (res : Int32 × (Nat → Int64)) (kf : Int32 → (Nat → Int64) → Option (Int32 × (Nat → Int64))) : Prop := ∀ (i_used : Int32) (v_words : Nat → Int64), kf i_used v_words = some res → ∀ (H : Heap) (locs : List Loc) (ls : Array Slot), lv_has ls 3 [(0, .ref a_this), (1, .ref a_p1)] → va_P D classes [(a_this, .inr (5, [.ref a_words, .int i_room, .int i_used, .int i_held, .int i_many])), (a_words, .inl (cL, n_words, .inr (.inl v_words))), (a_p1, .inr (5, [.ref a_p1_words, .int i_p1_room, .int i_p1_used, .int i_p1_held, .int i_p1_many])), (a_p1_words, .inl (cL, n_p1_words, .inr (.inl v_p1_words)))] H → va_D A [(a_this, .inr (5, [.ref a_words, .int i_room, .int i_used, .int i_held, .int i_many])), (a_words, .inl (cL, n_words, .inr (.inl v_words))), (a_p1, .inr (5, [.ref a_p1_words, .int i_p1_room, .int i_p1_used, .int i_p1_held, .int i_p1_many])), (a_p1_words, .inl (cL, n_p1_words, .inr (.inl v_p1_words)))] → va_S A s.heap H locs → W p l e R_Row_copy s m args below meth c H locs 0 0 Q (F0 m 0 ls [])
set_option maxHeartbeats 4000000 in
set_option maxRecDepth 100000 in
theorem w_Row_copy_b0 {p : Program} {l : Launch} {e : Env} {s : State} {m : MethodId} {args : Array Value} {below : List Frame} {meth : Method} {c : Code} {Q : State → Prop} {A : Nat → Prop} {D : va_G} {cI cL cZ : ClassId} {a_this : Nat} {a_words : Nat} {a_p1 : Nat} {a_p1_words : Nat} {i_room : Int32} {i_held : Int32} {i_many : Int32} {n_words : Nat} {i_p1_room : Int32} {i_p1_used : Int32} {i_p1_held : Int32} {i_p1_many : Int32} {n_p1_words : Nat} {v_p1_words : Nat → Int64} {N : Nat} {res : Int32 × (Nat → Int64)}  (C : Cx p s m args c b_Row_copy 3 "PrefixMill$Row" D [(cI, .int), (cL, .long), (cZ, .boolean)] A) (hret : E_Row_copy p l e s m args below meth c Q A D cI cL cZ a_this a_words a_p1 a_p1_words i_room i_held i_many n_words i_p1_room i_p1_used i_p1_held i_p1_many n_p1_words v_p1_words res)  : I_Row_copy_b0 p l e s m args below meth c Q A D cI cL cZ a_this a_words a_p1 a_p1_words i_room i_held i_many n_words i_p1_room i_p1_used i_p1_held i_p1_many n_p1_words v_p1_words res (f_Row_copy N i_room n_words i_p1_used n_p1_words v_p1_words ) := by
  obtain ⟨hx, hb, hml, hown, hts, hK, hA⟩ := C
  intro i_used v_words h H locs ls hl hP hD hS
  unfold f_Row_copy at h
  refine lv_aload_n hx hb d_Row_copy_0 rfl (lv_at hl 0 rfl) ?_
  refine va_get hx hb hts in_Row hown hK hP 0 rfl rfl 0 (by decide) (hts _ m_94) (fun _ h9 => h9) rfl d_Row_copy_1 ?_
  refine va_alen hx hb hK hP 1 1 rfl rfl rfl d_Row_copy_4 ?_
  refine lv_aload_n hx hb d_Row_copy_5 rfl (lv_at hl 1 rfl) ?_
  refine va_get hx hb hts in_Row hown hK hP 2 rfl rfl 0 (by decide) (hts _ m_94) (fun _ h9 => h9) rfl d_Row_copy_6 ?_
  refine va_alen hx hb hK hP 3 1 rfl rfl rfl d_Row_copy_9 ?_
  obtain ⟨r_1, hc_2, h⟩ := bd1_s h
  have hPc := hP.sub (ws' := []) [] rfl
  have hDc := hD.sub (ws' := []) [] (by decide) rfl
  have hFc := va_free (wc := []) hD hS hA [] rfl
  refine va_calli (va_runS (As := [.int (Int32.ofNat n_words), .int (Int32.ofNat n_p1_words)]) (rest := []) ⟨hx, hb, hml, hown, hts⟩ (c_JMath_min l D cI cL cZ H.size N (Int32.ofNat n_words) (Int32.ofNat n_p1_words) r_1 hc_2) ⟨(my_cb 2 hts m_396 rfl rfl (hts _ m_77) (hts _ m_394) (by decide +kernel) ⟨Nat.le_of_ble_eq_true rfl, Nat.le_of_ble_eq_true rfl⟩), hts _ m_395⟩ ⟨fun a U g mk q => by obtain ⟨q0, q1, qP, qK, qD⟩ := q; exact ⟨q0, q1, qP, va_K.moved (u := U) (U := U.calling g mk a) (Vm.Alike.refl U.vm) qK, qD⟩, fun U hU hW => ⟨rfl, by rw [hU], by rw [hU]; exact hPc, va_K.moved hW.alike hK, hDc.weaken (fun _ _ _ _ => trivial)⟩⟩ rfl rfl hl.1 rfl (lv_room (Nat.le_of_ble_eq_true rfl)) d_Row_copy_10 ⟨Nat.zero_le _, Nat.zero_le _⟩) hS (fun q _ h => hFc q h) hFc (fun rr u t H1 locs ht hvm hw hB hz1 hk1 hS => ?_)
  obtain ⟨hP1, hK1, hD1⟩ := hB
  rw [ht] at hP1
  subst hw
  obtain ⟨hP, hD⟩ := va_join (wr := [(a_this, .inr (5, [.ref a_words, .int i_room, .int i_used, .int i_held, .int i_many])), (a_words, .inl (cL, n_words, .inr (.inl v_words))), (a_p1, .inr (5, [.ref a_p1_words, .int i_p1_room, .int i_p1_used, .int i_p1_held, .int i_p1_many])), (a_p1_words, .inl (cL, n_p1_words, .inr (.inl v_p1_words)))]) (w1 := []) hP hD [] [0, 1, 2, 3] rfl rfl (by decide) (by decide) hk1 hFc hP1 hD1
  clear hPc hDc hFc hk1 hP1 hD1 hK1
  generalize H1 = H at hP hS ⊢
  have hP : va_P D classes [(a_this, .inr (5, [.ref a_words, .int i_room, .int i_used, .int i_held, .int i_many])), (a_words, .inl (cL, n_words, .inr (.inl v_words))), (a_p1, .inr (5, [.ref a_p1_words, .int i_p1_room, .int i_p1_used, .int i_p1_held, .int i_p1_many])), (a_p1_words, .inl (cL, n_p1_words, .inr (.inl v_p1_words)))] H := hP.sub [0, 1, 2, 3] rfl
  have hD : va_D A [(a_this, .inr (5, [.ref a_words, .int i_room, .int i_used, .int i_held, .int i_many])), (a_words, .inl (cL, n_words, .inr (.inl v_words))), (a_p1, .inr (5, [.ref a_p1_words, .int i_p1_room, .int i_p1_used, .int i_p1_held, .int i_p1_many])), (a_p1_words, .inl (cL, n_p1_words, .inr (.inl v_p1_words)))] := hD.sub [0, 1, 2, 3] (by decide) rfl
  refine lv_istore_n (lv' := [(2, .int r_1), (0, .ref a_this), (1, .ref a_p1)]) hx hb d_Row_copy_13 rfl hl (by decide) rfl (fun ls hl => ?_)
  refine lv_aload_n hx hb d_Row_copy_14 rfl (lv_at hl 2 rfl) ?_
  refine va_get hx hb hts in_Row hown hK hP 2 rfl rfl 0 (by decide) (hts _ m_94) (fun _ h9 => h9) rfl d_Row_copy_15 ?_
  refine lv_iconst (v := 0) hx hb d_Row_copy_18 (by decide) ?_
  refine lv_aload_n hx hb d_Row_copy_19 rfl (lv_at hl 1 rfl) ?_
  refine va_get hx hb hts in_Row hown hK hP 0 rfl rfl 0 (by decide) (hts _ m_94) (fun _ h9 => h9) rfl d_Row_copy_20 ?_
  refine lv_iconst (v := 0) hx hb d_Row_copy_23 (by decide) ?_
  refine lv_iload_n hx hb d_Row_copy_24 rfl (lv_at hl 0 rfl) ?_
  obtain ⟨g_3, h⟩ := ck_s h
  obtain ⟨g_31, g_32, g_33, g_34, g_35⟩ := cpb_s g_3
  refine va_copyl hx hb (hml.trans hl.1.symm) hown (hts _ m_397) (hts _ m_399) (hts _ m_398) (hts _ m_78) hK hP hD hS 3 1 1 1 rfl rfl rfl rfl rfl g_31 g_32 g_33 g_34 g_35 (fun _ _ => rfl) (Nat.le_of_ble_eq_true rfl) (Nat.le_of_ble_eq_true rfl) d_Row_copy_25 (fun H locs hP hD hS => ?_)
  obtain ⟨v_words_4, ev_words_4⟩ : ∃ y, y = (va_cpy v_p1_words v_words (Int32.toNatClampNeg 0) (Int32.toNatClampNeg 0) (Int32.toNatClampNeg r_1)) := ⟨_, rfl⟩
  replace h := nm_s h ev_words_4
  have hP : va_P D classes [(a_this, .inr (5, [.ref a_words, .int i_room, .int i_used, .int i_held, .int i_many])), (a_words, .inl (cL, n_words, .inr (.inl v_words_4))), (a_p1, .inr (5, [.ref a_p1_words, .int i_p1_room, .int i_p1_used, .int i_p1_held, .int i_p1_many])), (a_p1_words, .inl (cL, n_p1_words, .inr (.inl v_p1_words)))] H := by rw [ev_words_4]; exact hP
  have hD : va_D A [(a_this, .inr (5, [.ref a_words, .int i_room, .int i_used, .int i_held, .int i_many])), (a_words, .inl (cL, n_words, .inr (.inl v_words_4))), (a_p1, .inr (5, [.ref a_p1_words, .int i_p1_room, .int i_p1_used, .int i_p1_held, .int i_p1_many])), (a_p1_words, .inl (cL, n_p1_words, .inr (.inl v_p1_words)))] := by rw [ev_words_4]; exact hD
  refine lv_aload_n hx hb d_Row_copy_28 rfl (lv_at hl 1 rfl) ?_
  refine lv_aload_n hx hb d_Row_copy_29 rfl (lv_at hl 2 rfl) ?_
  refine va_get hx hb hts in_Row hown hK hP 2 rfl rfl 2 (by decide) (hts _ m_96) (fun _ h9 => h9) rfl d_Row_copy_30 ?_
  refine lv_aload_n hx hb d_Row_copy_33 rfl (lv_at hl 1 rfl) ?_
  refine va_get hx hb hts in_Row hown hK hP 0 rfl rfl 1 (by decide) (hts _ m_95) (fun _ h9 => h9) rfl d_Row_copy_34 ?_
  obtain ⟨r_5, hc_6, h⟩ := bd1_s h
  have hPc := hP.sub (ws' := []) [] rfl
  have hDc := hD.sub (ws' := []) [] (by decide) rfl
  have hFc := va_free (wc := []) hD hS hA [] rfl
  refine va_calli (va_runS (As := [.int i_p1_used, .int i_room]) (rest := [.ref a_this]) ⟨hx, hb, hml, hown, hts⟩ (c_JMath_min l D cI cL cZ H.size N i_p1_used i_room r_5 hc_6) ⟨(my_cb 2 hts m_396 rfl rfl (hts _ m_77) (hts _ m_394) (by decide +kernel) ⟨Nat.le_of_ble_eq_true rfl, Nat.le_of_ble_eq_true rfl⟩), hts _ m_395⟩ ⟨fun a U g mk q => by obtain ⟨q0, q1, qP, qK, qD⟩ := q; exact ⟨q0, q1, qP, va_K.moved (u := U) (U := U.calling g mk a) (Vm.Alike.refl U.vm) qK, qD⟩, fun U hU hW => ⟨rfl, by rw [hU], by rw [hU]; exact hPc, va_K.moved hW.alike hK, hDc.weaken (fun _ _ _ _ => trivial)⟩⟩ rfl rfl hl.1 rfl (lv_room (Nat.le_of_ble_eq_true rfl)) d_Row_copy_37 ⟨Nat.zero_le _, Nat.zero_le _⟩) hS (fun q _ h => hFc q h) hFc (fun rr u t H1 locs ht hvm hw hB hz1 hk1 hS => ?_)
  obtain ⟨hP1, hK1, hD1⟩ := hB
  rw [ht] at hP1
  subst hw
  obtain ⟨hP, hD⟩ := va_join (wr := [(a_this, .inr (5, [.ref a_words, .int i_room, .int i_used, .int i_held, .int i_many])), (a_words, .inl (cL, n_words, .inr (.inl v_words_4))), (a_p1, .inr (5, [.ref a_p1_words, .int i_p1_room, .int i_p1_used, .int i_p1_held, .int i_p1_many])), (a_p1_words, .inl (cL, n_p1_words, .inr (.inl v_p1_words)))]) (w1 := []) hP hD [] [0, 1, 2, 3] rfl rfl (by decide) (by decide) hk1 hFc hP1 hD1
  clear hPc hDc hFc hk1 hP1 hD1 hK1
  generalize H1 = H at hP hS ⊢
  have hP : va_P D classes [(a_this, .inr (5, [.ref a_words, .int i_room, .int i_used, .int i_held, .int i_many])), (a_words, .inl (cL, n_words, .inr (.inl v_words_4))), (a_p1, .inr (5, [.ref a_p1_words, .int i_p1_room, .int i_p1_used, .int i_p1_held, .int i_p1_many])), (a_p1_words, .inl (cL, n_p1_words, .inr (.inl v_p1_words)))] H := hP.sub [0, 1, 2, 3] rfl
  have hD : va_D A [(a_this, .inr (5, [.ref a_words, .int i_room, .int i_used, .int i_held, .int i_many])), (a_words, .inl (cL, n_words, .inr (.inl v_words_4))), (a_p1, .inr (5, [.ref a_p1_words, .int i_p1_room, .int i_p1_used, .int i_p1_held, .int i_p1_many])), (a_p1_words, .inl (cL, n_p1_words, .inr (.inl v_p1_words)))] := hD.sub [0, 1, 2, 3] (by decide) rfl
  refine va_put (v := .int r_5) (ty := .int) hx hb hts in_Row t_Row t_Row_ok n_Row hown hK hP hD hS 0 rfl rfl 2 (by decide) (hts _ m_96) (fun _ h9 => h9) rfl (by decide +kernel) rfl rfl (Nat.le_of_ble_eq_true rfl) d_Row_copy_40 (fun H locs hP hD hS => ?_)
  have hP : va_P D classes [(a_this, .inr (5, [.ref a_words, .int i_room, .int r_5, .int i_held, .int i_many])), (a_words, .inl (cL, n_words, .inr (.inl v_words_4))), (a_p1, .inr (5, [.ref a_p1_words, .int i_p1_room, .int i_p1_used, .int i_p1_held, .int i_p1_many])), (a_p1_words, .inl (cL, n_p1_words, .inr (.inl v_p1_words)))] H := by exact hP
  have hD : va_D A [(a_this, .inr (5, [.ref a_words, .int i_room, .int r_5, .int i_held, .int i_many])), (a_words, .inl (cL, n_words, .inr (.inl v_words_4))), (a_p1, .inr (5, [.ref a_p1_words, .int i_p1_room, .int i_p1_used, .int i_p1_held, .int i_p1_many])), (a_p1_words, .inl (cL, n_p1_words, .inr (.inl v_p1_words)))] := by exact hD
  exact hret _ _ _ _ r_5 v_words_4 h d_Row_copy_43 hP hD hS
set_option maxHeartbeats 4000000 in
set_option maxRecDepth 100000 in
theorem c_Row_copy (l : Launch) (D : va_G) (cI cL cZ : ClassId) (sz N : Nat) (a_this : Nat) (a_words : Nat) (a_p1 : Nat) (a_p1_words : Nat) (i_room : Int32) (i_used : Int32) (i_held : Int32) (i_many : Int32) (n_words : Nat) (v_words : Nat → Int64) (i_p1_room : Int32) (i_p1_used : Int32) (i_p1_held : Int32) (i_p1_many : Int32) (n_p1_words : Nat) (v_p1_words : Nat → Int64) (i_used' : Int32) (v_words' : Nat → Int64) (h : f_Row_copy N i_room n_words i_p1_used n_p1_words v_p1_words i_used v_words = some (i_used', v_words')) : Met l ({ cls := "PrefixMill$Row", name := "copy", desc := "(LPrefixMill$Row;)V" } : Jvm.MethodName) ws_Row_copy R_Row_copy (va_Pc [.ref a_this, .ref a_p1] (fun U => U.heap.size = sz ∧ va_P D classes [(a_this, .inr (5, [.ref a_words, .int i_room, .int i_used, .int i_held, .int i_many])), (a_words, .inl (cL, n_words, .inr (.inl v_words))), (a_p1, .inr (5, [.ref a_p1_words, .int i_p1_room, .int i_p1_used, .int i_p1_held, .int i_p1_many])), (a_p1_words, .inl (cL, n_p1_words, .inr (.inl v_p1_words)))] U.heap ∧ va_K D classes [(cI, .int), (cL, .long), (cZ, .boolean)] U ∧ va_D (fun _ => True) [(a_this, .inr (5, [.ref a_words, .int i_room, .int i_used, .int i_held, .int i_many])), (a_words, .inl (cL, n_words, .inr (.inl v_words))), (a_p1, .inr (5, [.ref a_p1_words, .int i_p1_room, .int i_p1_used, .int i_p1_held, .int i_p1_many])), (a_p1_words, .inl (cL, n_p1_words, .inr (.inl v_p1_words)))])) (va_Qv (fun _ : Unit => True) (fun _ t => va_P D classes [(a_this, .inr (5, [.ref a_words, .int i_room, .int i_used', .int i_held, .int i_many])), (a_words, .inl (cL, n_words, .inr (.inl v_words'))), (a_p1, .inr (5, [.ref a_p1_words, .int i_p1_room, .int i_p1_used, .int i_p1_held, .int i_p1_many])), (a_p1_words, .inl (cL, n_p1_words, .inr (.inl v_p1_words)))] t.heap ∧ va_K D classes [(cI, .int), (cL, .long), (cZ, .boolean)] t ∧ va_D (va_A [(a_this, .inr (5, [.ref a_words, .int i_room, .int i_used, .int i_held, .int i_many])), (a_words, .inl (cL, n_words, .inr (.inl v_words))), (a_p1, .inr (5, [.ref a_p1_words, .int i_p1_room, .int i_p1_used, .int i_p1_held, .int i_p1_many])), (a_p1_words, .inl (cL, n_p1_words, .inr (.inl v_p1_words)))] sz) [(a_this, .inr (5, [.ref a_words, .int i_room, .int i_used', .int i_held, .int i_many])), (a_words, .inl (cL, n_words, .inr (.inl v_words'))), (a_p1, .inr (5, [.ref a_p1_words, .int i_p1_room, .int i_p1_used, .int i_p1_held, .int i_p1_many])), (a_p1_words, .inl (cL, n_p1_words, .inr (.inl v_p1_words)))]) (va_A [(a_this, .inr (5, [.ref a_words, .int i_room, .int i_used, .int i_held, .int i_many])), (a_words, .inl (cL, n_words, .inr (.inl v_words))), (a_p1, .inr (5, [.ref a_p1_words, .int i_p1_room, .int i_p1_used, .int i_p1_held, .int i_p1_many])), (a_p1_words, .inl (cL, n_p1_words, .inr (.inl v_p1_words)))] sz)) 0 0 (va_A [(a_this, .inr (5, [.ref a_words, .int i_room, .int i_used, .int i_held, .int i_many])), (a_words, .inl (cL, n_words, .inr (.inl v_words))), (a_p1, .inr (5, [.ref a_p1_words, .int i_p1_room, .int i_p1_used, .int i_p1_held, .int i_p1_many])), (a_p1_words, .inl (cL, n_p1_words, .inr (.inl v_p1_words)))] sz) := by
  refine Met.ofW (cc := b_Row_copy) (maxL := 3) (ret := none) (by decide) rfl ?_
  intro p e s m args below meth c s₁ B hml hv
  obtain ⟨rfl, hsz, hP, hK, hD0⟩ := hv
  have hx := B.exec
  have hb := B.bytes
  have hr := B.returns
  have hts0 := atoms_spec (ws := ws_Row_copy) B.pre
  have hts := gd_tl hts0
  clear hts0
  have hown : s.vm.findClass "PrefixMill$Row" = some m.cls := findClass_of_methodNamed B.named
  have hlocks := B.notSynchronized
  subst hsz
  have hD := hD0.self (sz := s.heap.size)
  generalize hAe : va_A [(a_this, .inr (5, [.ref a_words, .int i_room, .int i_used, .int i_held, .int i_many])), (a_words, .inl (cL, n_words, .inr (.inl v_words))), (a_p1, .inr (5, [.ref a_p1_words, .int i_p1_room, .int i_p1_used, .int i_p1_held, .int i_p1_many])), (a_p1_words, .inl (cL, n_p1_words, .inr (.inl v_p1_words)))] s.heap.size = A at hD ⊢
  have hA : ∀ q : Nat, s.heap.size ≤ q → A q := fun q h => by rw [← hAe]; exact Or.inr h
  have hS : va_S A s.heap s.heap [] := va_S.rf
  have hP : va_P D classes [(a_this, .inr (5, [.ref a_words, .int i_room, .int i_used, .int i_held, .int i_many])), (a_words, .inl (cL, n_words, .inr (.inl v_words))), (a_p1, .inr (5, [.ref a_p1_words, .int i_p1_room, .int i_p1_used, .int i_p1_held, .int i_p1_many])), (a_p1_words, .inl (cL, n_p1_words, .inr (.inl v_p1_words)))] s.heap := hP
  have hl := lv_entry ([.ref a_this, .ref a_p1]) (n := 3) (Nat.le_of_ble_eq_true rfl)
  rw [lg_entry_eq]
  generalize (lg_sl ([.ref a_this, .ref a_p1]) ++ List.replicate (3 - (lg_sl ([.ref a_this, .ref a_p1])).length) Slot.unset).toArray = ls at hl ⊢
  have hl : lv_has ls 3 [(0, .ref a_this), (1, .ref a_p1)] := hl
  have C : Cx p s m ([.ref a_this, .ref a_p1] : List Value).toArray c b_Row_copy 3 "PrefixMill$Row" D [(cI, .int), (cL, .long), (cZ, .boolean)] A := ⟨hx, hb, hml, hown, hts, hK, hA⟩
  refine w_Row_copy_b0 (res := (i_used', v_words')) C ?_ _ _ h s.heap [] ls hl hP hD hS
  intro pc9 H9 locs9 ls9 i_used9 v_words9 e9 d9 hP9 hD9 hS9
  cases e9
  exact W.vret hx hb hr (fun t ht hW => ⟨⟨(), rfl, trivial, by rw [ht]; exact hP9, va_K.moved hW.alike hK, hD9⟩, hS9.F ht⟩) hS9.2.2 d9
abbrev b_PM_turn : ByteArray := prog_1_method_4_code
def ws_PM_turn : List Cond := .code ({ cls := "PrefixMill", name := "turn", desc := "()V" } : Jvm.MethodName) b_PM_turn 1 none :: tt
theorem d_PM_turn_0 : decode b_PM_turn 0 = .ok (.aload_n 0, 1) := by decide +kernel
theorem d_PM_turn_1 : decode b_PM_turn 1 = .ok (.getfield 14, 3) := by decide +kernel
theorem d_PM_turn_4 : decode b_PM_turn 4 = .ok (.aload_n 0, 1) := by decide +kernel
theorem d_PM_turn_5 : decode b_PM_turn 5 = .ok (.getfield 18, 3) := by decide +kernel
theorem d_PM_turn_8 : decode b_PM_turn 8 = .ok (.invokevirtual 74, 3) := by decide +kernel
theorem d_PM_turn_11 : decode b_PM_turn 11 = .ok (.aload_n 0, 1) := by decide +kernel
theorem d_PM_turn_12 : decode b_PM_turn 12 = .ok (.iconst 0, 1) := by decide +kernel
theorem d_PM_turn_13 : decode b_PM_turn 13 = .ok (.putfield 60, 3) := by decide +kernel
theorem d_PM_turn_16 : decode b_PM_turn 16 = .ok (.return_, 1) := by decide +kernel
abbrev R_PM_turn : Room := ({ frames := 2, cells := 0, slots := 0, locals := 82 } : Room)
def E_PM_turn (p : Program) (l : Launch) (e : Env) (s : State) (m : MethodId) (args : Array Value) (below : List Frame) (meth : Method) (c : Code) (Q : State → Prop) (A : Nat → Prop) (D : va_G) (cI cL cZ : ClassId) (a_this : Nat) (a_in : Nat) (a_in_words : Nat) (a_out : Nat) (a_out_words : Nat) (o_counts : Nat) (o_codes : Nat) (o_tree : Nat) (o_writer : Nat) (o_reader : Nat) (o_streams : Nat) (i_in_room : Int32) (i_in_held : Int32) (i_in_many : Int32) (n_in_words : Nat) (i_out_room : Int32) (i_out_used : Int32) (i_out_held : Int32) (i_out_many : Int32) (n_out_words : Nat) (v_out_words : Nat → Int64) (res : Int32 × Int32 × (Nat → Int64)) : Prop := ∀ (pc : Nat) (H : Heap) (locs : List Loc) (ls : Array Slot) (i_place : Int32) (i_in_used : Int32) (v_in_words : Nat → Int64), some (i_place, i_in_used, v_in_words) = some res → decode b_PM_turn pc = .ok (.return_, 1) → va_P D classes [(a_this, .inr (0, [.ref a_in, .ref a_out, .ref o_counts, .ref o_codes, .ref o_tree, .ref o_writer, .ref o_reader, .ref o_streams, .int i_place])), (a_in, .inr (5, [.ref a_in_words, .int i_in_room, .int i_in_used, .int i_in_held, .int i_in_many])), (a_in_words, .inl (cL, n_in_words, .inr (.inl v_in_words))), (a_out, .inr (5, [.ref a_out_words, .int i_out_room, .int i_out_used, .int i_out_held, .int i_out_many])), (a_out_words, .inl (cL, n_out_words, .inr (.inl v_out_words)))] H → va_D A [(a_this, .inr (0, [.ref a_in, .ref a_out, .ref o_counts, .ref o_codes, .ref o_tree, .ref o_writer, .ref o_reader, .ref o_streams, .int i_place])), (a_in, .inr (5, [.ref a_in_words, .int i_in_room, .int i_in_used, .int i_in_held, .int i_in_many])), (a_in_words, .inl (cL, n_in_words, .inr (.inl v_in_words))), (a_out, .inr (5, [.ref a_out_words, .int i_out_room, .int i_out_used, .int i_out_held, .int i_out_many])), (a_out_words, .inl (cL, n_out_words, .inr (.inl v_out_words)))] → va_S A s.heap H locs → W p l e R_PM_turn s m args below meth c H locs 0 0 Q (F0 m pc ls [])
def I_PM_turn_b0 (p : Program) (l : Launch) (e : Env) (s : State) (m : MethodId) (args : Array Value) (below : List Frame) (meth : Method) (c : Code) (Q : State → Prop) (A : Nat → Prop) (D : va_G) (cI cL cZ : ClassId) (a_this : Nat) (a_in : Nat) (a_in_words : Nat) (a_out : Nat) (a_out_words : Nat) (o_counts : Nat) (o_codes : Nat) (o_tree : Nat) (o_writer : Nat) (o_reader : Nat) (o_streams : Nat) (i_in_room : Int32) (i_in_held : Int32) (i_in_many : Int32) (n_in_words : Nat) (i_out_room : Int32) (i_out_used : Int32) (i_out_held : Int32) (i_out_many : Int32) (n_out_words : Nat) (v_out_words : Nat → Int64) (res : Int32 × Int32 × (Nat → Int64)) (kf : Int32 → Int32 → (Nat → Int64) → Option (Int32 × Int32 × (Nat → Int64))) : Prop := ∀ (i_place : Int32) (i_in_used : Int32) (v_in_words : Nat → Int64), kf i_place i_in_used v_in_words = some res → ∀ (H : Heap) (locs : List Loc) (ls : Array Slot), lv_has ls 1 [(0, .ref a_this)] → va_P D classes [(a_this, .inr (0, [.ref a_in, .ref a_out, .ref o_counts, .ref o_codes, .ref o_tree, .ref o_writer, .ref o_reader, .ref o_streams, .int i_place])), (a_in, .inr (5, [.ref a_in_words, .int i_in_room, .int i_in_used, .int i_in_held, .int i_in_many])), (a_in_words, .inl (cL, n_in_words, .inr (.inl v_in_words))), (a_out, .inr (5, [.ref a_out_words, .int i_out_room, .int i_out_used, .int i_out_held, .int i_out_many])), (a_out_words, .inl (cL, n_out_words, .inr (.inl v_out_words)))] H → va_D A [(a_this, .inr (0, [.ref a_in, .ref a_out, .ref o_counts, .ref o_codes, .ref o_tree, .ref o_writer, .ref o_reader, .ref o_streams, .int i_place])), (a_in, .inr (5, [.ref a_in_words, .int i_in_room, .int i_in_used, .int i_in_held, .int i_in_many])), (a_in_words, .inl (cL, n_in_words, .inr (.inl v_in_words))), (a_out, .inr (5, [.ref a_out_words, .int i_out_room, .int i_out_used, .int i_out_held, .int i_out_many])), (a_out_words, .inl (cL, n_out_words, .inr (.inl v_out_words)))] → va_S A s.heap H locs → W p l e R_PM_turn s m args below meth c H locs 0 0 Q (F0 m 0 ls [])
set_option maxHeartbeats 4000000 in
set_option maxRecDepth 100000 in
theorem w_PM_turn_b0 {p : Program} {l : Launch} {e : Env} {s : State} {m : MethodId} {args : Array Value} {below : List Frame} {meth : Method} {c : Code} {Q : State → Prop} {A : Nat → Prop} {D : va_G} {cI cL cZ : ClassId} {a_this : Nat} {a_in : Nat} {a_in_words : Nat} {a_out : Nat} {a_out_words : Nat} {o_counts : Nat} {o_codes : Nat} {o_tree : Nat} {o_writer : Nat} {o_reader : Nat} {o_streams : Nat} {i_in_room : Int32} {i_in_held : Int32} {i_in_many : Int32} {n_in_words : Nat} {i_out_room : Int32} {i_out_used : Int32} {i_out_held : Int32} {i_out_many : Int32} {n_out_words : Nat} {v_out_words : Nat → Int64} {N : Nat} {res : Int32 × Int32 × (Nat → Int64)}  (C : Cx p s m args c b_PM_turn 1 "PrefixMill" D [(cI, .int), (cL, .long), (cZ, .boolean)] A) (hret : E_PM_turn p l e s m args below meth c Q A D cI cL cZ a_this a_in a_in_words a_out a_out_words o_counts o_codes o_tree o_writer o_reader o_streams i_in_room i_in_held i_in_many n_in_words i_out_room i_out_used i_out_held i_out_many n_out_words v_out_words res)  : I_PM_turn_b0 p l e s m args below meth c Q A D cI cL cZ a_this a_in a_in_words a_out a_out_words o_counts o_codes o_tree o_writer o_reader o_streams i_in_room i_in_held i_in_many n_in_words i_out_room i_out_used i_out_held i_out_many n_out_words v_out_words res (f_PM_turn N i_in_room n_in_words i_out_used n_out_words v_out_words ) := by
  obtain ⟨hx, hb, hml, hown, hts, hK, hA⟩ := C
  intro i_place i_in_used v_in_words h H locs ls hl hP hD hS
  unfold f_PM_turn at h
  refine lv_aload_n hx hb d_PM_turn_0 rfl (lv_at hl 0 rfl) ?_
  refine va_get hx hb hts in_PM hown hK hP 0 rfl rfl 0 (by decide) (hts _ m_340) (fun _ h9 => h9) rfl d_PM_turn_1 ?_
  refine lv_aload_n hx hb d_PM_turn_4 rfl (lv_at hl 0 rfl) ?_
  refine va_get hx hb hts in_PM hown hK hP 0 rfl rfl 1 (by decide) (hts _ m_341) (fun _ h9 => h9) rfl d_PM_turn_5 ?_
  obtain ⟨i_in_used_1, v_in_words_2, hc_3, h⟩ := bd2_s h
  have hPc := hP.sub (ws' := [(a_in, .inr (5, [.ref a_in_words, .int i_in_room, .int i_in_used, .int i_in_held, .int i_in_many])), (a_in_words, .inl (cL, n_in_words, .inr (.inl v_in_words))), (a_out, .inr (5, [.ref a_out_words, .int i_out_room, .int i_out_used, .int i_out_held, .int i_out_many])), (a_out_words, .inl (cL, n_out_words, .inr (.inl v_out_words)))]) [1, 2, 3, 4] rfl
  have hDc := hD.sub (ws' := [(a_in, .inr (5, [.ref a_in_words, .int i_in_room, .int i_in_used, .int i_in_held, .int i_in_many])), (a_in_words, .inl (cL, n_in_words, .inr (.inl v_in_words))), (a_out, .inr (5, [.ref a_out_words, .int i_out_room, .int i_out_used, .int i_out_held, .int i_out_many])), (a_out_words, .inl (cL, n_out_words, .inr (.inl v_out_words)))]) [1, 2, 3, 4] (by decide) rfl
  have hFc := va_free (wc := [(a_in, .inr (5, [.ref a_in_words, .int i_in_room, .int i_in_used, .int i_in_held, .int i_in_many])), (a_in_words, .inl (cL, n_in_words, .inr (.inl v_in_words))), (a_out, .inr (5, [.ref a_out_words, .int i_out_room, .int i_out_used, .int i_out_held, .int i_out_many])), (a_out_words, .inl (cL, n_out_words, .inr (.inl v_out_words)))]) hD hS hA [1, 2, 3, 4] rfl
  refine va_callv (va_runV (As := [.ref a_out]) (rest := []) ⟨hx, hb, hml, hown, hts⟩ (c_Row_copy l D cI cL cZ H.size N a_in a_in_words a_out a_out_words i_in_room i_in_used i_in_held i_in_many n_in_words v_in_words i_out_room i_out_used i_out_held i_out_many n_out_words v_out_words i_in_used_1 v_in_words_2 hc_3) ⟨(my_cb 1 hts m_393 rfl rfl (hts _ m_67) (hts _ m_390) (by decide +kernel) ⟨Nat.le_of_ble_eq_true rfl, Nat.le_of_ble_eq_true rfl⟩), hts _ m_391, hts _ m_392⟩ ⟨fun a U g mk q => by obtain ⟨q0, q1, qP, qK, qD⟩ := q; exact ⟨q0, q1, qP, va_K.moved (u := U) (U := U.calling g mk a) (Vm.Alike.refl U.vm) qK, qD⟩, va_recv hK hPc (ci := 5) (q0 := 0) rfl rfl, fun U hU hW => ⟨rfl, by rw [hU], by rw [hU]; exact hPc, va_K.moved hW.alike hK, hDc.weaken (fun _ _ _ _ => trivial)⟩⟩ rfl rfl hl.1 rfl (lv_room (Nat.le_of_ble_eq_true rfl)) d_PM_turn_8 ⟨Nat.zero_le _, Nat.zero_le _⟩) hS (fun q _ h => hFc q h) hFc (fun u t H1 locs ht hvm hw hB hz1 hk1 hS => ?_)
  obtain ⟨hP1, hK1, hD1⟩ := hB
  rw [ht] at hP1
  obtain ⟨hP, hD⟩ := va_join (wr := [(a_this, .inr (0, [.ref a_in, .ref a_out, .ref o_counts, .ref o_codes, .ref o_tree, .ref o_writer, .ref o_reader, .ref o_streams, .int i_place]))]) (w1 := [(a_in, .inr (5, [.ref a_in_words, .int i_in_room, .int i_in_used_1, .int i_in_held, .int i_in_many])), (a_in_words, .inl (cL, n_in_words, .inr (.inl v_in_words_2))), (a_out, .inr (5, [.ref a_out_words, .int i_out_room, .int i_out_used, .int i_out_held, .int i_out_many])), (a_out_words, .inl (cL, n_out_words, .inr (.inl v_out_words)))]) hP hD [1, 2, 3, 4] [0] rfl rfl (by decide) (by decide) hk1 hFc hP1 hD1
  clear hPc hDc hFc hk1 hP1 hD1 hK1
  generalize H1 = H at hP hS ⊢
  have hP : va_P D classes [(a_this, .inr (0, [.ref a_in, .ref a_out, .ref o_counts, .ref o_codes, .ref o_tree, .ref o_writer, .ref o_reader, .ref o_streams, .int i_place])), (a_in, .inr (5, [.ref a_in_words, .int i_in_room, .int i_in_used_1, .int i_in_held, .int i_in_many])), (a_in_words, .inl (cL, n_in_words, .inr (.inl v_in_words_2))), (a_out, .inr (5, [.ref a_out_words, .int i_out_room, .int i_out_used, .int i_out_held, .int i_out_many])), (a_out_words, .inl (cL, n_out_words, .inr (.inl v_out_words)))] H := hP.sub [0, 1, 2, 3, 4] rfl
  have hD : va_D A [(a_this, .inr (0, [.ref a_in, .ref a_out, .ref o_counts, .ref o_codes, .ref o_tree, .ref o_writer, .ref o_reader, .ref o_streams, .int i_place])), (a_in, .inr (5, [.ref a_in_words, .int i_in_room, .int i_in_used_1, .int i_in_held, .int i_in_many])), (a_in_words, .inl (cL, n_in_words, .inr (.inl v_in_words_2))), (a_out, .inr (5, [.ref a_out_words, .int i_out_room, .int i_out_used, .int i_out_held, .int i_out_many])), (a_out_words, .inl (cL, n_out_words, .inr (.inl v_out_words)))] := hD.sub [0, 1, 2, 3, 4] (by decide) rfl
  refine lv_aload_n hx hb d_PM_turn_11 rfl (lv_at hl 0 rfl) ?_
  refine lv_iconst (v := 0) hx hb d_PM_turn_12 (by decide) ?_
  refine va_put (v := .int 0) (ty := .int) hx hb hts in_PM t_PM t_PM_ok n_PM hown hK hP hD hS 0 rfl rfl 8 (by decide) (hts _ m_348) (fun _ h9 => h9) rfl (by decide +kernel) rfl rfl (Nat.le_of_ble_eq_true rfl) d_PM_turn_13 (fun H locs hP hD hS => ?_)
  have hP : va_P D classes [(a_this, .inr (0, [.ref a_in, .ref a_out, .ref o_counts, .ref o_codes, .ref o_tree, .ref o_writer, .ref o_reader, .ref o_streams, .int 0])), (a_in, .inr (5, [.ref a_in_words, .int i_in_room, .int i_in_used_1, .int i_in_held, .int i_in_many])), (a_in_words, .inl (cL, n_in_words, .inr (.inl v_in_words_2))), (a_out, .inr (5, [.ref a_out_words, .int i_out_room, .int i_out_used, .int i_out_held, .int i_out_many])), (a_out_words, .inl (cL, n_out_words, .inr (.inl v_out_words)))] H := by exact hP
  have hD : va_D A [(a_this, .inr (0, [.ref a_in, .ref a_out, .ref o_counts, .ref o_codes, .ref o_tree, .ref o_writer, .ref o_reader, .ref o_streams, .int 0])), (a_in, .inr (5, [.ref a_in_words, .int i_in_room, .int i_in_used_1, .int i_in_held, .int i_in_many])), (a_in_words, .inl (cL, n_in_words, .inr (.inl v_in_words_2))), (a_out, .inr (5, [.ref a_out_words, .int i_out_room, .int i_out_used, .int i_out_held, .int i_out_many])), (a_out_words, .inl (cL, n_out_words, .inr (.inl v_out_words)))] := by exact hD
  exact hret _ _ _ _ 0 i_in_used_1 v_in_words_2 h d_PM_turn_16 hP hD hS
set_option maxHeartbeats 4000000 in
set_option maxRecDepth 100000 in
theorem c_PM_turn (l : Launch) (D : va_G) (cI cL cZ : ClassId) (sz N : Nat) (a_this : Nat) (a_in : Nat) (a_in_words : Nat) (a_out : Nat) (a_out_words : Nat) (o_counts : Nat) (o_codes : Nat) (o_tree : Nat) (o_writer : Nat) (o_reader : Nat) (o_streams : Nat) (i_place : Int32) (i_in_room : Int32) (i_in_used : Int32) (i_in_held : Int32) (i_in_many : Int32) (n_in_words : Nat) (v_in_words : Nat → Int64) (i_out_room : Int32) (i_out_used : Int32) (i_out_held : Int32) (i_out_many : Int32) (n_out_words : Nat) (v_out_words : Nat → Int64) (i_place' : Int32) (i_in_used' : Int32) (v_in_words' : Nat → Int64) (h : f_PM_turn N i_in_room n_in_words i_out_used n_out_words v_out_words i_place i_in_used v_in_words = some (i_place', i_in_used', v_in_words')) : Met l ({ cls := "PrefixMill", name := "turn", desc := "()V" } : Jvm.MethodName) ws_PM_turn R_PM_turn (va_Pc [.ref a_this] (fun U => U.heap.size = sz ∧ va_P D classes [(a_this, .inr (0, [.ref a_in, .ref a_out, .ref o_counts, .ref o_codes, .ref o_tree, .ref o_writer, .ref o_reader, .ref o_streams, .int i_place])), (a_in, .inr (5, [.ref a_in_words, .int i_in_room, .int i_in_used, .int i_in_held, .int i_in_many])), (a_in_words, .inl (cL, n_in_words, .inr (.inl v_in_words))), (a_out, .inr (5, [.ref a_out_words, .int i_out_room, .int i_out_used, .int i_out_held, .int i_out_many])), (a_out_words, .inl (cL, n_out_words, .inr (.inl v_out_words)))] U.heap ∧ va_K D classes [(cI, .int), (cL, .long), (cZ, .boolean)] U ∧ va_D (fun _ => True) [(a_this, .inr (0, [.ref a_in, .ref a_out, .ref o_counts, .ref o_codes, .ref o_tree, .ref o_writer, .ref o_reader, .ref o_streams, .int i_place])), (a_in, .inr (5, [.ref a_in_words, .int i_in_room, .int i_in_used, .int i_in_held, .int i_in_many])), (a_in_words, .inl (cL, n_in_words, .inr (.inl v_in_words))), (a_out, .inr (5, [.ref a_out_words, .int i_out_room, .int i_out_used, .int i_out_held, .int i_out_many])), (a_out_words, .inl (cL, n_out_words, .inr (.inl v_out_words)))])) (va_Qv (fun _ : Unit => True) (fun _ t => va_P D classes [(a_this, .inr (0, [.ref a_in, .ref a_out, .ref o_counts, .ref o_codes, .ref o_tree, .ref o_writer, .ref o_reader, .ref o_streams, .int i_place'])), (a_in, .inr (5, [.ref a_in_words, .int i_in_room, .int i_in_used', .int i_in_held, .int i_in_many])), (a_in_words, .inl (cL, n_in_words, .inr (.inl v_in_words'))), (a_out, .inr (5, [.ref a_out_words, .int i_out_room, .int i_out_used, .int i_out_held, .int i_out_many])), (a_out_words, .inl (cL, n_out_words, .inr (.inl v_out_words)))] t.heap ∧ va_K D classes [(cI, .int), (cL, .long), (cZ, .boolean)] t ∧ va_D (va_A [(a_this, .inr (0, [.ref a_in, .ref a_out, .ref o_counts, .ref o_codes, .ref o_tree, .ref o_writer, .ref o_reader, .ref o_streams, .int i_place])), (a_in, .inr (5, [.ref a_in_words, .int i_in_room, .int i_in_used, .int i_in_held, .int i_in_many])), (a_in_words, .inl (cL, n_in_words, .inr (.inl v_in_words))), (a_out, .inr (5, [.ref a_out_words, .int i_out_room, .int i_out_used, .int i_out_held, .int i_out_many])), (a_out_words, .inl (cL, n_out_words, .inr (.inl v_out_words)))] sz) [(a_this, .inr (0, [.ref a_in, .ref a_out, .ref o_counts, .ref o_codes, .ref o_tree, .ref o_writer, .ref o_reader, .ref o_streams, .int i_place'])), (a_in, .inr (5, [.ref a_in_words, .int i_in_room, .int i_in_used', .int i_in_held, .int i_in_many])), (a_in_words, .inl (cL, n_in_words, .inr (.inl v_in_words'))), (a_out, .inr (5, [.ref a_out_words, .int i_out_room, .int i_out_used, .int i_out_held, .int i_out_many])), (a_out_words, .inl (cL, n_out_words, .inr (.inl v_out_words)))]) (va_A [(a_this, .inr (0, [.ref a_in, .ref a_out, .ref o_counts, .ref o_codes, .ref o_tree, .ref o_writer, .ref o_reader, .ref o_streams, .int i_place])), (a_in, .inr (5, [.ref a_in_words, .int i_in_room, .int i_in_used, .int i_in_held, .int i_in_many])), (a_in_words, .inl (cL, n_in_words, .inr (.inl v_in_words))), (a_out, .inr (5, [.ref a_out_words, .int i_out_room, .int i_out_used, .int i_out_held, .int i_out_many])), (a_out_words, .inl (cL, n_out_words, .inr (.inl v_out_words)))] sz)) 0 0 (va_A [(a_this, .inr (0, [.ref a_in, .ref a_out, .ref o_counts, .ref o_codes, .ref o_tree, .ref o_writer, .ref o_reader, .ref o_streams, .int i_place])), (a_in, .inr (5, [.ref a_in_words, .int i_in_room, .int i_in_used, .int i_in_held, .int i_in_many])), (a_in_words, .inl (cL, n_in_words, .inr (.inl v_in_words))), (a_out, .inr (5, [.ref a_out_words, .int i_out_room, .int i_out_used, .int i_out_held, .int i_out_many])), (a_out_words, .inl (cL, n_out_words, .inr (.inl v_out_words)))] sz) := by
  refine Met.ofW (cc := b_PM_turn) (maxL := 1) (ret := none) (by decide) rfl ?_
  intro p e s m args below meth c s₁ B hml hv
  obtain ⟨rfl, hsz, hP, hK, hD0⟩ := hv
  have hx := B.exec
  have hb := B.bytes
  have hr := B.returns
  have hts0 := atoms_spec (ws := ws_PM_turn) B.pre
  have hts := gd_tl hts0
  clear hts0
  have hown : s.vm.findClass "PrefixMill" = some m.cls := findClass_of_methodNamed B.named
  have hlocks := B.notSynchronized
  subst hsz
  have hD := hD0.self (sz := s.heap.size)
  generalize hAe : va_A [(a_this, .inr (0, [.ref a_in, .ref a_out, .ref o_counts, .ref o_codes, .ref o_tree, .ref o_writer, .ref o_reader, .ref o_streams, .int i_place])), (a_in, .inr (5, [.ref a_in_words, .int i_in_room, .int i_in_used, .int i_in_held, .int i_in_many])), (a_in_words, .inl (cL, n_in_words, .inr (.inl v_in_words))), (a_out, .inr (5, [.ref a_out_words, .int i_out_room, .int i_out_used, .int i_out_held, .int i_out_many])), (a_out_words, .inl (cL, n_out_words, .inr (.inl v_out_words)))] s.heap.size = A at hD ⊢
  have hA : ∀ q : Nat, s.heap.size ≤ q → A q := fun q h => by rw [← hAe]; exact Or.inr h
  have hS : va_S A s.heap s.heap [] := va_S.rf
  have hP : va_P D classes [(a_this, .inr (0, [.ref a_in, .ref a_out, .ref o_counts, .ref o_codes, .ref o_tree, .ref o_writer, .ref o_reader, .ref o_streams, .int i_place])), (a_in, .inr (5, [.ref a_in_words, .int i_in_room, .int i_in_used, .int i_in_held, .int i_in_many])), (a_in_words, .inl (cL, n_in_words, .inr (.inl v_in_words))), (a_out, .inr (5, [.ref a_out_words, .int i_out_room, .int i_out_used, .int i_out_held, .int i_out_many])), (a_out_words, .inl (cL, n_out_words, .inr (.inl v_out_words)))] s.heap := hP
  have hl := lv_entry ([.ref a_this]) (n := 1) (Nat.le_of_ble_eq_true rfl)
  rw [lg_entry_eq]
  generalize (lg_sl ([.ref a_this]) ++ List.replicate (1 - (lg_sl ([.ref a_this])).length) Slot.unset).toArray = ls at hl ⊢
  have hl : lv_has ls 1 [(0, .ref a_this)] := hl
  have C : Cx p s m ([.ref a_this] : List Value).toArray c b_PM_turn 1 "PrefixMill" D [(cI, .int), (cL, .long), (cZ, .boolean)] A := ⟨hx, hb, hml, hown, hts, hK, hA⟩
  refine w_PM_turn_b0 (res := (i_place', i_in_used', v_in_words')) C ?_ _ _ _ h s.heap [] ls hl hP hD hS
  intro pc9 H9 locs9 ls9 i_place9 i_in_used9 v_in_words9 e9 d9 hP9 hD9 hS9
  cases e9
  exact W.vret hx hb hr (fun t ht hW => ⟨⟨(), rfl, trivial, by rw [ht]; exact hP9, va_K.moved hW.alike hK, hD9⟩, hS9.F ht⟩) hS9.2.2 d9
abbrev b_Row_empty : ByteArray := prog_5_method_2_code
def ws_Row_empty : List Cond := .code ({ cls := "PrefixMill$Row", name := "empty", desc := "()V" } : Jvm.MethodName) b_Row_empty 1 none :: tt
theorem d_Row_empty_0 : decode b_Row_empty 0 = .ok (.aload_n 0, 1) := by decide +kernel
theorem d_Row_empty_1 : decode b_Row_empty 1 = .ok (.iconst 0, 1) := by decide +kernel
theorem d_Row_empty_2 : decode b_Row_empty 2 = .ok (.putfield 17, 3) := by decide +kernel
theorem d_Row_empty_5 : decode b_Row_empty 5 = .ok (.return_, 1) := by decide +kernel
abbrev R_Row_empty : Room := ({ frames := 0, cells := 0, slots := 0, locals := 0 } : Room)
def E_Row_empty (p : Program) (l : Launch) (e : Env) (s : State) (m : MethodId) (args : Array Value) (below : List Frame) (meth : Method) (c : Code) (Q : State → Prop) (A : Nat → Prop) (D : va_G) (cI cL cZ : ClassId) (a_this : Nat) (o_words : Nat) (i_room : Int32) (i_held : Int32) (i_many : Int32) (res : Int32) : Prop := ∀ (pc : Nat) (H : Heap) (locs : List Loc) (ls : Array Slot) (i_used : Int32), some (i_used) = some res → decode b_Row_empty pc = .ok (.return_, 1) → va_P D classes [(a_this, .inr (5, [.ref o_words, .int i_room, .int i_used, .int i_held, .int i_many]))] H → va_D A [(a_this, .inr (5, [.ref o_words, .int i_room, .int i_used, .int i_held, .int i_many]))] → va_S A s.heap H locs → W p l e R_Row_empty s m args below meth c H locs 0 0 Q (F0 m pc ls [])
def I_Row_empty_b0 (p : Program) (l : Launch) (e : Env) (s : State) (m : MethodId) (args : Array Value) (below : List Frame) (meth : Method) (c : Code) (Q : State → Prop) (A : Nat → Prop) (D : va_G) (cI cL cZ : ClassId) (a_this : Nat) (o_words : Nat) (i_room : Int32) (i_held : Int32) (i_many : Int32) (res : Int32) (kf : Int32 → Option (Int32)) : Prop := ∀ (i_used : Int32), kf i_used = some res → ∀ (H : Heap) (locs : List Loc) (ls : Array Slot), lv_has ls 1 [(0, .ref a_this)] → va_P D classes [(a_this, .inr (5, [.ref o_words, .int i_room, .int i_used, .int i_held, .int i_many]))] H → va_D A [(a_this, .inr (5, [.ref o_words, .int i_room, .int i_used, .int i_held, .int i_many]))] → va_S A s.heap H locs → W p l e R_Row_empty s m args below meth c H locs 0 0 Q (F0 m 0 ls [])
set_option maxHeartbeats 4000000 in
set_option maxRecDepth 100000 in
theorem w_Row_empty_b0 {p : Program} {l : Launch} {e : Env} {s : State} {m : MethodId} {args : Array Value} {below : List Frame} {meth : Method} {c : Code} {Q : State → Prop} {A : Nat → Prop} {D : va_G} {cI cL cZ : ClassId} {a_this : Nat} {o_words : Nat} {i_room : Int32} {i_held : Int32} {i_many : Int32} {N : Nat} {res : Int32}  (C : Cx p s m args c b_Row_empty 1 "PrefixMill$Row" D [(cI, .int), (cL, .long), (cZ, .boolean)] A) (hret : E_Row_empty p l e s m args below meth c Q A D cI cL cZ a_this o_words i_room i_held i_many res)  : I_Row_empty_b0 p l e s m args below meth c Q A D cI cL cZ a_this o_words i_room i_held i_many res (f_Row_empty N  ) := by
  obtain ⟨hx, hb, hml, hown, hts, hK, hA⟩ := C
  intro i_used h H locs ls hl hP hD hS
  unfold f_Row_empty at h
  refine lv_aload_n hx hb d_Row_empty_0 rfl (lv_at hl 0 rfl) ?_
  refine lv_iconst (v := 0) hx hb d_Row_empty_1 (by decide) ?_
  refine va_put (v := .int 0) (ty := .int) hx hb hts in_Row t_Row t_Row_ok n_Row hown hK hP hD hS 0 rfl rfl 2 (by decide) (hts _ m_96) (fun _ h9 => h9) rfl (by decide +kernel) rfl rfl (Nat.le_of_ble_eq_true rfl) d_Row_empty_2 (fun H locs hP hD hS => ?_)
  have hP : va_P D classes [(a_this, .inr (5, [.ref o_words, .int i_room, .int 0, .int i_held, .int i_many]))] H := by exact hP
  have hD : va_D A [(a_this, .inr (5, [.ref o_words, .int i_room, .int 0, .int i_held, .int i_many]))] := by exact hD
  exact hret _ _ _ _ 0 h d_Row_empty_5 hP hD hS
set_option maxHeartbeats 4000000 in
set_option maxRecDepth 100000 in
theorem c_Row_empty (l : Launch) (D : va_G) (cI cL cZ : ClassId) (sz N : Nat) (a_this : Nat) (o_words : Nat) (i_room : Int32) (i_used : Int32) (i_held : Int32) (i_many : Int32) (i_used' : Int32) (h : f_Row_empty N  i_used = some (i_used')) : Met l ({ cls := "PrefixMill$Row", name := "empty", desc := "()V" } : Jvm.MethodName) ws_Row_empty R_Row_empty (va_Pc [.ref a_this] (fun U => U.heap.size = sz ∧ va_P D classes [(a_this, .inr (5, [.ref o_words, .int i_room, .int i_used, .int i_held, .int i_many]))] U.heap ∧ va_K D classes [(cI, .int), (cL, .long), (cZ, .boolean)] U ∧ va_D (fun _ => True) [(a_this, .inr (5, [.ref o_words, .int i_room, .int i_used, .int i_held, .int i_many]))])) (va_Qv (fun _ : Unit => True) (fun _ t => va_P D classes [(a_this, .inr (5, [.ref o_words, .int i_room, .int i_used', .int i_held, .int i_many]))] t.heap ∧ va_K D classes [(cI, .int), (cL, .long), (cZ, .boolean)] t ∧ va_D (va_A [(a_this, .inr (5, [.ref o_words, .int i_room, .int i_used, .int i_held, .int i_many]))] sz) [(a_this, .inr (5, [.ref o_words, .int i_room, .int i_used', .int i_held, .int i_many]))]) (va_A [(a_this, .inr (5, [.ref o_words, .int i_room, .int i_used, .int i_held, .int i_many]))] sz)) 0 0 (va_A [(a_this, .inr (5, [.ref o_words, .int i_room, .int i_used, .int i_held, .int i_many]))] sz) := by
  refine Met.ofW (cc := b_Row_empty) (maxL := 1) (ret := none) (by decide) rfl ?_
  intro p e s m args below meth c s₁ B hml hv
  obtain ⟨rfl, hsz, hP, hK, hD0⟩ := hv
  have hx := B.exec
  have hb := B.bytes
  have hr := B.returns
  have hts0 := atoms_spec (ws := ws_Row_empty) B.pre
  have hts := gd_tl hts0
  clear hts0
  have hown : s.vm.findClass "PrefixMill$Row" = some m.cls := findClass_of_methodNamed B.named
  have hlocks := B.notSynchronized
  subst hsz
  have hD := hD0.self (sz := s.heap.size)
  generalize hAe : va_A [(a_this, .inr (5, [.ref o_words, .int i_room, .int i_used, .int i_held, .int i_many]))] s.heap.size = A at hD ⊢
  have hA : ∀ q : Nat, s.heap.size ≤ q → A q := fun q h => by rw [← hAe]; exact Or.inr h
  have hS : va_S A s.heap s.heap [] := va_S.rf
  have hP : va_P D classes [(a_this, .inr (5, [.ref o_words, .int i_room, .int i_used, .int i_held, .int i_many]))] s.heap := hP
  have hl := lv_entry ([.ref a_this]) (n := 1) (Nat.le_of_ble_eq_true rfl)
  rw [lg_entry_eq]
  generalize (lg_sl ([.ref a_this]) ++ List.replicate (1 - (lg_sl ([.ref a_this])).length) Slot.unset).toArray = ls at hl ⊢
  have hl : lv_has ls 1 [(0, .ref a_this)] := hl
  have C : Cx p s m ([.ref a_this] : List Value).toArray c b_Row_empty 1 "PrefixMill$Row" D [(cI, .int), (cL, .long), (cZ, .boolean)] A := ⟨hx, hb, hml, hown, hts, hK, hA⟩
  refine w_Row_empty_b0 (res := (i_used')) C ?_ _ h s.heap [] ls hl hP hD hS
  intro pc9 H9 locs9 ls9 i_used9 e9 d9 hP9 hD9 hS9
  cases e9
  exact W.vret hx hb hr (fun t ht hW => ⟨⟨(), rfl, trivial, by rw [ht]; exact hP9, va_K.moved hW.alike hK, hD9⟩, hS9.F ht⟩) hS9.2.2 d9
abbrev b_JArr_fill : ByteArray := prog_15_method_103_code
def ws_JArr_fill : List Cond := .code ({ cls := "java/util/Arrays", name := "fill", desc := "([II)V" } : Jvm.MethodName) b_JArr_fill 4 none :: tt
theorem d_JArr_fill_0 : decode b_JArr_fill 0 = .ok (.iconst 0, 1) := by decide +kernel
theorem d_JArr_fill_1 : decode b_JArr_fill 1 = .ok (.istore_n 2, 1) := by decide +kernel
theorem d_JArr_fill_2 : decode b_JArr_fill 2 = .ok (.aload_n 0, 1) := by decide +kernel
theorem d_JArr_fill_3 : decode b_JArr_fill 3 = .ok (.arraylength, 1) := by decide +kernel
theorem d_JArr_fill_4 : decode b_JArr_fill 4 = .ok (.istore_n 3, 1) := by decide +kernel
theorem d_JArr_fill_5 : decode b_JArr_fill 5 = .ok (.iload_n 2, 1) := by decide +kernel
theorem d_JArr_fill_6 : decode b_JArr_fill 6 = .ok (.iload_n 3, 1) := by decide +kernel
theorem d_JArr_fill_7 : decode b_JArr_fill 7 = .ok (.if_icmp .ge 13, 3) := by decide +kernel
theorem d_JArr_fill_10 : decode b_JArr_fill 10 = .ok (.aload_n 0, 1) := by decide +kernel
theorem d_JArr_fill_11 : decode b_JArr_fill 11 = .ok (.iload_n 2, 1) := by decide +kernel
theorem d_JArr_fill_12 : decode b_JArr_fill 12 = .ok (.iload_n 1, 1) := by decide +kernel
theorem d_JArr_fill_13 : decode b_JArr_fill 13 = .ok (.iastore, 1) := by decide +kernel
theorem d_JArr_fill_14 : decode b_JArr_fill 14 = .ok (.iinc 2 1, 3) := by decide +kernel
theorem d_JArr_fill_17 : decode b_JArr_fill 17 = .ok (.goto (-12), 3) := by decide +kernel
theorem d_JArr_fill_20 : decode b_JArr_fill 20 = .ok (.return_, 1) := by decide +kernel
abbrev R_JArr_fill : Room := ({ frames := 0, cells := 0, slots := 0, locals := 0 } : Room)
def E_JArr_fill (p : Program) (l : Launch) (e : Env) (s : State) (m : MethodId) (args : Array Value) (below : List Frame) (meth : Method) (c : Code) (Q : State → Prop) (A : Nat → Prop) (D : va_G) (cI cL cZ : ClassId) (a_p1 : Nat) (n_p1 : Nat) (l1 : Int32) (res : (Nat → Int32)) : Prop := ∀ (pc : Nat) (H : Heap) (locs : List Loc) (ls : Array Slot) (v_p1 : Nat → Int32), some (v_p1) = some res → decode b_JArr_fill pc = .ok (.return_, 1) → va_P D classes [(a_p1, .inl (cI, n_p1, .inl v_p1))] H → va_D A [(a_p1, .inl (cI, n_p1, .inl v_p1))] → va_S A s.heap H locs → W p l e R_JArr_fill s m args below meth c H locs 0 0 Q (F0 m pc ls [])
def I_JArr_fill_b5 (p : Program) (l : Launch) (e : Env) (s : State) (m : MethodId) (args : Array Value) (below : List Frame) (meth : Method) (c : Code) (Q : State → Prop) (A : Nat → Prop) (D : va_G) (cI cL cZ : ClassId) (a_p1 : Nat) (n_p1 : Nat) (l1 : Int32) (res : (Nat → Int32)) (kf : Int32 → Int32 → (Nat → Int32) → Option ((Nat → Int32))) : Prop := ∀ (l2 : Int32) (l3 : Int32) (v_p1 : Nat → Int32), kf l2 l3 v_p1 = some res → ∀ (H : Heap) (locs : List Loc) (ls : Array Slot), lv_has ls 4 [(0, .ref a_p1), (1, .int l1), (2, .int l2), (3, .int l3)] → va_P D classes [(a_p1, .inl (cI, n_p1, .inl v_p1))] H → va_D A [(a_p1, .inl (cI, n_p1, .inl v_p1))] → va_S A s.heap H locs → W p l e R_JArr_fill s m args below meth c H locs 0 0 Q (F0 m 5 ls [])
def I_JArr_fill_b0 (p : Program) (l : Launch) (e : Env) (s : State) (m : MethodId) (args : Array Value) (below : List Frame) (meth : Method) (c : Code) (Q : State → Prop) (A : Nat → Prop) (D : va_G) (cI cL cZ : ClassId) (a_p1 : Nat) (n_p1 : Nat) (l1 : Int32) (res : (Nat → Int32)) (kf : (Nat → Int32) → Option ((Nat → Int32))) : Prop := ∀ (v_p1 : Nat → Int32), kf v_p1 = some res → ∀ (H : Heap) (locs : List Loc) (ls : Array Slot), lv_has ls 4 [(0, .ref a_p1), (1, .int l1)] → va_P D classes [(a_p1, .inl (cI, n_p1, .inl v_p1))] H → va_D A [(a_p1, .inl (cI, n_p1, .inl v_p1))] → va_S A s.heap H locs → W p l e R_JArr_fill s m args below meth c H locs 0 0 Q (F0 m 0 ls [])
set_option maxHeartbeats 4000000 in
set_option maxRecDepth 100000 in
theorem w_JArr_fill_b5 {p : Program} {l : Launch} {e : Env} {s : State} {m : MethodId} {args : Array Value} {below : List Frame} {meth : Method} {c : Code} {Q : State → Prop} {A : Nat → Prop} {D : va_G} {cI cL cZ : ClassId} {a_p1 : Nat} {n_p1 : Nat} {l1 : Int32} {N : Nat} {res : (Nat → Int32)}  (C : Cx p s m args c b_JArr_fill 4 "java/util/Arrays" D [(cI, .int), (cL, .long), (cZ, .boolean)] A) (hret : E_JArr_fill p l e s m args below meth c Q A D cI cL cZ a_p1 n_p1 l1 res)  : ∀ z : Nat, I_JArr_fill_b5 p l e s m args below meth c Q A D cI cL cZ a_p1 n_p1 l1 res (f_JArr_fill_b5 N n_p1 l1  z) := by
  obtain ⟨hx, hb, hml, hown, hts, hK, hA⟩ := C
  intro z
  induction z with
  | zero => intro l2 l3 v_p1 h; cases h
  | succ z ih =>
    intro l2 l3 v_p1 h H locs ls hl hP hD hS
    refine lv_iload_n hx hb d_JArr_fill_5 rfl (lv_at hl 2 rfl) ?_
    refine lv_iload_n hx hb d_JArr_fill_6 rfl (lv_at hl 3 rfl) ?_
    refine lv_icmp_ge (tgt := 20) hx hb d_JArr_fill_7 (by decide) (fun c_1 => ?_) (fun c_1 => ?_)
    · replace h := if_t h c_1
      exact hret _ _ _ _ v_p1 h d_JArr_fill_20 hP hD hS
    · replace h := if_f h c_1
      refine lv_aload_n hx hb d_JArr_fill_10 rfl (lv_at hl 0 rfl) ?_
      refine lv_iload_n hx hb d_JArr_fill_11 rfl (lv_at hl 2 rfl) ?_
      refine lv_iload_n hx hb d_JArr_fill_12 rfl (lv_at hl 1 rfl) ?_
      obtain ⟨g_2, h⟩ := ck_s h
      refine va_iast hx hb hK hP hD hS 0 0 rfl rfl (inb_s g_2) d_JArr_fill_13 (fun H locs hP hD hS => ?_)
      obtain ⟨v_p1_3, ev_p1_3⟩ : ∃ y, y = (upd v_p1 (Int32.toNatClampNeg l2) l1) := ⟨_, rfl⟩
      replace h := nm_s h ev_p1_3
      have hP : va_P D classes [(a_p1, .inl (cI, n_p1, .inl v_p1_3))] H := by rw [ev_p1_3]; exact hP
      have hD : va_D A [(a_p1, .inl (cI, n_p1, .inl v_p1_3))] := by rw [ev_p1_3]; exact hD
      obtain ⟨l2_4, el2_4⟩ : ∃ y : Int32, y = l2 + 1 := ⟨_, rfl⟩
      replace h := nm_s h el2_4
      refine lv_iinc (v := l2_4) (lv' := [(2, .int l2_4), (0, .ref a_p1), (1, .int l1), (3, .int l3)]) hx hb d_JArr_fill_14 hl (k := 2) rfl (by rw [el2_4]; rfl) (by decide) rfl (fun ls hl => ?_)
      refine lv_goto (tgt := 5) hx hb d_JArr_fill_17 (by decide) ?_
      exact ih _ _ _ h H locs ls (lv_sub hl [1, 2, 0, 3] rfl) hP hD hS
set_option maxHeartbeats 4000000 in
set_option maxRecDepth 100000 in
theorem w_JArr_fill_b0 {p : Program} {l : Launch} {e : Env} {s : State} {m : MethodId} {args : Array Value} {below : List Frame} {meth : Method} {c : Code} {Q : State → Prop} {A : Nat → Prop} {D : va_G} {cI cL cZ : ClassId} {a_p1 : Nat} {n_p1 : Nat} {l1 : Int32} {N : Nat} {res : (Nat → Int32)}  (C : Cx p s m args c b_JArr_fill 4 "java/util/Arrays" D [(cI, .int), (cL, .long), (cZ, .boolean)] A) (hret : E_JArr_fill p l e s m args below meth c Q A D cI cL cZ a_p1 n_p1 l1 res)  : I_JArr_fill_b0 p l e s m args below meth c Q A D cI cL cZ a_p1 n_p1 l1 res (f_JArr_fill N n_p1 l1 ) := by
  obtain ⟨hx, hb, hml, hown, hts, hK, hA⟩ := C
  intro v_p1 h H locs ls hl hP hD hS
  unfold f_JArr_fill at h
  refine lv_iconst (v := 0) hx hb d_JArr_fill_0 (by decide) ?_
  refine lv_istore_n (lv' := [(2, .int 0), (0, .ref a_p1), (1, .int l1)]) hx hb d_JArr_fill_1 rfl hl (by decide) rfl (fun ls hl => ?_)
  refine lv_aload_n hx hb d_JArr_fill_2 rfl (lv_at hl 1 rfl) ?_
  refine va_alen hx hb hK hP 0 0 rfl rfl rfl d_JArr_fill_3 ?_
  refine lv_topi (fun l3_1 el3_1 => ?_)
  replace h := nm_s h el3_1
  refine lv_istore_n (lv' := [(3, .int l3_1), (2, .int 0), (0, .ref a_p1), (1, .int l1)]) hx hb d_JArr_fill_4 rfl hl (by decide) rfl (fun ls hl => ?_)
  exact w_JArr_fill_b5 ⟨hx, hb, hml, hown, hts, hK, hA⟩ hret  N _ _ _ h H locs ls (lv_sub hl [2, 3, 1, 0] rfl) hP hD hS
set_option maxHeartbeats 4000000 in
set_option maxRecDepth 100000 in
theorem c_JArr_fill (l : Launch) (D : va_G) (cI cL cZ : ClassId) (sz N : Nat) (a_p1 : Nat) (n_p1 : Nat) (v_p1 : Nat → Int32) (l1 : Int32) (v_p1' : Nat → Int32) (h : f_JArr_fill N n_p1 l1 v_p1 = some (v_p1')) : Met l ({ cls := "java/util/Arrays", name := "fill", desc := "([II)V" } : Jvm.MethodName) ws_JArr_fill R_JArr_fill (va_Pc [.ref a_p1, .int l1] (fun U => U.heap.size = sz ∧ va_P D classes [(a_p1, .inl (cI, n_p1, .inl v_p1))] U.heap ∧ va_K D classes [(cI, .int), (cL, .long), (cZ, .boolean)] U ∧ va_D (fun _ => True) [(a_p1, .inl (cI, n_p1, .inl v_p1))])) (va_Qv (fun _ : Unit => True) (fun _ t => va_P D classes [(a_p1, .inl (cI, n_p1, .inl v_p1'))] t.heap ∧ va_K D classes [(cI, .int), (cL, .long), (cZ, .boolean)] t ∧ va_D (va_A [(a_p1, .inl (cI, n_p1, .inl v_p1))] sz) [(a_p1, .inl (cI, n_p1, .inl v_p1'))]) (va_A [(a_p1, .inl (cI, n_p1, .inl v_p1))] sz)) 0 0 (va_A [(a_p1, .inl (cI, n_p1, .inl v_p1))] sz) := by
  refine va_MetF (cc := b_JArr_fill) (maxL := 4) (ret := none) (by decide +kernel) rfl ?_
  intro p e s m args below meth c s₁ B hml hv
  obtain ⟨rfl, hsz, hP, hK, hD0⟩ := hv
  have hx := B.exec
  have hb := B.bytes
  have hr := B.returns
  have hts0 := atoms_spec (ws := ws_JArr_fill) B.pre
  have hts := gd_tl hts0
  clear hts0
  have hown : s.vm.findClass "java/util/Arrays" = some m.cls := findClass_of_methodNamed B.named
  have hlocks := B.notSynchronized
  subst hsz
  have hD := hD0.self (sz := s.heap.size)
  generalize hAe : va_A [(a_p1, .inl (cI, n_p1, .inl v_p1))] s.heap.size = A at hD ⊢
  have hA : ∀ q : Nat, s.heap.size ≤ q → A q := fun q h => by rw [← hAe]; exact Or.inr h
  have hS : va_S A s.heap s.heap [] := va_S.rf
  have hP : va_P D classes [(a_p1, .inl (cI, n_p1, .inl v_p1))] s.heap := hP
  have hl := lv_entry ([.ref a_p1, .int l1]) (n := 4) (Nat.le_of_ble_eq_true rfl)
  rw [lg_entry_eq]
  generalize (lg_sl ([.ref a_p1, .int l1]) ++ List.replicate (4 - (lg_sl ([.ref a_p1, .int l1])).length) Slot.unset).toArray = ls at hl ⊢
  have hl : lv_has ls 4 [(0, .ref a_p1), (1, .int l1)] := hl
  have C : Cx p s m ([.ref a_p1, .int l1] : List Value).toArray c b_JArr_fill 4 "java/util/Arrays" D [(cI, .int), (cL, .long), (cZ, .boolean)] A := ⟨hx, hb, hml, hown, hts, hK, hA⟩
  refine w_JArr_fill_b0 (res := (v_p1')) C ?_ _ h s.heap [] ls hl hP hD hS
  intro pc9 H9 locs9 ls9 v_p19 e9 d9 hP9 hD9 hS9
  cases e9
  exact W.vret hx hb hr (fun t ht hW => ⟨⟨(), rfl, trivial, by rw [ht]; exact hP9, va_K.moved hW.alike hK, hD9⟩, hS9.F ht⟩) hS9.2.2 d9
abbrev b_PM_clear : ByteArray := prog_1_method_5_code
def ws_PM_clear : List Cond := .code ({ cls := "PrefixMill", name := "clear", desc := "()V" } : Jvm.MethodName) b_PM_clear 1 none :: tt
theorem d_PM_clear_0 : decode b_PM_clear 0 = .ok (.aload_n 0, 1) := by decide +kernel
theorem d_PM_clear_1 : decode b_PM_clear 1 = .ok (.getfield 14, 3) := by decide +kernel
theorem d_PM_clear_4 : decode b_PM_clear 4 = .ok (.invokevirtual 78, 3) := by decide +kernel
theorem d_PM_clear_7 : decode b_PM_clear 7 = .ok (.aload_n 0, 1) := by decide +kernel
theorem d_PM_clear_8 : decode b_PM_clear 8 = .ok (.iconst 0, 1) := by decide +kernel
theorem d_PM_clear_9 : decode b_PM_clear 9 = .ok (.putfield 60, 3) := by decide +kernel
theorem d_PM_clear_12 : decode b_PM_clear 12 = .ok (.aload_n 0, 1) := by decide +kernel
theorem d_PM_clear_13 : decode b_PM_clear 13 = .ok (.getfield 21, 3) := by decide +kernel
theorem d_PM_clear_16 : decode b_PM_clear 16 = .ok (.iconst 0, 1) := by decide +kernel
theorem d_PM_clear_17 : decode b_PM_clear 17 = .ok (.invokestatic 81, 3) := by decide +kernel
theorem d_PM_clear_20 : decode b_PM_clear 20 = .ok (.return_, 1) := by decide +kernel
abbrev R_PM_clear : Room := ({ frames := 1, cells := 0, slots := 0, locals := 23 } : Room)
def E_PM_clear (p : Program) (l : Launch) (e : Env) (s : State) (m : MethodId) (args : Array Value) (below : List Frame) (meth : Method) (c : Code) (Q : State → Prop) (A : Nat → Prop) (D : va_G) (cI cL cZ : ClassId) (a_this : Nat) (a_in : Nat) (a_counts : Nat) (o_out : Nat) (o_codes : Nat) (o_tree : Nat) (o_writer : Nat) (o_reader : Nat) (o_streams : Nat) (o_in_words : Nat) (i_in_room : Int32) (i_in_held : Int32) (i_in_many : Int32) (res : Int32 × Int32 × (Nat → Int32)) : Prop := ∀ (pc : Nat) (H : Heap) (locs : List Loc) (ls : Array Slot) (i_place : Int32) (i_in_used : Int32) (v_counts : Nat → Int32), some (i_place, i_in_used, v_counts) = some res → decode b_PM_clear pc = .ok (.return_, 1) → va_P D classes [(a_this, .inr (0, [.ref a_in, .ref o_out, .ref a_counts, .ref o_codes, .ref o_tree, .ref o_writer, .ref o_reader, .ref o_streams, .int i_place])), (a_in, .inr (5, [.ref o_in_words, .int i_in_room, .int i_in_used, .int i_in_held, .int i_in_many])), (a_counts, .inl (cI, 256, .inl v_counts))] H → va_D A [(a_this, .inr (0, [.ref a_in, .ref o_out, .ref a_counts, .ref o_codes, .ref o_tree, .ref o_writer, .ref o_reader, .ref o_streams, .int i_place])), (a_in, .inr (5, [.ref o_in_words, .int i_in_room, .int i_in_used, .int i_in_held, .int i_in_many])), (a_counts, .inl (cI, 256, .inl v_counts))] → va_S A s.heap H locs → W p l e R_PM_clear s m args below meth c H locs 0 0 Q (F0 m pc ls [])
def I_PM_clear_b0 (p : Program) (l : Launch) (e : Env) (s : State) (m : MethodId) (args : Array Value) (below : List Frame) (meth : Method) (c : Code) (Q : State → Prop) (A : Nat → Prop) (D : va_G) (cI cL cZ : ClassId) (a_this : Nat) (a_in : Nat) (a_counts : Nat) (o_out : Nat) (o_codes : Nat) (o_tree : Nat) (o_writer : Nat) (o_reader : Nat) (o_streams : Nat) (o_in_words : Nat) (i_in_room : Int32) (i_in_held : Int32) (i_in_many : Int32) (res : Int32 × Int32 × (Nat → Int32)) (kf : Int32 → Int32 → (Nat → Int32) → Option (Int32 × Int32 × (Nat → Int32))) : Prop := ∀ (i_place : Int32) (i_in_used : Int32) (v_counts : Nat → Int32), kf i_place i_in_used v_counts = some res → ∀ (H : Heap) (locs : List Loc) (ls : Array Slot), lv_has ls 1 [(0, .ref a_this)] → va_P D classes [(a_this, .inr (0, [.ref a_in, .ref o_out, .ref a_counts, .ref o_codes, .ref o_tree, .ref o_writer, .ref o_reader, .ref o_streams, .int i_place])), (a_in, .inr (5, [.ref o_in_words, .int i_in_room, .int i_in_used, .int i_in_held, .int i_in_many])), (a_counts, .inl (cI, 256, .inl v_counts))] H → va_D A [(a_this, .inr (0, [.ref a_in, .ref o_out, .ref a_counts, .ref o_codes, .ref o_tree, .ref o_writer, .ref o_reader, .ref o_streams, .int i_place])), (a_in, .inr (5, [.ref o_in_words, .int i_in_room, .int i_in_used, .int i_in_held, .int i_in_many])), (a_counts, .inl (cI, 256, .inl v_counts))] → va_S A s.heap H locs → W p l e R_PM_clear s m args below meth c H locs 0 0 Q (F0 m 0 ls [])
set_option maxHeartbeats 4000000 in
set_option maxRecDepth 100000 in
theorem w_PM_clear_b0 {p : Program} {l : Launch} {e : Env} {s : State} {m : MethodId} {args : Array Value} {below : List Frame} {meth : Method} {c : Code} {Q : State → Prop} {A : Nat → Prop} {D : va_G} {cI cL cZ : ClassId} {a_this : Nat} {a_in : Nat} {a_counts : Nat} {o_out : Nat} {o_codes : Nat} {o_tree : Nat} {o_writer : Nat} {o_reader : Nat} {o_streams : Nat} {o_in_words : Nat} {i_in_room : Int32} {i_in_held : Int32} {i_in_many : Int32} {N : Nat} {res : Int32 × Int32 × (Nat → Int32)}  (C : Cx p s m args c b_PM_clear 1 "PrefixMill" D [(cI, .int), (cL, .long), (cZ, .boolean)] A) (hret : E_PM_clear p l e s m args below meth c Q A D cI cL cZ a_this a_in a_counts o_out o_codes o_tree o_writer o_reader o_streams o_in_words i_in_room i_in_held i_in_many res)  : I_PM_clear_b0 p l e s m args below meth c Q A D cI cL cZ a_this a_in a_counts o_out o_codes o_tree o_writer o_reader o_streams o_in_words i_in_room i_in_held i_in_many res (f_PM_clear N  ) := by
  obtain ⟨hx, hb, hml, hown, hts, hK, hA⟩ := C
  intro i_place i_in_used v_counts h H locs ls hl hP hD hS
  unfold f_PM_clear at h
  refine lv_aload_n hx hb d_PM_clear_0 rfl (lv_at hl 0 rfl) ?_
  refine va_get hx hb hts in_PM hown hK hP 0 rfl rfl 0 (by decide) (hts _ m_340) (fun _ h9 => h9) rfl d_PM_clear_1 ?_
  obtain ⟨i_in_used_1, hc_2, h⟩ := bd1_s h
  have hPc := hP.sub (ws' := [(a_in, .inr (5, [.ref o_in_words, .int i_in_room, .int i_in_used, .int i_in_held, .int i_in_many]))]) [1] rfl
  have hDc := hD.sub (ws' := [(a_in, .inr (5, [.ref o_in_words, .int i_in_room, .int i_in_used, .int i_in_held, .int i_in_many]))]) [1] (by decide) rfl
  have hFc := va_free (wc := [(a_in, .inr (5, [.ref o_in_words, .int i_in_room, .int i_in_used, .int i_in_held, .int i_in_many]))]) hD hS hA [1] rfl
  refine va_callv (va_runV (As := []) (rest := []) ⟨hx, hb, hml, hown, hts⟩ (c_Row_empty l D cI cL cZ H.size N a_in o_in_words i_in_room i_in_used i_in_held i_in_many i_in_used_1 hc_2) ⟨(my_cb 0 hts m_407 rfl rfl (hts _ m_67) (hts _ m_404) (by decide +kernel) ⟨Nat.le_of_ble_eq_true rfl, Nat.le_of_ble_eq_true rfl⟩), hts _ m_405, hts _ m_406⟩ ⟨fun a U g mk q => by obtain ⟨q0, q1, qP, qK, qD⟩ := q; exact ⟨q0, q1, qP, va_K.moved (u := U) (U := U.calling g mk a) (Vm.Alike.refl U.vm) qK, qD⟩, va_recv hK hPc (ci := 5) (q0 := 0) rfl rfl, fun U hU hW => ⟨rfl, by rw [hU], by rw [hU]; exact hPc, va_K.moved hW.alike hK, hDc.weaken (fun _ _ _ _ => trivial)⟩⟩ rfl rfl hl.1 rfl (lv_room (Nat.le_of_ble_eq_true rfl)) d_PM_clear_4 ⟨Nat.zero_le _, Nat.zero_le _⟩) hS (fun q _ h => hFc q h) hFc (fun u t H1 locs ht hvm hw hB hz1 hk1 hS => ?_)
  obtain ⟨hP1, hK1, hD1⟩ := hB
  rw [ht] at hP1
  obtain ⟨hP, hD⟩ := va_join (wr := [(a_this, .inr (0, [.ref a_in, .ref o_out, .ref a_counts, .ref o_codes, .ref o_tree, .ref o_writer, .ref o_reader, .ref o_streams, .int i_place])), (a_counts, .inl (cI, 256, .inl v_counts))]) (w1 := [(a_in, .inr (5, [.ref o_in_words, .int i_in_room, .int i_in_used_1, .int i_in_held, .int i_in_many]))]) hP hD [1] [0, 2] rfl rfl (by decide) (by decide) hk1 hFc hP1 hD1
  clear hPc hDc hFc hk1 hP1 hD1 hK1
  generalize H1 = H at hP hS ⊢
  have hP : va_P D classes [(a_this, .inr (0, [.ref a_in, .ref o_out, .ref a_counts, .ref o_codes, .ref o_tree, .ref o_writer, .ref o_reader, .ref o_streams, .int i_place])), (a_in, .inr (5, [.ref o_in_words, .int i_in_room, .int i_in_used_1, .int i_in_held, .int i_in_many])), (a_counts, .inl (cI, 256, .inl v_counts))] H := hP.sub [0, 2, 1] rfl
  have hD : va_D A [(a_this, .inr (0, [.ref a_in, .ref o_out, .ref a_counts, .ref o_codes, .ref o_tree, .ref o_writer, .ref o_reader, .ref o_streams, .int i_place])), (a_in, .inr (5, [.ref o_in_words, .int i_in_room, .int i_in_used_1, .int i_in_held, .int i_in_many])), (a_counts, .inl (cI, 256, .inl v_counts))] := hD.sub [0, 2, 1] (by decide) rfl
  refine lv_aload_n hx hb d_PM_clear_7 rfl (lv_at hl 0 rfl) ?_
  refine lv_iconst (v := 0) hx hb d_PM_clear_8 (by decide) ?_
  refine va_put (v := .int 0) (ty := .int) hx hb hts in_PM t_PM t_PM_ok n_PM hown hK hP hD hS 0 rfl rfl 8 (by decide) (hts _ m_348) (fun _ h9 => h9) rfl (by decide +kernel) rfl rfl (Nat.le_of_ble_eq_true rfl) d_PM_clear_9 (fun H locs hP hD hS => ?_)
  have hP : va_P D classes [(a_this, .inr (0, [.ref a_in, .ref o_out, .ref a_counts, .ref o_codes, .ref o_tree, .ref o_writer, .ref o_reader, .ref o_streams, .int 0])), (a_in, .inr (5, [.ref o_in_words, .int i_in_room, .int i_in_used_1, .int i_in_held, .int i_in_many])), (a_counts, .inl (cI, 256, .inl v_counts))] H := by exact hP
  have hD : va_D A [(a_this, .inr (0, [.ref a_in, .ref o_out, .ref a_counts, .ref o_codes, .ref o_tree, .ref o_writer, .ref o_reader, .ref o_streams, .int 0])), (a_in, .inr (5, [.ref o_in_words, .int i_in_room, .int i_in_used_1, .int i_in_held, .int i_in_many])), (a_counts, .inl (cI, 256, .inl v_counts))] := by exact hD
  refine lv_aload_n hx hb d_PM_clear_12 rfl (lv_at hl 0 rfl) ?_
  refine va_get hx hb hts in_PM hown hK hP 0 rfl rfl 2 (by decide) (hts _ m_342) (fun _ h9 => h9) rfl d_PM_clear_13 ?_
  refine lv_iconst (v := 0) hx hb d_PM_clear_16 (by decide) ?_
  obtain ⟨v_counts_3, hc_4, h⟩ := bd1_s h
  have hPc := hP.sub (ws' := [(a_counts, .inl (cI, 256, .inl v_counts))]) [2] rfl
  have hDc := hD.sub (ws' := [(a_counts, .inl (cI, 256, .inl v_counts))]) [2] (by decide) rfl
  have hFc := va_free (wc := [(a_counts, .inl (cI, 256, .inl v_counts))]) hD hS hA [2] rfl
  refine va_callv (va_runS (As := [.ref a_counts, .int 0]) (rest := []) ⟨hx, hb, hml, hown, hts⟩ (c_JArr_fill l D cI cL cZ H.size N a_counts 256 v_counts 0 v_counts_3 hc_4) ⟨(my_cb 2 hts m_410 rfl rfl (hts _ m_79) (hts _ m_408) (by decide +kernel) ⟨Nat.le_of_ble_eq_true rfl, Nat.le_of_ble_eq_true rfl⟩), hts _ m_409⟩ ⟨fun a U g mk q => by obtain ⟨q0, q1, qP, qK, qD⟩ := q; exact ⟨q0, q1, qP, va_K.moved (u := U) (U := U.calling g mk a) (Vm.Alike.refl U.vm) qK, qD⟩, fun U hU hW => ⟨rfl, by rw [hU], by rw [hU]; exact hPc, va_K.moved hW.alike hK, hDc.weaken (fun _ _ _ _ => trivial)⟩⟩ rfl rfl hl.1 rfl (lv_room (Nat.le_of_ble_eq_true rfl)) d_PM_clear_17 ⟨Nat.zero_le _, Nat.zero_le _⟩) hS (fun q _ h => hFc q h) hFc (fun u t H1 locs ht hvm hw hB hz1 hk1 hS => ?_)
  obtain ⟨hP1, hK1, hD1⟩ := hB
  rw [ht] at hP1
  obtain ⟨hP, hD⟩ := va_join (wr := [(a_this, .inr (0, [.ref a_in, .ref o_out, .ref a_counts, .ref o_codes, .ref o_tree, .ref o_writer, .ref o_reader, .ref o_streams, .int 0])), (a_in, .inr (5, [.ref o_in_words, .int i_in_room, .int i_in_used_1, .int i_in_held, .int i_in_many]))]) (w1 := [(a_counts, .inl (cI, 256, .inl v_counts_3))]) hP hD [2] [0, 1] rfl rfl (by decide) (by decide) hk1 hFc hP1 hD1
  clear hPc hDc hFc hk1 hP1 hD1 hK1
  generalize H1 = H at hP hS ⊢
  have hP : va_P D classes [(a_this, .inr (0, [.ref a_in, .ref o_out, .ref a_counts, .ref o_codes, .ref o_tree, .ref o_writer, .ref o_reader, .ref o_streams, .int 0])), (a_in, .inr (5, [.ref o_in_words, .int i_in_room, .int i_in_used_1, .int i_in_held, .int i_in_many])), (a_counts, .inl (cI, 256, .inl v_counts_3))] H := hP.sub [0, 1, 2] rfl
  have hD : va_D A [(a_this, .inr (0, [.ref a_in, .ref o_out, .ref a_counts, .ref o_codes, .ref o_tree, .ref o_writer, .ref o_reader, .ref o_streams, .int 0])), (a_in, .inr (5, [.ref o_in_words, .int i_in_room, .int i_in_used_1, .int i_in_held, .int i_in_many])), (a_counts, .inl (cI, 256, .inl v_counts_3))] := hD.sub [0, 1, 2] (by decide) rfl
  exact hret _ _ _ _ 0 i_in_used_1 v_counts_3 h d_PM_clear_20 hP hD hS
set_option maxHeartbeats 4000000 in
set_option maxRecDepth 100000 in
theorem c_PM_clear (l : Launch) (D : va_G) (cI cL cZ : ClassId) (sz N : Nat) (a_this : Nat) (a_in : Nat) (a_counts : Nat) (o_out : Nat) (o_codes : Nat) (o_tree : Nat) (o_writer : Nat) (o_reader : Nat) (o_streams : Nat) (o_in_words : Nat) (i_place : Int32) (i_in_room : Int32) (i_in_used : Int32) (i_in_held : Int32) (i_in_many : Int32) (v_counts : Nat → Int32) (i_place' : Int32) (i_in_used' : Int32) (v_counts' : Nat → Int32) (h : f_PM_clear N  i_place i_in_used v_counts = some (i_place', i_in_used', v_counts')) : Met l ({ cls := "PrefixMill", name := "clear", desc := "()V" } : Jvm.MethodName) ws_PM_clear R_PM_clear (va_Pc [.ref a_this] (fun U => U.heap.size = sz ∧ va_P D classes [(a_this, .inr (0, [.ref a_in, .ref o_out, .ref a_counts, .ref o_codes, .ref o_tree, .ref o_writer, .ref o_reader, .ref o_streams, .int i_place])), (a_in, .inr (5, [.ref o_in_words, .int i_in_room, .int i_in_used, .int i_in_held, .int i_in_many])), (a_counts, .inl (cI, 256, .inl v_counts))] U.heap ∧ va_K D classes [(cI, .int), (cL, .long), (cZ, .boolean)] U ∧ va_D (fun _ => True) [(a_this, .inr (0, [.ref a_in, .ref o_out, .ref a_counts, .ref o_codes, .ref o_tree, .ref o_writer, .ref o_reader, .ref o_streams, .int i_place])), (a_in, .inr (5, [.ref o_in_words, .int i_in_room, .int i_in_used, .int i_in_held, .int i_in_many])), (a_counts, .inl (cI, 256, .inl v_counts))])) (va_Qv (fun _ : Unit => True) (fun _ t => va_P D classes [(a_this, .inr (0, [.ref a_in, .ref o_out, .ref a_counts, .ref o_codes, .ref o_tree, .ref o_writer, .ref o_reader, .ref o_streams, .int i_place'])), (a_in, .inr (5, [.ref o_in_words, .int i_in_room, .int i_in_used', .int i_in_held, .int i_in_many])), (a_counts, .inl (cI, 256, .inl v_counts'))] t.heap ∧ va_K D classes [(cI, .int), (cL, .long), (cZ, .boolean)] t ∧ va_D (va_A [(a_this, .inr (0, [.ref a_in, .ref o_out, .ref a_counts, .ref o_codes, .ref o_tree, .ref o_writer, .ref o_reader, .ref o_streams, .int i_place])), (a_in, .inr (5, [.ref o_in_words, .int i_in_room, .int i_in_used, .int i_in_held, .int i_in_many])), (a_counts, .inl (cI, 256, .inl v_counts))] sz) [(a_this, .inr (0, [.ref a_in, .ref o_out, .ref a_counts, .ref o_codes, .ref o_tree, .ref o_writer, .ref o_reader, .ref o_streams, .int i_place'])), (a_in, .inr (5, [.ref o_in_words, .int i_in_room, .int i_in_used', .int i_in_held, .int i_in_many])), (a_counts, .inl (cI, 256, .inl v_counts'))]) (va_A [(a_this, .inr (0, [.ref a_in, .ref o_out, .ref a_counts, .ref o_codes, .ref o_tree, .ref o_writer, .ref o_reader, .ref o_streams, .int i_place])), (a_in, .inr (5, [.ref o_in_words, .int i_in_room, .int i_in_used, .int i_in_held, .int i_in_many])), (a_counts, .inl (cI, 256, .inl v_counts))] sz)) 0 0 (va_A [(a_this, .inr (0, [.ref a_in, .ref o_out, .ref a_counts, .ref o_codes, .ref o_tree, .ref o_writer, .ref o_reader, .ref o_streams, .int i_place])), (a_in, .inr (5, [.ref o_in_words, .int i_in_room, .int i_in_used, .int i_in_held, .int i_in_many])), (a_counts, .inl (cI, 256, .inl v_counts))] sz) := by
  refine Met.ofW (cc := b_PM_clear) (maxL := 1) (ret := none) (by decide) rfl ?_
  intro p e s m args below meth c s₁ B hml hv
  obtain ⟨rfl, hsz, hP, hK, hD0⟩ := hv
  have hx := B.exec
  have hb := B.bytes
  have hr := B.returns
  have hts0 := atoms_spec (ws := ws_PM_clear) B.pre
  have hts := gd_tl hts0
  clear hts0
  have hown : s.vm.findClass "PrefixMill" = some m.cls := findClass_of_methodNamed B.named
  have hlocks := B.notSynchronized
  subst hsz
  have hD := hD0.self (sz := s.heap.size)
  generalize hAe : va_A [(a_this, .inr (0, [.ref a_in, .ref o_out, .ref a_counts, .ref o_codes, .ref o_tree, .ref o_writer, .ref o_reader, .ref o_streams, .int i_place])), (a_in, .inr (5, [.ref o_in_words, .int i_in_room, .int i_in_used, .int i_in_held, .int i_in_many])), (a_counts, .inl (cI, 256, .inl v_counts))] s.heap.size = A at hD ⊢
  have hA : ∀ q : Nat, s.heap.size ≤ q → A q := fun q h => by rw [← hAe]; exact Or.inr h
  have hS : va_S A s.heap s.heap [] := va_S.rf
  have hP : va_P D classes [(a_this, .inr (0, [.ref a_in, .ref o_out, .ref a_counts, .ref o_codes, .ref o_tree, .ref o_writer, .ref o_reader, .ref o_streams, .int i_place])), (a_in, .inr (5, [.ref o_in_words, .int i_in_room, .int i_in_used, .int i_in_held, .int i_in_many])), (a_counts, .inl (cI, 256, .inl v_counts))] s.heap := hP
  have hl := lv_entry ([.ref a_this]) (n := 1) (Nat.le_of_ble_eq_true rfl)
  rw [lg_entry_eq]
  generalize (lg_sl ([.ref a_this]) ++ List.replicate (1 - (lg_sl ([.ref a_this])).length) Slot.unset).toArray = ls at hl ⊢
  have hl : lv_has ls 1 [(0, .ref a_this)] := hl
  have C : Cx p s m ([.ref a_this] : List Value).toArray c b_PM_clear 1 "PrefixMill" D [(cI, .int), (cL, .long), (cZ, .boolean)] A := ⟨hx, hb, hml, hown, hts, hK, hA⟩
  refine w_PM_clear_b0 (res := (i_place', i_in_used', v_counts')) C ?_ _ _ _ h s.heap [] ls hl hP hD hS
  intro pc9 H9 locs9 ls9 i_place9 i_in_used9 v_counts9 e9 d9 hP9 hD9 hS9
  cases e9
  exact W.vret hx hb hr (fun t ht hW => ⟨⟨(), rfl, trivial, by rw [ht]; exact hP9, va_K.moved hW.alike hK, hD9⟩, hS9.F ht⟩) hS9.2.2 d9
abbrev b_PM_place : ByteArray := prog_1_method_6_code
def ws_PM_place : List Cond := .code ({ cls := "PrefixMill", name := "place", desc := "(I)Z" } : Jvm.MethodName) b_PM_place 2 (some .boolean) :: tt
theorem d_PM_place_0 : decode b_PM_place 0 = .ok (.iload_n 1, 1) := by decide +kernel
theorem d_PM_place_1 : decode b_PM_place 1 = .ok (.ifCond .lt 14, 3) := by decide +kernel
theorem d_PM_place_4 : decode b_PM_place 4 = .ok (.iload_n 1, 1) := by decide +kernel
theorem d_PM_place_5 : decode b_PM_place 5 = .ok (.aload_n 0, 1) := by decide +kernel
theorem d_PM_place_6 : decode b_PM_place 6 = .ok (.getfield 14, 3) := by decide +kernel
theorem d_PM_place_9 : decode b_PM_place 9 = .ok (.getfield 64, 3) := by decide +kernel
theorem d_PM_place_12 : decode b_PM_place 12 = .ok (.if_icmp .le 5, 3) := by decide +kernel
theorem d_PM_place_15 : decode b_PM_place 15 = .ok (.iconst 0, 1) := by decide +kernel
theorem d_PM_place_16 : decode b_PM_place 16 = .ok (.ireturn, 1) := by decide +kernel
theorem d_PM_place_17 : decode b_PM_place 17 = .ok (.aload_n 0, 1) := by decide +kernel
theorem d_PM_place_18 : decode b_PM_place 18 = .ok (.iload_n 1, 1) := by decide +kernel
theorem d_PM_place_19 : decode b_PM_place 19 = .ok (.putfield 60, 3) := by decide +kernel
theorem d_PM_place_22 : decode b_PM_place 22 = .ok (.iconst 1, 1) := by decide +kernel
theorem d_PM_place_23 : decode b_PM_place 23 = .ok (.ireturn, 1) := by decide +kernel
abbrev R_PM_place : Room := ({ frames := 0, cells := 0, slots := 0, locals := 0 } : Room)
def E_PM_place (p : Program) (l : Launch) (e : Env) (s : State) (m : MethodId) (args : Array Value) (below : List Frame) (meth : Method) (c : Code) (Q : State → Prop) (A : Nat → Prop) (D : va_G) (cI cL cZ : ClassId) (a_this : Nat) (a_in : Nat) (o_out : Nat) (o_counts : Nat) (o_codes : Nat) (o_tree : Nat) (o_writer : Nat) (o_reader : Nat) (o_streams : Nat) (o_in_words : Nat) (i_in_room : Int32) (i_in_used : Int32) (i_in_held : Int32) (i_in_many : Int32) (l1 : Int32) (res : Int32 × Int32) : Prop := ∀ (pc : Nat) (H : Heap) (locs : List Loc) (ls : Array Slot) (rv : Int32) (i_place : Int32), some (rv, i_place) = some res → narrow .boolean (.int rv) = .int rv → decode b_PM_place pc = .ok (.ireturn, 1) → va_P D classes [(a_this, .inr (0, [.ref a_in, .ref o_out, .ref o_counts, .ref o_codes, .ref o_tree, .ref o_writer, .ref o_reader, .ref o_streams, .int i_place])), (a_in, .inr (5, [.ref o_in_words, .int i_in_room, .int i_in_used, .int i_in_held, .int i_in_many]))] H → va_D A [(a_this, .inr (0, [.ref a_in, .ref o_out, .ref o_counts, .ref o_codes, .ref o_tree, .ref o_writer, .ref o_reader, .ref o_streams, .int i_place])), (a_in, .inr (5, [.ref o_in_words, .int i_in_room, .int i_in_used, .int i_in_held, .int i_in_many]))] → va_S A s.heap H locs → W p l e R_PM_place s m args below meth c H locs 0 0 Q (F0 m pc ls [.int rv])
def I_PM_place_b15 (p : Program) (l : Launch) (e : Env) (s : State) (m : MethodId) (args : Array Value) (below : List Frame) (meth : Method) (c : Code) (Q : State → Prop) (A : Nat → Prop) (D : va_G) (cI cL cZ : ClassId) (a_this : Nat) (a_in : Nat) (o_out : Nat) (o_counts : Nat) (o_codes : Nat) (o_tree : Nat) (o_writer : Nat) (o_reader : Nat) (o_streams : Nat) (o_in_words : Nat) (i_in_room : Int32) (i_in_used : Int32) (i_in_held : Int32) (i_in_many : Int32) (l1 : Int32) (res : Int32 × Int32) (kf : Int32 → Option (Int32 × Int32)) : Prop := ∀ (i_place : Int32), kf i_place = some res → ∀ (H : Heap) (locs : List Loc) (ls : Array Slot), lv_has ls 2 [] → va_P D classes [(a_this, .inr (0, [.ref a_in, .ref o_out, .ref o_counts, .ref o_codes, .ref o_tree, .ref o_writer, .ref o_reader, .ref o_streams, .int i_place])), (a_in, .inr (5, [.ref o_in_words, .int i_in_room, .int i_in_used, .int i_in_held, .int i_in_many]))] H → va_D A [(a_this, .inr (0, [.ref a_in, .ref o_out, .ref o_counts, .ref o_codes, .ref o_tree, .ref o_writer, .ref o_reader, .ref o_streams, .int i_place])), (a_in, .inr (5, [.ref o_in_words, .int i_in_room, .int i_in_used, .int i_in_held, .int i_in_many]))] → va_S A s.heap H locs → W p l e R_PM_place s m args below meth c H locs 0 0 Q (F0 m 15 ls [])
def I_PM_place_b0 (p : Program) (l : Launch) (e : Env) (s : State) (m : MethodId) (args : Array Value) (below : List Frame) (meth : Method) (c : Code) (Q : State → Prop) (A : Nat → Prop) (D : va_G) (cI cL cZ : ClassId) (a_this : Nat) (a_in : Nat) (o_out : Nat) (o_counts : Nat) (o_codes : Nat) (o_tree : Nat) (o_writer : Nat) (o_reader : Nat) (o_streams : Nat) (o_in_words : Nat) (i_in_room : Int32) (i_in_used : Int32) (i_in_held : Int32) (i_in_many : Int32) (l1 : Int32) (res : Int32 × Int32) (kf : Int32 → Option (Int32 × Int32)) : Prop := ∀ (i_place : Int32), kf i_place = some res → ∀ (H : Heap) (locs : List Loc) (ls : Array Slot), lv_has ls 2 [(0, .ref a_this), (1, .int l1)] → va_P D classes [(a_this, .inr (0, [.ref a_in, .ref o_out, .ref o_counts, .ref o_codes, .ref o_tree, .ref o_writer, .ref o_reader, .ref o_streams, .int i_place])), (a_in, .inr (5, [.ref o_in_words, .int i_in_room, .int i_in_used, .int i_in_held, .int i_in_many]))] H → va_D A [(a_this, .inr (0, [.ref a_in, .ref o_out, .ref o_counts, .ref o_codes, .ref o_tree, .ref o_writer, .ref o_reader, .ref o_streams, .int i_place])), (a_in, .inr (5, [.ref o_in_words, .int i_in_room, .int i_in_used, .int i_in_held, .int i_in_many]))] → va_S A s.heap H locs → W p l e R_PM_place s m args below meth c H locs 0 0 Q (F0 m 0 ls [])
set_option maxHeartbeats 4000000 in
set_option maxRecDepth 100000 in
theorem w_PM_place_b15 {p : Program} {l : Launch} {e : Env} {s : State} {m : MethodId} {args : Array Value} {below : List Frame} {meth : Method} {c : Code} {Q : State → Prop} {A : Nat → Prop} {D : va_G} {cI cL cZ : ClassId} {a_this : Nat} {a_in : Nat} {o_out : Nat} {o_counts : Nat} {o_codes : Nat} {o_tree : Nat} {o_writer : Nat} {o_reader : Nat} {o_streams : Nat} {o_in_words : Nat} {i_in_room : Int32} {i_in_used : Int32} {i_in_held : Int32} {i_in_many : Int32} {l1 : Int32} {N : Nat} {res : Int32 × Int32}  (C : Cx p s m args c b_PM_place 2 "PrefixMill" D [(cI, .int), (cL, .long), (cZ, .boolean)] A) (hret : E_PM_place p l e s m args below meth c Q A D cI cL cZ a_this a_in o_out o_counts o_codes o_tree o_writer o_reader o_streams o_in_words i_in_room i_in_used i_in_held i_in_many l1 res)  : I_PM_place_b15 p l e s m args below meth c Q A D cI cL cZ a_this a_in o_out o_counts o_codes o_tree o_writer o_reader o_streams o_in_words i_in_room i_in_used i_in_held i_in_many l1 res (f_PM_place_b15 N i_in_used l1 ) := by
  obtain ⟨hx, hb, hml, hown, hts, hK, hA⟩ := C
  intro i_place h H locs ls hl hP hD hS
  unfold f_PM_place_b15 at h
  refine lv_iconst (v := 0) hx hb d_PM_place_15 (by decide) ?_
  exact hret _ _ _ _ 0 i_place h rfl d_PM_place_16 hP hD hS
set_option maxHeartbeats 4000000 in
set_option maxRecDepth 100000 in
theorem w_PM_place_b0 {p : Program} {l : Launch} {e : Env} {s : State} {m : MethodId} {args : Array Value} {below : List Frame} {meth : Method} {c : Code} {Q : State → Prop} {A : Nat → Prop} {D : va_G} {cI cL cZ : ClassId} {a_this : Nat} {a_in : Nat} {o_out : Nat} {o_counts : Nat} {o_codes : Nat} {o_tree : Nat} {o_writer : Nat} {o_reader : Nat} {o_streams : Nat} {o_in_words : Nat} {i_in_room : Int32} {i_in_used : Int32} {i_in_held : Int32} {i_in_many : Int32} {l1 : Int32} {N : Nat} {res : Int32 × Int32}  (C : Cx p s m args c b_PM_place 2 "PrefixMill" D [(cI, .int), (cL, .long), (cZ, .boolean)] A) (hret : E_PM_place p l e s m args below meth c Q A D cI cL cZ a_this a_in o_out o_counts o_codes o_tree o_writer o_reader o_streams o_in_words i_in_room i_in_used i_in_held i_in_many l1 res)  : I_PM_place_b0 p l e s m args below meth c Q A D cI cL cZ a_this a_in o_out o_counts o_codes o_tree o_writer o_reader o_streams o_in_words i_in_room i_in_used i_in_held i_in_many l1 res (f_PM_place N i_in_used l1 ) := by
  obtain ⟨hx, hb, hml, hown, hts, hK, hA⟩ := C
  intro i_place h H locs ls hl hP hD hS
  unfold f_PM_place at h
  refine lv_iload_n hx hb d_PM_place_0 rfl (lv_at hl 1 rfl) ?_
  refine lv_if_lt (tgt := 15) hx hb d_PM_place_1 (by decide) (fun c_1 => ?_) (fun c_1 => ?_)
  · replace h := if_t h c_1
    exact w_PM_place_b15 ⟨hx, hb, hml, hown, hts, hK, hA⟩ hret  _ h H locs ls (lv_sub hl [] rfl) hP hD hS
  · replace h := if_f h c_1
    refine lv_iload_n hx hb d_PM_place_4 rfl (lv_at hl 1 rfl) ?_
    refine lv_aload_n hx hb d_PM_place_5 rfl (lv_at hl 0 rfl) ?_
    refine va_get hx hb hts in_PM hown hK hP 0 rfl rfl 0 (by decide) (hts _ m_340) (fun _ h9 => h9) rfl d_PM_place_6 ?_
    refine va_getN hx hb hts in_Row hown hK hP 1 rfl rfl 2 (by decide) (hts _ m_97) (fun _ h9 => h9) rfl d_PM_place_9 ?_
    refine lv_icmp_le (tgt := 17) hx hb d_PM_place_12 (by decide) (fun c_2 => ?_) (fun c_2 => ?_)
    · replace h := if_t h c_2
      refine lv_aload_n hx hb d_PM_place_17 rfl (lv_at hl 0 rfl) ?_
      refine lv_iload_n hx hb d_PM_place_18 rfl (lv_at hl 1 rfl) ?_
      refine va_put (v := .int l1) (ty := .int) hx hb hts in_PM t_PM t_PM_ok n_PM hown hK hP hD hS 0 rfl rfl 8 (by decide) (hts _ m_348) (fun _ h9 => h9) rfl (by decide +kernel) rfl rfl (Nat.le_of_ble_eq_true rfl) d_PM_place_19 (fun H locs hP hD hS => ?_)
      have hP : va_P D classes [(a_this, .inr (0, [.ref a_in, .ref o_out, .ref o_counts, .ref o_codes, .ref o_tree, .ref o_writer, .ref o_reader, .ref o_streams, .int l1])), (a_in, .inr (5, [.ref o_in_words, .int i_in_room, .int i_in_used, .int i_in_held, .int i_in_many]))] H := by exact hP
      have hD : va_D A [(a_this, .inr (0, [.ref a_in, .ref o_out, .ref o_counts, .ref o_codes, .ref o_tree, .ref o_writer, .ref o_reader, .ref o_streams, .int l1])), (a_in, .inr (5, [.ref o_in_words, .int i_in_room, .int i_in_used, .int i_in_held, .int i_in_many]))] := by exact hD
      refine lv_iconst (v := 1) hx hb d_PM_place_22 (by decide) ?_
      exact hret _ _ _ _ 1 l1 h rfl d_PM_place_23 hP hD hS
    · replace h := if_f h c_2
      exact w_PM_place_b15 ⟨hx, hb, hml, hown, hts, hK, hA⟩ hret  _ h H locs ls (lv_sub hl [] rfl) hP hD hS
set_option maxHeartbeats 4000000 in
set_option maxRecDepth 100000 in
theorem c_PM_place (l : Launch) (D : va_G) (cI cL cZ : ClassId) (sz N : Nat) (a_this : Nat) (a_in : Nat) (o_out : Nat) (o_counts : Nat) (o_codes : Nat) (o_tree : Nat) (o_writer : Nat) (o_reader : Nat) (o_streams : Nat) (o_in_words : Nat) (i_place : Int32) (i_in_room : Int32) (i_in_used : Int32) (i_in_held : Int32) (i_in_many : Int32) (l1 : Int32) (rv : Int32) (i_place' : Int32) (h : f_PM_place N i_in_used l1 i_place = some (rv, i_place')) : Met l ({ cls := "PrefixMill", name := "place", desc := "(I)Z" } : Jvm.MethodName) ws_PM_place R_PM_place (va_Pc [.ref a_this, .int l1] (fun U => U.heap.size = sz ∧ va_P D classes [(a_this, .inr (0, [.ref a_in, .ref o_out, .ref o_counts, .ref o_codes, .ref o_tree, .ref o_writer, .ref o_reader, .ref o_streams, .int i_place])), (a_in, .inr (5, [.ref o_in_words, .int i_in_room, .int i_in_used, .int i_in_held, .int i_in_many]))] U.heap ∧ va_K D classes [(cI, .int), (cL, .long), (cZ, .boolean)] U ∧ va_D (fun _ => True) [(a_this, .inr (0, [.ref a_in, .ref o_out, .ref o_counts, .ref o_codes, .ref o_tree, .ref o_writer, .ref o_reader, .ref o_streams, .int i_place])), (a_in, .inr (5, [.ref o_in_words, .int i_in_room, .int i_in_used, .int i_in_held, .int i_in_many]))])) (va_Qi (fun (r0 : Int32) (_ : Unit) => rv = r0) (fun _ t => va_P D classes [(a_this, .inr (0, [.ref a_in, .ref o_out, .ref o_counts, .ref o_codes, .ref o_tree, .ref o_writer, .ref o_reader, .ref o_streams, .int i_place'])), (a_in, .inr (5, [.ref o_in_words, .int i_in_room, .int i_in_used, .int i_in_held, .int i_in_many]))] t.heap ∧ va_K D classes [(cI, .int), (cL, .long), (cZ, .boolean)] t ∧ va_D (va_A [(a_this, .inr (0, [.ref a_in, .ref o_out, .ref o_counts, .ref o_codes, .ref o_tree, .ref o_writer, .ref o_reader, .ref o_streams, .int i_place])), (a_in, .inr (5, [.ref o_in_words, .int i_in_room, .int i_in_used, .int i_in_held, .int i_in_many]))] sz) [(a_this, .inr (0, [.ref a_in, .ref o_out, .ref o_counts, .ref o_codes, .ref o_tree, .ref o_writer, .ref o_reader, .ref o_streams, .int i_place'])), (a_in, .inr (5, [.ref o_in_words, .int i_in_room, .int i_in_used, .int i_in_held, .int i_in_many]))]) (va_A [(a_this, .inr (0, [.ref a_in, .ref o_out, .ref o_counts, .ref o_codes, .ref o_tree, .ref o_writer, .ref o_reader, .ref o_streams, .int i_place])), (a_in, .inr (5, [.ref o_in_words, .int i_in_room, .int i_in_used, .int i_in_held, .int i_in_many]))] sz)) 0 0 (va_A [(a_this, .inr (0, [.ref a_in, .ref o_out, .ref o_counts, .ref o_codes, .ref o_tree, .ref o_writer, .ref o_reader, .ref o_streams, .int i_place])), (a_in, .inr (5, [.ref o_in_words, .int i_in_room, .int i_in_used, .int i_in_held, .int i_in_many]))] sz) := by
  refine Met.ofW (cc := b_PM_place) (maxL := 2) (ret := (some .boolean)) (by decide) rfl ?_
  intro p e s m args below meth c s₁ B hml hv
  obtain ⟨rfl, hsz, hP, hK, hD0⟩ := hv
  have hx := B.exec
  have hb := B.bytes
  have hr := B.returns
  have hts0 := atoms_spec (ws := ws_PM_place) B.pre
  have hts := gd_tl hts0
  clear hts0
  have hown : s.vm.findClass "PrefixMill" = some m.cls := findClass_of_methodNamed B.named
  have hlocks := B.notSynchronized
  subst hsz
  have hD := hD0.self (sz := s.heap.size)
  generalize hAe : va_A [(a_this, .inr (0, [.ref a_in, .ref o_out, .ref o_counts, .ref o_codes, .ref o_tree, .ref o_writer, .ref o_reader, .ref o_streams, .int i_place])), (a_in, .inr (5, [.ref o_in_words, .int i_in_room, .int i_in_used, .int i_in_held, .int i_in_many]))] s.heap.size = A at hD ⊢
  have hA : ∀ q : Nat, s.heap.size ≤ q → A q := fun q h => by rw [← hAe]; exact Or.inr h
  have hS : va_S A s.heap s.heap [] := va_S.rf
  have hP : va_P D classes [(a_this, .inr (0, [.ref a_in, .ref o_out, .ref o_counts, .ref o_codes, .ref o_tree, .ref o_writer, .ref o_reader, .ref o_streams, .int i_place])), (a_in, .inr (5, [.ref o_in_words, .int i_in_room, .int i_in_used, .int i_in_held, .int i_in_many]))] s.heap := hP
  have hl := lv_entry ([.ref a_this, .int l1]) (n := 2) (Nat.le_of_ble_eq_true rfl)
  rw [lg_entry_eq]
  generalize (lg_sl ([.ref a_this, .int l1]) ++ List.replicate (2 - (lg_sl ([.ref a_this, .int l1])).length) Slot.unset).toArray = ls at hl ⊢
  have hl : lv_has ls 2 [(0, .ref a_this), (1, .int l1)] := hl
  have C : Cx p s m ([.ref a_this, .int l1] : List Value).toArray c b_PM_place 2 "PrefixMill" D [(cI, .int), (cL, .long), (cZ, .boolean)] A := ⟨hx, hb, hml, hown, hts, hK, hA⟩
  refine w_PM_place_b0 (res := (rv, i_place')) C ?_ _ h s.heap [] ls hl hP hD hS
  intro pc9 H9 locs9 ls9 rv9 i_place9 e9 z9 d9 hP9 hD9 hS9
  cases e9
  exact W.zret (v := rv) hx hb hr z9 (fun t ht hW => ⟨⟨rv, (), rfl, rfl, by rw [ht]; exact hP9, va_K.moved hW.alike hK, hD9⟩, hS9.F ht⟩) hS9.2.2 d9
abbrev b_PM_at : ByteArray := prog_1_method_7_code
def ws_PM_at : List Cond := .code ({ cls := "PrefixMill", name := "at", desc := "()I" } : Jvm.MethodName) b_PM_at 1 (some .int) :: tt
theorem d_PM_at_0 : decode b_PM_at 0 = .ok (.aload_n 0, 1) := by decide +kernel
theorem d_PM_at_1 : decode b_PM_at 1 = .ok (.getfield 60, 3) := by decide +kernel
theorem d_PM_at_4 : decode b_PM_at 4 = .ok (.ireturn, 1) := by decide +kernel
abbrev R_PM_at : Room := ({ frames := 0, cells := 0, slots := 0, locals := 0 } : Room)
def E_PM_at (p : Program) (l : Launch) (e : Env) (s : State) (m : MethodId) (args : Array Value) (below : List Frame) (meth : Method) (c : Code) (Q : State → Prop) (A : Nat → Prop) (D : va_G) (cI cL cZ : ClassId) (a_this : Nat) (o_in : Nat) (o_out : Nat) (o_counts : Nat) (o_codes : Nat) (o_tree : Nat) (o_writer : Nat) (o_reader : Nat) (o_streams : Nat) (i_place : Int32) (res : Int32) : Prop := ∀ (pc : Nat) (H : Heap) (locs : List Loc) (ls : Array Slot) (rv : Int32), some (rv) = some res → decode b_PM_at pc = .ok (.ireturn, 1) → va_P D classes [(a_this, .inr (0, [.ref o_in, .ref o_out, .ref o_counts, .ref o_codes, .ref o_tree, .ref o_writer, .ref o_reader, .ref o_streams, .int i_place]))] H → va_D A [(a_this, .inr (0, [.ref o_in, .ref o_out, .ref o_counts, .ref o_codes, .ref o_tree, .ref o_writer, .ref o_reader, .ref o_streams, .int i_place]))] → va_S A s.heap H locs → W p l e R_PM_at s m args below meth c H locs 0 0 Q (F0 m pc ls [.int rv])
def I_PM_at_b0 (p : Program) (l : Launch) (e : Env) (s : State) (m : MethodId) (args : Array Value) (below : List Frame) (meth : Method) (c : Code) (Q : State → Prop) (A : Nat → Prop) (D : va_G) (cI cL cZ : ClassId) (a_this : Nat) (o_in : Nat) (o_out : Nat) (o_counts : Nat) (o_codes : Nat) (o_tree : Nat) (o_writer : Nat) (o_reader : Nat) (o_streams : Nat) (i_place : Int32) (res : Int32) (kf : Option (Int32)) : Prop := ∀ (_ : Unit), kf  = some res → ∀ (H : Heap) (locs : List Loc) (ls : Array Slot), lv_has ls 1 [(0, .ref a_this)] → va_P D classes [(a_this, .inr (0, [.ref o_in, .ref o_out, .ref o_counts, .ref o_codes, .ref o_tree, .ref o_writer, .ref o_reader, .ref o_streams, .int i_place]))] H → va_D A [(a_this, .inr (0, [.ref o_in, .ref o_out, .ref o_counts, .ref o_codes, .ref o_tree, .ref o_writer, .ref o_reader, .ref o_streams, .int i_place]))] → va_S A s.heap H locs → W p l e R_PM_at s m args below meth c H locs 0 0 Q (F0 m 0 ls [])
set_option maxHeartbeats 4000000 in
set_option maxRecDepth 100000 in
theorem w_PM_at_b0 {p : Program} {l : Launch} {e : Env} {s : State} {m : MethodId} {args : Array Value} {below : List Frame} {meth : Method} {c : Code} {Q : State → Prop} {A : Nat → Prop} {D : va_G} {cI cL cZ : ClassId} {a_this : Nat} {o_in : Nat} {o_out : Nat} {o_counts : Nat} {o_codes : Nat} {o_tree : Nat} {o_writer : Nat} {o_reader : Nat} {o_streams : Nat} {i_place : Int32} {N : Nat} {res : Int32}  (C : Cx p s m args c b_PM_at 1 "PrefixMill" D [(cI, .int), (cL, .long), (cZ, .boolean)] A) (hret : E_PM_at p l e s m args below meth c Q A D cI cL cZ a_this o_in o_out o_counts o_codes o_tree o_writer o_reader o_streams i_place res)  : I_PM_at_b0 p l e s m args below meth c Q A D cI cL cZ a_this o_in o_out o_counts o_codes o_tree o_writer o_reader o_streams i_place res (f_PM_at N i_place ) := by
  obtain ⟨hx, hb, hml, hown, hts, hK, hA⟩ := C
  intro _ h H locs ls hl hP hD hS
  unfold f_PM_at at h
  refine lv_aload_n hx hb d_PM_at_0 rfl (lv_at hl 0 rfl) ?_
  refine va_get hx hb hts in_PM hown hK hP 0 rfl rfl 8 (by decide) (hts _ m_348) (fun _ h9 => h9) rfl d_PM_at_1 ?_
  exact hret _ _ _ _ i_place  h d_PM_at_4 hP hD hS
set_option maxHeartbeats 4000000 in
set_option maxRecDepth 100000 in
theorem c_PM_at (l : Launch) (D : va_G) (cI cL cZ : ClassId) (sz N : Nat) (a_this : Nat) (o_in : Nat) (o_out : Nat) (o_counts : Nat) (o_codes : Nat) (o_tree : Nat) (o_writer : Nat) (o_reader : Nat) (o_streams : Nat) (i_place : Int32) (rv : Int32) (h : f_PM_at N i_place  = some (rv)) : Met l ({ cls := "PrefixMill", name := "at", desc := "()I" } : Jvm.MethodName) ws_PM_at R_PM_at (va_Pc [.ref a_this] (fun U => U.heap.size = sz ∧ va_P D classes [(a_this, .inr (0, [.ref o_in, .ref o_out, .ref o_counts, .ref o_codes, .ref o_tree, .ref o_writer, .ref o_reader, .ref o_streams, .int i_place]))] U.heap ∧ va_K D classes [(cI, .int), (cL, .long), (cZ, .boolean)] U ∧ va_D (fun _ => True) [(a_this, .inr (0, [.ref o_in, .ref o_out, .ref o_counts, .ref o_codes, .ref o_tree, .ref o_writer, .ref o_reader, .ref o_streams, .int i_place]))])) (va_Qi (fun (r0 : Int32) (_ : Unit) => rv = r0) (fun _ t => va_P D classes [(a_this, .inr (0, [.ref o_in, .ref o_out, .ref o_counts, .ref o_codes, .ref o_tree, .ref o_writer, .ref o_reader, .ref o_streams, .int i_place]))] t.heap ∧ va_K D classes [(cI, .int), (cL, .long), (cZ, .boolean)] t ∧ va_D (va_A [(a_this, .inr (0, [.ref o_in, .ref o_out, .ref o_counts, .ref o_codes, .ref o_tree, .ref o_writer, .ref o_reader, .ref o_streams, .int i_place]))] sz) [(a_this, .inr (0, [.ref o_in, .ref o_out, .ref o_counts, .ref o_codes, .ref o_tree, .ref o_writer, .ref o_reader, .ref o_streams, .int i_place]))]) (va_A [(a_this, .inr (0, [.ref o_in, .ref o_out, .ref o_counts, .ref o_codes, .ref o_tree, .ref o_writer, .ref o_reader, .ref o_streams, .int i_place]))] sz)) 0 0 (va_A [(a_this, .inr (0, [.ref o_in, .ref o_out, .ref o_counts, .ref o_codes, .ref o_tree, .ref o_writer, .ref o_reader, .ref o_streams, .int i_place]))] sz) := by
  refine Met.ofW (cc := b_PM_at) (maxL := 1) (ret := (some .int)) (by decide) rfl ?_
  intro p e s m args below meth c s₁ B hml hv
  obtain ⟨rfl, hsz, hP, hK, hD0⟩ := hv
  have hx := B.exec
  have hb := B.bytes
  have hr := B.returns
  have hts0 := atoms_spec (ws := ws_PM_at) B.pre
  have hts := gd_tl hts0
  clear hts0
  have hown : s.vm.findClass "PrefixMill" = some m.cls := findClass_of_methodNamed B.named
  have hlocks := B.notSynchronized
  subst hsz
  have hD := hD0.self (sz := s.heap.size)
  generalize hAe : va_A [(a_this, .inr (0, [.ref o_in, .ref o_out, .ref o_counts, .ref o_codes, .ref o_tree, .ref o_writer, .ref o_reader, .ref o_streams, .int i_place]))] s.heap.size = A at hD ⊢
  have hA : ∀ q : Nat, s.heap.size ≤ q → A q := fun q h => by rw [← hAe]; exact Or.inr h
  have hS : va_S A s.heap s.heap [] := va_S.rf
  have hP : va_P D classes [(a_this, .inr (0, [.ref o_in, .ref o_out, .ref o_counts, .ref o_codes, .ref o_tree, .ref o_writer, .ref o_reader, .ref o_streams, .int i_place]))] s.heap := hP
  have hl := lv_entry ([.ref a_this]) (n := 1) (Nat.le_of_ble_eq_true rfl)
  rw [lg_entry_eq]
  generalize (lg_sl ([.ref a_this]) ++ List.replicate (1 - (lg_sl ([.ref a_this])).length) Slot.unset).toArray = ls at hl ⊢
  have hl : lv_has ls 1 [(0, .ref a_this)] := hl
  have C : Cx p s m ([.ref a_this] : List Value).toArray c b_PM_at 1 "PrefixMill" D [(cI, .int), (cL, .long), (cZ, .boolean)] A := ⟨hx, hb, hml, hown, hts, hK, hA⟩
  refine w_PM_at_b0 (res := (rv)) C ?_ () h s.heap [] ls hl hP hD hS
  intro pc9 H9 locs9 ls9 rv9 e9 d9 hP9 hD9 hS9
  cases e9
  exact W.iret (v := rv) hx hb hr (fun t ht hW => ⟨⟨rv, (), rfl, rfl, by rw [ht]; exact hP9, va_K.moved hW.alike hK, hD9⟩, hS9.F ht⟩) hS9.2.2 d9
abbrev b_PM_isSymbol : ByteArray := prog_1_method_20_code
def ws_PM_isSymbol : List Cond := .code ({ cls := "PrefixMill", name := "isSymbol", desc := "(I)Z" } : Jvm.MethodName) b_PM_isSymbol 1 (some .boolean) :: tt
theorem d_PM_isSymbol_0 : decode b_PM_isSymbol 0 = .ok (.iload_n 0, 1) := by decide +kernel
theorem d_PM_isSymbol_1 : decode b_PM_isSymbol 1 = .ok (.ifCond .lt 14, 3) := by decide +kernel
theorem d_PM_isSymbol_4 : decode b_PM_isSymbol 4 = .ok (.iload_n 0, 1) := by decide +kernel
theorem d_PM_isSymbol_5 : decode b_PM_isSymbol 5 = .ok (.sipush 256, 3) := by decide +kernel
theorem d_PM_isSymbol_8 : decode b_PM_isSymbol 8 = .ok (.if_icmp .ge 7, 3) := by decide +kernel
theorem d_PM_isSymbol_11 : decode b_PM_isSymbol 11 = .ok (.iconst 1, 1) := by decide +kernel
theorem d_PM_isSymbol_12 : decode b_PM_isSymbol 12 = .ok (.goto 4, 3) := by decide +kernel
theorem d_PM_isSymbol_15 : decode b_PM_isSymbol 15 = .ok (.iconst 0, 1) := by decide +kernel
theorem d_PM_isSymbol_16 : decode b_PM_isSymbol 16 = .ok (.ireturn, 1) := by decide +kernel
abbrev R_PM_isSymbol : Room := ({ frames := 0, cells := 0, slots := 0, locals := 0 } : Room)
def E_PM_isSymbol (p : Program) (l : Launch) (e : Env) (s : State) (m : MethodId) (args : Array Value) (below : List Frame) (meth : Method) (c : Code) (Q : State → Prop) (A : Nat → Prop) (D : va_G) (cI cL cZ : ClassId) (l0 : Int32) (res : Int32) : Prop := ∀ (pc : Nat) (H : Heap) (locs : List Loc) (ls : Array Slot) (rv : Int32), some (rv) = some res → narrow .boolean (.int rv) = .int rv → decode b_PM_isSymbol pc = .ok (.ireturn, 1) → va_P D classes [] H → va_D A [] → va_S A s.heap H locs → W p l e R_PM_isSymbol s m args below meth c H locs 0 0 Q (F0 m pc ls [.int rv])
def I_PM_isSymbol_b15 (p : Program) (l : Launch) (e : Env) (s : State) (m : MethodId) (args : Array Value) (below : List Frame) (meth : Method) (c : Code) (Q : State → Prop) (A : Nat → Prop) (D : va_G) (cI cL cZ : ClassId) (l0 : Int32) (res : Int32) (kf : Option (Int32)) : Prop := ∀ (_ : Unit), kf  = some res → ∀ (H : Heap) (locs : List Loc) (ls : Array Slot), lv_has ls 1 [] → va_P D classes [] H → va_D A [] → va_S A s.heap H locs → W p l e R_PM_isSymbol s m args below meth c H locs 0 0 Q (F0 m 15 ls [])
def I_PM_isSymbol_b0 (p : Program) (l : Launch) (e : Env) (s : State) (m : MethodId) (args : Array Value) (below : List Frame) (meth : Method) (c : Code) (Q : State → Prop) (A : Nat → Prop) (D : va_G) (cI cL cZ : ClassId) (l0 : Int32) (res : Int32) (kf : Option (Int32)) : Prop := ∀ (_ : Unit), kf  = some res → ∀ (H : Heap) (locs : List Loc) (ls : Array Slot), lv_has ls 1 [(0, .int l0)] → va_P D classes [] H → va_D A [] → va_S A s.heap H locs → W p l e R_PM_isSymbol s m args below meth c H locs 0 0 Q (F0 m 0 ls [])
set_option maxHeartbeats 4000000 in
set_option maxRecDepth 100000 in
theorem w_PM_isSymbol_b15 {p : Program} {l : Launch} {e : Env} {s : State} {m : MethodId} {args : Array Value} {below : List Frame} {meth : Method} {c : Code} {Q : State → Prop} {A : Nat → Prop} {D : va_G} {cI cL cZ : ClassId} {l0 : Int32} {N : Nat} {res : Int32}  (C : Cx p s m args c b_PM_isSymbol 1 "PrefixMill" D [(cI, .int), (cL, .long), (cZ, .boolean)] A) (hret : E_PM_isSymbol p l e s m args below meth c Q A D cI cL cZ l0 res)  : I_PM_isSymbol_b15 p l e s m args below meth c Q A D cI cL cZ l0 res (f_PM_isSymbol_b15 N l0 ) := by
  obtain ⟨hx, hb, hml, hown, hts, hK, hA⟩ := C
  intro _ h H locs ls hl hP hD hS
  unfold f_PM_isSymbol_b15 at h
  refine lv_iconst (v := 0) hx hb d_PM_isSymbol_15 (by decide) ?_
  exact hret _ _ _ _ 0  h rfl d_PM_isSymbol_16 hP hD hS
set_option maxHeartbeats 4000000 in
set_option maxRecDepth 100000 in
theorem w_PM_isSymbol_b0 {p : Program} {l : Launch} {e : Env} {s : State} {m : MethodId} {args : Array Value} {below : List Frame} {meth : Method} {c : Code} {Q : State → Prop} {A : Nat → Prop} {D : va_G} {cI cL cZ : ClassId} {l0 : Int32} {N : Nat} {res : Int32}  (C : Cx p s m args c b_PM_isSymbol 1 "PrefixMill" D [(cI, .int), (cL, .long), (cZ, .boolean)] A) (hret : E_PM_isSymbol p l e s m args below meth c Q A D cI cL cZ l0 res)  : I_PM_isSymbol_b0 p l e s m args below meth c Q A D cI cL cZ l0 res (f_PM_isSymbol N l0 ) := by
  obtain ⟨hx, hb, hml, hown, hts, hK, hA⟩ := C
  intro _ h H locs ls hl hP hD hS
  unfold f_PM_isSymbol at h
  refine lv_iload_n hx hb d_PM_isSymbol_0 rfl (lv_at hl 0 rfl) ?_
  refine lv_if_lt (tgt := 15) hx hb d_PM_isSymbol_1 (by decide) (fun c_1 => ?_) (fun c_1 => ?_)
  · replace h := if_t h c_1
    exact w_PM_isSymbol_b15 ⟨hx, hb, hml, hown, hts, hK, hA⟩ hret  () h H locs ls (lv_sub hl [] rfl) hP hD hS
  · replace h := if_f h c_1
    refine lv_iload_n hx hb d_PM_isSymbol_4 rfl (lv_at hl 0 rfl) ?_
    refine lv_sipush (v := 256) hx hb d_PM_isSymbol_5 (by decide) ?_
    refine lv_icmp_ge (tgt := 15) hx hb d_PM_isSymbol_8 (by decide) (fun c_2 => ?_) (fun c_2 => ?_)
    · replace h := if_t h c_2
      exact w_PM_isSymbol_b15 ⟨hx, hb, hml, hown, hts, hK, hA⟩ hret  () h H locs ls (lv_sub hl [] rfl) hP hD hS
    · replace h := if_f h c_2
      refine lv_iconst (v := 1) hx hb d_PM_isSymbol_11 (by decide) ?_
      refine lv_goto (tgt := 16) hx hb d_PM_isSymbol_12 (by decide) ?_
      exact hret _ _ _ _ 1  h rfl d_PM_isSymbol_16 hP hD hS
set_option maxHeartbeats 4000000 in
set_option maxRecDepth 100000 in
theorem c_PM_isSymbol (l : Launch) (D : va_G) (cI cL cZ : ClassId) (sz N : Nat) (l0 : Int32) (rv : Int32) (h : f_PM_isSymbol N l0  = some (rv)) : Met l ({ cls := "PrefixMill", name := "isSymbol", desc := "(I)Z" } : Jvm.MethodName) ws_PM_isSymbol R_PM_isSymbol (va_Pc [.int l0] (fun U => U.heap.size = sz ∧ va_P D classes [] U.heap ∧ va_K D classes [(cI, .int), (cL, .long), (cZ, .boolean)] U ∧ va_D (fun _ => True) [])) (va_Qi (fun (r0 : Int32) (_ : Unit) => rv = r0) (fun _ t => va_P D classes [] t.heap ∧ va_K D classes [(cI, .int), (cL, .long), (cZ, .boolean)] t ∧ va_D (va_A [] sz) []) (va_A [] sz)) 0 0 (va_A [] sz) := by
  refine Met.ofW (cc := b_PM_isSymbol) (maxL := 1) (ret := (some .boolean)) (by decide) rfl ?_
  intro p e s m args below meth c s₁ B hml hv
  obtain ⟨rfl, hsz, hP, hK, hD0⟩ := hv
  have hx := B.exec
  have hb := B.bytes
  have hr := B.returns
  have hts0 := atoms_spec (ws := ws_PM_isSymbol) B.pre
  have hts := gd_tl hts0
  clear hts0
  have hown : s.vm.findClass "PrefixMill" = some m.cls := findClass_of_methodNamed B.named
  have hlocks := B.notSynchronized
  subst hsz
  have hD := hD0.self (sz := s.heap.size)
  generalize hAe : va_A [] s.heap.size = A at hD ⊢
  have hA : ∀ q : Nat, s.heap.size ≤ q → A q := fun q h => by rw [← hAe]; exact Or.inr h
  have hS : va_S A s.heap s.heap [] := va_S.rf
  have hP : va_P D classes [] s.heap := hP
  have hl := lv_entry ([.int l0]) (n := 1) (Nat.le_of_ble_eq_true rfl)
  rw [lg_entry_eq]
  generalize (lg_sl ([.int l0]) ++ List.replicate (1 - (lg_sl ([.int l0])).length) Slot.unset).toArray = ls at hl ⊢
  have hl : lv_has ls 1 [(0, .int l0)] := hl
  have C : Cx p s m ([.int l0] : List Value).toArray c b_PM_isSymbol 1 "PrefixMill" D [(cI, .int), (cL, .long), (cZ, .boolean)] A := ⟨hx, hb, hml, hown, hts, hK, hA⟩
  refine w_PM_isSymbol_b0 (res := (rv)) C ?_ () h s.heap [] ls hl hP hD hS
  intro pc9 H9 locs9 ls9 rv9 e9 z9 d9 hP9 hD9 hS9
  cases e9
  exact W.zret (v := rv) hx hb hr z9 (fun t ht hW => ⟨⟨rv, (), rfl, rfl, by rw [ht]; exact hP9, va_K.moved hW.alike hK, hD9⟩, hS9.F ht⟩) hS9.2.2 d9
abbrev b_PM_count : ByteArray := prog_1_method_8_code
def ws_PM_count : List Cond := .code ({ cls := "PrefixMill", name := "count", desc := "(II)Z" } : Jvm.MethodName) b_PM_count 3 (some .boolean) :: tt
theorem d_PM_count_0 : decode b_PM_count 0 = .ok (.iload_n 1, 1) := by decide +kernel
theorem d_PM_count_1 : decode b_PM_count 1 = .ok (.invokestatic 87, 3) := by decide +kernel
theorem d_PM_count_4 : decode b_PM_count 4 = .ok (.ifCond .eq 13, 3) := by decide +kernel
theorem d_PM_count_7 : decode b_PM_count 7 = .ok (.iload_n 2, 1) := by decide +kernel
theorem d_PM_count_8 : decode b_PM_count 8 = .ok (.ifCond .lt 9, 3) := by decide +kernel
theorem d_PM_count_11 : decode b_PM_count 11 = .ok (.iload_n 2, 1) := by decide +kernel
theorem d_PM_count_12 : decode b_PM_count 12 = .ok (.ldc 91, 2) := by decide +kernel
theorem d_PM_count_14 : decode b_PM_count 14 = .ok (.if_icmp .le 5, 3) := by decide +kernel
theorem d_PM_count_17 : decode b_PM_count 17 = .ok (.iconst 0, 1) := by decide +kernel
theorem d_PM_count_18 : decode b_PM_count 18 = .ok (.ireturn, 1) := by decide +kernel
theorem d_PM_count_19 : decode b_PM_count 19 = .ok (.aload_n 0, 1) := by decide +kernel
theorem d_PM_count_20 : decode b_PM_count 20 = .ok (.getfield 21, 3) := by decide +kernel
theorem d_PM_count_23 : decode b_PM_count 23 = .ok (.iload_n 1, 1) := by decide +kernel
theorem d_PM_count_24 : decode b_PM_count 24 = .ok (.iload_n 2, 1) := by decide +kernel
theorem d_PM_count_25 : decode b_PM_count 25 = .ok (.iastore, 1) := by decide +kernel
theorem d_PM_count_26 : decode b_PM_count 26 = .ok (.iconst 1, 1) := by decide +kernel
theorem d_PM_count_27 : decode b_PM_count 27 = .ok (.ireturn, 1) := by decide +kernel
abbrev R_PM_count : Room := ({ frames := 1, cells := 0, slots := 0, locals := 20 } : Room)
def E_PM_count (p : Program) (l : Launch) (e : Env) (s : State) (m : MethodId) (args : Array Value) (below : List Frame) (meth : Method) (c : Code) (Q : State → Prop) (A : Nat → Prop) (D : va_G) (cI cL cZ : ClassId) (a_this : Nat) (a_counts : Nat) (o_in : Nat) (o_out : Nat) (o_codes : Nat) (o_tree : Nat) (o_writer : Nat) (o_reader : Nat) (o_streams : Nat) (i_place : Int32) (l1 : Int32) (l2 : Int32) (res : Int32 × (Nat → Int32)) : Prop := ∀ (pc : Nat) (H : Heap) (locs : List Loc) (ls : Array Slot) (rv : Int32) (v_counts : Nat → Int32), some (rv, v_counts) = some res → narrow .boolean (.int rv) = .int rv → decode b_PM_count pc = .ok (.ireturn, 1) → va_P D classes [(a_this, .inr (0, [.ref o_in, .ref o_out, .ref a_counts, .ref o_codes, .ref o_tree, .ref o_writer, .ref o_reader, .ref o_streams, .int i_place])), (a_counts, .inl (cI, 256, .inl v_counts))] H → va_D A [(a_this, .inr (0, [.ref o_in, .ref o_out, .ref a_counts, .ref o_codes, .ref o_tree, .ref o_writer, .ref o_reader, .ref o_streams, .int i_place])), (a_counts, .inl (cI, 256, .inl v_counts))] → va_S A s.heap H locs → W p l e R_PM_count s m args below meth c H locs 0 0 Q (F0 m pc ls [.int rv])
def I_PM_count_b17 (p : Program) (l : Launch) (e : Env) (s : State) (m : MethodId) (args : Array Value) (below : List Frame) (meth : Method) (c : Code) (Q : State → Prop) (A : Nat → Prop) (D : va_G) (cI cL cZ : ClassId) (a_this : Nat) (a_counts : Nat) (o_in : Nat) (o_out : Nat) (o_codes : Nat) (o_tree : Nat) (o_writer : Nat) (o_reader : Nat) (o_streams : Nat) (i_place : Int32) (l1 : Int32) (l2 : Int32) (res : Int32 × (Nat → Int32)) (kf : (Nat → Int32) → Option (Int32 × (Nat → Int32))) : Prop := ∀ (v_counts : Nat → Int32), kf v_counts = some res → ∀ (H : Heap) (locs : List Loc) (ls : Array Slot), lv_has ls 3 [] → va_P D classes [(a_this, .inr (0, [.ref o_in, .ref o_out, .ref a_counts, .ref o_codes, .ref o_tree, .ref o_writer, .ref o_reader, .ref o_streams, .int i_place])), (a_counts, .inl (cI, 256, .inl v_counts))] H → va_D A [(a_this, .inr (0, [.ref o_in, .ref o_out, .ref a_counts, .ref o_codes, .ref o_tree, .ref o_writer, .ref o_reader, .ref o_streams, .int i_place])), (a_counts, .inl (cI, 256, .inl v_counts))] → va_S A s.heap H locs → W p l e R_PM_count s m args below meth c H locs 0 0 Q (F0 m 17 ls [])
def I_PM_count_b0 (p : Program) (l : Launch) (e : Env) (s : State) (m : MethodId) (args : Array Value) (below : List Frame) (meth : Method) (c : Code) (Q : State → Prop) (A : Nat → Prop) (D : va_G) (cI cL cZ : ClassId) (a_this : Nat) (a_counts : Nat) (o_in : Nat) (o_out : Nat) (o_codes : Nat) (o_tree : Nat) (o_writer : Nat) (o_reader : Nat) (o_streams : Nat) (i_place : Int32) (l1 : Int32) (l2 : Int32) (res : Int32 × (Nat → Int32)) (kf : (Nat → Int32) → Option (Int32 × (Nat → Int32))) : Prop := ∀ (v_counts : Nat → Int32), kf v_counts = some res → ∀ (H : Heap) (locs : List Loc) (ls : Array Slot), lv_has ls 3 [(0, .ref a_this), (1, .int l1), (2, .int l2)] → va_P D classes [(a_this, .inr (0, [.ref o_in, .ref o_out, .ref a_counts, .ref o_codes, .ref o_tree, .ref o_writer, .ref o_reader, .ref o_streams, .int i_place])), (a_counts, .inl (cI, 256, .inl v_counts))] H → va_D A [(a_this, .inr (0, [.ref o_in, .ref o_out, .ref a_counts, .ref o_codes, .ref o_tree, .ref o_writer, .ref o_reader, .ref o_streams, .int i_place])), (a_counts, .inl (cI, 256, .inl v_counts))] → va_S A s.heap H locs → W p l e R_PM_count s m args below meth c H locs 0 0 Q (F0 m 0 ls [])
set_option maxHeartbeats 4000000 in
set_option maxRecDepth 100000 in
theorem w_PM_count_b17 {p : Program} {l : Launch} {e : Env} {s : State} {m : MethodId} {args : Array Value} {below : List Frame} {meth : Method} {c : Code} {Q : State → Prop} {A : Nat → Prop} {D : va_G} {cI cL cZ : ClassId} {a_this : Nat} {a_counts : Nat} {o_in : Nat} {o_out : Nat} {o_codes : Nat} {o_tree : Nat} {o_writer : Nat} {o_reader : Nat} {o_streams : Nat} {i_place : Int32} {l1 : Int32} {l2 : Int32} {N : Nat} {res : Int32 × (Nat → Int32)}  (C : Cx p s m args c b_PM_count 3 "PrefixMill" D [(cI, .int), (cL, .long), (cZ, .boolean)] A) (hret : E_PM_count p l e s m args below meth c Q A D cI cL cZ a_this a_counts o_in o_out o_codes o_tree o_writer o_reader o_streams i_place l1 l2 res)  : I_PM_count_b17 p l e s m args below meth c Q A D cI cL cZ a_this a_counts o_in o_out o_codes o_tree o_writer o_reader o_streams i_place l1 l2 res (f_PM_count_b17 N l1 l2 ) := by
  obtain ⟨hx, hb, hml, hown, hts, hK, hA⟩ := C
  intro v_counts h H locs ls hl hP hD hS
  unfold f_PM_count_b17 at h
  refine lv_iconst (v := 0) hx hb d_PM_count_17 (by decide) ?_
  exact hret _ _ _ _ 0 v_counts h rfl d_PM_count_18 hP hD hS
set_option maxHeartbeats 4000000 in
set_option maxRecDepth 100000 in
theorem w_PM_count_b0 {p : Program} {l : Launch} {e : Env} {s : State} {m : MethodId} {args : Array Value} {below : List Frame} {meth : Method} {c : Code} {Q : State → Prop} {A : Nat → Prop} {D : va_G} {cI cL cZ : ClassId} {a_this : Nat} {a_counts : Nat} {o_in : Nat} {o_out : Nat} {o_codes : Nat} {o_tree : Nat} {o_writer : Nat} {o_reader : Nat} {o_streams : Nat} {i_place : Int32} {l1 : Int32} {l2 : Int32} {N : Nat} {res : Int32 × (Nat → Int32)}  (C : Cx p s m args c b_PM_count 3 "PrefixMill" D [(cI, .int), (cL, .long), (cZ, .boolean)] A) (hret : E_PM_count p l e s m args below meth c Q A D cI cL cZ a_this a_counts o_in o_out o_codes o_tree o_writer o_reader o_streams i_place l1 l2 res)  : I_PM_count_b0 p l e s m args below meth c Q A D cI cL cZ a_this a_counts o_in o_out o_codes o_tree o_writer o_reader o_streams i_place l1 l2 res (f_PM_count N l1 l2 ) := by
  obtain ⟨hx, hb, hml, hown, hts, hK, hA⟩ := C
  intro v_counts h H locs ls hl hP hD hS
  unfold f_PM_count at h
  refine lv_iload_n hx hb d_PM_count_0 rfl (lv_at hl 1 rfl) ?_
  obtain ⟨r_1, hc_2, h⟩ := bd1_s h
  have hPc := hP.sub (ws' := []) [] rfl
  have hDc := hD.sub (ws' := []) [] (by decide) rfl
  have hFc := va_free (wc := []) hD hS hA [] rfl
  refine va_calli (va_runS (As := [.int l1]) (rest := []) ⟨hx, hb, hml, hown, hts⟩ (c_PM_isSymbol l D cI cL cZ H.size N l1 r_1 hc_2) ⟨(my_cb 1 hts m_425 rfl rfl (hts _ m_66) (hts _ m_423) (by decide +kernel) ⟨Nat.le_of_ble_eq_true rfl, Nat.le_of_ble_eq_true rfl⟩), hts _ m_424⟩ ⟨fun a U g mk q => by obtain ⟨q0, q1, qP, qK, qD⟩ := q; exact ⟨q0, q1, qP, va_K.moved (u := U) (U := U.calling g mk a) (Vm.Alike.refl U.vm) qK, qD⟩, fun U hU hW => ⟨rfl, by rw [hU], by rw [hU]; exact hPc, va_K.moved hW.alike hK, hDc.weaken (fun _ _ _ _ => trivial)⟩⟩ rfl rfl hl.1 rfl (lv_room (Nat.le_of_ble_eq_true rfl)) d_PM_count_1 ⟨Nat.zero_le _, Nat.zero_le _⟩) hS (fun q _ h => hFc q h) hFc (fun rr u t H1 locs ht hvm hw hB hz1 hk1 hS => ?_)
  obtain ⟨hP1, hK1, hD1⟩ := hB
  rw [ht] at hP1
  subst hw
  obtain ⟨hP, hD⟩ := va_join (wr := [(a_this, .inr (0, [.ref o_in, .ref o_out, .ref a_counts, .ref o_codes, .ref o_tree, .ref o_writer, .ref o_reader, .ref o_streams, .int i_place])), (a_counts, .inl (cI, 256, .inl v_counts))]) (w1 := []) hP hD [] [0, 1] rfl rfl (by decide) (by decide) hk1 hFc hP1 hD1
  clear hPc hDc hFc hk1 hP1 hD1 hK1
  generalize H1 = H at hP hS ⊢
  have hP : va_P D classes [(a_this, .inr (0, [.ref o_in, .ref o_out, .ref a_counts, .ref o_codes, .ref o_tree, .ref o_writer, .ref o_reader, .ref o_streams, .int i_place])), (a_counts, .inl (cI, 256, .inl v_counts))] H := hP.sub [0, 1] rfl
  have hD : va_D A [(a_this, .inr (0, [.ref o_in, .ref o_out, .ref a_counts, .ref o_codes, .ref o_tree, .ref o_writer, .ref o_reader, .ref o_streams, .int i_place])), (a_counts, .inl (cI, 256, .inl v_counts))] := hD.sub [0, 1] (by decide) rfl
  refine lv_if_eq (tgt := 17) hx hb d_PM_count_4 (by decide) (fun c_3 => ?_) (fun c_3 => ?_)
  · replace h := if_t h c_3
    exact w_PM_count_b17 ⟨hx, hb, hml, hown, hts, hK, hA⟩ hret  _ h H locs ls (lv_sub hl [] rfl) hP hD hS
  · replace h := if_f h c_3
    refine lv_iload_n hx hb d_PM_count_7 rfl (lv_at hl 2 rfl) ?_
    refine lv_if_lt (tgt := 17) hx hb d_PM_count_8 (by decide) (fun c_4 => ?_) (fun c_4 => ?_)
    · replace h := if_t h c_4
      exact w_PM_count_b17 ⟨hx, hb, hml, hown, hts, hK, hA⟩ hret  _ h H locs ls (lv_sub hl [] rfl) hP hD hS
    · replace h := if_f h c_4
      refine lv_iload_n hx hb d_PM_count_11 rfl (lv_at hl 2 rfl) ?_
      refine lv_ldc (v := 65535) hx hb hown (hts _ m_426) d_PM_count_12 ?_
      refine lv_icmp_le (tgt := 19) hx hb d_PM_count_14 (by decide) (fun c_5 => ?_) (fun c_5 => ?_)
      · replace h := if_t h c_5
        refine lv_aload_n hx hb d_PM_count_19 rfl (lv_at hl 0 rfl) ?_
        refine va_get hx hb hts in_PM hown hK hP 0 rfl rfl 2 (by decide) (hts _ m_342) (fun _ h9 => h9) rfl d_PM_count_20 ?_
        refine lv_iload_n hx hb d_PM_count_23 rfl (lv_at hl 1 rfl) ?_
        refine lv_iload_n hx hb d_PM_count_24 rfl (lv_at hl 2 rfl) ?_
        obtain ⟨g_6, h⟩ := ck_s h
        refine va_iast hx hb hK hP hD hS 1 0 rfl rfl (inb_s g_6) d_PM_count_25 (fun H locs hP hD hS => ?_)
        obtain ⟨v_counts_7, ev_counts_7⟩ : ∃ y, y = (upd v_counts (Int32.toNatClampNeg l1) l2) := ⟨_, rfl⟩
        replace h := nm_s h ev_counts_7
        have hP : va_P D classes [(a_this, .inr (0, [.ref o_in, .ref o_out, .ref a_counts, .ref o_codes, .ref o_tree, .ref o_writer, .ref o_reader, .ref o_streams, .int i_place])), (a_counts, .inl (cI, 256, .inl v_counts_7))] H := by rw [ev_counts_7]; exact hP
        have hD : va_D A [(a_this, .inr (0, [.ref o_in, .ref o_out, .ref a_counts, .ref o_codes, .ref o_tree, .ref o_writer, .ref o_reader, .ref o_streams, .int i_place])), (a_counts, .inl (cI, 256, .inl v_counts_7))] := by rw [ev_counts_7]; exact hD
        refine lv_iconst (v := 1) hx hb d_PM_count_26 (by decide) ?_
        exact hret _ _ _ _ 1 v_counts_7 h rfl d_PM_count_27 hP hD hS
      · replace h := if_f h c_5
        exact w_PM_count_b17 ⟨hx, hb, hml, hown, hts, hK, hA⟩ hret  _ h H locs ls (lv_sub hl [] rfl) hP hD hS
set_option maxHeartbeats 4000000 in
set_option maxRecDepth 100000 in
theorem c_PM_count (l : Launch) (D : va_G) (cI cL cZ : ClassId) (sz N : Nat) (a_this : Nat) (a_counts : Nat) (o_in : Nat) (o_out : Nat) (o_codes : Nat) (o_tree : Nat) (o_writer : Nat) (o_reader : Nat) (o_streams : Nat) (i_place : Int32) (v_counts : Nat → Int32) (l1 : Int32) (l2 : Int32) (rv : Int32) (v_counts' : Nat → Int32) (h : f_PM_count N l1 l2 v_counts = some (rv, v_counts')) : Met l ({ cls := "PrefixMill", name := "count", desc := "(II)Z" } : Jvm.MethodName) ws_PM_count R_PM_count (va_Pc [.ref a_this, .int l1, .int l2] (fun U => U.heap.size = sz ∧ va_P D classes [(a_this, .inr (0, [.ref o_in, .ref o_out, .ref a_counts, .ref o_codes, .ref o_tree, .ref o_writer, .ref o_reader, .ref o_streams, .int i_place])), (a_counts, .inl (cI, 256, .inl v_counts))] U.heap ∧ va_K D classes [(cI, .int), (cL, .long), (cZ, .boolean)] U ∧ va_D (fun _ => True) [(a_this, .inr (0, [.ref o_in, .ref o_out, .ref a_counts, .ref o_codes, .ref o_tree, .ref o_writer, .ref o_reader, .ref o_streams, .int i_place])), (a_counts, .inl (cI, 256, .inl v_counts))])) (va_Qi (fun (r0 : Int32) (_ : Unit) => rv = r0) (fun _ t => va_P D classes [(a_this, .inr (0, [.ref o_in, .ref o_out, .ref a_counts, .ref o_codes, .ref o_tree, .ref o_writer, .ref o_reader, .ref o_streams, .int i_place])), (a_counts, .inl (cI, 256, .inl v_counts'))] t.heap ∧ va_K D classes [(cI, .int), (cL, .long), (cZ, .boolean)] t ∧ va_D (va_A [(a_this, .inr (0, [.ref o_in, .ref o_out, .ref a_counts, .ref o_codes, .ref o_tree, .ref o_writer, .ref o_reader, .ref o_streams, .int i_place])), (a_counts, .inl (cI, 256, .inl v_counts))] sz) [(a_this, .inr (0, [.ref o_in, .ref o_out, .ref a_counts, .ref o_codes, .ref o_tree, .ref o_writer, .ref o_reader, .ref o_streams, .int i_place])), (a_counts, .inl (cI, 256, .inl v_counts'))]) (va_A [(a_this, .inr (0, [.ref o_in, .ref o_out, .ref a_counts, .ref o_codes, .ref o_tree, .ref o_writer, .ref o_reader, .ref o_streams, .int i_place])), (a_counts, .inl (cI, 256, .inl v_counts))] sz)) 0 0 (va_A [(a_this, .inr (0, [.ref o_in, .ref o_out, .ref a_counts, .ref o_codes, .ref o_tree, .ref o_writer, .ref o_reader, .ref o_streams, .int i_place])), (a_counts, .inl (cI, 256, .inl v_counts))] sz) := by
  refine Met.ofW (cc := b_PM_count) (maxL := 3) (ret := (some .boolean)) (by decide) rfl ?_
  intro p e s m args below meth c s₁ B hml hv
  obtain ⟨rfl, hsz, hP, hK, hD0⟩ := hv
  have hx := B.exec
  have hb := B.bytes
  have hr := B.returns
  have hts0 := atoms_spec (ws := ws_PM_count) B.pre
  have hts := gd_tl hts0
  clear hts0
  have hown : s.vm.findClass "PrefixMill" = some m.cls := findClass_of_methodNamed B.named
  have hlocks := B.notSynchronized
  subst hsz
  have hD := hD0.self (sz := s.heap.size)
  generalize hAe : va_A [(a_this, .inr (0, [.ref o_in, .ref o_out, .ref a_counts, .ref o_codes, .ref o_tree, .ref o_writer, .ref o_reader, .ref o_streams, .int i_place])), (a_counts, .inl (cI, 256, .inl v_counts))] s.heap.size = A at hD ⊢
  have hA : ∀ q : Nat, s.heap.size ≤ q → A q := fun q h => by rw [← hAe]; exact Or.inr h
  have hS : va_S A s.heap s.heap [] := va_S.rf
  have hP : va_P D classes [(a_this, .inr (0, [.ref o_in, .ref o_out, .ref a_counts, .ref o_codes, .ref o_tree, .ref o_writer, .ref o_reader, .ref o_streams, .int i_place])), (a_counts, .inl (cI, 256, .inl v_counts))] s.heap := hP
  have hl := lv_entry ([.ref a_this, .int l1, .int l2]) (n := 3) (Nat.le_of_ble_eq_true rfl)
  rw [lg_entry_eq]
  generalize (lg_sl ([.ref a_this, .int l1, .int l2]) ++ List.replicate (3 - (lg_sl ([.ref a_this, .int l1, .int l2])).length) Slot.unset).toArray = ls at hl ⊢
  have hl : lv_has ls 3 [(0, .ref a_this), (1, .int l1), (2, .int l2)] := hl
  have C : Cx p s m ([.ref a_this, .int l1, .int l2] : List Value).toArray c b_PM_count 3 "PrefixMill" D [(cI, .int), (cL, .long), (cZ, .boolean)] A := ⟨hx, hb, hml, hown, hts, hK, hA⟩
  refine w_PM_count_b0 (res := (rv, v_counts')) C ?_ _ h s.heap [] ls hl hP hD hS
  intro pc9 H9 locs9 ls9 rv9 v_counts9 e9 z9 d9 hP9 hD9 hS9
  cases e9
  exact W.zret (v := rv) hx hb hr z9 (fun t ht hW => ⟨⟨rv, (), rfl, rfl, by rw [ht]; exact hP9, va_K.moved hW.alike hK, hD9⟩, hS9.F ht⟩) hS9.2.2 d9
abbrev b_PM_countAll : ByteArray := prog_1_method_9_code
def ws_PM_countAll : List Cond := .code ({ cls := "PrefixMill", name := "countAll", desc := "()I" } : Jvm.MethodName) b_PM_countAll 2 (some .int) :: tt
theorem d_PM_countAll_0 : decode b_PM_countAll 0 = .ok (.aload_n 0, 1) := by decide +kernel
theorem d_PM_countAll_1 : decode b_PM_countAll 1 = .ok (.getfield 21, 3) := by decide +kernel
theorem d_PM_countAll_4 : decode b_PM_countAll 4 = .ok (.iconst 0, 1) := by decide +kernel
theorem d_PM_countAll_5 : decode b_PM_countAll 5 = .ok (.invokestatic 81, 3) := by decide +kernel
theorem d_PM_countAll_8 : decode b_PM_countAll 8 = .ok (.aload_n 0, 1) := by decide +kernel
theorem d_PM_countAll_9 : decode b_PM_countAll 9 = .ok (.getfield 60, 3) := by decide +kernel
theorem d_PM_countAll_12 : decode b_PM_countAll 12 = .ok (.istore_n 1, 1) := by decide +kernel
theorem d_PM_countAll_13 : decode b_PM_countAll 13 = .ok (.iload_n 1, 1) := by decide +kernel
theorem d_PM_countAll_14 : decode b_PM_countAll 14 = .ok (.aload_n 0, 1) := by decide +kernel
theorem d_PM_countAll_15 : decode b_PM_countAll 15 = .ok (.getfield 14, 3) := by decide +kernel
theorem d_PM_countAll_18 : decode b_PM_countAll 18 = .ok (.getfield 64, 3) := by decide +kernel
theorem d_PM_countAll_21 : decode b_PM_countAll 21 = .ok (.if_icmp .ge 26, 3) := by decide +kernel
theorem d_PM_countAll_24 : decode b_PM_countAll 24 = .ok (.aload_n 0, 1) := by decide +kernel
theorem d_PM_countAll_25 : decode b_PM_countAll 25 = .ok (.getfield 21, 3) := by decide +kernel
theorem d_PM_countAll_28 : decode b_PM_countAll 28 = .ok (.aload_n 0, 1) := by decide +kernel
theorem d_PM_countAll_29 : decode b_PM_countAll 29 = .ok (.getfield 14, 3) := by decide +kernel
theorem d_PM_countAll_32 : decode b_PM_countAll 32 = .ok (.iload_n 1, 1) := by decide +kernel
theorem d_PM_countAll_33 : decode b_PM_countAll 33 = .ok (.invokevirtual 70, 3) := by decide +kernel
theorem d_PM_countAll_36 : decode b_PM_countAll 36 = .ok (.dup2, 1) := by decide +kernel
theorem d_PM_countAll_37 : decode b_PM_countAll 37 = .ok (.iaload, 1) := by decide +kernel
theorem d_PM_countAll_38 : decode b_PM_countAll 38 = .ok (.iconst 1, 1) := by decide +kernel
theorem d_PM_countAll_39 : decode b_PM_countAll 39 = .ok (.iadd, 1) := by decide +kernel
theorem d_PM_countAll_40 : decode b_PM_countAll 40 = .ok (.iastore, 1) := by decide +kernel
theorem d_PM_countAll_41 : decode b_PM_countAll 41 = .ok (.iinc 1 1, 3) := by decide +kernel
theorem d_PM_countAll_44 : decode b_PM_countAll 44 = .ok (.goto (-31), 3) := by decide +kernel
theorem d_PM_countAll_47 : decode b_PM_countAll 47 = .ok (.aload_n 0, 1) := by decide +kernel
theorem d_PM_countAll_48 : decode b_PM_countAll 48 = .ok (.getfield 14, 3) := by decide +kernel
theorem d_PM_countAll_51 : decode b_PM_countAll 51 = .ok (.getfield 64, 3) := by decide +kernel
theorem d_PM_countAll_54 : decode b_PM_countAll 54 = .ok (.aload_n 0, 1) := by decide +kernel
theorem d_PM_countAll_55 : decode b_PM_countAll 55 = .ok (.getfield 60, 3) := by decide +kernel
theorem d_PM_countAll_58 : decode b_PM_countAll 58 = .ok (.isub, 1) := by decide +kernel
theorem d_PM_countAll_59 : decode b_PM_countAll 59 = .ok (.ireturn, 1) := by decide +kernel
abbrev R_PM_countAll : Room := ({ frames := 1, cells := 0, slots := 0, locals := 23 } : Room)
def E_PM_countAll (p : Program) (l : Launch) (e : Env) (s : State) (m : MethodId) (args : Array Value) (below : List Frame) (meth : Method) (c : Code) (Q : State → Prop) (A : Nat → Prop) (D : va_G) (cI cL cZ : ClassId) (a_this : Nat) (a_in : Nat) (a_in_words : Nat) (a_counts : Nat) (o_out : Nat) (o_codes : Nat) (o_tree : Nat) (o_writer : Nat) (o_reader : Nat) (o_streams : Nat) (i_place : Int32) (i_in_room : Int32) (i_in_used : Int32) (i_in_held : Int32) (i_in_many : Int32) (n_in_words : Nat) (v_in_words : Nat → Int64) (res : Int32 × (Nat → Int32)) : Prop := ∀ (pc : Nat) (H : Heap) (locs : List Loc) (ls : Array Slot) (rv : Int32) (v_counts : Nat → Int32), some (rv, v_counts) = some res → decode b_PM_countAll pc = .ok (.ireturn, 1) → va_P D classes [(a_this, .inr (0, [.ref a_in, .ref o_out, .ref a_counts, .ref o_codes, .ref o_tree, .ref o_writer, .ref o_reader, .ref o_streams, .int i_place])), (a_in, .inr (5, [.ref a_in_words, .int i_in_room, .int i_in_used, .int i_in_held, .int i_in_many])), (a_in_words, .inl (cL, n_in_words, .inr (.inl v_in_words))), (a_counts, .inl (cI, 256, .inl v_counts))] H → va_D A [(a_this, .inr (0, [.ref a_in, .ref o_out, .ref a_counts, .ref o_codes, .ref o_tree, .ref o_writer, .ref o_reader, .ref o_streams, .int i_place])), (a_in, .inr (5, [.ref a_in_words, .int i_in_room, .int i_in_used, .int i_in_held, .int i_in_many])), (a_in_words, .inl (cL, n_in_words, .inr (.inl v_in_words))), (a_counts, .inl (cI, 256, .inl v_counts))] → va_S A s.heap H locs → W p l e R_PM_countAll s m args below meth c H locs 0 0 Q (F0 m pc ls [.int rv])
def I_PM_countAll_b47 (p : Program) (l : Launch) (e : Env) (s : State) (m : MethodId) (args : Array Value) (below : List Frame) (meth : Method) (c : Code) (Q : State → Prop) (A : Nat → Prop) (D : va_G) (cI cL cZ : ClassId) (a_this : Nat) (a_in : Nat) (a_in_words : Nat) (a_counts : Nat) (o_out : Nat) (o_codes : Nat) (o_tree : Nat) (o_writer : Nat) (o_reader : Nat) (o_streams : Nat) (i_place : Int32) (i_in_room : Int32) (i_in_used : Int32) (i_in_held : Int32) (i_in_many : Int32) (n_in_words : Nat) (v_in_words : Nat → Int64) (res : Int32 × (Nat → Int32)) (kf : (Nat → Int32) → Option (Int32 × (Nat → Int32))) : Prop := ∀ (v_counts : Nat → Int32), kf v_counts = some res → ∀ (H : Heap) (locs : List Loc) (ls : Array Slot), lv_has ls 2 [(0, .ref a_this)] → va_P D classes [(a_this, .inr (0, [.ref a_in, .ref o_out, .ref a_counts, .ref o_codes, .ref o_tree, .ref o_writer, .ref o_reader, .ref o_streams, .int i_place])), (a_in, .inr (5, [.ref a_in_words, .int i_in_room, .int i_in_used, .int i_in_held, .int i_in_many])), (a_in_words, .inl (cL, n_in_words, .inr (.inl v_in_words))), (a_counts, .inl (cI, 256, .inl v_counts))] H → va_D A [(a_this, .inr (0, [.ref a_in, .ref o_out, .ref a_counts, .ref o_codes, .ref o_tree, .ref o_writer, .ref o_reader, .ref o_streams, .int i_place])), (a_in, .inr (5, [.ref a_in_words, .int i_in_room, .int i_in_used, .int i_in_held, .int i_in_many])), (a_in_words, .inl (cL, n_in_words, .inr (.inl v_in_words))), (a_counts, .inl (cI, 256, .inl v_counts))] → va_S A s.heap H locs → W p l e R_PM_countAll s m args below meth c H locs 0 0 Q (F0 m 47 ls [])
def I_PM_countAll_b13 (p : Program) (l : Launch) (e : Env) (s : State) (m : MethodId) (args : Array Value) (below : List Frame) (meth : Method) (c : Code) (Q : State → Prop) (A : Nat → Prop) (D : va_G) (cI cL cZ : ClassId) (a_this : Nat) (a_in : Nat) (a_in_words : Nat) (a_counts : Nat) (o_out : Nat) (o_codes : Nat) (o_tree : Nat) (o_writer : Nat) (o_reader : Nat) (o_streams : Nat) (i_place : Int32) (i_in_room : Int32) (i_in_used : Int32) (i_in_held : Int32) (i_in_many : Int32) (n_in_words : Nat) (v_in_words : Nat → Int64) (res : Int32 × (Nat → Int32)) (kf : Int32 → (Nat → Int32) → Option (Int32 × (Nat → Int32))) : Prop := ∀ (l1 : Int32) (v_counts : Nat → Int32), kf l1 v_counts = some res → ∀ (H : Heap) (locs : List Loc) (ls : Array Slot), lv_has ls 2 [(0, .ref a_this), (1, .int l1)] → va_P D classes [(a_this, .inr (0, [.ref a_in, .ref o_out, .ref a_counts, .ref o_codes, .ref o_tree, .ref o_writer, .ref o_reader, .ref o_streams, .int i_place])), (a_in, .inr (5, [.ref a_in_words, .int i_in_room, .int i_in_used, .int i_in_held, .int i_in_many])), (a_in_words, .inl (cL, n_in_words, .inr (.inl v_in_words))), (a_counts, .inl (cI, 256, .inl v_counts))] H → va_D A [(a_this, .inr (0, [.ref a_in, .ref o_out, .ref a_counts, .ref o_codes, .ref o_tree, .ref o_writer, .ref o_reader, .ref o_streams, .int i_place])), (a_in, .inr (5, [.ref a_in_words, .int i_in_room, .int i_in_used, .int i_in_held, .int i_in_many])), (a_in_words, .inl (cL, n_in_words, .inr (.inl v_in_words))), (a_counts, .inl (cI, 256, .inl v_counts))] → va_S A s.heap H locs → W p l e R_PM_countAll s m args below meth c H locs 0 0 Q (F0 m 13 ls [])
def I_PM_countAll_b0 (p : Program) (l : Launch) (e : Env) (s : State) (m : MethodId) (args : Array Value) (below : List Frame) (meth : Method) (c : Code) (Q : State → Prop) (A : Nat → Prop) (D : va_G) (cI cL cZ : ClassId) (a_this : Nat) (a_in : Nat) (a_in_words : Nat) (a_counts : Nat) (o_out : Nat) (o_codes : Nat) (o_tree : Nat) (o_writer : Nat) (o_reader : Nat) (o_streams : Nat) (i_place : Int32) (i_in_room : Int32) (i_in_used : Int32) (i_in_held : Int32) (i_in_many : Int32) (n_in_words : Nat) (v_in_words : Nat → Int64) (res : Int32 × (Nat → Int32)) (kf : (Nat → Int32) → Option (Int32 × (Nat → Int32))) : Prop := ∀ (v_counts : Nat → Int32), kf v_counts = some res → ∀ (H : Heap) (locs : List Loc) (ls : Array Slot), lv_has ls 2 [(0, .ref a_this)] → va_P D classes [(a_this, .inr (0, [.ref a_in, .ref o_out, .ref a_counts, .ref o_codes, .ref o_tree, .ref o_writer, .ref o_reader, .ref o_streams, .int i_place])), (a_in, .inr (5, [.ref a_in_words, .int i_in_room, .int i_in_used, .int i_in_held, .int i_in_many])), (a_in_words, .inl (cL, n_in_words, .inr (.inl v_in_words))), (a_counts, .inl (cI, 256, .inl v_counts))] H → va_D A [(a_this, .inr (0, [.ref a_in, .ref o_out, .ref a_counts, .ref o_codes, .ref o_tree, .ref o_writer, .ref o_reader, .ref o_streams, .int i_place])), (a_in, .inr (5, [.ref a_in_words, .int i_in_room, .int i_in_used, .int i_in_held, .int i_in_many])), (a_in_words, .inl (cL, n_in_words, .inr (.inl v_in_words))), (a_counts, .inl (cI, 256, .inl v_counts))] → va_S A s.heap H locs → W p l e R_PM_countAll s m args below meth c H locs 0 0 Q (F0 m 0 ls [])
set_option maxHeartbeats 4000000 in
set_option maxRecDepth 100000 in
theorem w_PM_countAll_b47 {p : Program} {l : Launch} {e : Env} {s : State} {m : MethodId} {args : Array Value} {below : List Frame} {meth : Method} {c : Code} {Q : State → Prop} {A : Nat → Prop} {D : va_G} {cI cL cZ : ClassId} {a_this : Nat} {a_in : Nat} {a_in_words : Nat} {a_counts : Nat} {o_out : Nat} {o_codes : Nat} {o_tree : Nat} {o_writer : Nat} {o_reader : Nat} {o_streams : Nat} {i_place : Int32} {i_in_room : Int32} {i_in_used : Int32} {i_in_held : Int32} {i_in_many : Int32} {n_in_words : Nat} {v_in_words : Nat → Int64} {N : Nat} {res : Int32 × (Nat → Int32)}  (C : Cx p s m args c b_PM_countAll 2 "PrefixMill" D [(cI, .int), (cL, .long), (cZ, .boolean)] A) (hret : E_PM_countAll p l e s m args below meth c Q A D cI cL cZ a_this a_in a_in_words a_counts o_out o_codes o_tree o_writer o_reader o_streams i_place i_in_room i_in_used i_in_held i_in_many n_in_words v_in_words res)  : I_PM_countAll_b47 p l e s m args below meth c Q A D cI cL cZ a_this a_in a_in_words a_counts o_out o_codes o_tree o_writer o_reader o_streams i_place i_in_room i_in_used i_in_held i_in_many n_in_words v_in_words res (f_PM_countAll_b47 N i_place i_in_used n_in_words v_in_words ) := by
  obtain ⟨hx, hb, hml, hown, hts, hK, hA⟩ := C
  intro v_counts h H locs ls hl hP hD hS
  unfold f_PM_countAll_b47 at h
  refine lv_aload_n hx hb d_PM_countAll_47 rfl (lv_at hl 0 rfl) ?_
  refine va_get hx hb hts in_PM hown hK hP 0 rfl rfl 0 (by decide) (hts _ m_340) (fun _ h9 => h9) rfl d_PM_countAll_48 ?_
  refine va_getN hx hb hts in_Row hown hK hP 1 rfl rfl 2 (by decide) (hts _ m_97) (fun _ h9 => h9) rfl d_PM_countAll_51 ?_
  refine lv_aload_n hx hb d_PM_countAll_54 rfl (lv_at hl 0 rfl) ?_
  refine va_get hx hb hts in_PM hown hK hP 0 rfl rfl 8 (by decide) (hts _ m_348) (fun _ h9 => h9) rfl d_PM_countAll_55 ?_
  refine lv_isub hx hb d_PM_countAll_58 ?_
  exact hret _ _ _ _ (i_in_used - i_place) v_counts h d_PM_countAll_59 hP hD hS
set_option maxHeartbeats 4000000 in
set_option maxRecDepth 100000 in
theorem w_PM_countAll_b13 {p : Program} {l : Launch} {e : Env} {s : State} {m : MethodId} {args : Array Value} {below : List Frame} {meth : Method} {c : Code} {Q : State → Prop} {A : Nat → Prop} {D : va_G} {cI cL cZ : ClassId} {a_this : Nat} {a_in : Nat} {a_in_words : Nat} {a_counts : Nat} {o_out : Nat} {o_codes : Nat} {o_tree : Nat} {o_writer : Nat} {o_reader : Nat} {o_streams : Nat} {i_place : Int32} {i_in_room : Int32} {i_in_used : Int32} {i_in_held : Int32} {i_in_many : Int32} {n_in_words : Nat} {v_in_words : Nat → Int64} {N : Nat} {res : Int32 × (Nat → Int32)}  (C : Cx p s m args c b_PM_countAll 2 "PrefixMill" D [(cI, .int), (cL, .long), (cZ, .boolean)] A) (hret : E_PM_countAll p l e s m args below meth c Q A D cI cL cZ a_this a_in a_in_words a_counts o_out o_codes o_tree o_writer o_reader o_streams i_place i_in_room i_in_used i_in_held i_in_many n_in_words v_in_words res)  : ∀ z : Nat, I_PM_countAll_b13 p l e s m args below meth c Q A D cI cL cZ a_this a_in a_in_words a_counts o_out o_codes o_tree o_writer o_reader o_streams i_place i_in_room i_in_used i_in_held i_in_many n_in_words v_in_words res (f_PM_countAll_b13 N i_place i_in_used n_in_words v_in_words  z) := by
  obtain ⟨hx, hb, hml, hown, hts, hK, hA⟩ := C
  intro z
  induction z with
  | zero => intro l1 v_counts h; cases h
  | succ z ih =>
    intro l1 v_counts h H locs ls hl hP hD hS
    refine lv_iload_n hx hb d_PM_countAll_13 rfl (lv_at hl 1 rfl) ?_
    refine lv_aload_n hx hb d_PM_countAll_14 rfl (lv_at hl 0 rfl) ?_
    refine va_get hx hb hts in_PM hown hK hP 0 rfl rfl 0 (by decide) (hts _ m_340) (fun _ h9 => h9) rfl d_PM_countAll_15 ?_
    refine va_getN hx hb hts in_Row hown hK hP 1 rfl rfl 2 (by decide) (hts _ m_97) (fun _ h9 => h9) rfl d_PM_countAll_18 ?_
    refine lv_icmp_ge (tgt := 47) hx hb d_PM_countAll_21 (by decide) (fun c_1 => ?_) (fun c_1 => ?_)
    · replace h := if_t h c_1
      exact w_PM_countAll_b47 ⟨hx, hb, hml, hown, hts, hK, hA⟩ hret  _ h H locs ls (lv_sub hl [0] rfl) hP hD hS
    · replace h := if_f h c_1
      refine lv_aload_n hx hb d_PM_countAll_24 rfl (lv_at hl 0 rfl) ?_
      refine va_get hx hb hts in_PM hown hK hP 0 rfl rfl 2 (by decide) (hts _ m_342) (fun _ h9 => h9) rfl d_PM_countAll_25 ?_
      refine lv_aload_n hx hb d_PM_countAll_28 rfl (lv_at hl 0 rfl) ?_
      refine va_get hx hb hts in_PM hown hK hP 0 rfl rfl 0 (by decide) (hts _ m_340) (fun _ h9 => h9) rfl d_PM_countAll_29 ?_
      refine lv_iload_n hx hb d_PM_countAll_32 rfl (lv_at hl 1 rfl) ?_
      obtain ⟨r_2, hc_3, h⟩ := bd1_s h
      have hPc := hP.sub (ws' := [(a_in, .inr (5, [.ref a_in_words, .int i_in_room, .int i_in_used, .int i_in_held, .int i_in_many])), (a_in_words, .inl (cL, n_in_words, .inr (.inl v_in_words)))]) [1, 2] rfl
      have hDc := hD.sub (ws' := [(a_in, .inr (5, [.ref a_in_words, .int i_in_room, .int i_in_used, .int i_in_held, .int i_in_many])), (a_in_words, .inl (cL, n_in_words, .inr (.inl v_in_words)))]) [1, 2] (by decide) rfl
      have hFc := va_free (wc := [(a_in, .inr (5, [.ref a_in_words, .int i_in_room, .int i_in_used, .int i_in_held, .int i_in_many])), (a_in_words, .inl (cL, n_in_words, .inr (.inl v_in_words)))]) hD hS hA [1, 2] rfl
      refine va_calli (va_runV (As := [.int l1]) (rest := [.ref a_counts]) ⟨hx, hb, hml, hown, hts⟩ (c_Row_get l D cI cL cZ H.size N a_in a_in_words i_in_room i_in_used i_in_held i_in_many n_in_words v_in_words l1 r_2 hc_3) ⟨(my_cb 1 hts m_385 rfl rfl (hts _ m_67) (hts _ m_382) (by decide +kernel) ⟨Nat.le_of_ble_eq_true rfl, Nat.le_of_ble_eq_true rfl⟩), hts _ m_383, hts _ m_384⟩ ⟨fun a U g mk q => by obtain ⟨q0, q1, qP, qK, qD⟩ := q; exact ⟨q0, q1, qP, va_K.moved (u := U) (U := U.calling g mk a) (Vm.Alike.refl U.vm) qK, qD⟩, va_recv hK hPc (ci := 5) (q0 := 0) rfl rfl, fun U hU hW => ⟨rfl, by rw [hU], by rw [hU]; exact hPc, va_K.moved hW.alike hK, hDc.weaken (fun _ _ _ _ => trivial)⟩⟩ rfl rfl hl.1 rfl (lv_room (Nat.le_of_ble_eq_true rfl)) d_PM_countAll_33 ⟨Nat.zero_le _, Nat.zero_le _⟩) hS (fun q _ h => hFc q h) hFc (fun rr u t H1 locs ht hvm hw hB hz1 hk1 hS => ?_)
      obtain ⟨hP1, hK1, hD1⟩ := hB
      rw [ht] at hP1
      subst hw
      obtain ⟨hP, hD⟩ := va_join (wr := [(a_this, .inr (0, [.ref a_in, .ref o_out, .ref a_counts, .ref o_codes, .ref o_tree, .ref o_writer, .ref o_reader, .ref o_streams, .int i_place])), (a_counts, .inl (cI, 256, .inl v_counts))]) (w1 := [(a_in, .inr (5, [.ref a_in_words, .int i_in_room, .int i_in_used, .int i_in_held, .int i_in_many])), (a_in_words, .inl (cL, n_in_words, .inr (.inl v_in_words)))]) hP hD [1, 2] [0, 3] rfl rfl (by decide) (by decide) hk1 hFc hP1 hD1
      clear hPc hDc hFc hk1 hP1 hD1 hK1
      generalize H1 = H at hP hS ⊢
      have hP : va_P D classes [(a_this, .inr (0, [.ref a_in, .ref o_out, .ref a_counts, .ref o_codes, .ref o_tree, .ref o_writer, .ref o_reader, .ref o_streams, .int i_place])), (a_in, .inr (5, [.ref a_in_words, .int i_in_room, .int i_in_used, .int i_in_held, .int i_in_many])), (a_in_words, .inl (cL, n_in_words, .inr (.inl v_in_words))), (a_counts, .inl (cI, 256, .inl v_counts))] H := hP.sub [0, 2, 3, 1] rfl
      have hD : va_D A [(a_this, .inr (0, [.ref a_in, .ref o_out, .ref a_counts, .ref o_codes, .ref o_tree, .ref o_writer, .ref o_reader, .ref o_streams, .int i_place])), (a_in, .inr (5, [.ref a_in_words, .int i_in_room, .int i_in_used, .int i_in_held, .int i_in_many])), (a_in_words, .inl (cL, n_in_words, .inr (.inl v_in_words))), (a_counts, .inl (cI, 256, .inl v_counts))] := hD.sub [0, 2, 3, 1] (by decide) rfl
      refine lv_dup2_11 hx hb d_PM_countAll_36 rfl rfl ?_
      obtain ⟨g_4, h⟩ := ck_s h
      refine va_iald hx hb hK hP 3 0 rfl rfl (inb_s g_4) d_PM_countAll_37 ?_
      refine lv_iconst (v := 1) hx hb d_PM_countAll_38 (by decide) ?_
      refine lv_iadd hx hb d_PM_countAll_39 ?_
      obtain ⟨g_5, h⟩ := ck_s h
      refine va_iast hx hb hK hP hD hS 3 0 rfl rfl (inb_s g_5) d_PM_countAll_40 (fun H locs hP hD hS => ?_)
      obtain ⟨v_counts_6, ev_counts_6⟩ : ∃ y, y = (upd v_counts (Int32.toNatClampNeg r_2) ((v_counts (Int32.toNatClampNeg r_2)) + 1)) := ⟨_, rfl⟩
      replace h := nm_s h ev_counts_6
      have hP : va_P D classes [(a_this, .inr (0, [.ref a_in, .ref o_out, .ref a_counts, .ref o_codes, .ref o_tree, .ref o_writer, .ref o_reader, .ref o_streams, .int i_place])), (a_in, .inr (5, [.ref a_in_words, .int i_in_room, .int i_in_used, .int i_in_held, .int i_in_many])), (a_in_words, .inl (cL, n_in_words, .inr (.inl v_in_words))), (a_counts, .inl (cI, 256, .inl v_counts_6))] H := by rw [ev_counts_6]; exact hP
      have hD : va_D A [(a_this, .inr (0, [.ref a_in, .ref o_out, .ref a_counts, .ref o_codes, .ref o_tree, .ref o_writer, .ref o_reader, .ref o_streams, .int i_place])), (a_in, .inr (5, [.ref a_in_words, .int i_in_room, .int i_in_used, .int i_in_held, .int i_in_many])), (a_in_words, .inl (cL, n_in_words, .inr (.inl v_in_words))), (a_counts, .inl (cI, 256, .inl v_counts_6))] := by rw [ev_counts_6]; exact hD
      obtain ⟨l1_7, el1_7⟩ : ∃ y : Int32, y = l1 + 1 := ⟨_, rfl⟩
      replace h := nm_s h el1_7
      refine lv_iinc (v := l1_7) (lv' := [(1, .int l1_7), (0, .ref a_this)]) hx hb d_PM_countAll_41 hl (k := 1) rfl (by rw [el1_7]; rfl) (by decide) rfl (fun ls hl => ?_)
      refine lv_goto (tgt := 13) hx hb d_PM_countAll_44 (by decide) ?_
      exact ih _ _ h H locs ls (lv_sub hl [1, 0] rfl) hP hD hS
set_option maxHeartbeats 4000000 in
set_option maxRecDepth 100000 in
theorem w_PM_countAll_b0 {p : Program} {l : Launch} {e : Env} {s : State} {m : MethodId} {args : Array Value} {below : List Frame} {meth : Method} {c : Code} {Q : State → Prop} {A : Nat → Prop} {D : va_G} {cI cL cZ : ClassId} {a_this : Nat} {a_in : Nat} {a_in_words : Nat} {a_counts : Nat} {o_out : Nat} {o_codes : Nat} {o_tree : Nat} {o_writer : Nat} {o_reader : Nat} {o_streams : Nat} {i_place : Int32} {i_in_room : Int32} {i_in_used : Int32} {i_in_held : Int32} {i_in_many : Int32} {n_in_words : Nat} {v_in_words : Nat → Int64} {N : Nat} {res : Int32 × (Nat → Int32)}  (C : Cx p s m args c b_PM_countAll 2 "PrefixMill" D [(cI, .int), (cL, .long), (cZ, .boolean)] A) (hret : E_PM_countAll p l e s m args below meth c Q A D cI cL cZ a_this a_in a_in_words a_counts o_out o_codes o_tree o_writer o_reader o_streams i_place i_in_room i_in_used i_in_held i_in_many n_in_words v_in_words res)  : I_PM_countAll_b0 p l e s m args below meth c Q A D cI cL cZ a_this a_in a_in_words a_counts o_out o_codes o_tree o_writer o_reader o_streams i_place i_in_room i_in_used i_in_held i_in_many n_in_words v_in_words res (f_PM_countAll N i_place i_in_used n_in_words v_in_words ) := by
  obtain ⟨hx, hb, hml, hown, hts, hK, hA⟩ := C
  intro v_counts h H locs ls hl hP hD hS
  unfold f_PM_countAll at h
  refine lv_aload_n hx hb d_PM_countAll_0 rfl (lv_at hl 0 rfl) ?_
  refine va_get hx hb hts in_PM hown hK hP 0 rfl rfl 2 (by decide) (hts _ m_342) (fun _ h9 => h9) rfl d_PM_countAll_1 ?_
  refine lv_iconst (v := 0) hx hb d_PM_countAll_4 (by decide) ?_
  obtain ⟨v_counts_1, hc_2, h⟩ := bd1_s h
  have hPc := hP.sub (ws' := [(a_counts, .inl (cI, 256, .inl v_counts))]) [3] rfl
  have hDc := hD.sub (ws' := [(a_counts, .inl (cI, 256, .inl v_counts))]) [3] (by decide) rfl
  have hFc := va_free (wc := [(a_counts, .inl (cI, 256, .inl v_counts))]) hD hS hA [3] rfl
  refine va_callv (va_runS (As := [.ref a_counts, .int 0]) (rest := []) ⟨hx, hb, hml, hown, hts⟩ (c_JArr_fill l D cI cL cZ H.size N a_counts 256 v_counts 0 v_counts_1 hc_2) ⟨(my_cb 2 hts m_410 rfl rfl (hts _ m_79) (hts _ m_408) (by decide +kernel) ⟨Nat.le_of_ble_eq_true rfl, Nat.le_of_ble_eq_true rfl⟩), hts _ m_409⟩ ⟨fun a U g mk q => by obtain ⟨q0, q1, qP, qK, qD⟩ := q; exact ⟨q0, q1, qP, va_K.moved (u := U) (U := U.calling g mk a) (Vm.Alike.refl U.vm) qK, qD⟩, fun U hU hW => ⟨rfl, by rw [hU], by rw [hU]; exact hPc, va_K.moved hW.alike hK, hDc.weaken (fun _ _ _ _ => trivial)⟩⟩ rfl rfl hl.1 rfl (lv_room (Nat.le_of_ble_eq_true rfl)) d_PM_countAll_5 ⟨Nat.zero_le _, Nat.zero_le _⟩) hS (fun q _ h => hFc q h) hFc (fun u t H1 locs ht hvm hw hB hz1 hk1 hS => ?_)
  obtain ⟨hP1, hK1, hD1⟩ := hB
  rw [ht] at hP1
  obtain ⟨hP, hD⟩ := va_join (wr := [(a_this, .inr (0, [.ref a_in, .ref o_out, .ref a_counts, .ref o_codes, .ref o_tree, .ref o_writer, .ref o_reader, .ref o_streams, .int i_place])), (a_in, .inr (5, [.ref a_in_words, .int i_in_room, .int i_in_used, .int i_in_held, .int i_in_many])), (a_in_words, .inl (cL, n_in_words, .inr (.inl v_in_words)))]) (w1 := [(a_counts, .inl (cI, 256, .inl v_counts_1))]) hP hD [3] [0, 1, 2] rfl rfl (by decide) (by decide) hk1 hFc hP1 hD1
  clear hPc hDc hFc hk1 hP1 hD1 hK1
  generalize H1 = H at hP hS ⊢
  have hP : va_P D classes [(a_this, .inr (0, [.ref a_in, .ref o_out, .ref a_counts, .ref o_codes, .ref o_tree, .ref o_writer, .ref o_reader, .ref o_streams, .int i_place])), (a_in, .inr (5, [.ref a_in_words, .int i_in_room, .int i_in_used, .int i_in_held, .int i_in_many])), (a_in_words, .inl (cL, n_in_words, .inr (.inl v_in_words))), (a_counts, .inl (cI, 256, .inl v_counts_1))] H := hP.sub [0, 1, 2, 3] rfl
  have hD : va_D A [(a_this, .inr (0, [.ref a_in, .ref o_out, .ref a_counts, .ref o_codes, .ref o_tree, .ref o_writer, .ref o_reader, .ref o_streams, .int i_place])), (a_in, .inr (5, [.ref a_in_words, .int i_in_room, .int i_in_used, .int i_in_held, .int i_in_many])), (a_in_words, .inl (cL, n_in_words, .inr (.inl v_in_words))), (a_counts, .inl (cI, 256, .inl v_counts_1))] := hD.sub [0, 1, 2, 3] (by decide) rfl
  refine lv_aload_n hx hb d_PM_countAll_8 rfl (lv_at hl 0 rfl) ?_
  refine va_get hx hb hts in_PM hown hK hP 0 rfl rfl 8 (by decide) (hts _ m_348) (fun _ h9 => h9) rfl d_PM_countAll_9 ?_
  refine lv_istore_n (lv' := [(1, .int i_place), (0, .ref a_this)]) hx hb d_PM_countAll_12 rfl hl (by decide) rfl (fun ls hl => ?_)
  exact w_PM_countAll_b13 ⟨hx, hb, hml, hown, hts, hK, hA⟩ hret  N _ _ h H locs ls (lv_sub hl [1, 0] rfl) hP hD hS
set_option maxHeartbeats 4000000 in
set_option maxRecDepth 100000 in
theorem c_PM_countAll (l : Launch) (D : va_G) (cI cL cZ : ClassId) (sz N : Nat) (a_this : Nat) (a_in : Nat) (a_in_words : Nat) (a_counts : Nat) (o_out : Nat) (o_codes : Nat) (o_tree : Nat) (o_writer : Nat) (o_reader : Nat) (o_streams : Nat) (i_place : Int32) (i_in_room : Int32) (i_in_used : Int32) (i_in_held : Int32) (i_in_many : Int32) (n_in_words : Nat) (v_in_words : Nat → Int64) (v_counts : Nat → Int32) (rv : Int32) (v_counts' : Nat → Int32) (h : f_PM_countAll N i_place i_in_used n_in_words v_in_words v_counts = some (rv, v_counts')) : Met l ({ cls := "PrefixMill", name := "countAll", desc := "()I" } : Jvm.MethodName) ws_PM_countAll R_PM_countAll (va_Pc [.ref a_this] (fun U => U.heap.size = sz ∧ va_P D classes [(a_this, .inr (0, [.ref a_in, .ref o_out, .ref a_counts, .ref o_codes, .ref o_tree, .ref o_writer, .ref o_reader, .ref o_streams, .int i_place])), (a_in, .inr (5, [.ref a_in_words, .int i_in_room, .int i_in_used, .int i_in_held, .int i_in_many])), (a_in_words, .inl (cL, n_in_words, .inr (.inl v_in_words))), (a_counts, .inl (cI, 256, .inl v_counts))] U.heap ∧ va_K D classes [(cI, .int), (cL, .long), (cZ, .boolean)] U ∧ va_D (fun _ => True) [(a_this, .inr (0, [.ref a_in, .ref o_out, .ref a_counts, .ref o_codes, .ref o_tree, .ref o_writer, .ref o_reader, .ref o_streams, .int i_place])), (a_in, .inr (5, [.ref a_in_words, .int i_in_room, .int i_in_used, .int i_in_held, .int i_in_many])), (a_in_words, .inl (cL, n_in_words, .inr (.inl v_in_words))), (a_counts, .inl (cI, 256, .inl v_counts))])) (va_Qi (fun (r0 : Int32) (_ : Unit) => rv = r0) (fun _ t => va_P D classes [(a_this, .inr (0, [.ref a_in, .ref o_out, .ref a_counts, .ref o_codes, .ref o_tree, .ref o_writer, .ref o_reader, .ref o_streams, .int i_place])), (a_in, .inr (5, [.ref a_in_words, .int i_in_room, .int i_in_used, .int i_in_held, .int i_in_many])), (a_in_words, .inl (cL, n_in_words, .inr (.inl v_in_words))), (a_counts, .inl (cI, 256, .inl v_counts'))] t.heap ∧ va_K D classes [(cI, .int), (cL, .long), (cZ, .boolean)] t ∧ va_D (va_A [(a_this, .inr (0, [.ref a_in, .ref o_out, .ref a_counts, .ref o_codes, .ref o_tree, .ref o_writer, .ref o_reader, .ref o_streams, .int i_place])), (a_in, .inr (5, [.ref a_in_words, .int i_in_room, .int i_in_used, .int i_in_held, .int i_in_many])), (a_in_words, .inl (cL, n_in_words, .inr (.inl v_in_words))), (a_counts, .inl (cI, 256, .inl v_counts))] sz) [(a_this, .inr (0, [.ref a_in, .ref o_out, .ref a_counts, .ref o_codes, .ref o_tree, .ref o_writer, .ref o_reader, .ref o_streams, .int i_place])), (a_in, .inr (5, [.ref a_in_words, .int i_in_room, .int i_in_used, .int i_in_held, .int i_in_many])), (a_in_words, .inl (cL, n_in_words, .inr (.inl v_in_words))), (a_counts, .inl (cI, 256, .inl v_counts'))]) (va_A [(a_this, .inr (0, [.ref a_in, .ref o_out, .ref a_counts, .ref o_codes, .ref o_tree, .ref o_writer, .ref o_reader, .ref o_streams, .int i_place])), (a_in, .inr (5, [.ref a_in_words, .int i_in_room, .int i_in_used, .int i_in_held, .int i_in_many])), (a_in_words, .inl (cL, n_in_words, .inr (.inl v_in_words))), (a_counts, .inl (cI, 256, .inl v_counts))] sz)) 0 0 (va_A [(a_this, .inr (0, [.ref a_in, .ref o_out, .ref a_counts, .ref o_codes, .ref o_tree, .ref o_writer, .ref o_reader, .ref o_streams, .int i_place])), (a_in, .inr (5, [.ref a_in_words, .int i_in_room, .int i_in_used, .int i_in_held, .int i_in_many])), (a_in_words, .inl (cL, n_in_words, .inr (.inl v_in_words))), (a_counts, .inl (cI, 256, .inl v_counts))] sz) := by
  refine Met.ofW (cc := b_PM_countAll) (maxL := 2) (ret := (some .int)) (by decide) rfl ?_
  intro p e s m args below meth c s₁ B hml hv
  obtain ⟨rfl, hsz, hP, hK, hD0⟩ := hv
  have hx := B.exec
  have hb := B.bytes
  have hr := B.returns
  have hts0 := atoms_spec (ws := ws_PM_countAll) B.pre
  have hts := gd_tl hts0
  clear hts0
  have hown : s.vm.findClass "PrefixMill" = some m.cls := findClass_of_methodNamed B.named
  have hlocks := B.notSynchronized
  subst hsz
  have hD := hD0.self (sz := s.heap.size)
  generalize hAe : va_A [(a_this, .inr (0, [.ref a_in, .ref o_out, .ref a_counts, .ref o_codes, .ref o_tree, .ref o_writer, .ref o_reader, .ref o_streams, .int i_place])), (a_in, .inr (5, [.ref a_in_words, .int i_in_room, .int i_in_used, .int i_in_held, .int i_in_many])), (a_in_words, .inl (cL, n_in_words, .inr (.inl v_in_words))), (a_counts, .inl (cI, 256, .inl v_counts))] s.heap.size = A at hD ⊢
  have hA : ∀ q : Nat, s.heap.size ≤ q → A q := fun q h => by rw [← hAe]; exact Or.inr h
  have hS : va_S A s.heap s.heap [] := va_S.rf
  have hP : va_P D classes [(a_this, .inr (0, [.ref a_in, .ref o_out, .ref a_counts, .ref o_codes, .ref o_tree, .ref o_writer, .ref o_reader, .ref o_streams, .int i_place])), (a_in, .inr (5, [.ref a_in_words, .int i_in_room, .int i_in_used, .int i_in_held, .int i_in_many])), (a_in_words, .inl (cL, n_in_words, .inr (.inl v_in_words))), (a_counts, .inl (cI, 256, .inl v_counts))] s.heap := hP
  have hl := lv_entry ([.ref a_this]) (n := 2) (Nat.le_of_ble_eq_true rfl)
  rw [lg_entry_eq]
  generalize (lg_sl ([.ref a_this]) ++ List.replicate (2 - (lg_sl ([.ref a_this])).length) Slot.unset).toArray = ls at hl ⊢
  have hl : lv_has ls 2 [(0, .ref a_this)] := hl
  have C : Cx p s m ([.ref a_this] : List Value).toArray c b_PM_countAll 2 "PrefixMill" D [(cI, .int), (cL, .long), (cZ, .boolean)] A := ⟨hx, hb, hml, hown, hts, hK, hA⟩
  refine w_PM_countAll_b0 (res := (rv, v_counts')) C ?_ _ h s.heap [] ls hl hP hD hS
  intro pc9 H9 locs9 ls9 rv9 v_counts9 e9 d9 hP9 hD9 hS9
  cases e9
  exact W.iret (v := rv) hx hb hr (fun t ht hW => ⟨⟨rv, (), rfl, rfl, by rw [ht]; exact hP9, va_K.moved hW.alike hK, hD9⟩, hS9.F ht⟩) hS9.2.2 d9
