abbrev b_Row_copy : ByteArray := prog_5_method_6_code
def ws_Row_copy : List Cond := .code ({ cls := "PrefixMill$Row", name := "copy", desc := "(LPrefixMill$Row;)V" } : Jvm.MethodName) b_Row_copy 3 none :: tt
theorem d_Row_copy_0 : decode b_Row_copy 0 = .ok (.aload_n 0, 1) := by decide +kernel
theorem d_Row_copy_1 : decode b_Row_copy 1 = .ok (.getfield 13, 3) := by decide +kernel
theorem d_Row_copy_4 : decode b_Row_copy 4 = .ok (.arraylength, 1) := by decide +kernel
theorem d_Row_copy_5 : decode b_Row_copy 5 = .ok (.aload_n 1, 1) := by decide +kernel
theorem d_Row_copy_6 : decode b_Row_copy 6 = .ok (.getfield 13, 3) := by decide +kernel
theorem d_Row_copy_9 : decode b_Row_copy 9 = .ok (.arraylength, 1) := by decide +kernel
theorem d_Row_copy_10 : decode b_Row_copy 10 = .ok (.invokestatic 34, 3) := by decide +kernel
theorem d_Row_copy_13 : decode b_Row_copy 13 = .ok (.istore_n 2, 1) := by decide +kernel
theorem d_Row_copy_14 : decode b_Row_copy 14 = .ok (.aload_n 1, 1) := by decide +kernel
theorem d_Row_copy_15 : decode b_Row_copy 15 = .ok (.getfield 13, 3) := by decide +kernel
theorem d_Row_copy_18 : decode b_Row_copy 18 = .ok (.iconst 0, 1) := by decide +kernel
theorem d_Row_copy_19 : decode b_Row_copy 19 = .ok (.aload_n 0, 1) := by decide +kernel
theorem d_Row_copy_20 : decode b_Row_copy 20 = .ok (.getfield 13, 3) := by decide +kernel
theorem d_Row_copy_23 : decode b_Row_copy 23 = .ok (.iconst 0, 1) := by decide +kernel
theorem d_Row_copy_24 : decode b_Row_copy 24 = .ok (.iload_n 2, 1) := by decide +kernel
theorem d_Row_copy_25 : decode b_Row_copy 25 = .ok (.invokestatic 37, 3) := by decide +kernel
theorem d_Row_copy_28 : decode b_Row_copy 28 = .ok (.aload_n 0, 1) := by decide +kernel
theorem d_Row_copy_29 : decode b_Row_copy 29 = .ok (.aload_n 1, 1) := by decide +kernel
theorem d_Row_copy_30 : decode b_Row_copy 30 = .ok (.getfield 17, 3) := by decide +kernel
theorem d_Row_copy_33 : decode b_Row_copy 33 = .ok (.aload_n 0, 1) := by decide +kernel
theorem d_Row_copy_34 : decode b_Row_copy 34 = .ok (.getfield 7, 3) := by decide +kernel
theorem d_Row_copy_37 : decode b_Row_copy 37 = .ok (.invokestatic 34, 3) := by decide +kernel
theorem d_Row_copy_40 : decode b_Row_copy 40 = .ok (.putfield 17, 3) := by decide +kernel
theorem d_Row_copy_43 : decode b_Row_copy 43 = .ok (.return_, 1) := by decide +kernel
def f_Row_copy (N : Nat) (i_room : Int32) (n_words : Nat) (i_p1_used : Int32) (n_p1_words : Nat) (v_p1_words : Nat → Int64)  (i_used : Int32) (v_words : Nat → Int64) : Option (Int32 × (Nat → Int64)) :=
  bd1 (f_JMath_min N (Int32.ofNat n_words) (Int32.ofNat n_p1_words)) fun r_1 =>
  ck (cpb 0 0 r_1 n_p1_words n_words) <|
  nm (va_cpy v_p1_words v_words (Int32.toNatClampNeg 0) (Int32.toNatClampNeg 0) (Int32.toNatClampNeg r_1)) fun v_words_4 =>
  bd1 (f_JMath_min N i_p1_used i_room) fun r_5 =>
  some (r_5, v_words_4)
abbrev R_Row_copy : Room := ({ frames := 1, cells := 0, slots := 0, locals := 60 } : Room)
def E_Row_copy (p : Program) (l : Launch) (e : Env) (s : State) (m : MethodId) (args : Array Value) (below : List Frame) (meth : Method) (c : Code) (Q : State → Prop) (A : Nat → Prop) (D : va_G) (cI cL cZ : ClassId) (a_this : Nat) (a_words : Nat) (a_p1 : Nat) (a_p1_words : Nat) (i_room : Int32) (i_held : Int32) (i_many : Int32) (n_words : Nat) (i_p1_room : Int32) (i_p1_used : Int32) (i_p1_held : Int32) (i_p1_many : Int32) (n_p1_words : Nat) (v_p1_words : Nat → Int64) (res : Int32 × (Nat → Int64)) : Prop := ∀ (pc : Nat) (H : Heap) (locs : List Loc) (ls : Array Slot) (i_used : Int32) (v_words : Nat → Int64), some (i_used, v_words) = some res → decode b_Row_copy pc = .ok (.return_, 1) → va_P D classes [(a_this, .inr (5, [.ref a_words, .int i_room, .int i_used, .int i_held, .int i_many])), (a_words, .inl (cL, n_words, .inr (.inl v_words))), (a_p1, .inr (5, [.ref a_p1_words, .int i_p1_room, .int i_p1_used, .int i_p1_held, .int i_p1_many])), (a_p1_words, .inl (cL, n_p1_words, .inr (.inl v_p1_words)))] H → va_D A [(a_this, .inr (5, [.ref a_words, .int i_room, .int i_used, .int i_held, .int i_many])), (a_words, .inl (cL, n_words, .inr (.inl v_words))), (a_p1, .inr (5, [.ref a_p1_words, .int i_p1_room, .int i_p1_used, .int i_p1_held, .int i_p1_many])), (a_p1_words, .inl (cL, n_p1_words, .inr (.inl v_p1_words)))] → va_S A s.heap H locs → W p l e R_Row_copy s m args below meth c H locs 0 0 Q (F0 m pc ls [])
def I_Row_copy_b0 (p : Program) (l : Launch) (e : Env) (s : State) (m : MethodId) (args : Array Value) (below : List Frame) (meth : Method) (c : Code) (Q : State → Prop) (A : Nat → Prop) (D : va_G) (cI cL cZ : ClassId) (a_this : Nat) (a_words : Nat) (a_p1 : Nat) (a_p1_words : Nat) (i_room : Int32) (i_held : Int32) (i_many : Int32) (n_words : Nat) (i_p1_room : Int32) (i_p1_used : Int32) (i_p1_held : Int32) (i_p1_many : Int32) (n_p1_words : Nat) (v_p1_words : Nat → Int64) (res : Int32 × (Nat → Int64)) (kf : Int32 → (Nat → Int64) → Option (Int32 × (Nat → Int64))) : Prop := ∀ (i_used : Int32) (v_words : Nat → Int64), kf i_used v_words = some res → ∀ (H : Heap) (locs : List Loc) (ls : Array Slot), lv_has ls 3 [(0, .ref a_this), (1, .ref a_p1)] → va_P D classes [(a_this, .inr (5, [.ref a_words, .int i_room, .int i_used, .int i_held, .int i_many])), (a_words, .inl (cL, n_words, .inr (.inl v_words))), (a_p1, .inr (5, [.ref a_p1_words, .int i_p1_room, .int i_p1_used, .int i_p1_held, .int i_p1_many])), (a_p1_words, .inl (cL, n_p1_words, .inr (.inl v_p1_words)))] H → va_D A [(a_this, .inr (5, [.ref a_words, .int i_room, .int i_used, .int i_held, .int i_many])), (a_words, .inl (cL, n_words, .inr (.inl v_words))), (a_p1, .inr (5, [.ref a_p1_words, .int i_p1_room, .int i_p1_used, .int i_p1_held, .int i_p1_many])), (a_p1_words, .inl (cL, n_p1_words, .inr (.inl v_p1_words)))] → va_S A s.heap H locs → W p l e R_Row_copy s m args below meth c H locs 0 0 Q (F0 m 0 ls [])
set_option maxHeartbeats 4000000 in
set_option maxRecDepth 100000 in
theorem w_Row_copy_b0 {p : Program} {l : Launch} {e : Env} {s : State} {m : MethodId} {args : Array Value} {below : List Frame} {meth : Method} {c : Code} {Q : State → Prop} {A : Nat → Prop} {D : va_G} {cI cL cZ : ClassId} {a_this : Nat} {a_words : Nat} {a_p1 : Nat} {a_p1_words : Nat} {i_room : Int32} {i_held : Int32} {i_many : Int32} {n_words : Nat} {i_p1_room : Int32} {i_p1_used : Int32} {i_p1_held : Int32} {i_p1_many : Int32} {n_p1_words : Nat} {v_p1_words : Nat → Int64} {N : Nat} {res : Int32 × (Nat → Int64)}  (C : Cx p s m args c b_Row_copy 3 "PrefixMill$Row" D [(cI, .int), (cL, .long), (cZ, .boolean)] A) (hret : E_Row_copy p l e s m args below meth c Q A D cI cL cZ a_this a_words a_p1 a_p1_words i_room i_held i_many n_words i_p1_room i_p1_used i_p1_held i_p1_many n_p1_words v_p1_words res)  : I_Row_copy_b0 p l e s m args below meth c Q A D cI cL cZ a_this a_words a_p1 a_p1_words i_room i_held i_many n_words i_p1_room i_p1_used i_p1_held i_p1_many n_p1_words v_p1_words res (f_Row_copy N i_room n_words i_p1_used n_p1_words v_p1_words ) := by
  obtain ⟨hx, hb, hml, hown, hts, hK, hA⟩ := C
  intro i_used v_words h H locs ls hl hP hD hS
  unfold f_Row_copy at h
  refine lv_aload_n hx hb d_Row_copy_0 rfl (lv_at hl 0 rfl) ?_
  refine va_get hx hb hts in_Row hown hK hP 0 rfl rfl 0 (by decide) (hts _ m_94) (fun _ h9 => h9) rfl d_Row_copy_1 ?_
  refine va_alen hx hb hK hP 1 1 rfl rfl rfl d_Row_copy_4 ?_
  refine lv_aload_n hx hb d_Row_copy_5 rfl (lv_at hl 1 rfl) ?_
  refine va_get hx hb hts in_Row hown hK hP 2 rfl rfl 0 (by decide) (hts _ m_94) (fun _ h9 => h9) rfl d_Row_copy_6 ?_
  refine va_alen hx hb hK hP 3 1 rfl rfl rfl d_Row_copy_9 ?_
  obtain ⟨r_1, hc_2, h⟩ := bd1_s h
  have hPc := hP.sub (ws' := []) [] rfl
  have hDc := hD.sub (ws' := []) [] (by decide) rfl
  have hFc := va_free (wc := []) hD hS hA [] rfl
  refine va_calli (va_runS (As := [.int (Int32.ofNat n_words), .int (Int32.ofNat n_p1_words)]) (rest := []) ⟨hx, hb, hml, hown, hts⟩ (c_JMath_min l D cI cL cZ H.size N (Int32.ofNat n_words) (Int32.ofNat n_p1_words) r_1 hc_2) ⟨(my_cb 2 hts m_396 rfl rfl (hts _ m_77) (hts _ m_394) (by decide +kernel) ⟨Nat.le_of_ble_eq_true rfl, Nat.le_of_ble_eq_true rfl⟩), hts _ m_395⟩ ⟨fun a U g mk q => by obtain ⟨q0, q1, qP, qK, qD⟩ := q; exact ⟨q0, q1, qP, va_K.moved (u := U) (U := U.calling g mk a) (Vm.Alike.refl U.vm) qK, qD⟩, fun U hU hW => ⟨rfl, by rw [hU], by rw [hU]; exact hPc, va_K.moved hW.alike hK, hDc.weaken (fun _ _ _ _ => trivial)⟩⟩ rfl rfl hl.1 rfl (lv_room (Nat.le_of_ble_eq_true rfl)) d_Row_copy_10 ⟨Nat.zero_le _, Nat.zero_le _⟩) hS (fun q _ h => hFc q h) hFc (fun rr u t H1 locs ht hvm hw hB hz1 hk1 hS => ?_)
  obtain ⟨hP1, hK1, hD1⟩ := hB
  rw [ht] at hP1
  subst hw
  obtain ⟨hP, hD⟩ := va_join (wr := [(a_this, .inr (5, [.ref a_words, .int i_room, .int i_used, .int i_held, .int i_many])), (a_words, .inl (cL, n_words, .inr (.inl v_words))), (a_p1, .inr (5, [.ref a_p1_words, .int i_p1_room, .int i_p1_used, .int i_p1_held, .int i_p1_many])), (a_p1_words, .inl (cL, n_p1_words, .inr (.inl v_p1_words)))]) (w1 := []) hP hD [] [0, 1, 2, 3] rfl rfl (by decide) (by decide) hk1 hFc hP1 hD1
  clear hPc hDc hFc hk1 hP1 hD1 hK1
  generalize H1 = H at hP hS ⊢
  have hP : va_P D classes [(a_this, .inr (5, [.ref a_words, .int i_room, .int i_used, .int i_held, .int i_many])), (a_words, .inl (cL, n_words, .inr (.inl v_words))), (a_p1, .inr (5, [.ref a_p1_words, .int i_p1_room, .int i_p1_used, .int i_p1_held, .int i_p1_many])), (a_p1_words, .inl (cL, n_p1_words, .inr (.inl v_p1_words)))] H := hP.sub [0, 1, 2, 3] rfl
  have hD : va_D A [(a_this, .inr (5, [.ref a_words, .int i_room, .int i_used, .int i_held, .int i_many])), (a_words, .inl (cL, n_words, .inr (.inl v_words))), (a_p1, .inr (5, [.ref a_p1_words, .int i_p1_room, .int i_p1_used, .int i_p1_held, .int i_p1_many])), (a_p1_words, .inl (cL, n_p1_words, .inr (.inl v_p1_words)))] := hD.sub [0, 1, 2, 3] (by decide) rfl
  refine lv_istore_n (lv' := [(2, .int r_1), (0, .ref a_this), (1, .ref a_p1)]) hx hb d_Row_copy_13 rfl hl (by decide) rfl (fun ls hl => ?_)
  refine lv_aload_n hx hb d_Row_copy_14 rfl (lv_at hl 2 rfl) ?_
  refine va_get hx hb hts in_Row hown hK hP 2 rfl rfl 0 (by decide) (hts _ m_94) (fun _ h9 => h9) rfl d_Row_copy_15 ?_
  refine lv_iconst (v := 0) hx hb d_Row_copy_18 (by decide) ?_
  refine lv_aload_n hx hb d_Row_copy_19 rfl (lv_at hl 1 rfl) ?_
  refine va_get hx hb hts in_Row hown hK hP 0 rfl rfl 0 (by decide) (hts _ m_94) (fun _ h9 => h9) rfl d_Row_copy_20 ?_
  refine lv_iconst (v := 0) hx hb d_Row_copy_23 (by decide) ?_
  refine lv_iload_n hx hb d_Row_copy_24 rfl (lv_at hl 0 rfl) ?_
  obtain ⟨g_3, h⟩ := ck_s h
  obtain ⟨g_31, g_32, g_33, g_34, g_35⟩ := cpb_s g_3
  refine va_copyl hx hb (hml.trans hl.1.symm) hown (hts _ m_397) (hts _ m_399) (hts _ m_398) (hts _ m_78) hK hP hD hS 3 1 1 1 rfl rfl rfl rfl rfl g_31 g_32 g_33 g_34 g_35 (fun _ _ => rfl) (Nat.le_of_ble_eq_true rfl) (Nat.le_of_ble_eq_true rfl) d_Row_copy_25 (fun H locs hP hD hS => ?_)
  obtain ⟨v_words_4, ev_words_4⟩ : ∃ y, y = (va_cpy v_p1_words v_words (Int32.toNatClampNeg 0) (Int32.toNatClampNeg 0) (Int32.toNatClampNeg r_1)) := ⟨_, rfl⟩
  replace h := nm_s h ev_words_4
  have hP : va_P D classes [(a_this, .inr (5, [.ref a_words, .int i_room, .int i_used, .int i_held, .int i_many])), (a_words, .inl (cL, n_words, .inr (.inl v_words_4))), (a_p1, .inr (5, [.ref a_p1_words, .int i_p1_room, .int i_p1_used, .int i_p1_held, .int i_p1_many])), (a_p1_words, .inl (cL, n_p1_words, .inr (.inl v_p1_words)))] H := by rw [ev_words_4]; exact hP
  have hD : va_D A [(a_this, .inr (5, [.ref a_words, .int i_room, .int i_used, .int i_held, .int i_many])), (a_words, .inl (cL, n_words, .inr (.inl v_words_4))), (a_p1, .inr (5, [.ref a_p1_words, .int i_p1_room, .int i_p1_used, .int i_p1_held, .int i_p1_many])), (a_p1_words, .inl (cL, n_p1_words, .inr (.inl v_p1_words)))] := by rw [ev_words_4]; exact hD
  refine lv_aload_n hx hb d_Row_copy_28 rfl (lv_at hl 1 rfl) ?_
  refine lv_aload_n hx hb d_Row_copy_29 rfl (lv_at hl 2 rfl) ?_
  refine va_get hx hb hts in_Row hown hK hP 2 rfl rfl 2 (by decide) (hts _ m_96) (fun _ h9 => h9) rfl d_Row_copy_30 ?_
  refine lv_aload_n hx hb d_Row_copy_33 rfl (lv_at hl 1 rfl) ?_
  refine va_get hx hb hts in_Row hown hK hP 0 rfl rfl 1 (by decide) (hts _ m_95) (fun _ h9 => h9) rfl d_Row_copy_34 ?_
  obtain ⟨r_5, hc_6, h⟩ := bd1_s h
  have hPc := hP.sub (ws' := []) [] rfl
  have hDc := hD.sub (ws' := []) [] (by decide) rfl
  have hFc := va_free (wc := []) hD hS hA [] rfl
  refine va_calli (va_runS (As := [.int i_p1_used, .int i_room]) (rest := [.ref a_this]) ⟨hx, hb, hml, hown, hts⟩ (c_JMath_min l D cI cL cZ H.size N i_p1_used i_room r_5 hc_6) ⟨(my_cb 2 hts m_396 rfl rfl (hts _ m_77) (hts _ m_394) (by decide +kernel) ⟨Nat.le_of_ble_eq_true rfl, Nat.le_of_ble_eq_true rfl⟩), hts _ m_395⟩ ⟨fun a U g mk q => by obtain ⟨q0, q1, qP, qK, qD⟩ := q; exact ⟨q0, q1, qP, va_K.moved (u := U) (U := U.calling g mk a) (Vm.Alike.refl U.vm) qK, qD⟩, fun U hU hW => ⟨rfl, by rw [hU], by rw [hU]; exact hPc, va_K.moved hW.alike hK, hDc.weaken (fun _ _ _ _ => trivial)⟩⟩ rfl rfl hl.1 rfl (lv_room (Nat.le_of_ble_eq_true rfl)) d_Row_copy_37 ⟨Nat.zero_le _, Nat.zero_le _⟩) hS (fun q _ h => hFc q h) hFc (fun rr u t H1 locs ht hvm hw hB hz1 hk1 hS => ?_)
  obtain ⟨hP1, hK1, hD1⟩ := hB
  rw [ht] at hP1
  subst hw
  obtain ⟨hP, hD⟩ := va_join (wr := [(a_this, .inr (5, [.ref a_words, .int i_room, .int i_used, .int i_held, .int i_many])), (a_words, .inl (cL, n_words, .inr (.inl v_words_4))), (a_p1, .inr (5, [.ref a_p1_words, .int i_p1_room, .int i_p1_used, .int i_p1_held, .int i_p1_many])), (a_p1_words, .inl (cL, n_p1_words, .inr (.inl v_p1_words)))]) (w1 := []) hP hD [] [0, 1, 2, 3] rfl rfl (by decide) (by decide) hk1 hFc hP1 hD1
  clear hPc hDc hFc hk1 hP1 hD1 hK1
  generalize H1 = H at hP hS ⊢
  have hP : va_P D classes [(a_this, .inr (5, [.ref a_words, .int i_room, .int i_used, .int i_held, .int i_many])), (a_words, .inl (cL, n_words, .inr (.inl v_words_4))), (a_p1, .inr (5, [.ref a_p1_words, .int i_p1_room, .int i_p1_used, .int i_p1_held, .int i_p1_many])), (a_p1_words, .inl (cL, n_p1_words, .inr (.inl v_p1_words)))] H := hP.sub [0, 1, 2, 3] rfl
  have hD : va_D A [(a_this, .inr (5, [.ref a_words, .int i_room, .int i_used, .int i_held, .int i_many])), (a_words, .inl (cL, n_words, .inr (.inl v_words_4))), (a_p1, .inr (5, [.ref a_p1_words, .int i_p1_room, .int i_p1_used, .int i_p1_held, .int i_p1_many])), (a_p1_words, .inl (cL, n_p1_words, .inr (.inl v_p1_words)))] := hD.sub [0, 1, 2, 3] (by decide) rfl
  refine va_put (v := .int r_5) (ty := .int) hx hb hts in_Row t_Row t_Row_ok n_Row hown hK hP hD hS 0 rfl rfl 2 (by decide) (hts _ m_96) (fun _ h9 => h9) rfl (by decide +kernel) rfl rfl (Nat.le_of_ble_eq_true rfl) d_Row_copy_40 (fun H locs hP hD hS => ?_)
  have hP : va_P D classes [(a_this, .inr (5, [.ref a_words, .int i_room, .int r_5, .int i_held, .int i_many])), (a_words, .inl (cL, n_words, .inr (.inl v_words_4))), (a_p1, .inr (5, [.ref a_p1_words, .int i_p1_room, .int i_p1_used, .int i_p1_held, .int i_p1_many])), (a_p1_words, .inl (cL, n_p1_words, .inr (.inl v_p1_words)))] H := by exact hP
  have hD : va_D A [(a_this, .inr (5, [.ref a_words, .int i_room, .int r_5, .int i_held, .int i_many])), (a_words, .inl (cL, n_words, .inr (.inl v_words_4))), (a_p1, .inr (5, [.ref a_p1_words, .int i_p1_room, .int i_p1_used, .int i_p1_held, .int i_p1_many])), (a_p1_words, .inl (cL, n_p1_words, .inr (.inl v_p1_words)))] := by exact hD
  exact hret _ _ _ _ r_5 v_words_4 h d_Row_copy_43 hP hD hS
set_option maxHeartbeats 4000000 in
set_option maxRecDepth 100000 in
theorem c_Row_copy (l : Launch) (D : va_G) (cI cL cZ : ClassId) (sz N : Nat) (a_this : Nat) (a_words : Nat) (a_p1 : Nat) (a_p1_words : Nat) (i_room : Int32) (i_used : Int32) (i_held : Int32) (i_many : Int32) (n_words : Nat) (v_words : Nat → Int64) (i_p1_room : Int32) (i_p1_used : Int32) (i_p1_held : Int32) (i_p1_many : Int32) (n_p1_words : Nat) (v_p1_words : Nat → Int64) (i_used' : Int32) (v_words' : Nat → Int64) (h : f_Row_copy N i_room n_words i_p1_used n_p1_words v_p1_words i_used v_words = some (i_used', v_words')) : Met l ({ cls := "PrefixMill$Row", name := "copy", desc := "(LPrefixMill$Row;)V" } : Jvm.MethodName) ws_Row_copy R_Row_copy (va_Pc [.ref a_this, .ref a_p1] (fun U => U.heap.size = sz ∧ va_P D classes [(a_this, .inr (5, [.ref a_words, .int i_room, .int i_used, .int i_held, .int i_many])), (a_words, .inl (cL, n_words, .inr (.inl v_words))), (a_p1, .inr (5, [.ref a_p1_words, .int i_p1_room, .int i_p1_used, .int i_p1_held, .int i_p1_many])), (a_p1_words, .inl (cL, n_p1_words, .inr (.inl v_p1_words)))] U.heap ∧ va_K D classes [(cI, .int), (cL, .long), (cZ, .boolean)] U ∧ va_D (fun _ => True) [(a_this, .inr (5, [.ref a_words, .int i_room, .int i_used, .int i_held, .int i_many])), (a_words, .inl (cL, n_words, .inr (.inl v_words))), (a_p1, .inr (5, [.ref a_p1_words, .int i_p1_room, .int i_p1_used, .int i_p1_held, .int i_p1_many])), (a_p1_words, .inl (cL, n_p1_words, .inr (.inl v_p1_words)))])) (va_Qv (fun _ : Unit => True) (fun _ t => va_P D classes [(a_this, .inr (5, [.ref a_words, .int i_room, .int i_used', .int i_held, .int i_many])), (a_words, .inl (cL, n_words, .inr (.inl v_words'))), (a_p1, .inr (5, [.ref a_p1_words, .int i_p1_room, .int i_p1_used, .int i_p1_held, .int i_p1_many])), (a_p1_words, .inl (cL, n_p1_words, .inr (.inl v_p1_words)))] t.heap ∧ va_K D classes [(cI, .int), (cL, .long), (cZ, .boolean)] t ∧ va_D (va_A [(a_this, .inr (5, [.ref a_words, .int i_room, .int i_used, .int i_held, .int i_many])), (a_words, .inl (cL, n_words, .inr (.inl v_words))), (a_p1, .inr (5, [.ref a_p1_words, .int i_p1_room, .int i_p1_used, .int i_p1_held, .int i_p1_many])), (a_p1_words, .inl (cL, n_p1_words, .inr (.inl v_p1_words)))] sz) [(a_this, .inr (5, [.ref a_words, .int i_room, .int i_used', .int i_held, .int i_many])), (a_words, .inl (cL, n_words, .inr (.inl v_words'))), (a_p1, .inr (5, [.ref a_p1_words, .int i_p1_room, .int i_p1_used, .int i_p1_held, .int i_p1_many])), (a_p1_words, .inl (cL, n_p1_words, .inr (.inl v_p1_words)))]) (va_A [(a_this, .inr (5, [.ref a_words, .int i_room, .int i_used, .int i_held, .int i_many])), (a_words, .inl (cL, n_words, .inr (.inl v_words))), (a_p1, .inr (5, [.ref a_p1_words, .int i_p1_room, .int i_p1_used, .int i_p1_held, .int i_p1_many])), (a_p1_words, .inl (cL, n_p1_words, .inr (.inl v_p1_words)))] sz)) 0 0 (va_A [(a_this, .inr (5, [.ref a_words, .int i_room, .int i_used, .int i_held, .int i_many])), (a_words, .inl (cL, n_words, .inr (.inl v_words))), (a_p1, .inr (5, [.ref a_p1_words, .int i_p1_room, .int i_p1_used, .int i_p1_held, .int i_p1_many])), (a_p1_words, .inl (cL, n_p1_words, .inr (.inl v_p1_words)))] sz) := by
  refine Met.ofW (cc := b_Row_copy) (maxL := 3) (ret := none) (by decide) rfl ?_
  intro p e s m args below meth c s₁ B hml hv
  obtain ⟨rfl, hsz, hP, hK, hD0⟩ := hv
  have hx := B.exec
  have hb := B.bytes
  have hr := B.returns
  have hts0 := atoms_spec (ws := ws_Row_copy) B.pre
  have hts := gd_tl hts0
  clear hts0
  have hown : s.vm.findClass "PrefixMill$Row" = some m.cls := findClass_of_methodNamed B.named
  have hlocks := B.notSynchronized
  subst hsz
  have hD := hD0.self (sz := s.heap.size)
  generalize hAe : va_A [(a_this, .inr (5, [.ref a_words, .int i_room, .int i_used, .int i_held, .int i_many])), (a_words, .inl (cL, n_words, .inr (.inl v_words))), (a_p1, .inr (5, [.ref a_p1_words, .int i_p1_room, .int i_p1_used, .int i_p1_held, .int i_p1_many])), (a_p1_words, .inl (cL, n_p1_words, .inr (.inl v_p1_words)))] s.heap.size = A at hD ⊢
  have hA : ∀ q : Nat, s.heap.size ≤ q → A q := fun q h => by rw [← hAe]; exact Or.inr h
  have hS : va_S A s.heap s.heap [] := va_S.rf
  have hP : va_P D classes [(a_this, .inr (5, [.ref a_words, .int i_room, .int i_used, .int i_held, .int i_many])), (a_words, .inl (cL, n_words, .inr (.inl v_words))), (a_p1, .inr (5, [.ref a_p1_words, .int i_p1_room, .int i_p1_used, .int i_p1_held, .int i_p1_many])), (a_p1_words, .inl (cL, n_p1_words, .inr (.inl v_p1_words)))] s.heap := hP
  have hl := lv_entry ([.ref a_this, .ref a_p1]) (n := 3) (Nat.le_of_ble_eq_true rfl)
  rw [lg_entry_eq]
  generalize (lg_sl ([.ref a_this, .ref a_p1]) ++ List.replicate (3 - (lg_sl ([.ref a_this, .ref a_p1])).length) Slot.unset).toArray = ls at hl ⊢
  have hl : lv_has ls 3 [(0, .ref a_this), (1, .ref a_p1)] := hl
  have C : Cx p s m ([.ref a_this, .ref a_p1] : List Value).toArray c b_Row_copy 3 "PrefixMill$Row" D [(cI, .int), (cL, .long), (cZ, .boolean)] A := ⟨hx, hb, hml, hown, hts, hK, hA⟩
  refine w_Row_copy_b0 (res := (i_used', v_words')) C ?_ _ _ h s.heap [] ls hl hP hD hS
  intro pc9 H9 locs9 ls9 i_used9 v_words9 e9 d9 hP9 hD9 hS9
  cases e9
  exact W.vret hx hb hr (fun t ht hW => ⟨⟨(), rfl, trivial, by rw [ht]; exact hP9, va_K.moved hW.alike hK, hD9⟩, hS9.F ht⟩) hS9.2.2 d9
