abbrev b_JArr_fill : ByteArray := prog_15_method_103_code
def ws_JArr_fill : List Cond := .code ({ cls := "java/util/Arrays", name := "fill", desc := "([II)V" } : Jvm.MethodName) b_JArr_fill 4 none :: tt
theorem d_JArr_fill_0 : decode b_JArr_fill 0 = .ok (.iconst 0, 1) := by decide +kernel
theorem d_JArr_fill_1 : decode b_JArr_fill 1 = .ok (.istore_n 2, 1) := by decide +kernel
theorem d_JArr_fill_2 : decode b_JArr_fill 2 = .ok (.aload_n 0, 1) := by decide +kernel
theorem d_JArr_fill_3 : decode b_JArr_fill 3 = .ok (.arraylength, 1) := by decide +kernel
theorem d_JArr_fill_4 : decode b_JArr_fill 4 = .ok (.istore_n 3, 1) := by decide +kernel
theorem d_JArr_fill_5 : decode b_JArr_fill 5 = .ok (.iload_n 2, 1) := by decide +kernel
theorem d_JArr_fill_6 : decode b_JArr_fill 6 = .ok (.iload_n 3, 1) := by decide +kernel
theorem d_JArr_fill_7 : decode b_JArr_fill 7 = .ok (.if_icmp .ge 13, 3) := by decide +kernel
theorem d_JArr_fill_10 : decode b_JArr_fill 10 = .ok (.aload_n 0, 1) := by decide +kernel
theorem d_JArr_fill_11 : decode b_JArr_fill 11 = .ok (.iload_n 2, 1) := by decide +kernel
theorem d_JArr_fill_12 : decode b_JArr_fill 12 = .ok (.iload_n 1, 1) := by decide +kernel
theorem d_JArr_fill_13 : decode b_JArr_fill 13 = .ok (.iastore, 1) := by decide +kernel
theorem d_JArr_fill_14 : decode b_JArr_fill 14 = .ok (.iinc 2 1, 3) := by decide +kernel
theorem d_JArr_fill_17 : decode b_JArr_fill 17 = .ok (.goto (-12), 3) := by decide +kernel
theorem d_JArr_fill_20 : decode b_JArr_fill 20 = .ok (.return_, 1) := by decide +kernel
def f_JArr_fill_b5 (N : Nat) (n_p1 : Nat) (l1 : Int32)  : Nat → Int32 → Int32 → (Nat → Int32) → Option ((Nat → Int32))
  | 0, _, _, _ => none
  | z + 1, l2, l3, v_p1 =>
  if l3 ≤ l2 then
  some (v_p1)
  else
  ck (inb l2 n_p1) <|
  nm (upd v_p1 (Int32.toNatClampNeg l2) l1) fun v_p1_3 =>
  nm (l2 + 1) fun l2_4 =>
  f_JArr_fill_b5 N n_p1 l1  z l2_4 l3 v_p1_3
def f_JArr_fill (N : Nat) (n_p1 : Nat) (l1 : Int32)  (v_p1 : Nat → Int32) : Option ((Nat → Int32)) :=
  nm (Int32.ofNat n_p1) fun l3_1 =>
  f_JArr_fill_b5 N n_p1 l1  N 0 l3_1 v_p1
abbrev R_JArr_fill : Room := ({ frames := 0, cells := 0, slots := 0, locals := 0 } : Room)
def E_JArr_fill (p : Program) (l : Launch) (e : Env) (s : State) (m : MethodId) (args : Array Value) (below : List Frame) (meth : Method) (c : Code) (Q : State → Prop) (A : Nat → Prop) (D : va_G) (cI cL cZ : ClassId) (a_p1 : Nat) (n_p1 : Nat) (l1 : Int32) (res : (Nat → Int32)) : Prop := ∀ (pc : Nat) (H : Heap) (locs : List Loc) (ls : Array Slot) (v_p1 : Nat → Int32), some (v_p1) = some res → decode b_JArr_fill pc = .ok (.return_, 1) → va_P D classes [(a_p1, .inl (cI, n_p1, .inl v_p1))] H → va_D A [(a_p1, .inl (cI, n_p1, .inl v_p1))] → va_S A s.heap H locs → W p l e R_JArr_fill s m args below meth c H locs 0 0 Q (F0 m pc ls [])
def I_JArr_fill_b5 (p : Program) (l : Launch) (e : Env) (s : State) (m : MethodId) (args : Array Value) (below : List Frame) (meth : Method) (c : Code) (Q : State → Prop) (A : Nat → Prop) (D : va_G) (cI cL cZ : ClassId) (a_p1 : Nat) (n_p1 : Nat) (l1 : Int32) (res : (Nat → Int32)) (kf : Int32 → Int32 → (Nat → Int32) → Option ((Nat → Int32))) : Prop := ∀ (l2 : Int32) (l3 : Int32) (v_p1 : Nat → Int32), kf l2 l3 v_p1 = some res → ∀ (H : Heap) (locs : List Loc) (ls : Array Slot), lv_has ls 4 [(0, .ref a_p1), (1, .int l1), (2, .int l2), (3, .int l3)] → va_P D classes [(a_p1, .inl (cI, n_p1, .inl v_p1))] H → va_D A [(a_p1, .inl (cI, n_p1, .inl v_p1))] → va_S A s.heap H locs → W p l e R_JArr_fill s m args below meth c H locs 0 0 Q (F0 m 5 ls [])
def I_JArr_fill_b0 (p : Program) (l : Launch) (e : Env) (s : State) (m : MethodId) (args : Array Value) (below : List Frame) (meth : Method) (c : Code) (Q : State → Prop) (A : Nat → Prop) (D : va_G) (cI cL cZ : ClassId) (a_p1 : Nat) (n_p1 : Nat) (l1 : Int32) (res : (Nat → Int32)) (kf : (Nat → Int32) → Option ((Nat → Int32))) : Prop := ∀ (v_p1 : Nat → Int32), kf v_p1 = some res → ∀ (H : Heap) (locs : List Loc) (ls : Array Slot), lv_has ls 4 [(0, .ref a_p1), (1, .int l1)] → va_P D classes [(a_p1, .inl (cI, n_p1, .inl v_p1))] H → va_D A [(a_p1, .inl (cI, n_p1, .inl v_p1))] → va_S A s.heap H locs → W p l e R_JArr_fill s m args below meth c H locs 0 0 Q (F0 m 0 ls [])
set_option maxHeartbeats 4000000 in
set_option maxRecDepth 100000 in
theorem w_JArr_fill_b5 {p : Program} {l : Launch} {e : Env} {s : State} {m : MethodId} {args : Array Value} {below : List Frame} {meth : Method} {c : Code} {Q : State → Prop} {A : Nat → Prop} {D : va_G} {cI cL cZ : ClassId} {a_p1 : Nat} {n_p1 : Nat} {l1 : Int32} {N : Nat} {res : (Nat → Int32)}  (C : Cx p s m args c b_JArr_fill 4 "java/util/Arrays" D [(cI, .int), (cL, .long), (cZ, .boolean)] A) (hret : E_JArr_fill p l e s m args below meth c Q A D cI cL cZ a_p1 n_p1 l1 res)  : ∀ z : Nat, I_JArr_fill_b5 p l e s m args below meth c Q A D cI cL cZ a_p1 n_p1 l1 res (f_JArr_fill_b5 N n_p1 l1  z) := by
  obtain ⟨hx, hb, hml, hown, hts, hK, hA⟩ := C
  intro z
  induction z with
  | zero => intro l2 l3 v_p1 h; cases h
  | succ z ih =>
    intro l2 l3 v_p1 h H locs ls hl hP hD hS
    refine lv_iload_n hx hb d_JArr_fill_5 rfl (lv_at hl 2 rfl) ?_
    refine lv_iload_n hx hb d_JArr_fill_6 rfl (lv_at hl 3 rfl) ?_
    refine lv_icmp_ge (tgt := 20) hx hb d_JArr_fill_7 (by decide) (fun c_1 => ?_) (fun c_1 => ?_)
    · replace h := if_t h c_1
      exact hret _ _ _ _ v_p1 h d_JArr_fill_20 hP hD hS
    · replace h := if_f h c_1
      refine lv_aload_n hx hb d_JArr_fill_10 rfl (lv_at hl 0 rfl) ?_
      refine lv_iload_n hx hb d_JArr_fill_11 rfl (lv_at hl 2 rfl) ?_
      refine lv_iload_n hx hb d_JArr_fill_12 rfl (lv_at hl 1 rfl) ?_
      obtain ⟨g_2, h⟩ := ck_s h
      refine va_iast hx hb hK hP hD hS 0 0 rfl rfl (inb_s g_2) d_JArr_fill_13 (fun H locs hP hD hS => ?_)
      obtain ⟨v_p1_3, ev_p1_3⟩ : ∃ y, y = (upd v_p1 (Int32.toNatClampNeg l2) l1) := ⟨_, rfl⟩
      replace h := nm_s h ev_p1_3
      have hP : va_P D classes [(a_p1, .inl (cI, n_p1, .inl v_p1_3))] H := by rw [ev_p1_3]; exact hP
      have hD : va_D A [(a_p1, .inl (cI, n_p1, .inl v_p1_3))] := by rw [ev_p1_3]; exact hD
      obtain ⟨l2_4, el2_4⟩ : ∃ y : Int32, y = l2 + 1 := ⟨_, rfl⟩
      replace h := nm_s h el2_4
      refine lv_iinc (v := l2_4) (lv' := [(2, .int l2_4), (0, .ref a_p1), (1, .int l1), (3, .int l3)]) hx hb d_JArr_fill_14 hl (k := 2) rfl (by rw [el2_4]; rfl) (by decide) rfl (fun ls hl => ?_)
      refine lv_goto (tgt := 5) hx hb d_JArr_fill_17 (by decide) ?_
      exact ih _ _ _ h H locs ls (lv_sub hl [1, 2, 0, 3] rfl) hP hD hS
set_option maxHeartbeats 4000000 in
set_option maxRecDepth 100000 in
theorem w_JArr_fill_b0 {p : Program} {l : Launch} {e : Env} {s : State} {m : MethodId} {args : Array Value} {below : List Frame} {meth : Method} {c : Code} {Q : State → Prop} {A : Nat → Prop} {D : va_G} {cI cL cZ : ClassId} {a_p1 : Nat} {n_p1 : Nat} {l1 : Int32} {N : Nat} {res : (Nat → Int32)}  (C : Cx p s m args c b_JArr_fill 4 "java/util/Arrays" D [(cI, .int), (cL, .long), (cZ, .boolean)] A) (hret : E_JArr_fill p l e s m args below meth c Q A D cI cL cZ a_p1 n_p1 l1 res)  : I_JArr_fill_b0 p l e s m args below meth c Q A D cI cL cZ a_p1 n_p1 l1 res (f_JArr_fill N n_p1 l1 ) := by
  obtain ⟨hx, hb, hml, hown, hts, hK, hA⟩ := C
  intro v_p1 h H locs ls hl hP hD hS
  unfold f_JArr_fill at h
  refine lv_iconst (v := 0) hx hb d_JArr_fill_0 (by decide) ?_
  refine lv_istore_n (lv' := [(2, .int 0), (0, .ref a_p1), (1, .int l1)]) hx hb d_JArr_fill_1 rfl hl (by decide) rfl (fun ls hl => ?_)
  refine lv_aload_n hx hb d_JArr_fill_2 rfl (lv_at hl 1 rfl) ?_
  refine va_alen hx hb hK hP 0 0 rfl rfl rfl d_JArr_fill_3 ?_
  refine lv_topi (fun l3_1 el3_1 => ?_)
  replace h := nm_s h el3_1
  refine lv_istore_n (lv' := [(3, .int l3_1), (2, .int 0), (0, .ref a_p1), (1, .int l1)]) hx hb d_JArr_fill_4 rfl hl (by decide) rfl (fun ls hl => ?_)
  exact w_JArr_fill_b5 ⟨hx, hb, hml, hown, hts, hK, hA⟩ hret  N _ _ _ h H locs ls (lv_sub hl [2, 3, 1, 0] rfl) hP hD hS
set_option maxHeartbeats 4000000 in
set_option maxRecDepth 100000 in
theorem c_JArr_fill (l : Launch) (D : va_G) (cI cL cZ : ClassId) (sz N : Nat) (a_p1 : Nat) (n_p1 : Nat) (v_p1 : Nat → Int32) (l1 : Int32) (v_p1' : Nat → Int32) (h : f_JArr_fill N n_p1 l1 v_p1 = some (v_p1')) : Met l ({ cls := "java/util/Arrays", name := "fill", desc := "([II)V" } : Jvm.MethodName) ws_JArr_fill R_JArr_fill (va_Pc [.ref a_p1, .int l1] (fun U => U.heap.size = sz ∧ va_P D classes [(a_p1, .inl (cI, n_p1, .inl v_p1))] U.heap ∧ va_K D classes [(cI, .int), (cL, .long), (cZ, .boolean)] U ∧ va_D (fun _ => True) [(a_p1, .inl (cI, n_p1, .inl v_p1))])) (va_Qv (fun _ : Unit => True) (fun _ t => va_P D classes [(a_p1, .inl (cI, n_p1, .inl v_p1'))] t.heap ∧ va_K D classes [(cI, .int), (cL, .long), (cZ, .boolean)] t ∧ va_D (va_A [(a_p1, .inl (cI, n_p1, .inl v_p1))] sz) [(a_p1, .inl (cI, n_p1, .inl v_p1'))]) (va_A [(a_p1, .inl (cI, n_p1, .inl v_p1))] sz)) 0 0 (va_A [(a_p1, .inl (cI, n_p1, .inl v_p1))] sz) := by
  refine va_MetF (cc := b_JArr_fill) (maxL := 4) (ret := none) (by decide +kernel) rfl ?_
  intro p e s m args below meth c s₁ B hml hv
  obtain ⟨rfl, hsz, hP, hK, hD0⟩ := hv
  have hx := B.exec
  have hb := B.bytes
  have hr := B.returns
  have hts0 := atoms_spec (ws := ws_JArr_fill) B.pre
  have hts := gd_tl hts0
  clear hts0
  have hown : s.vm.findClass "java/util/Arrays" = some m.cls := findClass_of_methodNamed B.named
  have hlocks := B.notSynchronized
  subst hsz
  have hD := hD0.self (sz := s.heap.size)
  generalize hAe : va_A [(a_p1, .inl (cI, n_p1, .inl v_p1))] s.heap.size = A at hD ⊢
  have hA : ∀ q : Nat, s.heap.size ≤ q → A q := fun q h => by rw [← hAe]; exact Or.inr h
  have hS : va_S A s.heap s.heap [] := va_S.rf
  have hP : va_P D classes [(a_p1, .inl (cI, n_p1, .inl v_p1))] s.heap := hP
  have hl := lv_entry ([.ref a_p1, .int l1]) (n := 4) (Nat.le_of_ble_eq_true rfl)
  rw [lg_entry_eq]
  generalize (lg_sl ([.ref a_p1, .int l1]) ++ List.replicate (4 - (lg_sl ([.ref a_p1, .int l1])).length) Slot.unset).toArray = ls at hl ⊢
  have hl : lv_has ls 4 [(0, .ref a_p1), (1, .int l1)] := hl
  have C : Cx p s m ([.ref a_p1, .int l1] : List Value).toArray c b_JArr_fill 4 "java/util/Arrays" D [(cI, .int), (cL, .long), (cZ, .boolean)] A := ⟨hx, hb, hml, hown, hts, hK, hA⟩
  refine w_JArr_fill_b0 (res := (v_p1')) C ?_ _ h s.heap [] ls hl hP hD hS
  intro pc9 H9 locs9 ls9 v_p19 e9 d9 hP9 hD9 hS9
  cases e9
  exact W.vret hx hb hr (fun t ht hW => ⟨⟨(), rfl, trivial, by rw [ht]; exact hP9, va_K.moved hW.alike hK, hD9⟩, hS9.F ht⟩) hS9.2.2 d9
