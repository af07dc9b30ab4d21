abbrev b_PM_greatestOf : ByteArray := prog_1_method_23_code
def ws_PM_greatestOf : List Cond := .code ({ cls := "PrefixMill", name := "greatestOf", desc := "([I)I" } : Jvm.MethodName) b_PM_greatestOf 3 (some .int) :: tt
theorem d_PM_greatestOf_0 : decode b_PM_greatestOf 0 = .ok (.iconst 0, 1) := by decide +kernel
theorem d_PM_greatestOf_1 : decode b_PM_greatestOf 1 = .ok (.istore_n 1, 1) := by decide +kernel
theorem d_PM_greatestOf_2 : decode b_PM_greatestOf 2 = .ok (.iconst 0, 1) := by decide +kernel
theorem d_PM_greatestOf_3 : decode b_PM_greatestOf 3 = .ok (.istore_n 2, 1) := by decide +kernel
theorem d_PM_greatestOf_4 : decode b_PM_greatestOf 4 = .ok (.iload_n 2, 1) := by decide +kernel
theorem d_PM_greatestOf_5 : decode b_PM_greatestOf 5 = .ok (.sipush 256, 3) := by decide +kernel
theorem d_PM_greatestOf_8 : decode b_PM_greatestOf 8 = .ok (.if_icmp .ge 17, 3) := by decide +kernel
theorem d_PM_greatestOf_11 : decode b_PM_greatestOf 11 = .ok (.iload_n 1, 1) := by decide +kernel
theorem d_PM_greatestOf_12 : decode b_PM_greatestOf 12 = .ok (.aload_n 0, 1) := by decide +kernel
theorem d_PM_greatestOf_13 : decode b_PM_greatestOf 13 = .ok (.iload_n 2, 1) := by decide +kernel
theorem d_PM_greatestOf_14 : decode b_PM_greatestOf 14 = .ok (.iaload, 1) := by decide +kernel
theorem d_PM_greatestOf_15 : decode b_PM_greatestOf 15 = .ok (.invokestatic 161, 3) := by decide +kernel
theorem d_PM_greatestOf_18 : decode b_PM_greatestOf 18 = .ok (.istore_n 1, 1) := by decide +kernel
theorem d_PM_greatestOf_19 : decode b_PM_greatestOf 19 = .ok (.iinc 2 1, 3) := by decide +kernel
theorem d_PM_greatestOf_22 : decode b_PM_greatestOf 22 = .ok (.goto (-18), 3) := by decide +kernel
theorem d_PM_greatestOf_25 : decode b_PM_greatestOf 25 = .ok (.iload_n 1, 1) := by decide +kernel
theorem d_PM_greatestOf_26 : decode b_PM_greatestOf 26 = .ok (.ireturn, 1) := by decide +kernel
def f_PM_greatestOf_b25 (N : Nat) (n_p1 : Nat) (v_p1 : Nat → Int32)  (l1 : Int32) : Option (Int32) :=
  some (l1)
def f_PM_greatestOf_b4 (N : Nat) (n_p1 : Nat) (v_p1 : Nat → Int32)  : Nat → Int32 → Int32 → Option (Int32)
  | 0, _, _ => none
  | z + 1, l1, l2 =>
  if 256 ≤ l2 then
  f_PM_greatestOf_b25 N n_p1 v_p1  l1
  else
  ck (inb l2 n_p1) <|
  bd1 (f_JMath_max N l1 (v_p1 (Int32.toNatClampNeg l2))) fun r_3 =>
  nm (l2 + 1) fun l2_5 =>
  f_PM_greatestOf_b4 N n_p1 v_p1  z r_3 l2_5
def f_PM_greatestOf (N : Nat) (n_p1 : Nat) (v_p1 : Nat → Int32)   : Option (Int32) :=
  f_PM_greatestOf_b4 N n_p1 v_p1  N 0 0
abbrev R_PM_greatestOf : Room := ({ frames := 1, cells := 0, slots := 0, locals := 21 } : Room)
def E_PM_greatestOf (p : Program) (l : Launch) (e : Env) (s : State) (m : MethodId) (args : Array Value) (below : List Frame) (meth : Method) (c : Code) (Q : State → Prop) (A : Nat → Prop) (D : va_G) (cI cL cZ : ClassId) (a_p1 : Nat) (n_p1 : Nat) (v_p1 : Nat → Int32) (res : Int32) : Prop := ∀ (pc : Nat) (H : Heap) (locs : List Loc) (ls : Array Slot) (rv : Int32), some (rv) = some res → decode b_PM_greatestOf pc = .ok (.ireturn, 1) → va_P D classes [(a_p1, .inl (cI, n_p1, .inl v_p1))] H → va_D A [(a_p1, .inl (cI, n_p1, .inl v_p1))] → va_S A s.heap H locs → W p l e R_PM_greatestOf s m args below meth c H locs 0 0 Q (F0 m pc ls [.int rv])
def I_PM_greatestOf_b25 (p : Program) (l : Launch) (e : Env) (s : State) (m : MethodId) (args : Array Value) (below : List Frame) (meth : Method) (c : Code) (Q : State → Prop) (A : Nat → Prop) (D : va_G) (cI cL cZ : ClassId) (a_p1 : Nat) (n_p1 : Nat) (v_p1 : Nat → Int32) (res : Int32) (kf : Int32 → Option (Int32)) : Prop := ∀ (l1 : Int32), kf l1 = some res → ∀ (H : Heap) (locs : List Loc) (ls : Array Slot), lv_has ls 3 [(1, .int l1)] → va_P D classes [(a_p1, .inl (cI, n_p1, .inl v_p1))] H → va_D A [(a_p1, .inl (cI, n_p1, .inl v_p1))] → va_S A s.heap H locs → W p l e R_PM_greatestOf s m args below meth c H locs 0 0 Q (F0 m 25 ls [])
def I_PM_greatestOf_b4 (p : Program) (l : Launch) (e : Env) (s : State) (m : MethodId) (args : Array Value) (below : List Frame) (meth : Method) (c : Code) (Q : State → Prop) (A : Nat → Prop) (D : va_G) (cI cL cZ : ClassId) (a_p1 : Nat) (n_p1 : Nat) (v_p1 : Nat → Int32) (res : Int32) (kf : Int32 → Int32 → Option (Int32)) : Prop := ∀ (l1 : Int32) (l2 : Int32), kf l1 l2 = some res → ∀ (H : Heap) (locs : List Loc) (ls : Array Slot), lv_has ls 3 [(0, .ref a_p1), (1, .int l1), (2, .int l2)] → va_P D classes [(a_p1, .inl (cI, n_p1, .inl v_p1))] H → va_D A [(a_p1, .inl (cI, n_p1, .inl v_p1))] → va_S A s.heap H locs → W p l e R_PM_greatestOf s m args below meth c H locs 0 0 Q (F0 m 4 ls [])
def I_PM_greatestOf_b0 (p : Program) (l : Launch) (e : Env) (s : State) (m : MethodId) (args : Array Value) (below : List Frame) (meth : Method) (c : Code) (Q : State → Prop) (A : Nat → Prop) (D : va_G) (cI cL cZ : ClassId) (a_p1 : Nat) (n_p1 : Nat) (v_p1 : Nat → Int32) (res : Int32) (kf : Option (Int32)) : Prop := ∀ (_ : Unit), kf  = some res → ∀ (H : Heap) (locs : List Loc) (ls : Array Slot), lv_has ls 3 [(0, .ref a_p1)] → va_P D classes [(a_p1, .inl (cI, n_p1, .inl v_p1))] H → va_D A [(a_p1, .inl (cI, n_p1, .inl v_p1))] → va_S A s.heap H locs → W p l e R_PM_greatestOf s m args below meth c H locs 0 0 Q (F0 m 0 ls [])
set_option maxHeartbeats 4000000 in
set_option maxRecDepth 100000 in
theorem w_PM_greatestOf_b25 {p : Program} {l : Launch} {e : Env} {s : State} {m : MethodId} {args : Array Value} {below : List Frame} {meth : Method} {c : Code} {Q : State → Prop} {A : Nat → Prop} {D : va_G} {cI cL cZ : ClassId} {a_p1 : Nat} {n_p1 : Nat} {v_p1 : Nat → Int32} {N : Nat} {res : Int32}  (C : Cx p s m args c b_PM_greatestOf 3 "PrefixMill" D [(cI, .int), (cL, .long), (cZ, .boolean)] A) (hret : E_PM_greatestOf p l e s m args below meth c Q A D cI cL cZ a_p1 n_p1 v_p1 res)  : I_PM_greatestOf_b25 p l e s m args below meth c Q A D cI cL cZ a_p1 n_p1 v_p1 res (f_PM_greatestOf_b25 N n_p1 v_p1 ) := by
  obtain ⟨hx, hb, hml, hown, hts, hK, hA⟩ := C
  intro l1 h H locs ls hl hP hD hS
  unfold f_PM_greatestOf_b25 at h
  refine lv_iload_n hx hb d_PM_greatestOf_25 rfl (lv_at hl 0 rfl) ?_
  exact hret _ _ _ _ l1  h d_PM_greatestOf_26 hP hD hS
set_option maxHeartbeats 4000000 in
set_option maxRecDepth 100000 in
theorem w_PM_greatestOf_b4 {p : Program} {l : Launch} {e : Env} {s : State} {m : MethodId} {args : Array Value} {below : List Frame} {meth : Method} {c : Code} {Q : State → Prop} {A : Nat → Prop} {D : va_G} {cI cL cZ : ClassId} {a_p1 : Nat} {n_p1 : Nat} {v_p1 : Nat → Int32} {N : Nat} {res : Int32}  (C : Cx p s m args c b_PM_greatestOf 3 "PrefixMill" D [(cI, .int), (cL, .long), (cZ, .boolean)] A) (hret : E_PM_greatestOf p l e s m args below meth c Q A D cI cL cZ a_p1 n_p1 v_p1 res)  : ∀ z : Nat, I_PM_greatestOf_b4 p l e s m args below meth c Q A D cI cL cZ a_p1 n_p1 v_p1 res (f_PM_greatestOf_b4 N n_p1 v_p1  z) := by
  obtain ⟨hx, hb, hml, hown, hts, hK, hA⟩ := C
  intro z
  induction z with
  | zero => intro l1 l2 h; cases h
  | succ z ih =>
    intro l1 l2 h H locs ls hl hP hD hS
    refine lv_iload_n hx hb d_PM_greatestOf_4 rfl (lv_at hl 2 rfl) ?_
    refine lv_sipush (v := 256) hx hb d_PM_greatestOf_5 (by decide) ?_
    refine lv_icmp_ge (tgt := 25) hx hb d_PM_greatestOf_8 (by decide) (fun c_1 => ?_) (fun c_1 => ?_)
    · replace h := if_t h c_1
      exact w_PM_greatestOf_b25 ⟨hx, hb, hml, hown, hts, hK, hA⟩ hret  _ h H locs ls (lv_sub hl [1] rfl) hP hD hS
    · replace h := if_f h c_1
      refine lv_iload_n hx hb d_PM_greatestOf_11 rfl (lv_at hl 1 rfl) ?_
      refine lv_aload_n hx hb d_PM_greatestOf_12 rfl (lv_at hl 0 rfl) ?_
      refine lv_iload_n hx hb d_PM_greatestOf_13 rfl (lv_at hl 2 rfl) ?_
      obtain ⟨g_2, h⟩ := ck_s h
      refine va_iald hx hb hK hP 0 0 rfl rfl (inb_s g_2) d_PM_greatestOf_14 ?_
      obtain ⟨r_3, hc_4, h⟩ := bd1_s h
      have hPc := hP.sub (ws' := []) [] rfl
      have hDc := hD.sub (ws' := []) [] (by decide) rfl
      have hFc := va_free (wc := []) hD hS hA [] rfl
      refine va_calli (va_runS (As := [.int l1, .int (v_p1 (Int32.toNatClampNeg l2))]) (rest := []) ⟨hx, hb, hml, hown, hts⟩ (c_JMath_max l D cI cL cZ H.size N l1 (v_p1 (Int32.toNatClampNeg l2)) r_3 hc_4) ⟨(my_cb 2 hts m_469 rfl rfl (hts _ m_77) (hts _ m_467) (by decide +kernel) ⟨Nat.le_of_ble_eq_true rfl, Nat.le_of_ble_eq_true rfl⟩), hts _ m_468⟩ ⟨fun a U g mk q => by obtain ⟨q0, q1, qP, qK, qD⟩ := q; exact ⟨q0, q1, qP, va_K.moved (u := U) (U := U.calling g mk a) (Vm.Alike.refl U.vm) qK, qD⟩, fun U hU hW => ⟨rfl, by rw [hU], by rw [hU]; exact hPc, va_K.moved hW.alike hK, hDc.weaken (fun _ _ _ _ => trivial)⟩⟩ rfl rfl hl.1 rfl (lv_room (Nat.le_of_ble_eq_true rfl)) d_PM_greatestOf_15 ⟨Nat.zero_le _, Nat.zero_le _⟩) hS (fun q _ h => hFc q h) hFc (fun rr u t H1 locs ht hvm hw hB hz1 hk1 hS => ?_)
      obtain ⟨hP1, hK1, hD1⟩ := hB
      rw [ht] at hP1
      subst hw
      obtain ⟨hP, hD⟩ := va_join (wr := [(a_p1, .inl (cI, n_p1, .inl v_p1))]) (w1 := []) hP hD [] [0] rfl rfl (by decide) (by decide) hk1 hFc hP1 hD1
      clear hPc hDc hFc hk1 hP1 hD1 hK1
      generalize H1 = H at hP hS ⊢
      have hP : va_P D classes [(a_p1, .inl (cI, n_p1, .inl v_p1))] H := hP.sub [0] rfl
      have hD : va_D A [(a_p1, .inl (cI, n_p1, .inl v_p1))] := hD.sub [0] (by decide) rfl
      refine lv_istore_n (lv' := [(1, .int r_3), (0, .ref a_p1), (2, .int l2)]) hx hb d_PM_greatestOf_18 rfl hl (by decide) rfl (fun ls hl => ?_)
      obtain ⟨l2_5, el2_5⟩ : ∃ y : Int32, y = l2 + 1 := ⟨_, rfl⟩
      replace h := nm_s h el2_5
      refine lv_iinc (v := l2_5) (lv' := [(2, .int l2_5), (1, .int r_3), (0, .ref a_p1)]) hx hb d_PM_greatestOf_19 hl (k := 2) rfl (by rw [el2_5]; rfl) (by decide) rfl (fun ls hl => ?_)
      refine lv_goto (tgt := 4) hx hb d_PM_greatestOf_22 (by decide) ?_
      exact ih _ _ h H locs ls (lv_sub hl [2, 1, 0] rfl) hP hD hS
set_option maxHeartbeats 4000000 in
set_option maxRecDepth 100000 in
theorem w_PM_greatestOf_b0 {p : Program} {l : Launch} {e : Env} {s : State} {m : MethodId} {args : Array Value} {below : List Frame} {meth : Method} {c : Code} {Q : State → Prop} {A : Nat → Prop} {D : va_G} {cI cL cZ : ClassId} {a_p1 : Nat} {n_p1 : Nat} {v_p1 : Nat → Int32} {N : Nat} {res : Int32}  (C : Cx p s m args c b_PM_greatestOf 3 "PrefixMill" D [(cI, .int), (cL, .long), (cZ, .boolean)] A) (hret : E_PM_greatestOf p l e s m args below meth c Q A D cI cL cZ a_p1 n_p1 v_p1 res)  : I_PM_greatestOf_b0 p l e s m args below meth c Q A D cI cL cZ a_p1 n_p1 v_p1 res (f_PM_greatestOf N n_p1 v_p1 ) := by
  obtain ⟨hx, hb, hml, hown, hts, hK, hA⟩ := C
  intro _ h H locs ls hl hP hD hS
  unfold f_PM_greatestOf at h
  refine lv_iconst (v := 0) hx hb d_PM_greatestOf_0 (by decide) ?_
  refine lv_istore_n (lv' := [(1, .int 0), (0, .ref a_p1)]) hx hb d_PM_greatestOf_1 rfl hl (by decide) rfl (fun ls hl => ?_)
  refine lv_iconst (v := 0) hx hb d_PM_greatestOf_2 (by decide) ?_
  refine lv_istore_n (lv' := [(2, .int 0), (1, .int 0), (0, .ref a_p1)]) hx hb d_PM_greatestOf_3 rfl hl (by decide) rfl (fun ls hl => ?_)
  exact w_PM_greatestOf_b4 ⟨hx, hb, hml, hown, hts, hK, hA⟩ hret  N _ _ h H locs ls (lv_sub hl [2, 1, 0] rfl) hP hD hS
set_option maxHeartbeats 4000000 in
set_option maxRecDepth 100000 in
theorem c_PM_greatestOf (l : Launch) (D : va_G) (cI cL cZ : ClassId) (sz N : Nat) (a_p1 : Nat) (n_p1 : Nat) (v_p1 : Nat → Int32) (rv : Int32) (h : f_PM_greatestOf N n_p1 v_p1  = some (rv)) : Met l ({ cls := "PrefixMill", name := "greatestOf", desc := "([I)I" } : Jvm.MethodName) ws_PM_greatestOf R_PM_greatestOf (va_Pc [.ref a_p1] (fun U => U.heap.size = sz ∧ va_P D classes [(a_p1, .inl (cI, n_p1, .inl v_p1))] U.heap ∧ va_K D classes [(cI, .int), (cL, .long), (cZ, .boolean)] U ∧ va_D (fun _ => True) [(a_p1, .inl (cI, n_p1, .inl v_p1))])) (va_Qi (fun (r0 : Int32) (_ : Unit) => rv = r0) (fun _ t => va_P D classes [(a_p1, .inl (cI, n_p1, .inl v_p1))] t.heap ∧ va_K D classes [(cI, .int), (cL, .long), (cZ, .boolean)] t ∧ va_D (va_A [(a_p1, .inl (cI, n_p1, .inl v_p1))] sz) [(a_p1, .inl (cI, n_p1, .inl v_p1))]) (va_A [(a_p1, .inl (cI, n_p1, .inl v_p1))] sz)) 0 0 (va_A [(a_p1, .inl (cI, n_p1, .inl v_p1))] sz) := by
  refine Met.ofW (cc := b_PM_greatestOf) (maxL := 3) (ret := (some .int)) (by decide) rfl ?_
  intro p e s m args below meth c s₁ B hml hv
  obtain ⟨rfl, hsz, hP, hK, hD0⟩ := hv
  have hx := B.exec
  have hb := B.bytes
  have hr := B.returns
  have hts0 := atoms_spec (ws := ws_PM_greatestOf) B.pre
  have hts := gd_tl hts0
  clear hts0
  have hown : s.vm.findClass "PrefixMill" = some m.cls := findClass_of_methodNamed B.named
  have hlocks := B.notSynchronized
  subst hsz
  have hD := hD0.self (sz := s.heap.size)
  generalize hAe : va_A [(a_p1, .inl (cI, n_p1, .inl v_p1))] s.heap.size = A at hD ⊢
  have hA : ∀ q : Nat, s.heap.size ≤ q → A q := fun q h => by rw [← hAe]; exact Or.inr h
  have hS : va_S A s.heap s.heap [] := va_S.rf
  have hP : va_P D classes [(a_p1, .inl (cI, n_p1, .inl v_p1))] s.heap := hP
  have hl := lv_entry ([.ref a_p1]) (n := 3) (Nat.le_of_ble_eq_true rfl)
  rw [lg_entry_eq]
  generalize (lg_sl ([.ref a_p1]) ++ List.replicate (3 - (lg_sl ([.ref a_p1])).length) Slot.unset).toArray = ls at hl ⊢
  have hl : lv_has ls 3 [(0, .ref a_p1)] := hl
  have C : Cx p s m ([.ref a_p1] : List Value).toArray c b_PM_greatestOf 3 "PrefixMill" D [(cI, .int), (cL, .long), (cZ, .boolean)] A := ⟨hx, hb, hml, hown, hts, hK, hA⟩
  refine w_PM_greatestOf_b0 (res := (rv)) C ?_ () h s.heap [] ls hl hP hD hS
  intro pc9 H9 locs9 ls9 rv9 e9 d9 hP9 hD9 hS9
  cases e9
  exact W.iret (v := rv) hx hb hr (fun t ht hW => ⟨⟨rv, (), rfl, rfl, by rw [ht]; exact hP9, va_K.moved hW.alike hK, hD9⟩, hS9.F ht⟩) hS9.2.2 d9
