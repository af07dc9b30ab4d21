abbrev b_JMath_min : ByteArray := prog_13_method_69_code
def ws_JMath_min : List Cond := .code ({ cls := "java/lang/Math", name := "min", desc := "(II)I" } : Jvm.MethodName) b_JMath_min 2 (some .int) :: tt
theorem d_JMath_min_0 : decode b_JMath_min 0 = .ok (.iload_n 0, 1) := by decide +kernel
theorem d_JMath_min_1 : decode b_JMath_min 1 = .ok (.iload_n 1, 1) := by decide +kernel
theorem d_JMath_min_2 : decode b_JMath_min 2 = .ok (.if_icmp .gt 7, 3) := by decide +kernel
theorem d_JMath_min_5 : decode b_JMath_min 5 = .ok (.iload_n 0, 1) := by decide +kernel
theorem d_JMath_min_6 : decode b_JMath_min 6 = .ok (.goto 4, 3) := by decide +kernel
theorem d_JMath_min_9 : decode b_JMath_min 9 = .ok (.iload_n 1, 1) := by decide +kernel
theorem d_JMath_min_10 : decode b_JMath_min 10 = .ok (.ireturn, 1) := by decide +kernel
def f_JMath_min (N : Nat) (l0 : Int32) (l1 : Int32)   : Option (Int32) :=
  if l1 < l0 then
  some (l1)
  else
  some (l0)
abbrev R_JMath_min : Room := ({ frames := 0, cells := 0, slots := 0, locals := 0 } : Room)
def E_JMath_min (p : Program) (l : Launch) (e : Env) (s : State) (m : MethodId) (args : Array Value) (below : List Frame) (meth : Method) (c : Code) (Q : State → Prop) (A : Nat → Prop) (D : va_G) (cI cL cZ : ClassId) (l0 : Int32) (l1 : Int32) (res : Int32) : Prop := ∀ (pc : Nat) (H : Heap) (locs : List Loc) (ls : Array Slot) (rv : Int32), some (rv) = some res → decode b_JMath_min pc = .ok (.ireturn, 1) → va_P D classes [] H → va_D A [] → va_S A s.heap H locs → W p l e R_JMath_min s m args below meth c H locs 0 0 Q (F0 m pc ls [.int rv])
def I_JMath_min_b0 (p : Program) (l : Launch) (e : Env) (s : State) (m : MethodId) (args : Array Value) (below : List Frame) (meth : Method) (c : Code) (Q : State → Prop) (A : Nat → Prop) (D : va_G) (cI cL cZ : ClassId) (l0 : Int32) (l1 : Int32) (res : Int32) (kf : Option (Int32)) : Prop := ∀ (_ : Unit), kf  = some res → ∀ (H : Heap) (locs : List Loc) (ls : Array Slot), lv_has ls 2 [(0, .int l0), (1, .int l1)] → va_P D classes [] H → va_D A [] → va_S A s.heap H locs → W p l e R_JMath_min s m args below meth c H locs 0 0 Q (F0 m 0 ls [])
set_option maxHeartbeats 4000000 in
set_option maxRecDepth 100000 in
theorem w_JMath_min_b0 {p : Program} {l : Launch} {e : Env} {s : State} {m : MethodId} {args : Array Value} {below : List Frame} {meth : Method} {c : Code} {Q : State → Prop} {A : Nat → Prop} {D : va_G} {cI cL cZ : ClassId} {l0 : Int32} {l1 : Int32} {N : Nat} {res : Int32}  (C : Cx p s m args c b_JMath_min 2 "java/lang/Math" D [(cI, .int), (cL, .long), (cZ, .boolean)] A) (hret : E_JMath_min p l e s m args below meth c Q A D cI cL cZ l0 l1 res)  : I_JMath_min_b0 p l e s m args below meth c Q A D cI cL cZ l0 l1 res (f_JMath_min N l0 l1 ) := by
  obtain ⟨hx, hb, hml, hown, hts, hK, hA⟩ := C
  intro _ h H locs ls hl hP hD hS
  unfold f_JMath_min at h
  refine lv_iload_n hx hb d_JMath_min_0 rfl (lv_at hl 0 rfl) ?_
  refine lv_iload_n hx hb d_JMath_min_1 rfl (lv_at hl 1 rfl) ?_
  refine lv_icmp_gt (tgt := 9) hx hb d_JMath_min_2 (by decide) (fun c_1 => ?_) (fun c_1 => ?_)
  · replace h := if_t h c_1
    refine lv_iload_n hx hb d_JMath_min_9 rfl (lv_at hl 1 rfl) ?_
    exact hret _ _ _ _ l1  h d_JMath_min_10 hP hD hS
  · replace h := if_f h c_1
    refine lv_iload_n hx hb d_JMath_min_5 rfl (lv_at hl 0 rfl) ?_
    refine lv_goto (tgt := 10) hx hb d_JMath_min_6 (by decide) ?_
    exact hret _ _ _ _ l0  h d_JMath_min_10 hP hD hS
set_option maxHeartbeats 4000000 in
set_option maxRecDepth 100000 in
theorem c_JMath_min (l : Launch) (D : va_G) (cI cL cZ : ClassId) (sz N : Nat) (l0 : Int32) (l1 : Int32) (rv : Int32) (h : f_JMath_min N l0 l1  = some (rv)) : Met l ({ cls := "java/lang/Math", name := "min", desc := "(II)I" } : Jvm.MethodName) ws_JMath_min R_JMath_min (va_Pc [.int l0, .int l1] (fun U => U.heap.size = sz ∧ va_P D classes [] U.heap ∧ va_K D classes [(cI, .int), (cL, .long), (cZ, .boolean)] U ∧ va_D (fun _ => True) [])) (va_Qi (fun (r0 : Int32) (_ : Unit) => rv = r0) (fun _ t => va_P D classes [] t.heap ∧ va_K D classes [(cI, .int), (cL, .long), (cZ, .boolean)] t ∧ va_D (va_A [] sz) []) (va_A [] sz)) 0 0 (va_A [] sz) := by
  refine va_MetF (cc := b_JMath_min) (maxL := 2) (ret := (some .int)) (by decide +kernel) rfl ?_
  intro p e s m args below meth c s₁ B hml hv
  obtain ⟨rfl, hsz, hP, hK, hD0⟩ := hv
  have hx := B.exec
  have hb := B.bytes
  have hr := B.returns
  have hts0 := atoms_spec (ws := ws_JMath_min) B.pre
  have hts := gd_tl hts0
  clear hts0
  have hown : s.vm.findClass "java/lang/Math" = some m.cls := findClass_of_methodNamed B.named
  have hlocks := B.notSynchronized
  subst hsz
  have hD := hD0.self (sz := s.heap.size)
  generalize hAe : va_A [] s.heap.size = A at hD ⊢
  have hA : ∀ q : Nat, s.heap.size ≤ q → A q := fun q h => by rw [← hAe]; exact Or.inr h
  have hS : va_S A s.heap s.heap [] := va_S.rf
  have hP : va_P D classes [] s.heap := hP
  have hl := lv_entry ([.int l0, .int l1]) (n := 2) (Nat.le_of_ble_eq_true rfl)
  rw [lg_entry_eq]
  generalize (lg_sl ([.int l0, .int l1]) ++ List.replicate (2 - (lg_sl ([.int l0, .int l1])).length) Slot.unset).toArray = ls at hl ⊢
  have hl : lv_has ls 2 [(0, .int l0), (1, .int l1)] := hl
  have C : Cx p s m ([.int l0, .int l1] : List Value).toArray c b_JMath_min 2 "java/lang/Math" D [(cI, .int), (cL, .long), (cZ, .boolean)] A := ⟨hx, hb, hml, hown, hts, hK, hA⟩
  refine w_JMath_min_b0 (res := (rv)) C ?_ () h s.heap [] ls hl hP hD hS
  intro pc9 H9 locs9 ls9 rv9 e9 d9 hP9 hD9 hS9
  cases e9
  exact W.iret (v := rv) hx hb hr (fun t ht hW => ⟨⟨rv, (), rfl, rfl, by rw [ht]; exact hP9, va_K.moved hW.alike hK, hD9⟩, hS9.F ht⟩) hS9.2.2 d9
