abbrev b_Row_empty : ByteArray := prog_5_method_2_code
def ws_Row_empty : List Cond := .code ({ cls := "PrefixMill$Row", name := "empty", desc := "()V" } : Jvm.MethodName) b_Row_empty 1 none :: tt
theorem d_Row_empty_0 : decode b_Row_empty 0 = .ok (.aload_n 0, 1) := by decide +kernel
theorem d_Row_empty_1 : decode b_Row_empty 1 = .ok (.iconst 0, 1) := by decide +kernel
theorem d_Row_empty_2 : decode b_Row_empty 2 = .ok (.putfield 17, 3) := by decide +kernel
theorem d_Row_empty_5 : decode b_Row_empty 5 = .ok (.return_, 1) := by decide +kernel
def f_Row_empty (N : Nat)   (i_used : Int32) : Option (Int32) :=
  some (0)
abbrev R_Row_empty : Room := ({ frames := 0, cells := 0, slots := 0, locals := 0 } : Room)
def E_Row_empty (p : Program) (l : Launch) (e : Env) (s : State) (m : MethodId) (args : Array Value) (below : List Frame) (meth : Method) (c : Code) (Q : State → Prop) (A : Nat → Prop) (D : va_G) (cI cL cZ : ClassId) (a_this : Nat) (o_words : Nat) (i_room : Int32) (i_held : Int32) (i_many : Int32) (res : Int32) : Prop := ∀ (pc : Nat) (H : Heap) (locs : List Loc) (ls : Array Slot) (i_used : Int32), some (i_used) = some res → decode b_Row_empty pc = .ok (.return_, 1) → va_P D classes [(a_this, .inr (5, [.ref o_words, .int i_room, .int i_used, .int i_held, .int i_many]))] H → va_D A [(a_this, .inr (5, [.ref o_words, .int i_room, .int i_used, .int i_held, .int i_many]))] → va_S A s.heap H locs → W p l e R_Row_empty s m args below meth c H locs 0 0 Q (F0 m pc ls [])
def I_Row_empty_b0 (p : Program) (l : Launch) (e : Env) (s : State) (m : MethodId) (args : Array Value) (below : List Frame) (meth : Method) (c : Code) (Q : State → Prop) (A : Nat → Prop) (D : va_G) (cI cL cZ : ClassId) (a_this : Nat) (o_words : Nat) (i_room : Int32) (i_held : Int32) (i_many : Int32) (res : Int32) (kf : Int32 → Option (Int32)) : Prop := ∀ (i_used : Int32), kf i_used = some res → ∀ (H : Heap) (locs : List Loc) (ls : Array Slot), lv_has ls 1 [(0, .ref a_this)] → va_P D classes [(a_this, .inr (5, [.ref o_words, .int i_room, .int i_used, .int i_held, .int i_many]))] H → va_D A [(a_this, .inr (5, [.ref o_words, .int i_room, .int i_used, .int i_held, .int i_many]))] → va_S A s.heap H locs → W p l e R_Row_empty s m args below meth c H locs 0 0 Q (F0 m 0 ls [])
set_option maxHeartbeats 4000000 in
set_option maxRecDepth 100000 in
theorem w_Row_empty_b0 {p : Program} {l : Launch} {e : Env} {s : State} {m : MethodId} {args : Array Value} {below : List Frame} {meth : Method} {c : Code} {Q : State → Prop} {A : Nat → Prop} {D : va_G} {cI cL cZ : ClassId} {a_this : Nat} {o_words : Nat} {i_room : Int32} {i_held : Int32} {i_many : Int32} {N : Nat} {res : Int32}  (C : Cx p s m args c b_Row_empty 1 "PrefixMill$Row" D [(cI, .int), (cL, .long), (cZ, .boolean)] A) (hret : E_Row_empty p l e s m args below meth c Q A D cI cL cZ a_this o_words i_room i_held i_many res)  : I_Row_empty_b0 p l e s m args below meth c Q A D cI cL cZ a_this o_words i_room i_held i_many res (f_Row_empty N  ) := by
  obtain ⟨hx, hb, hml, hown, hts, hK, hA⟩ := C
  intro i_used h H locs ls hl hP hD hS
  unfold f_Row_empty at h
  refine lv_aload_n hx hb d_Row_empty_0 rfl (lv_at hl 0 rfl) ?_
  refine lv_iconst (v := 0) hx hb d_Row_empty_1 (by decide) ?_
  refine va_put (v := .int 0) (ty := .int) hx hb hts in_Row t_Row t_Row_ok n_Row hown hK hP hD hS 0 rfl rfl 2 (by decide) (hts _ m_96) (fun _ h9 => h9) rfl (by decide +kernel) rfl rfl (Nat.le_of_ble_eq_true rfl) d_Row_empty_2 (fun H locs hP hD hS => ?_)
  have hP : va_P D classes [(a_this, .inr (5, [.ref o_words, .int i_room, .int 0, .int i_held, .int i_many]))] H := by exact hP
  have hD : va_D A [(a_this, .inr (5, [.ref o_words, .int i_room, .int 0, .int i_held, .int i_many]))] := by exact hD
  exact hret _ _ _ _ 0 h d_Row_empty_5 hP hD hS
set_option maxHeartbeats 4000000 in
set_option maxRecDepth 100000 in
theorem c_Row_empty (l : Launch) (D : va_G) (cI cL cZ : ClassId) (sz N : Nat) (a_this : Nat) (o_words : Nat) (i_room : Int32) (i_used : Int32) (i_held : Int32) (i_many : Int32) (i_used' : Int32) (h : f_Row_empty N  i_used = some (i_used')) : Met l ({ cls := "PrefixMill$Row", name := "empty", desc := "()V" } : Jvm.MethodName) ws_Row_empty R_Row_empty (va_Pc [.ref a_this] (fun U => U.heap.size = sz ∧ va_P D classes [(a_this, .inr (5, [.ref o_words, .int i_room, .int i_used, .int i_held, .int i_many]))] U.heap ∧ va_K D classes [(cI, .int), (cL, .long), (cZ, .boolean)] U ∧ va_D (fun _ => True) [(a_this, .inr (5, [.ref o_words, .int i_room, .int i_used, .int i_held, .int i_many]))])) (va_Qv (fun _ : Unit => True) (fun _ t => va_P D classes [(a_this, .inr (5, [.ref o_words, .int i_room, .int i_used', .int i_held, .int i_many]))] t.heap ∧ va_K D classes [(cI, .int), (cL, .long), (cZ, .boolean)] t ∧ va_D (va_A [(a_this, .inr (5, [.ref o_words, .int i_room, .int i_used, .int i_held, .int i_many]))] sz) [(a_this, .inr (5, [.ref o_words, .int i_room, .int i_used', .int i_held, .int i_many]))]) (va_A [(a_this, .inr (5, [.ref o_words, .int i_room, .int i_used, .int i_held, .int i_many]))] sz)) 0 0 (va_A [(a_this, .inr (5, [.ref o_words, .int i_room, .int i_used, .int i_held, .int i_many]))] sz) := by
  refine Met.ofW (cc := b_Row_empty) (maxL := 1) (ret := none) (by decide) rfl ?_
  intro p e s m args below meth c s₁ B hml hv
  obtain ⟨rfl, hsz, hP, hK, hD0⟩ := hv
  have hx := B.exec
  have hb := B.bytes
  have hr := B.returns
  have hts0 := atoms_spec (ws := ws_Row_empty) B.pre
  have hts := gd_tl hts0
  clear hts0
  have hown : s.vm.findClass "PrefixMill$Row" = some m.cls := findClass_of_methodNamed B.named
  have hlocks := B.notSynchronized
  subst hsz
  have hD := hD0.self (sz := s.heap.size)
  generalize hAe : va_A [(a_this, .inr (5, [.ref o_words, .int i_room, .int i_used, .int i_held, .int i_many]))] s.heap.size = A at hD ⊢
  have hA : ∀ q : Nat, s.heap.size ≤ q → A q := fun q h => by rw [← hAe]; exact Or.inr h
  have hS : va_S A s.heap s.heap [] := va_S.rf
  have hP : va_P D classes [(a_this, .inr (5, [.ref o_words, .int i_room, .int i_used, .int i_held, .int i_many]))] s.heap := hP
  have hl := lv_entry ([.ref a_this]) (n := 1) (Nat.le_of_ble_eq_true rfl)
  rw [lg_entry_eq]
  generalize (lg_sl ([.ref a_this]) ++ List.replicate (1 - (lg_sl ([.ref a_this])).length) Slot.unset).toArray = ls at hl ⊢
  have hl : lv_has ls 1 [(0, .ref a_this)] := hl
  have C : Cx p s m ([.ref a_this] : List Value).toArray c b_Row_empty 1 "PrefixMill$Row" D [(cI, .int), (cL, .long), (cZ, .boolean)] A := ⟨hx, hb, hml, hown, hts, hK, hA⟩
  refine w_Row_empty_b0 (res := (i_used')) C ?_ _ h s.heap [] ls hl hP hD hS
  intro pc9 H9 locs9 ls9 i_used9 e9 d9 hP9 hD9 hS9
  cases e9
  exact W.vret hx hb hr (fun t ht hW => ⟨⟨(), rfl, trivial, by rw [ht]; exact hP9, va_K.moved hW.alike hK, hD9⟩, hS9.F ht⟩) hS9.2.2 d9
