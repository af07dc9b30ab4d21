abbrev b_Tree_plant : ByteArray := prog_9_method_2_code
def ws_Tree_plant : List Cond := .code ({ cls := "PrefixMill$Tree", name := "plant", desc := "([I)I" } : Jvm.MethodName) b_Tree_plant 3 (some .int) :: tt
theorem d_Tree_plant_0 : decode b_Tree_plant 0 = .ok (.aload_n 0, 1) := by decide +kernel
theorem d_Tree_plant_1 : decode b_Tree_plant 1 = .ok (.iconst 0, 1) := by decide +kernel
theorem d_Tree_plant_2 : decode b_Tree_plant 2 = .ok (.putfield 36, 3) := by decide +kernel
theorem d_Tree_plant_5 : decode b_Tree_plant 5 = .ok (.iconst 0, 1) := by decide +kernel
theorem d_Tree_plant_6 : decode b_Tree_plant 6 = .ok (.istore_n 2, 1) := by decide +kernel
theorem d_Tree_plant_7 : decode b_Tree_plant 7 = .ok (.iload_n 2, 1) := by decide +kernel
theorem d_Tree_plant_8 : decode b_Tree_plant 8 = .ok (.sipush 256, 3) := by decide +kernel
theorem d_Tree_plant_11 : decode b_Tree_plant 11 = .ok (.if_icmp .ge 34, 3) := by decide +kernel
theorem d_Tree_plant_14 : decode b_Tree_plant 14 = .ok (.aload_n 0, 1) := by decide +kernel
theorem d_Tree_plant_15 : decode b_Tree_plant 15 = .ok (.getfield 15, 3) := by decide +kernel
theorem d_Tree_plant_18 : decode b_Tree_plant 18 = .ok (.iload_n 2, 1) := by decide +kernel
theorem d_Tree_plant_19 : decode b_Tree_plant 19 = .ok (.aload_n 1, 1) := by decide +kernel
theorem d_Tree_plant_20 : decode b_Tree_plant 20 = .ok (.iload_n 2, 1) := by decide +kernel
theorem d_Tree_plant_21 : decode b_Tree_plant 21 = .ok (.iaload, 1) := by decide +kernel
theorem d_Tree_plant_22 : decode b_Tree_plant 22 = .ok (.iastore, 1) := by decide +kernel
theorem d_Tree_plant_23 : decode b_Tree_plant 23 = .ok (.aload_n 1, 1) := by decide +kernel
theorem d_Tree_plant_24 : decode b_Tree_plant 24 = .ok (.iload_n 2, 1) := by decide +kernel
theorem d_Tree_plant_25 : decode b_Tree_plant 25 = .ok (.iaload, 1) := by decide +kernel
theorem d_Tree_plant_26 : decode b_Tree_plant 26 = .ok (.ifCond .le 13, 3) := by decide +kernel
theorem d_Tree_plant_29 : decode b_Tree_plant 29 = .ok (.aload_n 0, 1) := by decide +kernel
theorem d_Tree_plant_30 : decode b_Tree_plant 30 = .ok (.dup, 1) := by decide +kernel
theorem d_Tree_plant_31 : decode b_Tree_plant 31 = .ok (.getfield 36, 3) := by decide +kernel
theorem d_Tree_plant_34 : decode b_Tree_plant 34 = .ok (.iconst 1, 1) := by decide +kernel
theorem d_Tree_plant_35 : decode b_Tree_plant 35 = .ok (.iadd, 1) := by decide +kernel
theorem d_Tree_plant_36 : decode b_Tree_plant 36 = .ok (.putfield 36, 3) := by decide +kernel
theorem d_Tree_plant_39 : decode b_Tree_plant 39 = .ok (.iinc 2 1, 3) := by decide +kernel
theorem d_Tree_plant_42 : decode b_Tree_plant 42 = .ok (.goto (-35), 3) := by decide +kernel
theorem d_Tree_plant_45 : decode b_Tree_plant 45 = .ok (.aload_n 0, 1) := by decide +kernel
theorem d_Tree_plant_46 : decode b_Tree_plant 46 = .ok (.getfield 36, 3) := by decide +kernel
theorem d_Tree_plant_49 : decode b_Tree_plant 49 = .ok (.ireturn, 1) := by decide +kernel
abbrev R_Tree_plant : Room := ({ frames := 0, cells := 0, slots := 0, locals := 0 } : Room)
def E_Tree_plant (p : Program) (l : Launch) (e : Env) (s : State) (m : MethodId) (args : Array Value) (below : List Frame) (meth : Method) (c : Code) (Q : State → Prop) (A : Nat → Prop) (D : va_G) (cI cL cZ : ClassId) (a_this : Nat) (a_halves : Nat) (a_p1 : Nat) (o_lengths : Nat) (o_leaves : Nat) (o_sorted : Nat) (o_starts : Nat) (o_sums : Nat) (o_above : Nat) (o_depths : Nat) (i_nextLeaf : Int32) (i_nextSum : Int32) (n_p1 : Nat) (v_p1 : Nat → Int32) (res : Int32 × Int32 × (Nat → Int32)) : Prop := ∀ (pc : Nat) (H : Heap) (locs : List Loc) (ls : Array Slot) (rv : Int32) (i_known : Int32) (v_halves : Nat → Int32), some (rv, i_known, v_halves) = some res → decode b_Tree_plant pc = .ok (.ireturn, 1) → va_P D classes [(a_this, .inr (9, [.ref o_lengths, .ref a_halves, .ref o_leaves, .ref o_sorted, .ref o_starts, .ref o_sums, .ref o_above, .ref o_depths, .int i_known, .int i_nextLeaf, .int i_nextSum])), (a_halves, .inl (cI, 256, .inl v_halves)), (a_p1, .inl (cI, n_p1, .inl v_p1))] H → va_D A [(a_this, .inr (9, [.ref o_lengths, .ref a_halves, .ref o_leaves, .ref o_sorted, .ref o_starts, .ref o_sums, .ref o_above, .ref o_depths, .int i_known, .int i_nextLeaf, .int i_nextSum])), (a_halves, .inl (cI, 256, .inl v_halves)), (a_p1, .inl (cI, n_p1, .inl v_p1))] → va_S A s.heap H locs → W p l e R_Tree_plant s m args below meth c H locs 0 0 Q (F0 m pc ls [.int rv])
def I_Tree_plant_b39 (p : Program) (l : Launch) (e : Env) (s : State) (m : MethodId) (args : Array Value) (below : List Frame) (meth : Method) (c : Code) (Q : State → Prop) (A : Nat → Prop) (D : va_G) (cI cL cZ : ClassId) (a_this : Nat) (a_halves : Nat) (a_p1 : Nat) (o_lengths : Nat) (o_leaves : Nat) (o_sorted : Nat) (o_starts : Nat) (o_sums : Nat) (o_above : Nat) (o_depths : Nat) (i_nextLeaf : Int32) (i_nextSum : Int32) (n_p1 : Nat) (v_p1 : Nat → Int32) (res : Int32 × Int32 × (Nat → Int32)) (kf : Int32 → Int32 → (Nat → Int32) → Option (Int32 × Int32 × (Nat → Int32))) : Prop := ∀ (l2 : Int32) (i_known : Int32) (v_halves : Nat → Int32), kf l2 i_known v_halves = some res → ∀ (H : Heap) (locs : List Loc) (ls : Array Slot), lv_has ls 3 [(0, .ref a_this), (1, .ref a_p1), (2, .int l2)] → va_P D classes [(a_this, .inr (9, [.ref o_lengths, .ref a_halves, .ref o_leaves, .ref o_sorted, .ref o_starts, .ref o_sums, .ref o_above, .ref o_depths, .int i_known, .int i_nextLeaf, .int i_nextSum])), (a_halves, .inl (cI, 256, .inl v_halves)), (a_p1, .inl (cI, n_p1, .inl v_p1))] H → va_D A [(a_this, .inr (9, [.ref o_lengths, .ref a_halves, .ref o_leaves, .ref o_sorted, .ref o_starts, .ref o_sums, .ref o_above, .ref o_depths, .int i_known, .int i_nextLeaf, .int i_nextSum])), (a_halves, .inl (cI, 256, .inl v_halves)), (a_p1, .inl (cI, n_p1, .inl v_p1))] → va_S A s.heap H locs → W p l e R_Tree_plant s m args below meth c H locs 0 0 Q (F0 m 39 ls [])
def I_Tree_plant_b45 (p : Program) (l : Launch) (e : Env) (s : State) (m : MethodId) (args : Array Value) (below : List Frame) (meth : Method) (c : Code) (Q : State → Prop) (A : Nat → Prop) (D : va_G) (cI cL cZ : ClassId) (a_this : Nat) (a_halves : Nat) (a_p1 : Nat) (o_lengths : Nat) (o_leaves : Nat) (o_sorted : Nat) (o_starts : Nat) (o_sums : Nat) (o_above : Nat) (o_depths : Nat) (i_nextLeaf : Int32) (i_nextSum : Int32) (n_p1 : Nat) (v_p1 : Nat → Int32) (res : Int32 × Int32 × (Nat → Int32)) (kf : Int32 → (Nat → Int32) → Option (Int32 × Int32 × (Nat → Int32))) : Prop := ∀ (i_known : Int32) (v_halves : Nat → Int32), kf i_known v_halves = some res → ∀ (H : Heap) (locs : List Loc) (ls : Array Slot), lv_has ls 3 [(0, .ref a_this)] → va_P D classes [(a_this, .inr (9, [.ref o_lengths, .ref a_halves, .ref o_leaves, .ref o_sorted, .ref o_starts, .ref o_sums, .ref o_above, .ref o_depths, .int i_known, .int i_nextLeaf, .int i_nextSum])), (a_halves, .inl (cI, 256, .inl v_halves)), (a_p1, .inl (cI, n_p1, .inl v_p1))] H → va_D A [(a_this, .inr (9, [.ref o_lengths, .ref a_halves, .ref o_leaves, .ref o_sorted, .ref o_starts, .ref o_sums, .ref o_above, .ref o_depths, .int i_known, .int i_nextLeaf, .int i_nextSum])), (a_halves, .inl (cI, 256, .inl v_halves)), (a_p1, .inl (cI, n_p1, .inl v_p1))] → va_S A s.heap H locs → W p l e R_Tree_plant s m args below meth c H locs 0 0 Q (F0 m 45 ls [])
def I_Tree_plant_b7 (p : Program) (l : Launch) (e : Env) (s : State) (m : MethodId) (args : Array Value) (below : List Frame) (meth : Method) (c : Code) (Q : State → Prop) (A : Nat → Prop) (D : va_G) (cI cL cZ : ClassId) (a_this : Nat) (a_halves : Nat) (a_p1 : Nat) (o_lengths : Nat) (o_leaves : Nat) (o_sorted : Nat) (o_starts : Nat) (o_sums : Nat) (o_above : Nat) (o_depths : Nat) (i_nextLeaf : Int32) (i_nextSum : Int32) (n_p1 : Nat) (v_p1 : Nat → Int32) (res : Int32 × Int32 × (Nat → Int32)) (kf : Int32 → Int32 → (Nat → Int32) → Option (Int32 × Int32 × (Nat → Int32))) : Prop := ∀ (l2 : Int32) (i_known : Int32) (v_halves : Nat → Int32), kf l2 i_known v_halves = some res → ∀ (H : Heap) (locs : List Loc) (ls : Array Slot), lv_has ls 3 [(0, .ref a_this), (1, .ref a_p1), (2, .int l2)] → va_P D classes [(a_this, .inr (9, [.ref o_lengths, .ref a_halves, .ref o_leaves, .ref o_sorted, .ref o_starts, .ref o_sums, .ref o_above, .ref o_depths, .int i_known, .int i_nextLeaf, .int i_nextSum])), (a_halves, .inl (cI, 256, .inl v_halves)), (a_p1, .inl (cI, n_p1, .inl v_p1))] H → va_D A [(a_this, .inr (9, [.ref o_lengths, .ref a_halves, .ref o_leaves, .ref o_sorted, .ref o_starts, .ref o_sums, .ref o_above, .ref o_depths, .int i_known, .int i_nextLeaf, .int i_nextSum])), (a_halves, .inl (cI, 256, .inl v_halves)), (a_p1, .inl (cI, n_p1, .inl v_p1))] → va_S A s.heap H locs → W p l e R_Tree_plant s m args below meth c H locs 0 0 Q (F0 m 7 ls [])
def I_Tree_plant_b0 (p : Program) (l : Launch) (e : Env) (s : State) (m : MethodId) (args : Array Value) (below : List Frame) (meth : Method) (c : Code) (Q : State → Prop) (A : Nat → Prop) (D : va_G) (cI cL cZ : ClassId) (a_this : Nat) (a_halves : Nat) (a_p1 : Nat) (o_lengths : Nat) (o_leaves : Nat) (o_sorted : Nat) (o_starts : Nat) (o_sums : Nat) (o_above : Nat) (o_depths : Nat) (i_nextLeaf : Int32) (i_nextSum : Int32) (n_p1 : Nat) (v_p1 : Nat → Int32) (res : Int32 × Int32 × (Nat → Int32)) (kf : Int32 → (Nat → Int32) → Option (Int32 × Int32 × (Nat → Int32))) : Prop := ∀ (i_known : Int32) (v_halves : Nat → Int32), kf i_known v_halves = some res → ∀ (H : Heap) (locs : List Loc) (ls : Array Slot), lv_has ls 3 [(0, .ref a_this), (1, .ref a_p1)] → va_P D classes [(a_this, .inr (9, [.ref o_lengths, .ref a_halves, .ref o_leaves, .ref o_sorted, .ref o_starts, .ref o_sums, .ref o_above, .ref o_depths, .int i_known, .int i_nextLeaf, .int i_nextSum])), (a_halves, .inl (cI, 256, .inl v_halves)), (a_p1, .inl (cI, n_p1, .inl v_p1))] H → va_D A [(a_this, .inr (9, [.ref o_lengths, .ref a_halves, .ref o_leaves, .ref o_sorted, .ref o_starts, .ref o_sums, .ref o_above, .ref o_depths, .int i_known, .int i_nextLeaf, .int i_nextSum])), (a_halves, .inl (cI, 256, .inl v_halves)), (a_p1, .inl (cI, n_p1, .inl v_p1))] → va_S A s.heap H locs → W p l e R_Tree_plant s m args below meth c H locs 0 0 Q (F0 m 0 ls [])
set_option maxHeartbeats 4000000 in
set_option maxRecDepth 100000 in
theorem w_Tree_plant_b39 {p : Program} {l : Launch} {e : Env} {s : State} {m : MethodId} {args : Array Value} {below : List Frame} {meth : Method} {c : Code} {Q : State → Prop} {A : Nat → Prop} {D : va_G} {cI cL cZ : ClassId} {a_this : Nat} {a_halves : Nat} {a_p1 : Nat} {o_lengths : Nat} {o_leaves : Nat} {o_sorted : Nat} {o_starts : Nat} {o_sums : Nat} {o_above : Nat} {o_depths : Nat} {i_nextLeaf : Int32} {i_nextSum : Int32} {n_p1 : Nat} {v_p1 : Nat → Int32} {N : Nat} {res : Int32 × Int32 × (Nat → Int32)} {k7 : Int32 → Int32 → (Nat → Int32) → Option (Int32 × Int32 × (Nat → Int32))} (C : Cx p s m args c b_Tree_plant 3 "PrefixMill$Tree" D [(cI, .int), (cL, .long), (cZ, .boolean)] A) (hret : E_Tree_plant p l e s m args below meth c Q A D cI cL cZ a_this a_halves a_p1 o_lengths o_leaves o_sorted o_starts o_sums o_above o_depths i_nextLeaf i_nextSum n_p1 v_p1 res) (hk7 : I_Tree_plant_b7 p l e s m args below meth c Q A D cI cL cZ a_this a_halves a_p1 o_lengths o_leaves o_sorted o_starts o_sums o_above o_depths i_nextLeaf i_nextSum n_p1 v_p1 res k7) : I_Tree_plant_b39 p l e s m args below meth c Q A D cI cL cZ a_this a_halves a_p1 o_lengths o_leaves o_sorted o_starts o_sums o_above o_depths i_nextLeaf i_nextSum n_p1 v_p1 res (f_Tree_plant_b39 N n_p1 v_p1 k7) := by
  obtain ⟨hx, hb, hml, hown, hts, hK, hA⟩ := C
  intro l2 i_known v_halves h H locs ls hl hP hD hS
  unfold f_Tree_plant_b39 at h
  obtain ⟨l2_1, el2_1⟩ : ∃ y : Int32, y = l2 + 1 := ⟨_, rfl⟩
  replace h := nm_s h el2_1
  refine lv_iinc (v := l2_1) (lv' := [(2, .int l2_1), (0, .ref a_this), (1, .ref a_p1)]) hx hb d_Tree_plant_39 hl (k := 2) rfl (by rw [el2_1]; rfl) (by decide) rfl (fun ls hl => ?_)
  refine lv_goto (tgt := 7) hx hb d_Tree_plant_42 (by decide) ?_
  exact hk7 _ _ _ h H locs ls (lv_sub hl [1, 2, 0] rfl) hP hD hS
set_option maxHeartbeats 4000000 in
set_option maxRecDepth 100000 in
theorem w_Tree_plant_b45 {p : Program} {l : Launch} {e : Env} {s : State} {m : MethodId} {args : Array Value} {below : List Frame} {meth : Method} {c : Code} {Q : State → Prop} {A : Nat → Prop} {D : va_G} {cI cL cZ : ClassId} {a_this : Nat} {a_halves : Nat} {a_p1 : Nat} {o_lengths : Nat} {o_leaves : Nat} {o_sorted : Nat} {o_starts : Nat} {o_sums : Nat} {o_above : Nat} {o_depths : Nat} {i_nextLeaf : Int32} {i_nextSum : Int32} {n_p1 : Nat} {v_p1 : Nat → Int32} {N : Nat} {res : Int32 × Int32 × (Nat → Int32)}  (C : Cx p s m args c b_Tree_plant 3 "PrefixMill$Tree" D [(cI, .int), (cL, .long), (cZ, .boolean)] A) (hret : E_Tree_plant p l e s m args below meth c Q A D cI cL cZ a_this a_halves a_p1 o_lengths o_leaves o_sorted o_starts o_sums o_above o_depths i_nextLeaf i_nextSum n_p1 v_p1 res)  : I_Tree_plant_b45 p l e s m args below meth c Q A D cI cL cZ a_this a_halves a_p1 o_lengths o_leaves o_sorted o_starts o_sums o_above o_depths i_nextLeaf i_nextSum n_p1 v_p1 res (f_Tree_plant_b45 N n_p1 v_p1 ) := by
  obtain ⟨hx, hb, hml, hown, hts, hK, hA⟩ := C
  intro i_known v_halves h H locs ls hl hP hD hS
  unfold f_Tree_plant_b45 at h
  refine lv_aload_n hx hb d_Tree_plant_45 rfl (lv_at hl 0 rfl) ?_
  refine va_get hx hb hts in_Tree hown hK hP 0 rfl rfl 8 (by decide) (hts _ m_165) (fun _ h9 => h9) rfl d_Tree_plant_46 ?_
  exact hret _ _ _ _ i_known i_known v_halves h d_Tree_plant_49 hP hD hS
set_option maxHeartbeats 4000000 in
set_option maxRecDepth 100000 in
theorem w_Tree_plant_b7 {p : Program} {l : Launch} {e : Env} {s : State} {m : MethodId} {args : Array Value} {below : List Frame} {meth : Method} {c : Code} {Q : State → Prop} {A : Nat → Prop} {D : va_G} {cI cL cZ : ClassId} {a_this : Nat} {a_halves : Nat} {a_p1 : Nat} {o_lengths : Nat} {o_leaves : Nat} {o_sorted : Nat} {o_starts : Nat} {o_sums : Nat} {o_above : Nat} {o_depths : Nat} {i_nextLeaf : Int32} {i_nextSum : Int32} {n_p1 : Nat} {v_p1 : Nat → Int32} {N : Nat} {res : Int32 × Int32 × (Nat → Int32)}  (C : Cx p s m args c b_Tree_plant 3 "PrefixMill$Tree" D [(cI, .int), (cL, .long), (cZ, .boolean)] A) (hret : E_Tree_plant p l e s m args below meth c Q A D cI cL cZ a_this a_halves a_p1 o_lengths o_leaves o_sorted o_starts o_sums o_above o_depths i_nextLeaf i_nextSum n_p1 v_p1 res)  : ∀ z : Nat, I_Tree_plant_b7 p l e s m args below meth c Q A D cI cL cZ a_this a_halves a_p1 o_lengths o_leaves o_sorted o_starts o_sums o_above o_depths i_nextLeaf i_nextSum n_p1 v_p1 res (f_Tree_plant_b7 N n_p1 v_p1  z) := by
  obtain ⟨hx, hb, hml, hown, hts, hK, hA⟩ := C
  intro z
  induction z with
  | zero => intro l2 i_known v_halves h; cases h
  | succ z ih =>
    intro l2 i_known v_halves h H locs ls hl hP hD hS
    refine lv_iload_n hx hb d_Tree_plant_7 rfl (lv_at hl 2 rfl) ?_
    refine lv_sipush (v := 256) hx hb d_Tree_plant_8 (by decide) ?_
    refine lv_icmp_ge (tgt := 45) hx hb d_Tree_plant_11 (by decide) (fun c_1 => ?_) (fun c_1 => ?_)
    · replace h := if_t h c_1
      exact w_Tree_plant_b45 ⟨hx, hb, hml, hown, hts, hK, hA⟩ hret  _ _ h H locs ls (lv_sub hl [0] rfl) hP hD hS
    · replace h := if_f h c_1
      refine lv_aload_n hx hb d_Tree_plant_14 rfl (lv_at hl 0 rfl) ?_
      refine va_get hx hb hts in_Tree hown hK hP 0 rfl rfl 1 (by decide) (hts _ m_158) (fun _ h9 => h9) rfl d_Tree_plant_15 ?_
      refine lv_iload_n hx hb d_Tree_plant_18 rfl (lv_at hl 2 rfl) ?_
      refine lv_aload_n hx hb d_Tree_plant_19 rfl (lv_at hl 1 rfl) ?_
      refine lv_iload_n hx hb d_Tree_plant_20 rfl (lv_at hl 2 rfl) ?_
      obtain ⟨g_2, h⟩ := ck_s h
      refine va_iald hx hb hK hP 2 0 rfl rfl (inb_s g_2) d_Tree_plant_21 ?_
      obtain ⟨g_3, h⟩ := ck_s h
      refine va_iast hx hb hK hP hD hS 1 0 rfl rfl (inb_s g_3) d_Tree_plant_22 (fun H locs hP hD hS => ?_)
      obtain ⟨v_halves_4, ev_halves_4⟩ : ∃ y, y = (upd v_halves (Int32.toNatClampNeg l2) (v_p1 (Int32.toNatClampNeg l2))) := ⟨_, rfl⟩
      replace h := nm_s h ev_halves_4
      have hP : va_P D classes [(a_this, .inr (9, [.ref o_lengths, .ref a_halves, .ref o_leaves, .ref o_sorted, .ref o_starts, .ref o_sums, .ref o_above, .ref o_depths, .int i_known, .int i_nextLeaf, .int i_nextSum])), (a_halves, .inl (cI, 256, .inl v_halves_4)), (a_p1, .inl (cI, n_p1, .inl v_p1))] H := by rw [ev_halves_4]; exact hP
      have hD : va_D A [(a_this, .inr (9, [.ref o_lengths, .ref a_halves, .ref o_leaves, .ref o_sorted, .ref o_starts, .ref o_sums, .ref o_above, .ref o_depths, .int i_known, .int i_nextLeaf, .int i_nextSum])), (a_halves, .inl (cI, 256, .inl v_halves_4)), (a_p1, .inl (cI, n_p1, .inl v_p1))] := by rw [ev_halves_4]; exact hD
      refine lv_aload_n hx hb d_Tree_plant_23 rfl (lv_at hl 1 rfl) ?_
      refine lv_iload_n hx hb d_Tree_plant_24 rfl (lv_at hl 2 rfl) ?_
      obtain ⟨g_5, h⟩ := ck_s h
      refine va_iald hx hb hK hP 2 0 rfl rfl (inb_s g_5) d_Tree_plant_25 ?_
      refine lv_if_le (tgt := 39) hx hb d_Tree_plant_26 (by decide) (fun c_6 => ?_) (fun c_6 => ?_)
      · replace h := if_t h c_6
        exact w_Tree_plant_b39 ⟨hx, hb, hml, hown, hts, hK, hA⟩ hret ih _ _ _ h H locs ls (lv_sub hl [0, 1, 2] rfl) hP hD hS
      · replace h := if_f h c_6
        refine lv_aload_n hx hb d_Tree_plant_29 rfl (lv_at hl 0 rfl) ?_
        refine lv_dup hx hb d_Tree_plant_30 rfl ?_
        refine va_get hx hb hts in_Tree hown hK hP 0 rfl rfl 8 (by decide) (hts _ m_165) (fun _ h9 => h9) rfl d_Tree_plant_31 ?_
        refine lv_iconst (v := 1) hx hb d_Tree_plant_34 (by decide) ?_
        refine lv_iadd hx hb d_Tree_plant_35 ?_
        refine lv_topi (fun i_known_7 ei_known_7 => ?_)
        replace h := nm_s h ei_known_7
        refine va_put (v := .int i_known_7) (ty := .int) hx hb hts in_Tree t_Tree t_Tree_ok n_Tree hown hK hP hD hS 0 rfl rfl 8 (by decide) (hts _ m_165) (fun _ h9 => h9) rfl (by decide +kernel) rfl rfl (Nat.le_of_ble_eq_true rfl) d_Tree_plant_36 (fun H locs hP hD hS => ?_)
        have hP : va_P D classes [(a_this, .inr (9, [.ref o_lengths, .ref a_halves, .ref o_leaves, .ref o_sorted, .ref o_starts, .ref o_sums, .ref o_above, .ref o_depths, .int i_known_7, .int i_nextLeaf, .int i_nextSum])), (a_halves, .inl (cI, 256, .inl v_halves_4)), (a_p1, .inl (cI, n_p1, .inl v_p1))] H := by exact hP
        have hD : va_D A [(a_this, .inr (9, [.ref o_lengths, .ref a_halves, .ref o_leaves, .ref o_sorted, .ref o_starts, .ref o_sums, .ref o_above, .ref o_depths, .int i_known_7, .int i_nextLeaf, .int i_nextSum])), (a_halves, .inl (cI, 256, .inl v_halves_4)), (a_p1, .inl (cI, n_p1, .inl v_p1))] := by exact hD
        exact w_Tree_plant_b39 ⟨hx, hb, hml, hown, hts, hK, hA⟩ hret ih _ _ _ h H locs ls (lv_sub hl [0, 1, 2] rfl) hP hD hS
set_option maxHeartbeats 4000000 in
set_option maxRecDepth 100000 in
theorem w_Tree_plant_b0 {p : Program} {l : Launch} {e : Env} {s : State} {m : MethodId} {args : Array Value} {below : List Frame} {meth : Method} {c : Code} {Q : State → Prop} {A : Nat → Prop} {D : va_G} {cI cL cZ : ClassId} {a_this : Nat} {a_halves : Nat} {a_p1 : Nat} {o_lengths : Nat} {o_leaves : Nat} {o_sorted : Nat} {o_starts : Nat} {o_sums : Nat} {o_above : Nat} {o_depths : Nat} {i_nextLeaf : Int32} {i_nextSum : Int32} {n_p1 : Nat} {v_p1 : Nat → Int32} {N : Nat} {res : Int32 × Int32 × (Nat → Int32)}  (C : Cx p s m args c b_Tree_plant 3 "PrefixMill$Tree" D [(cI, .int), (cL, .long), (cZ, .boolean)] A) (hret : E_Tree_plant p l e s m args below meth c Q A D cI cL cZ a_this a_halves a_p1 o_lengths o_leaves o_sorted o_starts o_sums o_above o_depths i_nextLeaf i_nextSum n_p1 v_p1 res)  : I_Tree_plant_b0 p l e s m args below meth c Q A D cI cL cZ a_this a_halves a_p1 o_lengths o_leaves o_sorted o_starts o_sums o_above o_depths i_nextLeaf i_nextSum n_p1 v_p1 res (f_Tree_plant N n_p1 v_p1 ) := by
  obtain ⟨hx, hb, hml, hown, hts, hK, hA⟩ := C
  intro i_known v_halves h H locs ls hl hP hD hS
  unfold f_Tree_plant at h
  refine lv_aload_n hx hb d_Tree_plant_0 rfl (lv_at hl 0 rfl) ?_
  refine lv_iconst (v := 0) hx hb d_Tree_plant_1 (by decide) ?_
  refine va_put (v := .int 0) (ty := .int) hx hb hts in_Tree t_Tree t_Tree_ok n_Tree hown hK hP hD hS 0 rfl rfl 8 (by decide) (hts _ m_165) (fun _ h9 => h9) rfl (by decide +kernel) rfl rfl (Nat.le_of_ble_eq_true rfl) d_Tree_plant_2 (fun H locs hP hD hS => ?_)
  have hP : va_P D classes [(a_this, .inr (9, [.ref o_lengths, .ref a_halves, .ref o_leaves, .ref o_sorted, .ref o_starts, .ref o_sums, .ref o_above, .ref o_depths, .int 0, .int i_nextLeaf, .int i_nextSum])), (a_halves, .inl (cI, 256, .inl v_halves)), (a_p1, .inl (cI, n_p1, .inl v_p1))] H := by exact hP
  have hD : va_D A [(a_this, .inr (9, [.ref o_lengths, .ref a_halves, .ref o_leaves, .ref o_sorted, .ref o_starts, .ref o_sums, .ref o_above, .ref o_depths, .int 0, .int i_nextLeaf, .int i_nextSum])), (a_halves, .inl (cI, 256, .inl v_halves)), (a_p1, .inl (cI, n_p1, .inl v_p1))] := by exact hD
  refine lv_iconst (v := 0) hx hb d_Tree_plant_5 (by decide) ?_
  refine lv_istore_n (lv' := [(2, .int 0), (0, .ref a_this), (1, .ref a_p1)]) hx hb d_Tree_plant_6 rfl hl (by decide) rfl (fun ls hl => ?_)
  exact w_Tree_plant_b7 ⟨hx, hb, hml, hown, hts, hK, hA⟩ hret  N _ _ _ h H locs ls (lv_sub hl [1, 2, 0] rfl) hP hD hS
set_option maxHeartbeats 4000000 in
set_option maxRecDepth 100000 in
theorem c_Tree_plant (l : Launch) (D : va_G) (cI cL cZ : ClassId) (sz N : Nat) (a_this : Nat) (a_halves : Nat) (a_p1 : Nat) (o_lengths : Nat) (o_leaves : Nat) (o_sorted : Nat) (o_starts : Nat) (o_sums : Nat) (o_above : Nat) (o_depths : Nat) (i_known : Int32) (i_nextLeaf : Int32) (i_nextSum : Int32) (v_halves : Nat → Int32) (n_p1 : Nat) (v_p1 : Nat → Int32) (rv : Int32) (i_known' : Int32) (v_halves' : Nat → Int32) (h : f_Tree_plant N n_p1 v_p1 i_known v_halves = some (rv, i_known', v_halves')) : Met l ({ cls := "PrefixMill$Tree", name := "plant", desc := "([I)I" } : Jvm.MethodName) ws_Tree_plant R_Tree_plant (va_Pc [.ref a_this, .ref a_p1] (fun U => U.heap.size = sz ∧ va_P D classes [(a_this, .inr (9, [.ref o_lengths, .ref a_halves, .ref o_leaves, .ref o_sorted, .ref o_starts, .ref o_sums, .ref o_above, .ref o_depths, .int i_known, .int i_nextLeaf, .int i_nextSum])), (a_halves, .inl (cI, 256, .inl v_halves)), (a_p1, .inl (cI, n_p1, .inl v_p1))] U.heap ∧ va_K D classes [(cI, .int), (cL, .long), (cZ, .boolean)] U ∧ va_D (fun _ => True) [(a_this, .inr (9, [.ref o_lengths, .ref a_halves, .ref o_leaves, .ref o_sorted, .ref o_starts, .ref o_sums, .ref o_above, .ref o_depths, .int i_known, .int i_nextLeaf, .int i_nextSum])), (a_halves, .inl (cI, 256, .inl v_halves)), (a_p1, .inl (cI, n_p1, .inl v_p1))])) (va_Qi (fun (r0 : Int32) (_ : Unit) => rv = r0) (fun _ t => va_P D classes [(a_this, .inr (9, [.ref o_lengths, .ref a_halves, .ref o_leaves, .ref o_sorted, .ref o_starts, .ref o_sums, .ref o_above, .ref o_depths, .int i_known', .int i_nextLeaf, .int i_nextSum])), (a_halves, .inl (cI, 256, .inl v_halves')), (a_p1, .inl (cI, n_p1, .inl v_p1))] t.heap ∧ va_K D classes [(cI, .int), (cL, .long), (cZ, .boolean)] t ∧ va_D (va_A [(a_this, .inr (9, [.ref o_lengths, .ref a_halves, .ref o_leaves, .ref o_sorted, .ref o_starts, .ref o_sums, .ref o_above, .ref o_depths, .int i_known, .int i_nextLeaf, .int i_nextSum])), (a_halves, .inl (cI, 256, .inl v_halves)), (a_p1, .inl (cI, n_p1, .inl v_p1))] sz) [(a_this, .inr (9, [.ref o_lengths, .ref a_halves, .ref o_leaves, .ref o_sorted, .ref o_starts, .ref o_sums, .ref o_above, .ref o_depths, .int i_known', .int i_nextLeaf, .int i_nextSum])), (a_halves, .inl (cI, 256, .inl v_halves')), (a_p1, .inl (cI, n_p1, .inl v_p1))]) (va_A [(a_this, .inr (9, [.ref o_lengths, .ref a_halves, .ref o_leaves, .ref o_sorted, .ref o_starts, .ref o_sums, .ref o_above, .ref o_depths, .int i_known, .int i_nextLeaf, .int i_nextSum])), (a_halves, .inl (cI, 256, .inl v_halves)), (a_p1, .inl (cI, n_p1, .inl v_p1))] sz)) 0 0 (va_A [(a_this, .inr (9, [.ref o_lengths, .ref a_halves, .ref o_leaves, .ref o_sorted, .ref o_starts, .ref o_sums, .ref o_above, .ref o_depths, .int i_known, .int i_nextLeaf, .int i_nextSum])), (a_halves, .inl (cI, 256, .inl v_halves)), (a_p1, .inl (cI, n_p1, .inl v_p1))] sz) := by
  refine Met.ofW (cc := b_Tree_plant) (maxL := 3) (ret := (some .int)) (by decide) rfl ?_
  intro p e s m args below meth c s₁ B hml hv
  obtain ⟨rfl, hsz, hP, hK, hD0⟩ := hv
  have hx := B.exec
  have hb := B.bytes
  have hr := B.returns
  have hts0 := atoms_spec (ws := ws_Tree_plant) B.pre
  have hts := gd_tl hts0
  clear hts0
  have hown : s.vm.findClass "PrefixMill$Tree" = some m.cls := findClass_of_methodNamed B.named
  have hlocks := B.notSynchronized
  subst hsz
  have hD := hD0.self (sz := s.heap.size)
  generalize hAe : va_A [(a_this, .inr (9, [.ref o_lengths, .ref a_halves, .ref o_leaves, .ref o_sorted, .ref o_starts, .ref o_sums, .ref o_above, .ref o_depths, .int i_known, .int i_nextLeaf, .int i_nextSum])), (a_halves, .inl (cI, 256, .inl v_halves)), (a_p1, .inl (cI, n_p1, .inl v_p1))] s.heap.size = A at hD ⊢
  have hA : ∀ q : Nat, s.heap.size ≤ q → A q := fun q h => by rw [← hAe]; exact Or.inr h
  have hS : va_S A s.heap s.heap [] := va_S.rf
  have hP : va_P D classes [(a_this, .inr (9, [.ref o_lengths, .ref a_halves, .ref o_leaves, .ref o_sorted, .ref o_starts, .ref o_sums, .ref o_above, .ref o_depths, .int i_known, .int i_nextLeaf, .int i_nextSum])), (a_halves, .inl (cI, 256, .inl v_halves)), (a_p1, .inl (cI, n_p1, .inl v_p1))] s.heap := hP
  have hl := lv_entry ([.ref a_this, .ref a_p1]) (n := 3) (Nat.le_of_ble_eq_true rfl)
  rw [lg_entry_eq]
  generalize (lg_sl ([.ref a_this, .ref a_p1]) ++ List.replicate (3 - (lg_sl ([.ref a_this, .ref a_p1])).length) Slot.unset).toArray = ls at hl ⊢
  have hl : lv_has ls 3 [(0, .ref a_this), (1, .ref a_p1)] := hl
  have C : Cx p s m ([.ref a_this, .ref a_p1] : List Value).toArray c b_Tree_plant 3 "PrefixMill$Tree" D [(cI, .int), (cL, .long), (cZ, .boolean)] A := ⟨hx, hb, hml, hown, hts, hK, hA⟩
  refine w_Tree_plant_b0 (res := (rv, i_known', v_halves')) C ?_ _ _ h s.heap [] ls hl hP hD hS
  intro pc9 H9 locs9 ls9 rv9 i_known9 v_halves9 e9 d9 hP9 hD9 hS9
  cases e9
  exact W.iret (v := rv) hx hb hr (fun t ht hW => ⟨⟨rv, (), rfl, rfl, by rw [ht]; exact hP9, va_K.moved hW.alike hK, hD9⟩, hS9.F ht⟩) hS9.2.2 d9
abbrev b_Tree_sortByByte : ByteArray := prog_9_method_6_code
def ws_Tree_sortByByte : List Cond := .code ({ cls := "PrefixMill$Tree", name := "sortByByte", desc := "([I[II)V" } : Jvm.MethodName) b_Tree_sortByByte 6 none :: tt
theorem d_Tree_sortByByte_0 : decode b_Tree_sortByByte 0 = .ok (.aload_n 0, 1) := by decide +kernel
theorem d_Tree_sortByByte_1 : decode b_Tree_sortByByte 1 = .ok (.getfield 24, 3) := by decide +kernel
theorem d_Tree_sortByByte_4 : decode b_Tree_sortByByte 4 = .ok (.iconst 0, 1) := by decide +kernel
theorem d_Tree_sortByByte_5 : decode b_Tree_sortByByte 5 = .ok (.invokestatic 57, 3) := by decide +kernel
theorem d_Tree_sortByByte_8 : decode b_Tree_sortByByte 8 = .ok (.iconst 0, 1) := by decide +kernel
theorem d_Tree_sortByByte_9 : decode b_Tree_sortByByte 9 = .ok (.istore 4, 2) := by decide +kernel
theorem d_Tree_sortByByte_11 : decode b_Tree_sortByByte 11 = .ok (.iload 4, 2) := by decide +kernel
theorem d_Tree_sortByByte_13 : decode b_Tree_sortByByte 13 = .ok (.aload_n 0, 1) := by decide +kernel
theorem d_Tree_sortByByte_14 : decode b_Tree_sortByByte 14 = .ok (.getfield 36, 3) := by decide +kernel
theorem d_Tree_sortByByte_17 : decode b_Tree_sortByByte 17 = .ok (.if_icmp .ge 35, 3) := by decide +kernel
theorem d_Tree_sortByByte_20 : decode b_Tree_sortByByte 20 = .ok (.aload_n 0, 1) := by decide +kernel
theorem d_Tree_sortByByte_21 : decode b_Tree_sortByByte 21 = .ok (.getfield 24, 3) := by decide +kernel
theorem d_Tree_sortByByte_24 : decode b_Tree_sortByByte 24 = .ok (.aload_n 0, 1) := by decide +kernel
theorem d_Tree_sortByByte_25 : decode b_Tree_sortByByte 25 = .ok (.getfield 15, 3) := by decide +kernel
theorem d_Tree_sortByByte_28 : decode b_Tree_sortByByte 28 = .ok (.aload_n 1, 1) := by decide +kernel
theorem d_Tree_sortByByte_29 : decode b_Tree_sortByByte 29 = .ok (.iload 4, 2) := by decide +kernel
theorem d_Tree_sortByByte_31 : decode b_Tree_sortByByte 31 = .ok (.iaload, 1) := by decide +kernel
theorem d_Tree_sortByByte_32 : decode b_Tree_sortByByte 32 = .ok (.iaload, 1) := by decide +kernel
theorem d_Tree_sortByByte_33 : decode b_Tree_sortByByte 33 = .ok (.iload_n 3, 1) := by decide +kernel
theorem d_Tree_sortByByte_34 : decode b_Tree_sortByByte 34 = .ok (.ishr, 1) := by decide +kernel
theorem d_Tree_sortByByte_35 : decode b_Tree_sortByByte 35 = .ok (.sipush 255, 3) := by decide +kernel
theorem d_Tree_sortByByte_38 : decode b_Tree_sortByByte 38 = .ok (.iand, 1) := by decide +kernel
theorem d_Tree_sortByByte_39 : decode b_Tree_sortByByte 39 = .ok (.iconst 1, 1) := by decide +kernel
theorem d_Tree_sortByByte_40 : decode b_Tree_sortByByte 40 = .ok (.iadd, 1) := by decide +kernel
theorem d_Tree_sortByByte_41 : decode b_Tree_sortByByte 41 = .ok (.dup2, 1) := by decide +kernel
theorem d_Tree_sortByByte_42 : decode b_Tree_sortByByte 42 = .ok (.iaload, 1) := by decide +kernel
theorem d_Tree_sortByByte_43 : decode b_Tree_sortByByte 43 = .ok (.iconst 1, 1) := by decide +kernel
theorem d_Tree_sortByByte_44 : decode b_Tree_sortByByte 44 = .ok (.iadd, 1) := by decide +kernel
theorem d_Tree_sortByByte_45 : decode b_Tree_sortByByte 45 = .ok (.iastore, 1) := by decide +kernel
theorem d_Tree_sortByByte_46 : decode b_Tree_sortByByte 46 = .ok (.iinc 4 1, 3) := by decide +kernel
theorem d_Tree_sortByByte_49 : decode b_Tree_sortByByte 49 = .ok (.goto (-38), 3) := by decide +kernel
theorem d_Tree_sortByByte_52 : decode b_Tree_sortByByte 52 = .ok (.iconst 0, 1) := by decide +kernel
theorem d_Tree_sortByByte_53 : decode b_Tree_sortByByte 53 = .ok (.istore 4, 2) := by decide +kernel
theorem d_Tree_sortByByte_55 : decode b_Tree_sortByByte 55 = .ok (.iload 4, 2) := by decide +kernel
theorem d_Tree_sortByByte_57 : decode b_Tree_sortByByte 57 = .ok (.sipush 256, 3) := by decide +kernel
theorem d_Tree_sortByByte_60 : decode b_Tree_sortByByte 60 = .ok (.if_icmp .ge 28, 3) := by decide +kernel
theorem d_Tree_sortByByte_63 : decode b_Tree_sortByByte 63 = .ok (.aload_n 0, 1) := by decide +kernel
theorem d_Tree_sortByByte_64 : decode b_Tree_sortByByte 64 = .ok (.getfield 24, 3) := by decide +kernel
theorem d_Tree_sortByByte_67 : decode b_Tree_sortByByte 67 = .ok (.iload 4, 2) := by decide +kernel
theorem d_Tree_sortByByte_69 : decode b_Tree_sortByByte 69 = .ok (.iconst 1, 1) := by decide +kernel
theorem d_Tree_sortByByte_70 : decode b_Tree_sortByByte 70 = .ok (.iadd, 1) := by decide +kernel
theorem d_Tree_sortByByte_71 : decode b_Tree_sortByByte 71 = .ok (.dup2, 1) := by decide +kernel
theorem d_Tree_sortByByte_72 : decode b_Tree_sortByByte 72 = .ok (.iaload, 1) := by decide +kernel
theorem d_Tree_sortByByte_73 : decode b_Tree_sortByByte 73 = .ok (.aload_n 0, 1) := by decide +kernel
theorem d_Tree_sortByByte_74 : decode b_Tree_sortByByte 74 = .ok (.getfield 24, 3) := by decide +kernel
theorem d_Tree_sortByByte_77 : decode b_Tree_sortByByte 77 = .ok (.iload 4, 2) := by decide +kernel
theorem d_Tree_sortByByte_79 : decode b_Tree_sortByByte 79 = .ok (.iaload, 1) := by decide +kernel
theorem d_Tree_sortByByte_80 : decode b_Tree_sortByByte 80 = .ok (.iadd, 1) := by decide +kernel
theorem d_Tree_sortByByte_81 : decode b_Tree_sortByByte 81 = .ok (.iastore, 1) := by decide +kernel
theorem d_Tree_sortByByte_82 : decode b_Tree_sortByByte 82 = .ok (.iinc 4 1, 3) := by decide +kernel
theorem d_Tree_sortByByte_85 : decode b_Tree_sortByByte 85 = .ok (.goto (-30), 3) := by decide +kernel
theorem d_Tree_sortByByte_88 : decode b_Tree_sortByByte 88 = .ok (.iconst 0, 1) := by decide +kernel
theorem d_Tree_sortByByte_89 : decode b_Tree_sortByByte 89 = .ok (.istore 4, 2) := by decide +kernel
theorem d_Tree_sortByByte_91 : decode b_Tree_sortByByte 91 = .ok (.iload 4, 2) := by decide +kernel
theorem d_Tree_sortByByte_93 : decode b_Tree_sortByByte 93 = .ok (.aload_n 0, 1) := by decide +kernel
theorem d_Tree_sortByByte_94 : decode b_Tree_sortByByte 94 = .ok (.getfield 36, 3) := by decide +kernel
theorem d_Tree_sortByByte_97 : decode b_Tree_sortByByte 97 = .ok (.if_icmp .ge 50, 3) := by decide +kernel
theorem d_Tree_sortByByte_100 : decode b_Tree_sortByByte 100 = .ok (.aload_n 0, 1) := by decide +kernel
theorem d_Tree_sortByByte_101 : decode b_Tree_sortByByte 101 = .ok (.getfield 15, 3) := by decide +kernel
theorem d_Tree_sortByByte_104 : decode b_Tree_sortByByte 104 = .ok (.aload_n 1, 1) := by decide +kernel
theorem d_Tree_sortByByte_105 : decode b_Tree_sortByByte 105 = .ok (.iload 4, 2) := by decide +kernel
theorem d_Tree_sortByByte_107 : decode b_Tree_sortByByte 107 = .ok (.iaload, 1) := by decide +kernel
theorem d_Tree_sortByByte_108 : decode b_Tree_sortByByte 108 = .ok (.iaload, 1) := by decide +kernel
theorem d_Tree_sortByByte_109 : decode b_Tree_sortByByte 109 = .ok (.iload_n 3, 1) := by decide +kernel
theorem d_Tree_sortByByte_110 : decode b_Tree_sortByByte 110 = .ok (.ishr, 1) := by decide +kernel
theorem d_Tree_sortByByte_111 : decode b_Tree_sortByByte 111 = .ok (.sipush 255, 3) := by decide +kernel
theorem d_Tree_sortByByte_114 : decode b_Tree_sortByByte 114 = .ok (.iand, 1) := by decide +kernel
theorem d_Tree_sortByByte_115 : decode b_Tree_sortByByte 115 = .ok (.istore 5, 2) := by decide +kernel
theorem d_Tree_sortByByte_117 : decode b_Tree_sortByByte 117 = .ok (.aload_n 2, 1) := by decide +kernel
theorem d_Tree_sortByByte_118 : decode b_Tree_sortByByte 118 = .ok (.aload_n 0, 1) := by decide +kernel
theorem d_Tree_sortByByte_119 : decode b_Tree_sortByByte 119 = .ok (.getfield 24, 3) := by decide +kernel
theorem d_Tree_sortByByte_122 : decode b_Tree_sortByByte 122 = .ok (.iload 5, 2) := by decide +kernel
theorem d_Tree_sortByByte_124 : decode b_Tree_sortByByte 124 = .ok (.iaload, 1) := by decide +kernel
theorem d_Tree_sortByByte_125 : decode b_Tree_sortByByte 125 = .ok (.aload_n 1, 1) := by decide +kernel
theorem d_Tree_sortByByte_126 : decode b_Tree_sortByByte 126 = .ok (.iload 4, 2) := by decide +kernel
theorem d_Tree_sortByByte_128 : decode b_Tree_sortByByte 128 = .ok (.iaload, 1) := by decide +kernel
theorem d_Tree_sortByByte_129 : decode b_Tree_sortByByte 129 = .ok (.iastore, 1) := by decide +kernel
theorem d_Tree_sortByByte_130 : decode b_Tree_sortByByte 130 = .ok (.aload_n 0, 1) := by decide +kernel
theorem d_Tree_sortByByte_131 : decode b_Tree_sortByByte 131 = .ok (.getfield 24, 3) := by decide +kernel
theorem d_Tree_sortByByte_134 : decode b_Tree_sortByByte 134 = .ok (.iload 5, 2) := by decide +kernel
theorem d_Tree_sortByByte_136 : decode b_Tree_sortByByte 136 = .ok (.dup2, 1) := by decide +kernel
theorem d_Tree_sortByByte_137 : decode b_Tree_sortByByte 137 = .ok (.iaload, 1) := by decide +kernel
theorem d_Tree_sortByByte_138 : decode b_Tree_sortByByte 138 = .ok (.iconst 1, 1) := by decide +kernel
theorem d_Tree_sortByByte_139 : decode b_Tree_sortByByte 139 = .ok (.iadd, 1) := by decide +kernel
theorem d_Tree_sortByByte_140 : decode b_Tree_sortByByte 140 = .ok (.iastore, 1) := by decide +kernel
theorem d_Tree_sortByByte_141 : decode b_Tree_sortByByte 141 = .ok (.iinc 4 1, 3) := by decide +kernel
theorem d_Tree_sortByByte_144 : decode b_Tree_sortByByte 144 = .ok (.goto (-53), 3) := by decide +kernel
theorem d_Tree_sortByByte_147 : decode b_Tree_sortByByte 147 = .ok (.return_, 1) := by decide +kernel
abbrev R_Tree_sortByByte : Room := ({ frames := 1, cells := 0, slots := 0, locals := 23 } : Room)
def E_Tree_sortByByte (p : Program) (l : Launch) (e : Env) (s : State) (m : MethodId) (args : Array Value) (below : List Frame) (meth : Method) (c : Code) (Q : State → Prop) (A : Nat → Prop) (D : va_G) (cI cL cZ : ClassId) (a_this : Nat) (a_halves : Nat) (a_starts : Nat) (a_p1 : Nat) (a_p2 : Nat) (o_lengths : Nat) (o_leaves : Nat) (o_sorted : Nat) (o_sums : Nat) (o_above : Nat) (o_depths : Nat) (i_known : Int32) (i_nextLeaf : Int32) (i_nextSum : Int32) (v_halves : Nat → Int32) (n_p1 : Nat) (v_p1 : Nat → Int32) (n_p2 : Nat) (l3 : Int32) (res : (Nat → Int32) × (Nat → Int32)) : Prop := ∀ (pc : Nat) (H : Heap) (locs : List Loc) (ls : Array Slot) (v_starts : Nat → Int32) (v_p2 : Nat → Int32), some (v_starts, v_p2) = some res → decode b_Tree_sortByByte pc = .ok (.return_, 1) → va_P D classes [(a_this, .inr (9, [.ref o_lengths, .ref a_halves, .ref o_leaves, .ref o_sorted, .ref a_starts, .ref o_sums, .ref o_above, .ref o_depths, .int i_known, .int i_nextLeaf, .int i_nextSum])), (a_halves, .inl (cI, 256, .inl v_halves)), (a_starts, .inl (cI, 257, .inl v_starts)), (a_p1, .inl (cI, n_p1, .inl v_p1)), (a_p2, .inl (cI, n_p2, .inl v_p2))] H → va_D A [(a_this, .inr (9, [.ref o_lengths, .ref a_halves, .ref o_leaves, .ref o_sorted, .ref a_starts, .ref o_sums, .ref o_above, .ref o_depths, .int i_known, .int i_nextLeaf, .int i_nextSum])), (a_halves, .inl (cI, 256, .inl v_halves)), (a_starts, .inl (cI, 257, .inl v_starts)), (a_p1, .inl (cI, n_p1, .inl v_p1)), (a_p2, .inl (cI, n_p2, .inl v_p2))] → va_S A s.heap H locs → W p l e R_Tree_sortByByte s m args below meth c H locs 0 0 Q (F0 m pc ls [])
def I_Tree_sortByByte_b91 (p : Program) (l : Launch) (e : Env) (s : State) (m : MethodId) (args : Array Value) (below : List Frame) (meth : Method) (c : Code) (Q : State → Prop) (A : Nat → Prop) (D : va_G) (cI cL cZ : ClassId) (a_this : Nat) (a_halves : Nat) (a_starts : Nat) (a_p1 : Nat) (a_p2 : Nat) (o_lengths : Nat) (o_leaves : Nat) (o_sorted : Nat) (o_sums : Nat) (o_above : Nat) (o_depths : Nat) (i_known : Int32) (i_nextLeaf : Int32) (i_nextSum : Int32) (v_halves : Nat → Int32) (n_p1 : Nat) (v_p1 : Nat → Int32) (n_p2 : Nat) (l3 : Int32) (res : (Nat → Int32) × (Nat → Int32)) (kf : Int32 → (Nat → Int32) → (Nat → Int32) → Option ((Nat → Int32) × (Nat → Int32))) : Prop := ∀ (l4 : Int32) (v_starts : Nat → Int32) (v_p2 : Nat → Int32), kf l4 v_starts v_p2 = some res → ∀ (H : Heap) (locs : List Loc) (ls : Array Slot), lv_has ls 6 [(0, .ref a_this), (1, .ref a_p1), (2, .ref a_p2), (3, .int l3), (4, .int l4)] → va_P D classes [(a_this, .inr (9, [.ref o_lengths, .ref a_halves, .ref o_leaves, .ref o_sorted, .ref a_starts, .ref o_sums, .ref o_above, .ref o_depths, .int i_known, .int i_nextLeaf, .int i_nextSum])), (a_halves, .inl (cI, 256, .inl v_halves)), (a_starts, .inl (cI, 257, .inl v_starts)), (a_p1, .inl (cI, n_p1, .inl v_p1)), (a_p2, .inl (cI, n_p2, .inl v_p2))] H → va_D A [(a_this, .inr (9, [.ref o_lengths, .ref a_halves, .ref o_leaves, .ref o_sorted, .ref a_starts, .ref o_sums, .ref o_above, .ref o_depths, .int i_known, .int i_nextLeaf, .int i_nextSum])), (a_halves, .inl (cI, 256, .inl v_halves)), (a_starts, .inl (cI, 257, .inl v_starts)), (a_p1, .inl (cI, n_p1, .inl v_p1)), (a_p2, .inl (cI, n_p2, .inl v_p2))] → va_S A s.heap H locs → W p l e R_Tree_sortByByte s m args below meth c H locs 0 0 Q (F0 m 91 ls [])
def I_Tree_sortByByte_b88 (p : Program) (l : Launch) (e : Env) (s : State) (m : MethodId) (args : Array Value) (below : List Frame) (meth : Method) (c : Code) (Q : State → Prop) (A : Nat → Prop) (D : va_G) (cI cL cZ : ClassId) (a_this : Nat) (a_halves : Nat) (a_starts : Nat) (a_p1 : Nat) (a_p2 : Nat) (o_lengths : Nat) (o_leaves : Nat) (o_sorted : Nat) (o_sums : Nat) (o_above : Nat) (o_depths : Nat) (i_known : Int32) (i_nextLeaf : Int32) (i_nextSum : Int32) (v_halves : Nat → Int32) (n_p1 : Nat) (v_p1 : Nat → Int32) (n_p2 : Nat) (l3 : Int32) (res : (Nat → Int32) × (Nat → Int32)) (kf : (Nat → Int32) → (Nat → Int32) → Option ((Nat → Int32) × (Nat → Int32))) : Prop := ∀ (v_starts : Nat → Int32) (v_p2 : Nat → Int32), kf v_starts v_p2 = some res → ∀ (H : Heap) (locs : List Loc) (ls : Array Slot), lv_has ls 6 [(0, .ref a_this), (1, .ref a_p1), (2, .ref a_p2), (3, .int l3)] → va_P D classes [(a_this, .inr (9, [.ref o_lengths, .ref a_halves, .ref o_leaves, .ref o_sorted, .ref a_starts, .ref o_sums, .ref o_above, .ref o_depths, .int i_known, .int i_nextLeaf, .int i_nextSum])), (a_halves, .inl (cI, 256, .inl v_halves)), (a_starts, .inl (cI, 257, .inl v_starts)), (a_p1, .inl (cI, n_p1, .inl v_p1)), (a_p2, .inl (cI, n_p2, .inl v_p2))] H → va_D A [(a_this, .inr (9, [.ref o_lengths, .ref a_halves, .ref o_leaves, .ref o_sorted, .ref a_starts, .ref o_sums, .ref o_above, .ref o_depths, .int i_known, .int i_nextLeaf, .int i_nextSum])), (a_halves, .inl (cI, 256, .inl v_halves)), (a_starts, .inl (cI, 257, .inl v_starts)), (a_p1, .inl (cI, n_p1, .inl v_p1)), (a_p2, .inl (cI, n_p2, .inl v_p2))] → va_S A s.heap H locs → W p l e R_Tree_sortByByte s m args below meth c H locs 0 0 Q (F0 m 88 ls [])
def I_Tree_sortByByte_b55 (p : Program) (l : Launch) (e : Env) (s : State) (m : MethodId) (args : Array Value) (below : List Frame) (meth : Method) (c : Code) (Q : State → Prop) (A : Nat → Prop) (D : va_G) (cI cL cZ : ClassId) (a_this : Nat) (a_halves : Nat) (a_starts : Nat) (a_p1 : Nat) (a_p2 : Nat) (o_lengths : Nat) (o_leaves : Nat) (o_sorted : Nat) (o_sums : Nat) (o_above : Nat) (o_depths : Nat) (i_known : Int32) (i_nextLeaf : Int32) (i_nextSum : Int32) (v_halves : Nat → Int32) (n_p1 : Nat) (v_p1 : Nat → Int32) (n_p2 : Nat) (l3 : Int32) (res : (Nat → Int32) × (Nat → Int32)) (kf : Int32 → (Nat → Int32) → (Nat → Int32) → Option ((Nat → Int32) × (Nat → Int32))) : Prop := ∀ (l4 : Int32) (v_starts : Nat → Int32) (v_p2 : Nat → Int32), kf l4 v_starts v_p2 = some res → ∀ (H : Heap) (locs : List Loc) (ls : Array Slot), lv_has ls 6 [(0, .ref a_this), (1, .ref a_p1), (2, .ref a_p2), (3, .int l3), (4, .int l4)] → va_P D classes [(a_this, .inr (9, [.ref o_lengths, .ref a_halves, .ref o_leaves, .ref o_sorted, .ref a_starts, .ref o_sums, .ref o_above, .ref o_depths, .int i_known, .int i_nextLeaf, .int i_nextSum])), (a_halves, .inl (cI, 256, .inl v_halves)), (a_starts, .inl (cI, 257, .inl v_starts)), (a_p1, .inl (cI, n_p1, .inl v_p1)), (a_p2, .inl (cI, n_p2, .inl v_p2))] H → va_D A [(a_this, .inr (9, [.ref o_lengths, .ref a_halves, .ref o_leaves, .ref o_sorted, .ref a_starts, .ref o_sums, .ref o_above, .ref o_depths, .int i_known, .int i_nextLeaf, .int i_nextSum])), (a_halves, .inl (cI, 256, .inl v_halves)), (a_starts, .inl (cI, 257, .inl v_starts)), (a_p1, .inl (cI, n_p1, .inl v_p1)), (a_p2, .inl (cI, n_p2, .inl v_p2))] → va_S A s.heap H locs → W p l e R_Tree_sortByByte s m args below meth c H locs 0 0 Q (F0 m 55 ls [])
def I_Tree_sortByByte_b52 (p : Program) (l : Launch) (e : Env) (s : State) (m : MethodId) (args : Array Value) (below : List Frame) (meth : Method) (c : Code) (Q : State → Prop) (A : Nat → Prop) (D : va_G) (cI cL cZ : ClassId) (a_this : Nat) (a_halves : Nat) (a_starts : Nat) (a_p1 : Nat) (a_p2 : Nat) (o_lengths : Nat) (o_leaves : Nat) (o_sorted : Nat) (o_sums : Nat) (o_above : Nat) (o_depths : Nat) (i_known : Int32) (i_nextLeaf : Int32) (i_nextSum : Int32) (v_halves : Nat → Int32) (n_p1 : Nat) (v_p1 : Nat → Int32) (n_p2 : Nat) (l3 : Int32) (res : (Nat → Int32) × (Nat → Int32)) (kf : (Nat → Int32) → (Nat → Int32) → Option ((Nat → Int32) × (Nat → Int32))) : Prop := ∀ (v_starts : Nat → Int32) (v_p2 : Nat → Int32), kf v_starts v_p2 = some res → ∀ (H : Heap) (locs : List Loc) (ls : Array Slot), lv_has ls 6 [(0, .ref a_this), (1, .ref a_p1), (2, .ref a_p2), (3, .int l3)] → va_P D classes [(a_this, .inr (9, [.ref o_lengths, .ref a_halves, .ref o_leaves, .ref o_sorted, .ref a_starts, .ref o_sums, .ref o_above, .ref o_depths, .int i_known, .int i_nextLeaf, .int i_nextSum])), (a_halves, .inl (cI, 256, .inl v_halves)), (a_starts, .inl (cI, 257, .inl v_starts)), (a_p1, .inl (cI, n_p1, .inl v_p1)), (a_p2, .inl (cI, n_p2, .inl v_p2))] H → va_D A [(a_this, .inr (9, [.ref o_lengths, .ref a_halves, .ref o_leaves, .ref o_sorted, .ref a_starts, .ref o_sums, .ref o_above, .ref o_depths, .int i_known, .int i_nextLeaf, .int i_nextSum])), (a_halves, .inl (cI, 256, .inl v_halves)), (a_starts, .inl (cI, 257, .inl v_starts)), (a_p1, .inl (cI, n_p1, .inl v_p1)), (a_p2, .inl (cI, n_p2, .inl v_p2))] → va_S A s.heap H locs → W p l e R_Tree_sortByByte s m args below meth c H locs 0 0 Q (F0 m 52 ls [])
def I_Tree_sortByByte_b11 (p : Program) (l : Launch) (e : Env) (s : State) (m : MethodId) (args : Array Value) (below : List Frame) (meth : Method) (c : Code) (Q : State → Prop) (A : Nat → Prop) (D : va_G) (cI cL cZ : ClassId) (a_this : Nat) (a_halves : Nat) (a_starts : Nat) (a_p1 : Nat) (a_p2 : Nat) (o_lengths : Nat) (o_leaves : Nat) (o_sorted : Nat) (o_sums : Nat) (o_above : Nat) (o_depths : Nat) (i_known : Int32) (i_nextLeaf : Int32) (i_nextSum : Int32) (v_halves : Nat → Int32) (n_p1 : Nat) (v_p1 : Nat → Int32) (n_p2 : Nat) (l3 : Int32) (res : (Nat → Int32) × (Nat → Int32)) (kf : Int32 → (Nat → Int32) → (Nat → Int32) → Option ((Nat → Int32) × (Nat → Int32))) : Prop := ∀ (l4 : Int32) (v_starts : Nat → Int32) (v_p2 : Nat → Int32), kf l4 v_starts v_p2 = some res → ∀ (H : Heap) (locs : List Loc) (ls : Array Slot), lv_has ls 6 [(0, .ref a_this), (1, .ref a_p1), (2, .ref a_p2), (3, .int l3), (4, .int l4)] → va_P D classes [(a_this, .inr (9, [.ref o_lengths, .ref a_halves, .ref o_leaves, .ref o_sorted, .ref a_starts, .ref o_sums, .ref o_above, .ref o_depths, .int i_known, .int i_nextLeaf, .int i_nextSum])), (a_halves, .inl (cI, 256, .inl v_halves)), (a_starts, .inl (cI, 257, .inl v_starts)), (a_p1, .inl (cI, n_p1, .inl v_p1)), (a_p2, .inl (cI, n_p2, .inl v_p2))] H → va_D A [(a_this, .inr (9, [.ref o_lengths, .ref a_halves, .ref o_leaves, .ref o_sorted, .ref a_starts, .ref o_sums, .ref o_above, .ref o_depths, .int i_known, .int i_nextLeaf, .int i_nextSum])), (a_halves, .inl (cI, 256, .inl v_halves)), (a_starts, .inl (cI, 257, .inl v_starts)), (a_p1, .inl (cI, n_p1, .inl v_p1)), (a_p2, .inl (cI, n_p2, .inl v_p2))] → va_S A s.heap H locs → W p l e R_Tree_sortByByte s m args below meth c H locs 0 0 Q (F0 m 11 ls [])
def I_Tree_sortByByte_b0 (p : Program) (l : Launch) (e : Env) (s : State) (m : MethodId) (args : Array Value) (below : List Frame) (meth : Method) (c : Code) (Q : State → Prop) (A : Nat → Prop) (D : va_G) (cI cL cZ : ClassId) (a_this : Nat) (a_halves : Nat) (a_starts : Nat) (a_p1 : Nat) (a_p2 : Nat) (o_lengths : Nat) (o_leaves : Nat) (o_sorted : Nat) (o_sums : Nat) (o_above : Nat) (o_depths : Nat) (i_known : Int32) (i_nextLeaf : Int32) (i_nextSum : Int32) (v_halves : Nat → Int32) (n_p1 : Nat) (v_p1 : Nat → Int32) (n_p2 : Nat) (l3 : Int32) (res : (Nat → Int32) × (Nat → Int32)) (kf : (Nat → Int32) → (Nat → Int32) → Option ((Nat → Int32) × (Nat → Int32))) : Prop := ∀ (v_starts : Nat → Int32) (v_p2 : Nat → Int32), kf v_starts v_p2 = some res → ∀ (H : Heap) (locs : List Loc) (ls : Array Slot), lv_has ls 6 [(0, .ref a_this), (1, .ref a_p1), (2, .ref a_p2), (3, .int l3)] → va_P D classes [(a_this, .inr (9, [.ref o_lengths, .ref a_halves, .ref o_leaves, .ref o_sorted, .ref a_starts, .ref o_sums, .ref o_above, .ref o_depths, .int i_known, .int i_nextLeaf, .int i_nextSum])), (a_halves, .inl (cI, 256, .inl v_halves)), (a_starts, .inl (cI, 257, .inl v_starts)), (a_p1, .inl (cI, n_p1, .inl v_p1)), (a_p2, .inl (cI, n_p2, .inl v_p2))] H → va_D A [(a_this, .inr (9, [.ref o_lengths, .ref a_halves, .ref o_leaves, .ref o_sorted, .ref a_starts, .ref o_sums, .ref o_above, .ref o_depths, .int i_known, .int i_nextLeaf, .int i_nextSum])), (a_halves, .inl (cI, 256, .inl v_halves)), (a_starts, .inl (cI, 257, .inl v_starts)), (a_p1, .inl (cI, n_p1, .inl v_p1)), (a_p2, .inl (cI, n_p2, .inl v_p2))] → va_S A s.heap H locs → W p l e R_Tree_sortByByte s m args below meth c H locs 0 0 Q (F0 m 0 ls [])
set_option maxHeartbeats 4000000 in
set_option maxRecDepth 100000 in
theorem w_Tree_sortByByte_b91 {p : Program} {l : Launch} {e : Env} {s : State} {m : MethodId} {args : Array Value} {below : List Frame} {meth : Method} {c : Code} {Q : State → Prop} {A : Nat → Prop} {D : va_G} {cI cL cZ : ClassId} {a_this : Nat} {a_halves : Nat} {a_starts : Nat} {a_p1 : Nat} {a_p2 : Nat} {o_lengths : Nat} {o_leaves : Nat} {o_sorted : Nat} {o_sums : Nat} {o_above : Nat} {o_depths : Nat} {i_known : Int32} {i_nextLeaf : Int32} {i_nextSum : Int32} {v_halves : Nat → Int32} {n_p1 : Nat} {v_p1 : Nat → Int32} {n_p2 : Nat} {l3 : Int32} {N : Nat} {res : (Nat → Int32) × (Nat → Int32)}  (C : Cx p s m args c b_Tree_sortByByte 6 "PrefixMill$Tree" D [(cI, .int), (cL, .long), (cZ, .boolean)] A) (hret : E_Tree_sortByByte p l e s m args below meth c Q A D cI cL cZ a_this a_halves a_starts a_p1 a_p2 o_lengths o_leaves o_sorted o_sums o_above o_depths i_known i_nextLeaf i_nextSum v_halves n_p1 v_p1 n_p2 l3 res)  : ∀ z : Nat, I_Tree_sortByByte_b91 p l e s m args below meth c Q A D cI cL cZ a_this a_halves a_starts a_p1 a_p2 o_lengths o_leaves o_sorted o_sums o_above o_depths i_known i_nextLeaf i_nextSum v_halves n_p1 v_p1 n_p2 l3 res (f_Tree_sortByByte_b91 N i_known v_halves n_p1 v_p1 n_p2 l3  z) := by
  obtain ⟨hx, hb, hml, hown, hts, hK, hA⟩ := C
  intro z
  induction z with
  | zero => intro l4 v_starts v_p2 h; cases h
  | succ z ih =>
    intro l4 v_starts v_p2 h H locs ls hl hP hD hS
    refine lv_iload hx hb d_Tree_sortByByte_91 (lv_at hl 4 rfl) ?_
    refine lv_aload_n hx hb d_Tree_sortByByte_93 rfl (lv_at hl 0 rfl) ?_
    refine va_get hx hb hts in_Tree hown hK hP 0 rfl rfl 8 (by decide) (hts _ m_165) (fun _ h9 => h9) rfl d_Tree_sortByByte_94 ?_
    refine lv_icmp_ge (tgt := 147) hx hb d_Tree_sortByByte_97 (by decide) (fun c_1 => ?_) (fun c_1 => ?_)
    · replace h := if_t h c_1
      exact hret _ _ _ _ v_starts v_p2 h d_Tree_sortByByte_147 hP hD hS
    · replace h := if_f h c_1
      refine lv_aload_n hx hb d_Tree_sortByByte_100 rfl (lv_at hl 0 rfl) ?_
      refine va_get hx hb hts in_Tree hown hK hP 0 rfl rfl 1 (by decide) (hts _ m_158) (fun _ h9 => h9) rfl d_Tree_sortByByte_101 ?_
      refine lv_aload_n hx hb d_Tree_sortByByte_104 rfl (lv_at hl 1 rfl) ?_
      refine lv_iload hx hb d_Tree_sortByByte_105 (lv_at hl 4 rfl) ?_
      obtain ⟨g_2, h⟩ := ck_s h
      refine va_iald hx hb hK hP 3 0 rfl rfl (inb_s g_2) d_Tree_sortByByte_107 ?_
      obtain ⟨g_3, h⟩ := ck_s h
      refine va_iald hx hb hK hP 1 0 rfl rfl (inb_s g_3) d_Tree_sortByByte_108 ?_
      refine lv_iload_n hx hb d_Tree_sortByByte_109 rfl (lv_at hl 3 rfl) ?_
      refine lv_ishr hx hb d_Tree_sortByByte_110 ?_
      refine lv_sipush (v := 255) hx hb d_Tree_sortByByte_111 (by decide) ?_
      refine lv_iand hx hb d_Tree_sortByByte_114 ?_
      refine lv_topi (fun l5_4 el5_4 => ?_)
      replace h := nm_s h el5_4
      refine lv_istore (lv' := [(5, .int l5_4), (0, .ref a_this), (1, .ref a_p1), (2, .ref a_p2), (3, .int l3), (4, .int l4)]) hx hb d_Tree_sortByByte_115 hl (by decide) rfl (fun ls hl => ?_)
      refine lv_aload_n hx hb d_Tree_sortByByte_117 rfl (lv_at hl 3 rfl) ?_
      refine lv_aload_n hx hb d_Tree_sortByByte_118 rfl (lv_at hl 1 rfl) ?_
      refine va_get hx hb hts in_Tree hown hK hP 0 rfl rfl 4 (by decide) (hts _ m_161) (fun _ h9 => h9) rfl d_Tree_sortByByte_119 ?_
      refine lv_iload hx hb d_Tree_sortByByte_122 (lv_at hl 0 rfl) ?_
      obtain ⟨g_5, h⟩ := ck_s h
      refine va_iald hx hb hK hP 2 0 rfl rfl (inb_s g_5) d_Tree_sortByByte_124 ?_
      refine lv_aload_n hx hb d_Tree_sortByByte_125 rfl (lv_at hl 2 rfl) ?_
      refine lv_iload hx hb d_Tree_sortByByte_126 (lv_at hl 5 rfl) ?_
      obtain ⟨g_6, h⟩ := ck_s h
      refine va_iald hx hb hK hP 3 0 rfl rfl (inb_s g_6) d_Tree_sortByByte_128 ?_
      obtain ⟨g_7, h⟩ := ck_s h
      refine va_iast hx hb hK hP hD hS 4 0 rfl rfl (inb_s g_7) d_Tree_sortByByte_129 (fun H locs hP hD hS => ?_)
      obtain ⟨v_p2_8, ev_p2_8⟩ : ∃ y, y = (upd v_p2 (Int32.toNatClampNeg (v_starts (Int32.toNatClampNeg l5_4))) (v_p1 (Int32.toNatClampNeg l4))) := ⟨_, rfl⟩
      replace h := nm_s h ev_p2_8
      have hP : va_P D classes [(a_this, .inr (9, [.ref o_lengths, .ref a_halves, .ref o_leaves, .ref o_sorted, .ref a_starts, .ref o_sums, .ref o_above, .ref o_depths, .int i_known, .int i_nextLeaf, .int i_nextSum])), (a_halves, .inl (cI, 256, .inl v_halves)), (a_starts, .inl (cI, 257, .inl v_starts)), (a_p1, .inl (cI, n_p1, .inl v_p1)), (a_p2, .inl (cI, n_p2, .inl v_p2_8))] H := by rw [ev_p2_8]; exact hP
      have hD : va_D A [(a_this, .inr (9, [.ref o_lengths, .ref a_halves, .ref o_leaves, .ref o_sorted, .ref a_starts, .ref o_sums, .ref o_above, .ref o_depths, .int i_known, .int i_nextLeaf, .int i_nextSum])), (a_halves, .inl (cI, 256, .inl v_halves)), (a_starts, .inl (cI, 257, .inl v_starts)), (a_p1, .inl (cI, n_p1, .inl v_p1)), (a_p2, .inl (cI, n_p2, .inl v_p2_8))] := by rw [ev_p2_8]; exact hD
      refine lv_aload_n hx hb d_Tree_sortByByte_130 rfl (lv_at hl 1 rfl) ?_
      refine va_get hx hb hts in_Tree hown hK hP 0 rfl rfl 4 (by decide) (hts _ m_161) (fun _ h9 => h9) rfl d_Tree_sortByByte_131 ?_
      refine lv_iload hx hb d_Tree_sortByByte_134 (lv_at hl 0 rfl) ?_
      refine lv_dup2_11 hx hb d_Tree_sortByByte_136 rfl rfl ?_
      obtain ⟨g_9, h⟩ := ck_s h
      refine va_iald hx hb hK hP 2 0 rfl rfl (inb_s g_9) d_Tree_sortByByte_137 ?_
      refine lv_iconst (v := 1) hx hb d_Tree_sortByByte_138 (by decide) ?_
      refine lv_iadd hx hb d_Tree_sortByByte_139 ?_
      obtain ⟨g_10, h⟩ := ck_s h
      refine va_iast hx hb hK hP hD hS 2 0 rfl rfl (inb_s g_10) d_Tree_sortByByte_140 (fun H locs hP hD hS => ?_)
      obtain ⟨v_starts_11, ev_starts_11⟩ : ∃ y, y = (upd v_starts (Int32.toNatClampNeg l5_4) ((v_starts (Int32.toNatClampNeg l5_4)) + 1)) := ⟨_, rfl⟩
      replace h := nm_s h ev_starts_11
      have hP : va_P D classes [(a_this, .inr (9, [.ref o_lengths, .ref a_halves, .ref o_leaves, .ref o_sorted, .ref a_starts, .ref o_sums, .ref o_above, .ref o_depths, .int i_known, .int i_nextLeaf, .int i_nextSum])), (a_halves, .inl (cI, 256, .inl v_halves)), (a_starts, .inl (cI, 257, .inl v_starts_11)), (a_p1, .inl (cI, n_p1, .inl v_p1)), (a_p2, .inl (cI, n_p2, .inl v_p2_8))] H := by rw [ev_starts_11]; exact hP
      have hD : va_D A [(a_this, .inr (9, [.ref o_lengths, .ref a_halves, .ref o_leaves, .ref o_sorted, .ref a_starts, .ref o_sums, .ref o_above, .ref o_depths, .int i_known, .int i_nextLeaf, .int i_nextSum])), (a_halves, .inl (cI, 256, .inl v_halves)), (a_starts, .inl (cI, 257, .inl v_starts_11)), (a_p1, .inl (cI, n_p1, .inl v_p1)), (a_p2, .inl (cI, n_p2, .inl v_p2_8))] := by rw [ev_starts_11]; exact hD
      obtain ⟨l4_12, el4_12⟩ : ∃ y : Int32, y = l4 + 1 := ⟨_, rfl⟩
      replace h := nm_s h el4_12
      refine lv_iinc (v := l4_12) (lv' := [(4, .int l4_12), (5, .int l5_4), (0, .ref a_this), (1, .ref a_p1), (2, .ref a_p2), (3, .int l3)]) hx hb d_Tree_sortByByte_141 hl (k := 5) rfl (by rw [el4_12]; rfl) (by decide) rfl (fun ls hl => ?_)
      refine lv_goto (tgt := 91) hx hb d_Tree_sortByByte_144 (by decide) ?_
      exact ih _ _ _ h H locs ls (lv_sub hl [2, 3, 4, 5, 0] rfl) hP hD hS
set_option maxHeartbeats 4000000 in
set_option maxRecDepth 100000 in
theorem w_Tree_sortByByte_b88 {p : Program} {l : Launch} {e : Env} {s : State} {m : MethodId} {args : Array Value} {below : List Frame} {meth : Method} {c : Code} {Q : State → Prop} {A : Nat → Prop} {D : va_G} {cI cL cZ : ClassId} {a_this : Nat} {a_halves : Nat} {a_starts : Nat} {a_p1 : Nat} {a_p2 : Nat} {o_lengths : Nat} {o_leaves : Nat} {o_sorted : Nat} {o_sums : Nat} {o_above : Nat} {o_depths : Nat} {i_known : Int32} {i_nextLeaf : Int32} {i_nextSum : Int32} {v_halves : Nat → Int32} {n_p1 : Nat} {v_p1 : Nat → Int32} {n_p2 : Nat} {l3 : Int32} {N : Nat} {res : (Nat → Int32) × (Nat → Int32)}  (C : Cx p s m args c b_Tree_sortByByte 6 "PrefixMill$Tree" D [(cI, .int), (cL, .long), (cZ, .boolean)] A) (hret : E_Tree_sortByByte p l e s m args below meth c Q A D cI cL cZ a_this a_halves a_starts a_p1 a_p2 o_lengths o_leaves o_sorted o_sums o_above o_depths i_known i_nextLeaf i_nextSum v_halves n_p1 v_p1 n_p2 l3 res)  : I_Tree_sortByByte_b88 p l e s m args below meth c Q A D cI cL cZ a_this a_halves a_starts a_p1 a_p2 o_lengths o_leaves o_sorted o_sums o_above o_depths i_known i_nextLeaf i_nextSum v_halves n_p1 v_p1 n_p2 l3 res (f_Tree_sortByByte_b88 N i_known v_halves n_p1 v_p1 n_p2 l3 ) := by
  obtain ⟨hx, hb, hml, hown, hts, hK, hA⟩ := C
  intro v_starts v_p2 h H locs ls hl hP hD hS
  unfold f_Tree_sortByByte_b88 at h
  refine lv_iconst (v := 0) hx hb d_Tree_sortByByte_88 (by decide) ?_
  refine lv_istore (lv' := [(4, .int 0), (0, .ref a_this), (1, .ref a_p1), (2, .ref a_p2), (3, .int l3)]) hx hb d_Tree_sortByByte_89 hl (by decide) rfl (fun ls hl => ?_)
  exact w_Tree_sortByByte_b91 ⟨hx, hb, hml, hown, hts, hK, hA⟩ hret  N _ _ _ h H locs ls (lv_sub hl [1, 2, 3, 4, 0] rfl) hP hD hS
set_option maxHeartbeats 4000000 in
set_option maxRecDepth 100000 in
theorem w_Tree_sortByByte_b55 {p : Program} {l : Launch} {e : Env} {s : State} {m : MethodId} {args : Array Value} {below : List Frame} {meth : Method} {c : Code} {Q : State → Prop} {A : Nat → Prop} {D : va_G} {cI cL cZ : ClassId} {a_this : Nat} {a_halves : Nat} {a_starts : Nat} {a_p1 : Nat} {a_p2 : Nat} {o_lengths : Nat} {o_leaves : Nat} {o_sorted : Nat} {o_sums : Nat} {o_above : Nat} {o_depths : Nat} {i_known : Int32} {i_nextLeaf : Int32} {i_nextSum : Int32} {v_halves : Nat → Int32} {n_p1 : Nat} {v_p1 : Nat → Int32} {n_p2 : Nat} {l3 : Int32} {N : Nat} {res : (Nat → Int32) × (Nat → Int32)}  (C : Cx p s m args c b_Tree_sortByByte 6 "PrefixMill$Tree" D [(cI, .int), (cL, .long), (cZ, .boolean)] A) (hret : E_Tree_sortByByte p l e s m args below meth c Q A D cI cL cZ a_this a_halves a_starts a_p1 a_p2 o_lengths o_leaves o_sorted o_sums o_above o_depths i_known i_nextLeaf i_nextSum v_halves n_p1 v_p1 n_p2 l3 res)  : ∀ z : Nat, I_Tree_sortByByte_b55 p l e s m args below meth c Q A D cI cL cZ a_this a_halves a_starts a_p1 a_p2 o_lengths o_leaves o_sorted o_sums o_above o_depths i_known i_nextLeaf i_nextSum v_halves n_p1 v_p1 n_p2 l3 res (f_Tree_sortByByte_b55 N i_known v_halves n_p1 v_p1 n_p2 l3  z) := by
  obtain ⟨hx, hb, hml, hown, hts, hK, hA⟩ := C
  intro z
  induction z with
  | zero => intro l4 v_starts v_p2 h; cases h
  | succ z ih =>
    intro l4 v_starts v_p2 h H locs ls hl hP hD hS
    refine lv_iload hx hb d_Tree_sortByByte_55 (lv_at hl 4 rfl) ?_
    refine lv_sipush (v := 256) hx hb d_Tree_sortByByte_57 (by decide) ?_
    refine lv_icmp_ge (tgt := 88) hx hb d_Tree_sortByByte_60 (by decide) (fun c_1 => ?_) (fun c_1 => ?_)
    · replace h := if_t h c_1
      exact w_Tree_sortByByte_b88 ⟨hx, hb, hml, hown, hts, hK, hA⟩ hret  _ _ h H locs ls (lv_sub hl [0, 1, 2, 3] rfl) hP hD hS
    · replace h := if_f h c_1
      refine lv_aload_n hx hb d_Tree_sortByByte_63 rfl (lv_at hl 0 rfl) ?_
      refine va_get hx hb hts in_Tree hown hK hP 0 rfl rfl 4 (by decide) (hts _ m_161) (fun _ h9 => h9) rfl d_Tree_sortByByte_64 ?_
      refine lv_iload hx hb d_Tree_sortByByte_67 (lv_at hl 4 rfl) ?_
      refine lv_iconst (v := 1) hx hb d_Tree_sortByByte_69 (by decide) ?_
      refine lv_iadd hx hb d_Tree_sortByByte_70 ?_
      refine lv_dup2_11 hx hb d_Tree_sortByByte_71 rfl rfl ?_
      obtain ⟨g_2, h⟩ := ck_s h
      refine va_iald hx hb hK hP 2 0 rfl rfl (inb_s g_2) d_Tree_sortByByte_72 ?_
      refine lv_aload_n hx hb d_Tree_sortByByte_73 rfl (lv_at hl 0 rfl) ?_
      refine va_get hx hb hts in_Tree hown hK hP 0 rfl rfl 4 (by decide) (hts _ m_161) (fun _ h9 => h9) rfl d_Tree_sortByByte_74 ?_
      refine lv_iload hx hb d_Tree_sortByByte_77 (lv_at hl 4 rfl) ?_
      obtain ⟨g_3, h⟩ := ck_s h
      refine va_iald hx hb hK hP 2 0 rfl rfl (inb_s g_3) d_Tree_sortByByte_79 ?_
      refine lv_iadd hx hb d_Tree_sortByByte_80 ?_
      obtain ⟨g_4, h⟩ := ck_s h
      refine va_iast hx hb hK hP hD hS 2 0 rfl rfl (inb_s g_4) d_Tree_sortByByte_81 (fun H locs hP hD hS => ?_)
      obtain ⟨v_starts_5, ev_starts_5⟩ : ∃ y, y = (upd v_starts (Int32.toNatClampNeg (l4 + 1)) ((v_starts (Int32.toNatClampNeg (l4 + 1))) + (v_starts (Int32.toNatClampNeg l4)))) := ⟨_, rfl⟩
      replace h := nm_s h ev_starts_5
      have hP : va_P D classes [(a_this, .inr (9, [.ref o_lengths, .ref a_halves, .ref o_leaves, .ref o_sorted, .ref a_starts, .ref o_sums, .ref o_above, .ref o_depths, .int i_known, .int i_nextLeaf, .int i_nextSum])), (a_halves, .inl (cI, 256, .inl v_halves)), (a_starts, .inl (cI, 257, .inl v_starts_5)), (a_p1, .inl (cI, n_p1, .inl v_p1)), (a_p2, .inl (cI, n_p2, .inl v_p2))] H := by rw [ev_starts_5]; exact hP
      have hD : va_D A [(a_this, .inr (9, [.ref o_lengths, .ref a_halves, .ref o_leaves, .ref o_sorted, .ref a_starts, .ref o_sums, .ref o_above, .ref o_depths, .int i_known, .int i_nextLeaf, .int i_nextSum])), (a_halves, .inl (cI, 256, .inl v_halves)), (a_starts, .inl (cI, 257, .inl v_starts_5)), (a_p1, .inl (cI, n_p1, .inl v_p1)), (a_p2, .inl (cI, n_p2, .inl v_p2))] := by rw [ev_starts_5]; exact hD
      obtain ⟨l4_6, el4_6⟩ : ∃ y : Int32, y = l4 + 1 := ⟨_, rfl⟩
      replace h := nm_s h el4_6
      refine lv_iinc (v := l4_6) (lv' := [(4, .int l4_6), (0, .ref a_this), (1, .ref a_p1), (2, .ref a_p2), (3, .int l3)]) hx hb d_Tree_sortByByte_82 hl (k := 4) rfl (by rw [el4_6]; rfl) (by decide) rfl (fun ls hl => ?_)
      refine lv_goto (tgt := 55) hx hb d_Tree_sortByByte_85 (by decide) ?_
      exact ih _ _ _ h H locs ls (lv_sub hl [1, 2, 3, 4, 0] rfl) hP hD hS
set_option maxHeartbeats 4000000 in
set_option maxRecDepth 100000 in
theorem w_Tree_sortByByte_b52 {p : Program} {l : Launch} {e : Env} {s : State} {m : MethodId} {args : Array Value} {below : List Frame} {meth : Method} {c : Code} {Q : State → Prop} {A : Nat → Prop} {D : va_G} {cI cL cZ : ClassId} {a_this : Nat} {a_halves : Nat} {a_starts : Nat} {a_p1 : Nat} {a_p2 : Nat} {o_lengths : Nat} {o_leaves : Nat} {o_sorted : Nat} {o_sums : Nat} {o_above : Nat} {o_depths : Nat} {i_known : Int32} {i_nextLeaf : Int32} {i_nextSum : Int32} {v_halves : Nat → Int32} {n_p1 : Nat} {v_p1 : Nat → Int32} {n_p2 : Nat} {l3 : Int32} {N : Nat} {res : (Nat → Int32) × (Nat → Int32)}  (C : Cx p s m args c b_Tree_sortByByte 6 "PrefixMill$Tree" D [(cI, .int), (cL, .long), (cZ, .boolean)] A) (hret : E_Tree_sortByByte p l e s m args below meth c Q A D cI cL cZ a_this a_halves a_starts a_p1 a_p2 o_lengths o_leaves o_sorted o_sums o_above o_depths i_known i_nextLeaf i_nextSum v_halves n_p1 v_p1 n_p2 l3 res)  : I_Tree_sortByByte_b52 p l e s m args below meth c Q A D cI cL cZ a_this a_halves a_starts a_p1 a_p2 o_lengths o_leaves o_sorted o_sums o_above o_depths i_known i_nextLeaf i_nextSum v_halves n_p1 v_p1 n_p2 l3 res (f_Tree_sortByByte_b52 N i_known v_halves n_p1 v_p1 n_p2 l3 ) := by
  obtain ⟨hx, hb, hml, hown, hts, hK, hA⟩ := C
  intro v_starts v_p2 h H locs ls hl hP hD hS
  unfold f_Tree_sortByByte_b52 at h
  refine lv_iconst (v := 0) hx hb d_Tree_sortByByte_52 (by decide) ?_
  refine lv_istore (lv' := [(4, .int 0), (0, .ref a_this), (1, .ref a_p1), (2, .ref a_p2), (3, .int l3)]) hx hb d_Tree_sortByByte_53 hl (by decide) rfl (fun ls hl => ?_)
  exact w_Tree_sortByByte_b55 ⟨hx, hb, hml, hown, hts, hK, hA⟩ hret  N _ _ _ h H locs ls (lv_sub hl [1, 2, 3, 4, 0] rfl) hP hD hS
set_option maxHeartbeats 4000000 in
set_option maxRecDepth 100000 in
theorem w_Tree_sortByByte_b11 {p : Program} {l : Launch} {e : Env} {s : State} {m : MethodId} {args : Array Value} {below : List Frame} {meth : Method} {c : Code} {Q : State → Prop} {A : Nat → Prop} {D : va_G} {cI cL cZ : ClassId} {a_this : Nat} {a_halves : Nat} {a_starts : Nat} {a_p1 : Nat} {a_p2 : Nat} {o_lengths : Nat} {o_leaves : Nat} {o_sorted : Nat} {o_sums : Nat} {o_above : Nat} {o_depths : Nat} {i_known : Int32} {i_nextLeaf : Int32} {i_nextSum : Int32} {v_halves : Nat → Int32} {n_p1 : Nat} {v_p1 : Nat → Int32} {n_p2 : Nat} {l3 : Int32} {N : Nat} {res : (Nat → Int32) × (Nat → Int32)}  (C : Cx p s m args c b_Tree_sortByByte 6 "PrefixMill$Tree" D [(cI, .int), (cL, .long), (cZ, .boolean)] A) (hret : E_Tree_sortByByte p l e s m args below meth c Q A D cI cL cZ a_this a_halves a_starts a_p1 a_p2 o_lengths o_leaves o_sorted o_sums o_above o_depths i_known i_nextLeaf i_nextSum v_halves n_p1 v_p1 n_p2 l3 res)  : ∀ z : Nat, I_Tree_sortByByte_b11 p l e s m args below meth c Q A D cI cL cZ a_this a_halves a_starts a_p1 a_p2 o_lengths o_leaves o_sorted o_sums o_above o_depths i_known i_nextLeaf i_nextSum v_halves n_p1 v_p1 n_p2 l3 res (f_Tree_sortByByte_b11 N i_known v_halves n_p1 v_p1 n_p2 l3  z) := by
  obtain ⟨hx, hb, hml, hown, hts, hK, hA⟩ := C
  intro z
  induction z with
  | zero => intro l4 v_starts v_p2 h; cases h
  | succ z ih =>
    intro l4 v_starts v_p2 h H locs ls hl hP hD hS
    refine lv_iload hx hb d_Tree_sortByByte_11 (lv_at hl 4 rfl) ?_
    refine lv_aload_n hx hb d_Tree_sortByByte_13 rfl (lv_at hl 0 rfl) ?_
    refine va_get hx hb hts in_Tree hown hK hP 0 rfl rfl 8 (by decide) (hts _ m_165) (fun _ h9 => h9) rfl d_Tree_sortByByte_14 ?_
    refine lv_icmp_ge (tgt := 52) hx hb d_Tree_sortByByte_17 (by decide) (fun c_1 => ?_) (fun c_1 => ?_)
    · replace h := if_t h c_1
      exact w_Tree_sortByByte_b52 ⟨hx, hb, hml, hown, hts, hK, hA⟩ hret  _ _ h H locs ls (lv_sub hl [0, 1, 2, 3] rfl) hP hD hS
    · replace h := if_f h c_1
      refine lv_aload_n hx hb d_Tree_sortByByte_20 rfl (lv_at hl 0 rfl) ?_
      refine va_get hx hb hts in_Tree hown hK hP 0 rfl rfl 4 (by decide) (hts _ m_161) (fun _ h9 => h9) rfl d_Tree_sortByByte_21 ?_
      refine lv_aload_n hx hb d_Tree_sortByByte_24 rfl (lv_at hl 0 rfl) ?_
      refine va_get hx hb hts in_Tree hown hK hP 0 rfl rfl 1 (by decide) (hts _ m_158) (fun _ h9 => h9) rfl d_Tree_sortByByte_25 ?_
      refine lv_aload_n hx hb d_Tree_sortByByte_28 rfl (lv_at hl 1 rfl) ?_
      refine lv_iload hx hb d_Tree_sortByByte_29 (lv_at hl 4 rfl) ?_
      obtain ⟨g_2, h⟩ := ck_s h
      refine va_iald hx hb hK hP 3 0 rfl rfl (inb_s g_2) d_Tree_sortByByte_31 ?_
      obtain ⟨g_3, h⟩ := ck_s h
      refine va_iald hx hb hK hP 1 0 rfl rfl (inb_s g_3) d_Tree_sortByByte_32 ?_
      refine lv_iload_n hx hb d_Tree_sortByByte_33 rfl (lv_at hl 3 rfl) ?_
      refine lv_ishr hx hb d_Tree_sortByByte_34 ?_
      refine lv_sipush (v := 255) hx hb d_Tree_sortByByte_35 (by decide) ?_
      refine lv_iand hx hb d_Tree_sortByByte_38 ?_
      refine lv_iconst (v := 1) hx hb d_Tree_sortByByte_39 (by decide) ?_
      refine lv_iadd hx hb d_Tree_sortByByte_40 ?_
      refine lv_dup2_11 hx hb d_Tree_sortByByte_41 rfl rfl ?_
      obtain ⟨g_4, h⟩ := ck_s h
      refine va_iald hx hb hK hP 2 0 rfl rfl (inb_s g_4) d_Tree_sortByByte_42 ?_
      refine lv_iconst (v := 1) hx hb d_Tree_sortByByte_43 (by decide) ?_
      refine lv_iadd hx hb d_Tree_sortByByte_44 ?_
      obtain ⟨g_5, h⟩ := ck_s h
      refine va_iast hx hb hK hP hD hS 2 0 rfl rfl (inb_s g_5) d_Tree_sortByByte_45 (fun H locs hP hD hS => ?_)
      obtain ⟨v_starts_6, ev_starts_6⟩ : ∃ y, y = (upd v_starts (Int32.toNatClampNeg ((((v_halves (Int32.toNatClampNeg (v_p1 (Int32.toNatClampNeg l4)))) >>> (l3 &&& 31)) &&& 255) + 1)) ((v_starts (Int32.toNatClampNeg ((((v_halves (Int32.toNatClampNeg (v_p1 (Int32.toNatClampNeg l4)))) >>> (l3 &&& 31)) &&& 255) + 1))) + 1)) := ⟨_, rfl⟩
      replace h := nm_s h ev_starts_6
      have hP : va_P D classes [(a_this, .inr (9, [.ref o_lengths, .ref a_halves, .ref o_leaves, .ref o_sorted, .ref a_starts, .ref o_sums, .ref o_above, .ref o_depths, .int i_known, .int i_nextLeaf, .int i_nextSum])), (a_halves, .inl (cI, 256, .inl v_halves)), (a_starts, .inl (cI, 257, .inl v_starts_6)), (a_p1, .inl (cI, n_p1, .inl v_p1)), (a_p2, .inl (cI, n_p2, .inl v_p2))] H := by rw [ev_starts_6]; exact hP
      have hD : va_D A [(a_this, .inr (9, [.ref o_lengths, .ref a_halves, .ref o_leaves, .ref o_sorted, .ref a_starts, .ref o_sums, .ref o_above, .ref o_depths, .int i_known, .int i_nextLeaf, .int i_nextSum])), (a_halves, .inl (cI, 256, .inl v_halves)), (a_starts, .inl (cI, 257, .inl v_starts_6)), (a_p1, .inl (cI, n_p1, .inl v_p1)), (a_p2, .inl (cI, n_p2, .inl v_p2))] := by rw [ev_starts_6]; exact hD
      obtain ⟨l4_7, el4_7⟩ : ∃ y : Int32, y = l4 + 1 := ⟨_, rfl⟩
      replace h := nm_s h el4_7
      refine lv_iinc (v := l4_7) (lv' := [(4, .int l4_7), (0, .ref a_this), (1, .ref a_p1), (2, .ref a_p2), (3, .int l3)]) hx hb d_Tree_sortByByte_46 hl (k := 4) rfl (by rw [el4_7]; rfl) (by decide) rfl (fun ls hl => ?_)
      refine lv_goto (tgt := 11) hx hb d_Tree_sortByByte_49 (by decide) ?_
      exact ih _ _ _ h H locs ls (lv_sub hl [1, 2, 3, 4, 0] rfl) hP hD hS
set_option maxHeartbeats 4000000 in
set_option maxRecDepth 100000 in
theorem w_Tree_sortByByte_b0 {p : Program} {l : Launch} {e : Env} {s : State} {m : MethodId} {args : Array Value} {below : List Frame} {meth : Method} {c : Code} {Q : State → Prop} {A : Nat → Prop} {D : va_G} {cI cL cZ : ClassId} {a_this : Nat} {a_halves : Nat} {a_starts : Nat} {a_p1 : Nat} {a_p2 : Nat} {o_lengths : Nat} {o_leaves : Nat} {o_sorted : Nat} {o_sums : Nat} {o_above : Nat} {o_depths : Nat} {i_known : Int32} {i_nextLeaf : Int32} {i_nextSum : Int32} {v_halves : Nat → Int32} {n_p1 : Nat} {v_p1 : Nat → Int32} {n_p2 : Nat} {l3 : Int32} {N : Nat} {res : (Nat → Int32) × (Nat → Int32)}  (C : Cx p s m args c b_Tree_sortByByte 6 "PrefixMill$Tree" D [(cI, .int), (cL, .long), (cZ, .boolean)] A) (hret : E_Tree_sortByByte p l e s m args below meth c Q A D cI cL cZ a_this a_halves a_starts a_p1 a_p2 o_lengths o_leaves o_sorted o_sums o_above o_depths i_known i_nextLeaf i_nextSum v_halves n_p1 v_p1 n_p2 l3 res)  : I_Tree_sortByByte_b0 p l e s m args below meth c Q A D cI cL cZ a_this a_halves a_starts a_p1 a_p2 o_lengths o_leaves o_sorted o_sums o_above o_depths i_known i_nextLeaf i_nextSum v_halves n_p1 v_p1 n_p2 l3 res (f_Tree_sortByByte N i_known v_halves n_p1 v_p1 n_p2 l3 ) := by
  obtain ⟨hx, hb, hml, hown, hts, hK, hA⟩ := C
  intro v_starts v_p2 h H locs ls hl hP hD hS
  unfold f_Tree_sortByByte at h
  refine lv_aload_n hx hb d_Tree_sortByByte_0 rfl (lv_at hl 0 rfl) ?_
  refine va_get hx hb hts in_Tree hown hK hP 0 rfl rfl 4 (by decide) (hts _ m_161) (fun _ h9 => h9) rfl d_Tree_sortByByte_1 ?_
  refine lv_iconst (v := 0) hx hb d_Tree_sortByByte_4 (by decide) ?_
  obtain ⟨v_starts_1, hc_2, h⟩ := bd1_s h
  have hPc := hP.sub (ws' := [(a_starts, .inl (cI, 257, .inl v_starts))]) [2] rfl
  have hDc := hD.sub (ws' := [(a_starts, .inl (cI, 257, .inl v_starts))]) [2] (by decide) rfl
  have hFc := va_free (wc := [(a_starts, .inl (cI, 257, .inl v_starts))]) hD hS hA [2] rfl
  refine va_callv (va_runS (As := [.ref a_starts, .int 0]) (rest := []) ⟨hx, hb, hml, hown, hts⟩ (c_JArr_fill l D cI cL cZ H.size N a_starts 257 v_starts 0 v_starts_1 hc_2) ⟨(my_cb 2 hts m_410 rfl rfl (hts _ m_79) (hts _ m_451) (by decide +kernel) ⟨Nat.le_of_ble_eq_true rfl, Nat.le_of_ble_eq_true rfl⟩), hts _ m_409⟩ ⟨fun a U g mk q => by obtain ⟨q0, q1, qP, qK, qD⟩ := q; exact ⟨q0, q1, qP, va_K.moved (u := U) (U := U.calling g mk a) (Vm.Alike.refl U.vm) qK, qD⟩, fun U hU hW => ⟨rfl, by rw [hU], by rw [hU]; exact hPc, va_K.moved hW.alike hK, hDc.weaken (fun _ _ _ _ => trivial)⟩⟩ rfl rfl hl.1 rfl (lv_room (Nat.le_of_ble_eq_true rfl)) d_Tree_sortByByte_5 ⟨Nat.zero_le _, Nat.zero_le _⟩) hS (fun q _ h => hFc q h) hFc (fun u t H1 locs ht hvm hw hB hz1 hk1 hS => ?_)
  obtain ⟨hP1, hK1, hD1⟩ := hB
  rw [ht] at hP1
  obtain ⟨hP, hD⟩ := va_join (wr := [(a_this, .inr (9, [.ref o_lengths, .ref a_halves, .ref o_leaves, .ref o_sorted, .ref a_starts, .ref o_sums, .ref o_above, .ref o_depths, .int i_known, .int i_nextLeaf, .int i_nextSum])), (a_halves, .inl (cI, 256, .inl v_halves)), (a_p1, .inl (cI, n_p1, .inl v_p1)), (a_p2, .inl (cI, n_p2, .inl v_p2))]) (w1 := [(a_starts, .inl (cI, 257, .inl v_starts_1))]) hP hD [2] [0, 1, 3, 4] rfl rfl (by decide) (by decide) hk1 hFc hP1 hD1
  clear hPc hDc hFc hk1 hP1 hD1 hK1
  generalize H1 = H at hP hS ⊢
  have hP : va_P D classes [(a_this, .inr (9, [.ref o_lengths, .ref a_halves, .ref o_leaves, .ref o_sorted, .ref a_starts, .ref o_sums, .ref o_above, .ref o_depths, .int i_known, .int i_nextLeaf, .int i_nextSum])), (a_halves, .inl (cI, 256, .inl v_halves)), (a_starts, .inl (cI, 257, .inl v_starts_1)), (a_p1, .inl (cI, n_p1, .inl v_p1)), (a_p2, .inl (cI, n_p2, .inl v_p2))] H := hP.sub [0, 1, 4, 2, 3] rfl
  have hD : va_D A [(a_this, .inr (9, [.ref o_lengths, .ref a_halves, .ref o_leaves, .ref o_sorted, .ref a_starts, .ref o_sums, .ref o_above, .ref o_depths, .int i_known, .int i_nextLeaf, .int i_nextSum])), (a_halves, .inl (cI, 256, .inl v_halves)), (a_starts, .inl (cI, 257, .inl v_starts_1)), (a_p1, .inl (cI, n_p1, .inl v_p1)), (a_p2, .inl (cI, n_p2, .inl v_p2))] := hD.sub [0, 1, 4, 2, 3] (by decide) rfl
  refine lv_iconst (v := 0) hx hb d_Tree_sortByByte_8 (by decide) ?_
  refine lv_istore (lv' := [(4, .int 0), (0, .ref a_this), (1, .ref a_p1), (2, .ref a_p2), (3, .int l3)]) hx hb d_Tree_sortByByte_9 hl (by decide) rfl (fun ls hl => ?_)
  exact w_Tree_sortByByte_b11 ⟨hx, hb, hml, hown, hts, hK, hA⟩ hret  N _ _ _ h H locs ls (lv_sub hl [1, 2, 3, 4, 0] rfl) hP hD hS
set_option maxHeartbeats 4000000 in
set_option maxRecDepth 100000 in
theorem c_Tree_sortByByte (l : Launch) (D : va_G) (cI cL cZ : ClassId) (sz N : Nat) (a_this : Nat) (a_halves : Nat) (a_starts : Nat) (a_p1 : Nat) (a_p2 : Nat) (o_lengths : Nat) (o_leaves : Nat) (o_sorted : Nat) (o_sums : Nat) (o_above : Nat) (o_depths : Nat) (i_known : Int32) (i_nextLeaf : Int32) (i_nextSum : Int32) (v_halves : Nat → Int32) (v_starts : Nat → Int32) (n_p1 : Nat) (v_p1 : Nat → Int32) (n_p2 : Nat) (v_p2 : Nat → Int32) (l3 : Int32) (v_starts' : Nat → Int32) (v_p2' : Nat → Int32) (h : f_Tree_sortByByte N i_known v_halves n_p1 v_p1 n_p2 l3 v_starts v_p2 = some (v_starts', v_p2')) : Met l ({ cls := "PrefixMill$Tree", name := "sortByByte", desc := "([I[II)V" } : Jvm.MethodName) ws_Tree_sortByByte R_Tree_sortByByte (va_Pc [.ref a_this, .ref a_p1, .ref a_p2, .int l3] (fun U => U.heap.size = sz ∧ va_P D classes [(a_this, .inr (9, [.ref o_lengths, .ref a_halves, .ref o_leaves, .ref o_sorted, .ref a_starts, .ref o_sums, .ref o_above, .ref o_depths, .int i_known, .int i_nextLeaf, .int i_nextSum])), (a_halves, .inl (cI, 256, .inl v_halves)), (a_starts, .inl (cI, 257, .inl v_starts)), (a_p1, .inl (cI, n_p1, .inl v_p1)), (a_p2, .inl (cI, n_p2, .inl v_p2))] U.heap ∧ va_K D classes [(cI, .int), (cL, .long), (cZ, .boolean)] U ∧ va_D (fun _ => True) [(a_this, .inr (9, [.ref o_lengths, .ref a_halves, .ref o_leaves, .ref o_sorted, .ref a_starts, .ref o_sums, .ref o_above, .ref o_depths, .int i_known, .int i_nextLeaf, .int i_nextSum])), (a_halves, .inl (cI, 256, .inl v_halves)), (a_starts, .inl (cI, 257, .inl v_starts)), (a_p1, .inl (cI, n_p1, .inl v_p1)), (a_p2, .inl (cI, n_p2, .inl v_p2))])) (va_Qv (fun _ : Unit => True) (fun _ t => va_P D classes [(a_this, .inr (9, [.ref o_lengths, .ref a_halves, .ref o_leaves, .ref o_sorted, .ref a_starts, .ref o_sums, .ref o_above, .ref o_depths, .int i_known, .int i_nextLeaf, .int i_nextSum])), (a_halves, .inl (cI, 256, .inl v_halves)), (a_starts, .inl (cI, 257, .inl v_starts')), (a_p1, .inl (cI, n_p1, .inl v_p1)), (a_p2, .inl (cI, n_p2, .inl v_p2'))] t.heap ∧ va_K D classes [(cI, .int), (cL, .long), (cZ, .boolean)] t ∧ va_D (va_A [(a_this, .inr (9, [.ref o_lengths, .ref a_halves, .ref o_leaves, .ref o_sorted, .ref a_starts, .ref o_sums, .ref o_above, .ref o_depths, .int i_known, .int i_nextLeaf, .int i_nextSum])), (a_halves, .inl (cI, 256, .inl v_halves)), (a_starts, .inl (cI, 257, .inl v_starts)), (a_p1, .inl (cI, n_p1, .inl v_p1)), (a_p2, .inl (cI, n_p2, .inl v_p2))] sz) [(a_this, .inr (9, [.ref o_lengths, .ref a_halves, .ref o_leaves, .ref o_sorted, .ref a_starts, .ref o_sums, .ref o_above, .ref o_depths, .int i_known, .int i_nextLeaf, .int i_nextSum])), (a_halves, .inl (cI, 256, .inl v_halves)), (a_starts, .inl (cI, 257, .inl v_starts')), (a_p1, .inl (cI, n_p1, .inl v_p1)), (a_p2, .inl (cI, n_p2, .inl v_p2'))]) (va_A [(a_this, .inr (9, [.ref o_lengths, .ref a_halves, .ref o_leaves, .ref o_sorted, .ref a_starts, .ref o_sums, .ref o_above, .ref o_depths, .int i_known, .int i_nextLeaf, .int i_nextSum])), (a_halves, .inl (cI, 256, .inl v_halves)), (a_starts, .inl (cI, 257, .inl v_starts)), (a_p1, .inl (cI, n_p1, .inl v_p1)), (a_p2, .inl (cI, n_p2, .inl v_p2))] sz)) 0 0 (va_A [(a_this, .inr (9, [.ref o_lengths, .ref a_halves, .ref o_leaves, .ref o_sorted, .ref a_starts, .ref o_sums, .ref o_above, .ref o_depths, .int i_known, .int i_nextLeaf, .int i_nextSum])), (a_halves, .inl (cI, 256, .inl v_halves)), (a_starts, .inl (cI, 257, .inl v_starts)), (a_p1, .inl (cI, n_p1, .inl v_p1)), (a_p2, .inl (cI, n_p2, .inl v_p2))] sz) := by
  refine Met.ofW (cc := b_Tree_sortByByte) (maxL := 6) (ret := none) (by decide) rfl ?_
  intro p e s m args below meth c s₁ B hml hv
  obtain ⟨rfl, hsz, hP, hK, hD0⟩ := hv
  have hx := B.exec
  have hb := B.bytes
  have hr := B.returns
  have hts0 := atoms_spec (ws := ws_Tree_sortByByte) B.pre
  have hts := gd_tl hts0
  clear hts0
  have hown : s.vm.findClass "PrefixMill$Tree" = some m.cls := findClass_of_methodNamed B.named
  have hlocks := B.notSynchronized
  subst hsz
  have hD := hD0.self (sz := s.heap.size)
  generalize hAe : va_A [(a_this, .inr (9, [.ref o_lengths, .ref a_halves, .ref o_leaves, .ref o_sorted, .ref a_starts, .ref o_sums, .ref o_above, .ref o_depths, .int i_known, .int i_nextLeaf, .int i_nextSum])), (a_halves, .inl (cI, 256, .inl v_halves)), (a_starts, .inl (cI, 257, .inl v_starts)), (a_p1, .inl (cI, n_p1, .inl v_p1)), (a_p2, .inl (cI, n_p2, .inl v_p2))] s.heap.size = A at hD ⊢
  have hA : ∀ q : Nat, s.heap.size ≤ q → A q := fun q h => by rw [← hAe]; exact Or.inr h
  have hS : va_S A s.heap s.heap [] := va_S.rf
  have hP : va_P D classes [(a_this, .inr (9, [.ref o_lengths, .ref a_halves, .ref o_leaves, .ref o_sorted, .ref a_starts, .ref o_sums, .ref o_above, .ref o_depths, .int i_known, .int i_nextLeaf, .int i_nextSum])), (a_halves, .inl (cI, 256, .inl v_halves)), (a_starts, .inl (cI, 257, .inl v_starts)), (a_p1, .inl (cI, n_p1, .inl v_p1)), (a_p2, .inl (cI, n_p2, .inl v_p2))] s.heap := hP
  have hl := lv_entry ([.ref a_this, .ref a_p1, .ref a_p2, .int l3]) (n := 6) (Nat.le_of_ble_eq_true rfl)
  rw [lg_entry_eq]
  generalize (lg_sl ([.ref a_this, .ref a_p1, .ref a_p2, .int l3]) ++ List.replicate (6 - (lg_sl ([.ref a_this, .ref a_p1, .ref a_p2, .int l3])).length) Slot.unset).toArray = ls at hl ⊢
  have hl : lv_has ls 6 [(0, .ref a_this), (1, .ref a_p1), (2, .ref a_p2), (3, .int l3)] := hl
  have C : Cx p s m ([.ref a_this, .ref a_p1, .ref a_p2, .int l3] : List Value).toArray c b_Tree_sortByByte 6 "PrefixMill$Tree" D [(cI, .int), (cL, .long), (cZ, .boolean)] A := ⟨hx, hb, hml, hown, hts, hK, hA⟩
  refine w_Tree_sortByByte_b0 (res := (v_starts', v_p2')) C ?_ _ _ h s.heap [] ls hl hP hD hS
  intro pc9 H9 locs9 ls9 v_starts9 v_p29 e9 d9 hP9 hD9 hS9
  cases e9
  exact W.vret hx hb hr (fun t ht hW => ⟨⟨(), rfl, trivial, by rw [ht]; exact hP9, va_K.moved hW.alike hK, hD9⟩, hS9.F ht⟩) hS9.2.2 d9
abbrev b_Tree_sortLeaves : ByteArray := prog_9_method_5_code
def ws_Tree_sortLeaves : List Cond := .code ({ cls := "PrefixMill$Tree", name := "sortLeaves", desc := "()V" } : Jvm.MethodName) b_Tree_sortLeaves 3 none :: tt
theorem d_Tree_sortLeaves_0 : decode b_Tree_sortLeaves 0 = .ok (.iconst 0, 1) := by decide +kernel
theorem d_Tree_sortLeaves_1 : decode b_Tree_sortLeaves 1 = .ok (.istore_n 1, 1) := by decide +kernel
theorem d_Tree_sortLeaves_2 : decode b_Tree_sortLeaves 2 = .ok (.iconst 0, 1) := by decide +kernel
theorem d_Tree_sortLeaves_3 : decode b_Tree_sortLeaves 3 = .ok (.istore_n 2, 1) := by decide +kernel
theorem d_Tree_sortLeaves_4 : decode b_Tree_sortLeaves 4 = .ok (.iload_n 2, 1) := by decide +kernel
theorem d_Tree_sortLeaves_5 : decode b_Tree_sortLeaves 5 = .ok (.sipush 256, 3) := by decide +kernel
theorem d_Tree_sortLeaves_8 : decode b_Tree_sortLeaves 8 = .ok (.if_icmp .ge 28, 3) := by decide +kernel
theorem d_Tree_sortLeaves_11 : decode b_Tree_sortLeaves 11 = .ok (.aload_n 0, 1) := by decide +kernel
theorem d_Tree_sortLeaves_12 : decode b_Tree_sortLeaves 12 = .ok (.getfield 15, 3) := by decide +kernel
theorem d_Tree_sortLeaves_15 : decode b_Tree_sortLeaves 15 = .ok (.iload_n 2, 1) := by decide +kernel
theorem d_Tree_sortLeaves_16 : decode b_Tree_sortLeaves 16 = .ok (.iaload, 1) := by decide +kernel
theorem d_Tree_sortLeaves_17 : decode b_Tree_sortLeaves 17 = .ok (.ifCond .le 13, 3) := by decide +kernel
theorem d_Tree_sortLeaves_20 : decode b_Tree_sortLeaves 20 = .ok (.aload_n 0, 1) := by decide +kernel
theorem d_Tree_sortLeaves_21 : decode b_Tree_sortLeaves 21 = .ok (.getfield 18, 3) := by decide +kernel
theorem d_Tree_sortLeaves_24 : decode b_Tree_sortLeaves 24 = .ok (.iload_n 1, 1) := by decide +kernel
theorem d_Tree_sortLeaves_25 : decode b_Tree_sortLeaves 25 = .ok (.iload_n 2, 1) := by decide +kernel
theorem d_Tree_sortLeaves_26 : decode b_Tree_sortLeaves 26 = .ok (.iastore, 1) := by decide +kernel
theorem d_Tree_sortLeaves_27 : decode b_Tree_sortLeaves 27 = .ok (.iinc 1 1, 3) := by decide +kernel
theorem d_Tree_sortLeaves_30 : decode b_Tree_sortLeaves 30 = .ok (.iinc 2 1, 3) := by decide +kernel
theorem d_Tree_sortLeaves_33 : decode b_Tree_sortLeaves 33 = .ok (.goto (-29), 3) := by decide +kernel
theorem d_Tree_sortLeaves_36 : decode b_Tree_sortLeaves 36 = .ok (.aload_n 0, 1) := by decide +kernel
theorem d_Tree_sortLeaves_37 : decode b_Tree_sortLeaves 37 = .ok (.aload_n 0, 1) := by decide +kernel
theorem d_Tree_sortLeaves_38 : decode b_Tree_sortLeaves 38 = .ok (.getfield 18, 3) := by decide +kernel
theorem d_Tree_sortLeaves_41 : decode b_Tree_sortLeaves 41 = .ok (.aload_n 0, 1) := by decide +kernel
theorem d_Tree_sortLeaves_42 : decode b_Tree_sortLeaves 42 = .ok (.getfield 21, 3) := by decide +kernel
theorem d_Tree_sortLeaves_45 : decode b_Tree_sortLeaves 45 = .ok (.iconst 0, 1) := by decide +kernel
theorem d_Tree_sortLeaves_46 : decode b_Tree_sortLeaves 46 = .ok (.invokevirtual 53, 3) := by decide +kernel
theorem d_Tree_sortLeaves_49 : decode b_Tree_sortLeaves 49 = .ok (.aload_n 0, 1) := by decide +kernel
theorem d_Tree_sortLeaves_50 : decode b_Tree_sortLeaves 50 = .ok (.aload_n 0, 1) := by decide +kernel
theorem d_Tree_sortLeaves_51 : decode b_Tree_sortLeaves 51 = .ok (.getfield 21, 3) := by decide +kernel
theorem d_Tree_sortLeaves_54 : decode b_Tree_sortLeaves 54 = .ok (.aload_n 0, 1) := by decide +kernel
theorem d_Tree_sortLeaves_55 : decode b_Tree_sortLeaves 55 = .ok (.getfield 18, 3) := by decide +kernel
theorem d_Tree_sortLeaves_58 : decode b_Tree_sortLeaves 58 = .ok (.bipush 8, 2) := by decide +kernel
theorem d_Tree_sortLeaves_60 : decode b_Tree_sortLeaves 60 = .ok (.invokevirtual 53, 3) := by decide +kernel
theorem d_Tree_sortLeaves_63 : decode b_Tree_sortLeaves 63 = .ok (.return_, 1) := by decide +kernel
abbrev R_Tree_sortLeaves : Room := ({ frames := 2, cells := 0, slots := 0, locals := 48 } : Room)
def E_Tree_sortLeaves (p : Program) (l : Launch) (e : Env) (s : State) (m : MethodId) (args : Array Value) (below : List Frame) (meth : Method) (c : Code) (Q : State → Prop) (A : Nat → Prop) (D : va_G) (cI cL cZ : ClassId) (a_this : Nat) (a_halves : Nat) (a_leaves : Nat) (a_sorted : Nat) (a_starts : Nat) (o_lengths : Nat) (o_sums : Nat) (o_above : Nat) (o_depths : Nat) (i_known : Int32) (i_nextLeaf : Int32) (i_nextSum : Int32) (v_halves : Nat → Int32) (res : (Nat → Int32) × (Nat → Int32) × (Nat → Int32)) : Prop := ∀ (pc : Nat) (H : Heap) (locs : List Loc) (ls : Array Slot) (v_leaves : Nat → Int32) (v_sorted : Nat → Int32) (v_starts : Nat → Int32), some (v_leaves, v_sorted, v_starts) = some res → decode b_Tree_sortLeaves pc = .ok (.return_, 1) → va_P D classes [(a_this, .inr (9, [.ref o_lengths, .ref a_halves, .ref a_leaves, .ref a_sorted, .ref a_starts, .ref o_sums, .ref o_above, .ref o_depths, .int i_known, .int i_nextLeaf, .int i_nextSum])), (a_halves, .inl (cI, 256, .inl v_halves)), (a_leaves, .inl (cI, 256, .inl v_leaves)), (a_sorted, .inl (cI, 256, .inl v_sorted)), (a_starts, .inl (cI, 257, .inl v_starts))] H → va_D A [(a_this, .inr (9, [.ref o_lengths, .ref a_halves, .ref a_leaves, .ref a_sorted, .ref a_starts, .ref o_sums, .ref o_above, .ref o_depths, .int i_known, .int i_nextLeaf, .int i_nextSum])), (a_halves, .inl (cI, 256, .inl v_halves)), (a_leaves, .inl (cI, 256, .inl v_leaves)), (a_sorted, .inl (cI, 256, .inl v_sorted)), (a_starts, .inl (cI, 257, .inl v_starts))] → va_S A s.heap H locs → W p l e R_Tree_sortLeaves s m args below meth c H locs 0 0 Q (F0 m pc ls [])
def I_Tree_sortLeaves_b30 (p : Program) (l : Launch) (e : Env) (s : State) (m : MethodId) (args : Array Value) (below : List Frame) (meth : Method) (c : Code) (Q : State → Prop) (A : Nat → Prop) (D : va_G) (cI cL cZ : ClassId) (a_this : Nat) (a_halves : Nat) (a_leaves : Nat) (a_sorted : Nat) (a_starts : Nat) (o_lengths : Nat) (o_sums : Nat) (o_above : Nat) (o_depths : Nat) (i_known : Int32) (i_nextLeaf : Int32) (i_nextSum : Int32) (v_halves : Nat → Int32) (res : (Nat → Int32) × (Nat → Int32) × (Nat → Int32)) (kf : Int32 → Int32 → (Nat → Int32) → (Nat → Int32) → (Nat → Int32) → Option ((Nat → Int32) × (Nat → Int32) × (Nat → Int32))) : Prop := ∀ (l1 : Int32) (l2 : Int32) (v_leaves : Nat → Int32) (v_sorted : Nat → Int32) (v_starts : Nat → Int32), kf l1 l2 v_leaves v_sorted v_starts = some res → ∀ (H : Heap) (locs : List Loc) (ls : Array Slot), lv_has ls 3 [(0, .ref a_this), (1, .int l1), (2, .int l2)] → va_P D classes [(a_this, .inr (9, [.ref o_lengths, .ref a_halves, .ref a_leaves, .ref a_sorted, .ref a_starts, .ref o_sums, .ref o_above, .ref o_depths, .int i_known, .int i_nextLeaf, .int i_nextSum])), (a_halves, .inl (cI, 256, .inl v_halves)), (a_leaves, .inl (cI, 256, .inl v_leaves)), (a_sorted, .inl (cI, 256, .inl v_sorted)), (a_starts, .inl (cI, 257, .inl v_starts))] H → va_D A [(a_this, .inr (9, [.ref o_lengths, .ref a_halves, .ref a_leaves, .ref a_sorted, .ref a_starts, .ref o_sums, .ref o_above, .ref o_depths, .int i_known, .int i_nextLeaf, .int i_nextSum])), (a_halves, .inl (cI, 256, .inl v_halves)), (a_leaves, .inl (cI, 256, .inl v_leaves)), (a_sorted, .inl (cI, 256, .inl v_sorted)), (a_starts, .inl (cI, 257, .inl v_starts))] → va_S A s.heap H locs → W p l e R_Tree_sortLeaves s m args below meth c H locs 0 0 Q (F0 m 30 ls [])
def I_Tree_sortLeaves_b36 (p : Program) (l : Launch) (e : Env) (s : State) (m : MethodId) (args : Array Value) (below : List Frame) (meth : Method) (c : Code) (Q : State → Prop) (A : Nat → Prop) (D : va_G) (cI cL cZ : ClassId) (a_this : Nat) (a_halves : Nat) (a_leaves : Nat) (a_sorted : Nat) (a_starts : Nat) (o_lengths : Nat) (o_sums : Nat) (o_above : Nat) (o_depths : Nat) (i_known : Int32) (i_nextLeaf : Int32) (i_nextSum : Int32) (v_halves : Nat → Int32) (res : (Nat → Int32) × (Nat → Int32) × (Nat → Int32)) (kf : (Nat → Int32) → (Nat → Int32) → (Nat → Int32) → Option ((Nat → Int32) × (Nat → Int32) × (Nat → Int32))) : Prop := ∀ (v_leaves : Nat → Int32) (v_sorted : Nat → Int32) (v_starts : Nat → Int32), kf v_leaves v_sorted v_starts = some res → ∀ (H : Heap) (locs : List Loc) (ls : Array Slot), lv_has ls 3 [(0, .ref a_this)] → va_P D classes [(a_this, .inr (9, [.ref o_lengths, .ref a_halves, .ref a_leaves, .ref a_sorted, .ref a_starts, .ref o_sums, .ref o_above, .ref o_depths, .int i_known, .int i_nextLeaf, .int i_nextSum])), (a_halves, .inl (cI, 256, .inl v_halves)), (a_leaves, .inl (cI, 256, .inl v_leaves)), (a_sorted, .inl (cI, 256, .inl v_sorted)), (a_starts, .inl (cI, 257, .inl v_starts))] H → va_D A [(a_this, .inr (9, [.ref o_lengths, .ref a_halves, .ref a_leaves, .ref a_sorted, .ref a_starts, .ref o_sums, .ref o_above, .ref o_depths, .int i_known, .int i_nextLeaf, .int i_nextSum])), (a_halves, .inl (cI, 256, .inl v_halves)), (a_leaves, .inl (cI, 256, .inl v_leaves)), (a_sorted, .inl (cI, 256, .inl v_sorted)), (a_starts, .inl (cI, 257, .inl v_starts))] → va_S A s.heap H locs → W p l e R_Tree_sortLeaves s m args below meth c H locs 0 0 Q (F0 m 36 ls [])
def I_Tree_sortLeaves_b4 (p : Program) (l : Launch) (e : Env) (s : State) (m : MethodId) (args : Array Value) (below : List Frame) (meth : Method) (c : Code) (Q : State → Prop) (A : Nat → Prop) (D : va_G) (cI cL cZ : ClassId) (a_this : Nat) (a_halves : Nat) (a_leaves : Nat) (a_sorted : Nat) (a_starts : Nat) (o_lengths : Nat) (o_sums : Nat) (o_above : Nat) (o_depths : Nat) (i_known : Int32) (i_nextLeaf : Int32) (i_nextSum : Int32) (v_halves : Nat → Int32) (res : (Nat → Int32) × (Nat → Int32) × (Nat → Int32)) (kf : Int32 → Int32 → (Nat → Int32) → (Nat → Int32) → (Nat → Int32) → Option ((Nat → Int32) × (Nat → Int32) × (Nat → Int32))) : Prop := ∀ (l1 : Int32) (l2 : Int32) (v_leaves : Nat → Int32) (v_sorted : Nat → Int32) (v_starts : Nat → Int32), kf l1 l2 v_leaves v_sorted v_starts = some res → ∀ (H : Heap) (locs : List Loc) (ls : Array Slot), lv_has ls 3 [(0, .ref a_this), (1, .int l1), (2, .int l2)] → va_P D classes [(a_this, .inr (9, [.ref o_lengths, .ref a_halves, .ref a_leaves, .ref a_sorted, .ref a_starts, .ref o_sums, .ref o_above, .ref o_depths, .int i_known, .int i_nextLeaf, .int i_nextSum])), (a_halves, .inl (cI, 256, .inl v_halves)), (a_leaves, .inl (cI, 256, .inl v_leaves)), (a_sorted, .inl (cI, 256, .inl v_sorted)), (a_starts, .inl (cI, 257, .inl v_starts))] H → va_D A [(a_this, .inr (9, [.ref o_lengths, .ref a_halves, .ref a_leaves, .ref a_sorted, .ref a_starts, .ref o_sums, .ref o_above, .ref o_depths, .int i_known, .int i_nextLeaf, .int i_nextSum])), (a_halves, .inl (cI, 256, .inl v_halves)), (a_leaves, .inl (cI, 256, .inl v_leaves)), (a_sorted, .inl (cI, 256, .inl v_sorted)), (a_starts, .inl (cI, 257, .inl v_starts))] → va_S A s.heap H locs → W p l e R_Tree_sortLeaves s m args below meth c H locs 0 0 Q (F0 m 4 ls [])
def I_Tree_sortLeaves_b0 (p : Program) (l : Launch) (e : Env) (s : State) (m : MethodId) (args : Array Value) (below : List Frame) (meth : Method) (c : Code) (Q : State → Prop) (A : Nat → Prop) (D : va_G) (cI cL cZ : ClassId) (a_this : Nat) (a_halves : Nat) (a_leaves : Nat) (a_sorted : Nat) (a_starts : Nat) (o_lengths : Nat) (o_sums : Nat) (o_above : Nat) (o_depths : Nat) (i_known : Int32) (i_nextLeaf : Int32) (i_nextSum : Int32) (v_halves : Nat → Int32) (res : (Nat → Int32) × (Nat → Int32) × (Nat → Int32)) (kf : (Nat → Int32) → (Nat → Int32) → (Nat → Int32) → Option ((Nat → Int32) × (Nat → Int32) × (Nat → Int32))) : Prop := ∀ (v_leaves : Nat → Int32) (v_sorted : Nat → Int32) (v_starts : Nat → Int32), kf v_leaves v_sorted v_starts = some res → ∀ (H : Heap) (locs : List Loc) (ls : Array Slot), lv_has ls 3 [(0, .ref a_this)] → va_P D classes [(a_this, .inr (9, [.ref o_lengths, .ref a_halves, .ref a_leaves, .ref a_sorted, .ref a_starts, .ref o_sums, .ref o_above, .ref o_depths, .int i_known, .int i_nextLeaf, .int i_nextSum])), (a_halves, .inl (cI, 256, .inl v_halves)), (a_leaves, .inl (cI, 256, .inl v_leaves)), (a_sorted, .inl (cI, 256, .inl v_sorted)), (a_starts, .inl (cI, 257, .inl v_starts))] H → va_D A [(a_this, .inr (9, [.ref o_lengths, .ref a_halves, .ref a_leaves, .ref a_sorted, .ref a_starts, .ref o_sums, .ref o_above, .ref o_depths, .int i_known, .int i_nextLeaf, .int i_nextSum])), (a_halves, .inl (cI, 256, .inl v_halves)), (a_leaves, .inl (cI, 256, .inl v_leaves)), (a_sorted, .inl (cI, 256, .inl v_sorted)), (a_starts, .inl (cI, 257, .inl v_starts))] → va_S A s.heap H locs → W p l e R_Tree_sortLeaves s m args below meth c H locs 0 0 Q (F0 m 0 ls [])
set_option maxHeartbeats 4000000 in
set_option maxRecDepth 100000 in
theorem w_Tree_sortLeaves_b30 {p : Program} {l : Launch} {e : Env} {s : State} {m : MethodId} {args : Array Value} {below : List Frame} {meth : Method} {c : Code} {Q : State → Prop} {A : Nat → Prop} {D : va_G} {cI cL cZ : ClassId} {a_this : Nat} {a_halves : Nat} {a_leaves : Nat} {a_sorted : Nat} {a_starts : Nat} {o_lengths : Nat} {o_sums : Nat} {o_above : Nat} {o_depths : Nat} {i_known : Int32} {i_nextLeaf : Int32} {i_nextSum : Int32} {v_halves : Nat → Int32} {N : Nat} {res : (Nat → Int32) × (Nat → Int32) × (Nat → Int32)} {k4 : Int32 → Int32 → (Nat → Int32) → (Nat → Int32) → (Nat → Int32) → Option ((Nat → Int32) × (Nat → Int32) × (Nat → Int32))} (C : Cx p s m args c b_Tree_sortLeaves 3 "PrefixMill$Tree" D [(cI, .int), (cL, .long), (cZ, .boolean)] A) (hret : E_Tree_sortLeaves p l e s m args below meth c Q A D cI cL cZ a_this a_halves a_leaves a_sorted a_starts o_lengths o_sums o_above o_depths i_known i_nextLeaf i_nextSum v_halves res) (hk4 : I_Tree_sortLeaves_b4 p l e s m args below meth c Q A D cI cL cZ a_this a_halves a_leaves a_sorted a_starts o_lengths o_sums o_above o_depths i_known i_nextLeaf i_nextSum v_halves res k4) : I_Tree_sortLeaves_b30 p l e s m args below meth c Q A D cI cL cZ a_this a_halves a_leaves a_sorted a_starts o_lengths o_sums o_above o_depths i_known i_nextLeaf i_nextSum v_halves res (f_Tree_sortLeaves_b30 N i_known v_halves k4) := by
  obtain ⟨hx, hb, hml, hown, hts, hK, hA⟩ := C
  intro l1 l2 v_leaves v_sorted v_starts h H locs ls hl hP hD hS
  unfold f_Tree_sortLeaves_b30 at h
  obtain ⟨l2_1, el2_1⟩ : ∃ y : Int32, y = l2 + 1 := ⟨_, rfl⟩
  replace h := nm_s h el2_1
  refine lv_iinc (v := l2_1) (lv' := [(2, .int l2_1), (0, .ref a_this), (1, .int l1)]) hx hb d_Tree_sortLeaves_30 hl (k := 2) rfl (by rw [el2_1]; rfl) (by decide) rfl (fun ls hl => ?_)
  refine lv_goto (tgt := 4) hx hb d_Tree_sortLeaves_33 (by decide) ?_
  exact hk4 _ _ _ _ _ h H locs ls (lv_sub hl [1, 2, 0] rfl) hP hD hS
set_option maxHeartbeats 4000000 in
set_option maxRecDepth 100000 in
theorem w_Tree_sortLeaves_b36 {p : Program} {l : Launch} {e : Env} {s : State} {m : MethodId} {args : Array Value} {below : List Frame} {meth : Method} {c : Code} {Q : State → Prop} {A : Nat → Prop} {D : va_G} {cI cL cZ : ClassId} {a_this : Nat} {a_halves : Nat} {a_leaves : Nat} {a_sorted : Nat} {a_starts : Nat} {o_lengths : Nat} {o_sums : Nat} {o_above : Nat} {o_depths : Nat} {i_known : Int32} {i_nextLeaf : Int32} {i_nextSum : Int32} {v_halves : Nat → Int32} {N : Nat} {res : (Nat → Int32) × (Nat → Int32) × (Nat → Int32)}  (C : Cx p s m args c b_Tree_sortLeaves 3 "PrefixMill$Tree" D [(cI, .int), (cL, .long), (cZ, .boolean)] A) (hret : E_Tree_sortLeaves p l e s m args below meth c Q A D cI cL cZ a_this a_halves a_leaves a_sorted a_starts o_lengths o_sums o_above o_depths i_known i_nextLeaf i_nextSum v_halves res)  : I_Tree_sortLeaves_b36 p l e s m args below meth c Q A D cI cL cZ a_this a_halves a_leaves a_sorted a_starts o_lengths o_sums o_above o_depths i_known i_nextLeaf i_nextSum v_halves res (f_Tree_sortLeaves_b36 N i_known v_halves ) := by
  obtain ⟨hx, hb, hml, hown, hts, hK, hA⟩ := C
  intro v_leaves v_sorted v_starts h H locs ls hl hP hD hS
  unfold f_Tree_sortLeaves_b36 at h
  refine lv_aload_n hx hb d_Tree_sortLeaves_36 rfl (lv_at hl 0 rfl) ?_
  refine lv_aload_n hx hb d_Tree_sortLeaves_37 rfl (lv_at hl 0 rfl) ?_
  refine va_get hx hb hts in_Tree hown hK hP 0 rfl rfl 2 (by decide) (hts _ m_159) (fun _ h9 => h9) rfl d_Tree_sortLeaves_38 ?_
  refine lv_aload_n hx hb d_Tree_sortLeaves_41 rfl (lv_at hl 0 rfl) ?_
  refine va_get hx hb hts in_Tree hown hK hP 0 rfl rfl 3 (by decide) (hts _ m_160) (fun _ h9 => h9) rfl d_Tree_sortLeaves_42 ?_
  refine lv_iconst (v := 0) hx hb d_Tree_sortLeaves_45 (by decide) ?_
  obtain ⟨v_starts_1, v_sorted_2, hc_3, h⟩ := bd2_s h
  have hPc := hP.sub (ws' := [(a_this, .inr (9, [.ref o_lengths, .ref a_halves, .ref a_leaves, .ref a_sorted, .ref a_starts, .ref o_sums, .ref o_above, .ref o_depths, .int i_known, .int i_nextLeaf, .int i_nextSum])), (a_halves, .inl (cI, 256, .inl v_halves)), (a_starts, .inl (cI, 257, .inl v_starts)), (a_leaves, .inl (cI, 256, .inl v_leaves)), (a_sorted, .inl (cI, 256, .inl v_sorted))]) [0, 1, 4, 2, 3] rfl
  have hDc := hD.sub (ws' := [(a_this, .inr (9, [.ref o_lengths, .ref a_halves, .ref a_leaves, .ref a_sorted, .ref a_starts, .ref o_sums, .ref o_above, .ref o_depths, .int i_known, .int i_nextLeaf, .int i_nextSum])), (a_halves, .inl (cI, 256, .inl v_halves)), (a_starts, .inl (cI, 257, .inl v_starts)), (a_leaves, .inl (cI, 256, .inl v_leaves)), (a_sorted, .inl (cI, 256, .inl v_sorted))]) [0, 1, 4, 2, 3] (by decide) rfl
  have hFc := va_free (wc := [(a_this, .inr (9, [.ref o_lengths, .ref a_halves, .ref a_leaves, .ref a_sorted, .ref a_starts, .ref o_sums, .ref o_above, .ref o_depths, .int i_known, .int i_nextLeaf, .int i_nextSum])), (a_halves, .inl (cI, 256, .inl v_halves)), (a_starts, .inl (cI, 257, .inl v_starts)), (a_leaves, .inl (cI, 256, .inl v_leaves)), (a_sorted, .inl (cI, 256, .inl v_sorted))]) hD hS hA [0, 1, 4, 2, 3] rfl
  refine va_callv (va_runV (As := [.ref a_leaves, .ref a_sorted, .int 0]) (rest := []) ⟨hx, hb, hml, hown, hts⟩ (c_Tree_sortByByte l D cI cL cZ H.size N a_this a_halves a_starts a_leaves a_sorted o_lengths a_leaves a_sorted o_sums o_above o_depths i_known i_nextLeaf i_nextSum v_halves v_starts 256 v_leaves 256 v_sorted 0 v_starts_1 v_sorted_2 hc_3) ⟨(my_cb 3 hts m_450 rfl rfl (hts _ m_69) (hts _ m_447) (by decide +kernel) ⟨Nat.le_of_ble_eq_true rfl, Nat.le_of_ble_eq_true rfl⟩), hts _ m_449, hts _ m_1⟩ ⟨fun a U g mk q => by obtain ⟨q0, q1, qP, qK, qD⟩ := q; exact ⟨q0, q1, qP, va_K.moved (u := U) (U := U.calling g mk a) (Vm.Alike.refl U.vm) qK, qD⟩, va_recv hK hPc (ci := 9) (q0 := 0) rfl rfl, fun U hU hW => ⟨rfl, by rw [hU], by rw [hU]; exact hPc, va_K.moved hW.alike hK, hDc.weaken (fun _ _ _ _ => trivial)⟩⟩ rfl rfl hl.1 rfl (lv_room (Nat.le_of_ble_eq_true rfl)) d_Tree_sortLeaves_46 ⟨Nat.zero_le _, Nat.zero_le _⟩) hS (fun q _ h => hFc q h) hFc (fun u t H1 locs ht hvm hw hB hz1 hk1 hS => ?_)
  obtain ⟨hP1, hK1, hD1⟩ := hB
  rw [ht] at hP1
  obtain ⟨hP, hD⟩ := va_join (wr := []) (w1 := [(a_this, .inr (9, [.ref o_lengths, .ref a_halves, .ref a_leaves, .ref a_sorted, .ref a_starts, .ref o_sums, .ref o_above, .ref o_depths, .int i_known, .int i_nextLeaf, .int i_nextSum])), (a_halves, .inl (cI, 256, .inl v_halves)), (a_starts, .inl (cI, 257, .inl v_starts_1)), (a_leaves, .inl (cI, 256, .inl v_leaves)), (a_sorted, .inl (cI, 256, .inl v_sorted_2))]) hP hD [0, 1, 4, 2, 3] [] rfl rfl (by decide) (by decide) hk1 hFc hP1 hD1
  clear hPc hDc hFc hk1 hP1 hD1 hK1
  generalize H1 = H at hP hS ⊢
  have hP : va_P D classes [(a_this, .inr (9, [.ref o_lengths, .ref a_halves, .ref a_leaves, .ref a_sorted, .ref a_starts, .ref o_sums, .ref o_above, .ref o_depths, .int i_known, .int i_nextLeaf, .int i_nextSum])), (a_halves, .inl (cI, 256, .inl v_halves)), (a_leaves, .inl (cI, 256, .inl v_leaves)), (a_sorted, .inl (cI, 256, .inl v_sorted_2)), (a_starts, .inl (cI, 257, .inl v_starts_1))] H := hP.sub [0, 1, 3, 4, 2] rfl
  have hD : va_D A [(a_this, .inr (9, [.ref o_lengths, .ref a_halves, .ref a_leaves, .ref a_sorted, .ref a_starts, .ref o_sums, .ref o_above, .ref o_depths, .int i_known, .int i_nextLeaf, .int i_nextSum])), (a_halves, .inl (cI, 256, .inl v_halves)), (a_leaves, .inl (cI, 256, .inl v_leaves)), (a_sorted, .inl (cI, 256, .inl v_sorted_2)), (a_starts, .inl (cI, 257, .inl v_starts_1))] := hD.sub [0, 1, 3, 4, 2] (by decide) rfl
  refine lv_aload_n hx hb d_Tree_sortLeaves_49 rfl (lv_at hl 0 rfl) ?_
  refine lv_aload_n hx hb d_Tree_sortLeaves_50 rfl (lv_at hl 0 rfl) ?_
  refine va_get hx hb hts in_Tree hown hK hP 0 rfl rfl 3 (by decide) (hts _ m_160) (fun _ h9 => h9) rfl d_Tree_sortLeaves_51 ?_
  refine lv_aload_n hx hb d_Tree_sortLeaves_54 rfl (lv_at hl 0 rfl) ?_
  refine va_get hx hb hts in_Tree hown hK hP 0 rfl rfl 2 (by decide) (hts _ m_159) (fun _ h9 => h9) rfl d_Tree_sortLeaves_55 ?_
  refine lv_bipush (v := 8) hx hb d_Tree_sortLeaves_58 (by decide) ?_
  obtain ⟨v_starts_4, v_leaves_5, hc_6, h⟩ := bd2_s h
  have hPc := hP.sub (ws' := [(a_this, .inr (9, [.ref o_lengths, .ref a_halves, .ref a_leaves, .ref a_sorted, .ref a_starts, .ref o_sums, .ref o_above, .ref o_depths, .int i_known, .int i_nextLeaf, .int i_nextSum])), (a_halves, .inl (cI, 256, .inl v_halves)), (a_starts, .inl (cI, 257, .inl v_starts_1)), (a_sorted, .inl (cI, 256, .inl v_sorted_2)), (a_leaves, .inl (cI, 256, .inl v_leaves))]) [0, 1, 4, 3, 2] rfl
  have hDc := hD.sub (ws' := [(a_this, .inr (9, [.ref o_lengths, .ref a_halves, .ref a_leaves, .ref a_sorted, .ref a_starts, .ref o_sums, .ref o_above, .ref o_depths, .int i_known, .int i_nextLeaf, .int i_nextSum])), (a_halves, .inl (cI, 256, .inl v_halves)), (a_starts, .inl (cI, 257, .inl v_starts_1)), (a_sorted, .inl (cI, 256, .inl v_sorted_2)), (a_leaves, .inl (cI, 256, .inl v_leaves))]) [0, 1, 4, 3, 2] (by decide) rfl
  have hFc := va_free (wc := [(a_this, .inr (9, [.ref o_lengths, .ref a_halves, .ref a_leaves, .ref a_sorted, .ref a_starts, .ref o_sums, .ref o_above, .ref o_depths, .int i_known, .int i_nextLeaf, .int i_nextSum])), (a_halves, .inl (cI, 256, .inl v_halves)), (a_starts, .inl (cI, 257, .inl v_starts_1)), (a_sorted, .inl (cI, 256, .inl v_sorted_2)), (a_leaves, .inl (cI, 256, .inl v_leaves))]) hD hS hA [0, 1, 4, 3, 2] rfl
  refine va_callv (va_runV (As := [.ref a_sorted, .ref a_leaves, .int 8]) (rest := []) ⟨hx, hb, hml, hown, hts⟩ (c_Tree_sortByByte l D cI cL cZ H.size N a_this a_halves a_starts a_sorted a_leaves o_lengths a_leaves a_sorted o_sums o_above o_depths i_known i_nextLeaf i_nextSum v_halves v_starts_1 256 v_sorted_2 256 v_leaves 8 v_starts_4 v_leaves_5 hc_6) ⟨(my_cb 3 hts m_450 rfl rfl (hts _ m_69) (hts _ m_447) (by decide +kernel) ⟨Nat.le_of_ble_eq_true rfl, Nat.le_of_ble_eq_true rfl⟩), hts _ m_449, hts _ m_1⟩ ⟨fun a U g mk q => by obtain ⟨q0, q1, qP, qK, qD⟩ := q; exact ⟨q0, q1, qP, va_K.moved (u := U) (U := U.calling g mk a) (Vm.Alike.refl U.vm) qK, qD⟩, va_recv hK hPc (ci := 9) (q0 := 0) rfl rfl, fun U hU hW => ⟨rfl, by rw [hU], by rw [hU]; exact hPc, va_K.moved hW.alike hK, hDc.weaken (fun _ _ _ _ => trivial)⟩⟩ rfl rfl hl.1 rfl (lv_room (Nat.le_of_ble_eq_true rfl)) d_Tree_sortLeaves_60 ⟨Nat.zero_le _, Nat.zero_le _⟩) hS (fun q _ h => hFc q h) hFc (fun u t H1 locs ht hvm hw hB hz1 hk1 hS => ?_)
  obtain ⟨hP1, hK1, hD1⟩ := hB
  rw [ht] at hP1
  obtain ⟨hP, hD⟩ := va_join (wr := []) (w1 := [(a_this, .inr (9, [.ref o_lengths, .ref a_halves, .ref a_leaves, .ref a_sorted, .ref a_starts, .ref o_sums, .ref o_above, .ref o_depths, .int i_known, .int i_nextLeaf, .int i_nextSum])), (a_halves, .inl (cI, 256, .inl v_halves)), (a_starts, .inl (cI, 257, .inl v_starts_4)), (a_sorted, .inl (cI, 256, .inl v_sorted_2)), (a_leaves, .inl (cI, 256, .inl v_leaves_5))]) hP hD [0, 1, 4, 3, 2] [] rfl rfl (by decide) (by decide) hk1 hFc hP1 hD1
  clear hPc hDc hFc hk1 hP1 hD1 hK1
  generalize H1 = H at hP hS ⊢
  have hP : va_P D classes [(a_this, .inr (9, [.ref o_lengths, .ref a_halves, .ref a_leaves, .ref a_sorted, .ref a_starts, .ref o_sums, .ref o_above, .ref o_depths, .int i_known, .int i_nextLeaf, .int i_nextSum])), (a_halves, .inl (cI, 256, .inl v_halves)), (a_leaves, .inl (cI, 256, .inl v_leaves_5)), (a_sorted, .inl (cI, 256, .inl v_sorted_2)), (a_starts, .inl (cI, 257, .inl v_starts_4))] H := hP.sub [0, 1, 4, 3, 2] rfl
  have hD : va_D A [(a_this, .inr (9, [.ref o_lengths, .ref a_halves, .ref a_leaves, .ref a_sorted, .ref a_starts, .ref o_sums, .ref o_above, .ref o_depths, .int i_known, .int i_nextLeaf, .int i_nextSum])), (a_halves, .inl (cI, 256, .inl v_halves)), (a_leaves, .inl (cI, 256, .inl v_leaves_5)), (a_sorted, .inl (cI, 256, .inl v_sorted_2)), (a_starts, .inl (cI, 257, .inl v_starts_4))] := hD.sub [0, 1, 4, 3, 2] (by decide) rfl
  exact hret _ _ _ _ v_leaves_5 v_sorted_2 v_starts_4 h d_Tree_sortLeaves_63 hP hD hS
set_option maxHeartbeats 4000000 in
set_option maxRecDepth 100000 in
theorem w_Tree_sortLeaves_b4 {p : Program} {l : Launch} {e : Env} {s : State} {m : MethodId} {args : Array Value} {below : List Frame} {meth : Method} {c : Code} {Q : State → Prop} {A : Nat → Prop} {D : va_G} {cI cL cZ : ClassId} {a_this : Nat} {a_halves : Nat} {a_leaves : Nat} {a_sorted : Nat} {a_starts : Nat} {o_lengths : Nat} {o_sums : Nat} {o_above : Nat} {o_depths : Nat} {i_known : Int32} {i_nextLeaf : Int32} {i_nextSum : Int32} {v_halves : Nat → Int32} {N : Nat} {res : (Nat → Int32) × (Nat → Int32) × (Nat → Int32)}  (C : Cx p s m args c b_Tree_sortLeaves 3 "PrefixMill$Tree" D [(cI, .int), (cL, .long), (cZ, .boolean)] A) (hret : E_Tree_sortLeaves p l e s m args below meth c Q A D cI cL cZ a_this a_halves a_leaves a_sorted a_starts o_lengths o_sums o_above o_depths i_known i_nextLeaf i_nextSum v_halves res)  : ∀ z : Nat, I_Tree_sortLeaves_b4 p l e s m args below meth c Q A D cI cL cZ a_this a_halves a_leaves a_sorted a_starts o_lengths o_sums o_above o_depths i_known i_nextLeaf i_nextSum v_halves res (f_Tree_sortLeaves_b4 N i_known v_halves  z) := by
  obtain ⟨hx, hb, hml, hown, hts, hK, hA⟩ := C
  intro z
  induction z with
  | zero => intro l1 l2 v_leaves v_sorted v_starts h; cases h
  | succ z ih =>
    intro l1 l2 v_leaves v_sorted v_starts h H locs ls hl hP hD hS
    refine lv_iload_n hx hb d_Tree_sortLeaves_4 rfl (lv_at hl 2 rfl) ?_
    refine lv_sipush (v := 256) hx hb d_Tree_sortLeaves_5 (by decide) ?_
    refine lv_icmp_ge (tgt := 36) hx hb d_Tree_sortLeaves_8 (by decide) (fun c_1 => ?_) (fun c_1 => ?_)
    · replace h := if_t h c_1
      exact w_Tree_sortLeaves_b36 ⟨hx, hb, hml, hown, hts, hK, hA⟩ hret  _ _ _ h H locs ls (lv_sub hl [0] rfl) hP hD hS
    · replace h := if_f h c_1
      refine lv_aload_n hx hb d_Tree_sortLeaves_11 rfl (lv_at hl 0 rfl) ?_
      refine va_get hx hb hts in_Tree hown hK hP 0 rfl rfl 1 (by decide) (hts _ m_158) (fun _ h9 => h9) rfl d_Tree_sortLeaves_12 ?_
      refine lv_iload_n hx hb d_Tree_sortLeaves_15 rfl (lv_at hl 2 rfl) ?_
      obtain ⟨g_2, h⟩ := ck_s h
      refine va_iald hx hb hK hP 1 0 rfl rfl (inb_s g_2) d_Tree_sortLeaves_16 ?_
      refine lv_if_le (tgt := 30) hx hb d_Tree_sortLeaves_17 (by decide) (fun c_3 => ?_) (fun c_3 => ?_)
      · replace h := if_t h c_3
        exact w_Tree_sortLeaves_b30 ⟨hx, hb, hml, hown, hts, hK, hA⟩ hret ih _ _ _ _ _ h H locs ls (lv_sub hl [0, 1, 2] rfl) hP hD hS
      · replace h := if_f h c_3
        refine lv_aload_n hx hb d_Tree_sortLeaves_20 rfl (lv_at hl 0 rfl) ?_
        refine va_get hx hb hts in_Tree hown hK hP 0 rfl rfl 2 (by decide) (hts _ m_159) (fun _ h9 => h9) rfl d_Tree_sortLeaves_21 ?_
        refine lv_iload_n hx hb d_Tree_sortLeaves_24 rfl (lv_at hl 1 rfl) ?_
        refine lv_iload_n hx hb d_Tree_sortLeaves_25 rfl (lv_at hl 2 rfl) ?_
        obtain ⟨g_4, h⟩ := ck_s h
        refine va_iast hx hb hK hP hD hS 2 0 rfl rfl (inb_s g_4) d_Tree_sortLeaves_26 (fun H locs hP hD hS => ?_)
        obtain ⟨v_leaves_5, ev_leaves_5⟩ : ∃ y, y = (upd v_leaves (Int32.toNatClampNeg l1) l2) := ⟨_, rfl⟩
        replace h := nm_s h ev_leaves_5
        have hP : va_P D classes [(a_this, .inr (9, [.ref o_lengths, .ref a_halves, .ref a_leaves, .ref a_sorted, .ref a_starts, .ref o_sums, .ref o_above, .ref o_depths, .int i_known, .int i_nextLeaf, .int i_nextSum])), (a_halves, .inl (cI, 256, .inl v_halves)), (a_leaves, .inl (cI, 256, .inl v_leaves_5)), (a_sorted, .inl (cI, 256, .inl v_sorted)), (a_starts, .inl (cI, 257, .inl v_starts))] H := by rw [ev_leaves_5]; exact hP
        have hD : va_D A [(a_this, .inr (9, [.ref o_lengths, .ref a_halves, .ref a_leaves, .ref a_sorted, .ref a_starts, .ref o_sums, .ref o_above, .ref o_depths, .int i_known, .int i_nextLeaf, .int i_nextSum])), (a_halves, .inl (cI, 256, .inl v_halves)), (a_leaves, .inl (cI, 256, .inl v_leaves_5)), (a_sorted, .inl (cI, 256, .inl v_sorted)), (a_starts, .inl (cI, 257, .inl v_starts))] := by rw [ev_leaves_5]; exact hD
        obtain ⟨l1_6, el1_6⟩ : ∃ y : Int32, y = l1 + 1 := ⟨_, rfl⟩
        replace h := nm_s h el1_6
        refine lv_iinc (v := l1_6) (lv' := [(1, .int l1_6), (0, .ref a_this), (2, .int l2)]) hx hb d_Tree_sortLeaves_27 hl (k := 1) rfl (by rw [el1_6]; rfl) (by decide) rfl (fun ls hl => ?_)
        exact w_Tree_sortLeaves_b30 ⟨hx, hb, hml, hown, hts, hK, hA⟩ hret ih _ _ _ _ _ h H locs ls (lv_sub hl [1, 0, 2] rfl) hP hD hS
set_option maxHeartbeats 4000000 in
set_option maxRecDepth 100000 in
theorem w_Tree_sortLeaves_b0 {p : Program} {l : Launch} {e : Env} {s : State} {m : MethodId} {args : Array Value} {below : List Frame} {meth : Method} {c : Code} {Q : State → Prop} {A : Nat → Prop} {D : va_G} {cI cL cZ : ClassId} {a_this : Nat} {a_halves : Nat} {a_leaves : Nat} {a_sorted : Nat} {a_starts : Nat} {o_lengths : Nat} {o_sums : Nat} {o_above : Nat} {o_depths : Nat} {i_known : Int32} {i_nextLeaf : Int32} {i_nextSum : Int32} {v_halves : Nat → Int32} {N : Nat} {res : (Nat → Int32) × (Nat → Int32) × (Nat → Int32)}  (C : Cx p s m args c b_Tree_sortLeaves 3 "PrefixMill$Tree" D [(cI, .int), (cL, .long), (cZ, .boolean)] A) (hret : E_Tree_sortLeaves p l e s m args below meth c Q A D cI cL cZ a_this a_halves a_leaves a_sorted a_starts o_lengths o_sums o_above o_depths i_known i_nextLeaf i_nextSum v_halves res)  : I_Tree_sortLeaves_b0 p l e s m args below meth c Q A D cI cL cZ a_this a_halves a_leaves a_sorted a_starts o_lengths o_sums o_above o_depths i_known i_nextLeaf i_nextSum v_halves res (f_Tree_sortLeaves N i_known v_halves ) := by
  obtain ⟨hx, hb, hml, hown, hts, hK, hA⟩ := C
  intro v_leaves v_sorted v_starts h H locs ls hl hP hD hS
  unfold f_Tree_sortLeaves at h
  refine lv_iconst (v := 0) hx hb d_Tree_sortLeaves_0 (by decide) ?_
  refine lv_istore_n (lv' := [(1, .int 0), (0, .ref a_this)]) hx hb d_Tree_sortLeaves_1 rfl hl (by decide) rfl (fun ls hl => ?_)
  refine lv_iconst (v := 0) hx hb d_Tree_sortLeaves_2 (by decide) ?_
  refine lv_istore_n (lv' := [(2, .int 0), (1, .int 0), (0, .ref a_this)]) hx hb d_Tree_sortLeaves_3 rfl hl (by decide) rfl (fun ls hl => ?_)
  exact w_Tree_sortLeaves_b4 ⟨hx, hb, hml, hown, hts, hK, hA⟩ hret  N _ _ _ _ _ h H locs ls (lv_sub hl [2, 1, 0] rfl) hP hD hS
set_option maxHeartbeats 4000000 in
set_option maxRecDepth 100000 in
theorem c_Tree_sortLeaves (l : Launch) (D : va_G) (cI cL cZ : ClassId) (sz N : Nat) (a_this : Nat) (a_halves : Nat) (a_leaves : Nat) (a_sorted : Nat) (a_starts : Nat) (o_lengths : Nat) (o_sums : Nat) (o_above : Nat) (o_depths : Nat) (i_known : Int32) (i_nextLeaf : Int32) (i_nextSum : Int32) (v_halves : Nat → Int32) (v_leaves : Nat → Int32) (v_sorted : Nat → Int32) (v_starts : Nat → Int32) (v_leaves' : Nat → Int32) (v_sorted' : Nat → Int32) (v_starts' : Nat → Int32) (h : f_Tree_sortLeaves N i_known v_halves v_leaves v_sorted v_starts = some (v_leaves', v_sorted', v_starts')) : Met l ({ cls := "PrefixMill$Tree", name := "sortLeaves", desc := "()V" } : Jvm.MethodName) ws_Tree_sortLeaves R_Tree_sortLeaves (va_Pc [.ref a_this] (fun U => U.heap.size = sz ∧ va_P D classes [(a_this, .inr (9, [.ref o_lengths, .ref a_halves, .ref a_leaves, .ref a_sorted, .ref a_starts, .ref o_sums, .ref o_above, .ref o_depths, .int i_known, .int i_nextLeaf, .int i_nextSum])), (a_halves, .inl (cI, 256, .inl v_halves)), (a_leaves, .inl (cI, 256, .inl v_leaves)), (a_sorted, .inl (cI, 256, .inl v_sorted)), (a_starts, .inl (cI, 257, .inl v_starts))] U.heap ∧ va_K D classes [(cI, .int), (cL, .long), (cZ, .boolean)] U ∧ va_D (fun _ => True) [(a_this, .inr (9, [.ref o_lengths, .ref a_halves, .ref a_leaves, .ref a_sorted, .ref a_starts, .ref o_sums, .ref o_above, .ref o_depths, .int i_known, .int i_nextLeaf, .int i_nextSum])), (a_halves, .inl (cI, 256, .inl v_halves)), (a_leaves, .inl (cI, 256, .inl v_leaves)), (a_sorted, .inl (cI, 256, .inl v_sorted)), (a_starts, .inl (cI, 257, .inl v_starts))])) (va_Qv (fun _ : Unit => True) (fun _ t => va_P D classes [(a_this, .inr (9, [.ref o_lengths, .ref a_halves, .ref a_leaves, .ref a_sorted, .ref a_starts, .ref o_sums, .ref o_above, .ref o_depths, .int i_known, .int i_nextLeaf, .int i_nextSum])), (a_halves, .inl (cI, 256, .inl v_halves)), (a_leaves, .inl (cI, 256, .inl v_leaves')), (a_sorted, .inl (cI, 256, .inl v_sorted')), (a_starts, .inl (cI, 257, .inl v_starts'))] t.heap ∧ va_K D classes [(cI, .int), (cL, .long), (cZ, .boolean)] t ∧ va_D (va_A [(a_this, .inr (9, [.ref o_lengths, .ref a_halves, .ref a_leaves, .ref a_sorted, .ref a_starts, .ref o_sums, .ref o_above, .ref o_depths, .int i_known, .int i_nextLeaf, .int i_nextSum])), (a_halves, .inl (cI, 256, .inl v_halves)), (a_leaves, .inl (cI, 256, .inl v_leaves)), (a_sorted, .inl (cI, 256, .inl v_sorted)), (a_starts, .inl (cI, 257, .inl v_starts))] sz) [(a_this, .inr (9, [.ref o_lengths, .ref a_halves, .ref a_leaves, .ref a_sorted, .ref a_starts, .ref o_sums, .ref o_above, .ref o_depths, .int i_known, .int i_nextLeaf, .int i_nextSum])), (a_halves, .inl (cI, 256, .inl v_halves)), (a_leaves, .inl (cI, 256, .inl v_leaves')), (a_sorted, .inl (cI, 256, .inl v_sorted')), (a_starts, .inl (cI, 257, .inl v_starts'))]) (va_A [(a_this, .inr (9, [.ref o_lengths, .ref a_halves, .ref a_leaves, .ref a_sorted, .ref a_starts, .ref o_sums, .ref o_above, .ref o_depths, .int i_known, .int i_nextLeaf, .int i_nextSum])), (a_halves, .inl (cI, 256, .inl v_halves)), (a_leaves, .inl (cI, 256, .inl v_leaves)), (a_sorted, .inl (cI, 256, .inl v_sorted)), (a_starts, .inl (cI, 257, .inl v_starts))] sz)) 0 0 (va_A [(a_this, .inr (9, [.ref o_lengths, .ref a_halves, .ref a_leaves, .ref a_sorted, .ref a_starts, .ref o_sums, .ref o_above, .ref o_depths, .int i_known, .int i_nextLeaf, .int i_nextSum])), (a_halves, .inl (cI, 256, .inl v_halves)), (a_leaves, .inl (cI, 256, .inl v_leaves)), (a_sorted, .inl (cI, 256, .inl v_sorted)), (a_starts, .inl (cI, 257, .inl v_starts))] sz) := by
  refine Met.ofW (cc := b_Tree_sortLeaves) (maxL := 3) (ret := none) (by decide) rfl ?_
  intro p e s m args below meth c s₁ B hml hv
  obtain ⟨rfl, hsz, hP, hK, hD0⟩ := hv
  have hx := B.exec
  have hb := B.bytes
  have hr := B.returns
  have hts0 := atoms_spec (ws := ws_Tree_sortLeaves) B.pre
  have hts := gd_tl hts0
  clear hts0
  have hown : s.vm.findClass "PrefixMill$Tree" = some m.cls := findClass_of_methodNamed B.named
  have hlocks := B.notSynchronized
  subst hsz
  have hD := hD0.self (sz := s.heap.size)
  generalize hAe : va_A [(a_this, .inr (9, [.ref o_lengths, .ref a_halves, .ref a_leaves, .ref a_sorted, .ref a_starts, .ref o_sums, .ref o_above, .ref o_depths, .int i_known, .int i_nextLeaf, .int i_nextSum])), (a_halves, .inl (cI, 256, .inl v_halves)), (a_leaves, .inl (cI, 256, .inl v_leaves)), (a_sorted, .inl (cI, 256, .inl v_sorted)), (a_starts, .inl (cI, 257, .inl v_starts))] s.heap.size = A at hD ⊢
  have hA : ∀ q : Nat, s.heap.size ≤ q → A q := fun q h => by rw [← hAe]; exact Or.inr h
  have hS : va_S A s.heap s.heap [] := va_S.rf
  have hP : va_P D classes [(a_this, .inr (9, [.ref o_lengths, .ref a_halves, .ref a_leaves, .ref a_sorted, .ref a_starts, .ref o_sums, .ref o_above, .ref o_depths, .int i_known, .int i_nextLeaf, .int i_nextSum])), (a_halves, .inl (cI, 256, .inl v_halves)), (a_leaves, .inl (cI, 256, .inl v_leaves)), (a_sorted, .inl (cI, 256, .inl v_sorted)), (a_starts, .inl (cI, 257, .inl v_starts))] s.heap := hP
  have hl := lv_entry ([.ref a_this]) (n := 3) (Nat.le_of_ble_eq_true rfl)
  rw [lg_entry_eq]
  generalize (lg_sl ([.ref a_this]) ++ List.replicate (3 - (lg_sl ([.ref a_this])).length) Slot.unset).toArray = ls at hl ⊢
  have hl : lv_has ls 3 [(0, .ref a_this)] := hl
  have C : Cx p s m ([.ref a_this] : List Value).toArray c b_Tree_sortLeaves 3 "PrefixMill$Tree" D [(cI, .int), (cL, .long), (cZ, .boolean)] A := ⟨hx, hb, hml, hown, hts, hK, hA⟩
  refine w_Tree_sortLeaves_b0 (res := (v_leaves', v_sorted', v_starts')) C ?_ _ _ _ h s.heap [] ls hl hP hD hS
  intro pc9 H9 locs9 ls9 v_leaves9 v_sorted9 v_starts9 e9 d9 hP9 hD9 hS9
  cases e9
  exact W.vret hx hb hr (fun t ht hW => ⟨⟨(), rfl, trivial, by rw [ht]; exact hP9, va_K.moved hW.alike hK, hD9⟩, hS9.F ht⟩) hS9.2.2 d9
abbrev b_Tree_least : ByteArray := prog_9_method_8_code
def ws_Tree_least : List Cond := .code ({ cls := "PrefixMill$Tree", name := "least", desc := "(I)I" } : Jvm.MethodName) b_Tree_least 2 (some .int) :: tt
theorem d_Tree_least_0 : decode b_Tree_least 0 = .ok (.aload_n 0, 1) := by decide +kernel
theorem d_Tree_least_1 : decode b_Tree_least 1 = .ok (.getfield 63, 3) := by decide +kernel
theorem d_Tree_least_4 : decode b_Tree_least 4 = .ok (.aload_n 0, 1) := by decide +kernel
theorem d_Tree_least_5 : decode b_Tree_least 5 = .ok (.getfield 36, 3) := by decide +kernel
theorem d_Tree_least_8 : decode b_Tree_least 8 = .ok (.if_icmp .ge 49, 3) := by decide +kernel
theorem d_Tree_least_11 : decode b_Tree_least 11 = .ok (.aload_n 0, 1) := by decide +kernel
theorem d_Tree_least_12 : decode b_Tree_least 12 = .ok (.getfield 66, 3) := by decide +kernel
theorem d_Tree_least_15 : decode b_Tree_least 15 = .ok (.iload_n 1, 1) := by decide +kernel
theorem d_Tree_least_16 : decode b_Tree_least 16 = .ok (.if_icmp .ge 24, 3) := by decide +kernel
theorem d_Tree_least_19 : decode b_Tree_least 19 = .ok (.aload_n 0, 1) := by decide +kernel
theorem d_Tree_least_20 : decode b_Tree_least 20 = .ok (.getfield 27, 3) := by decide +kernel
theorem d_Tree_least_23 : decode b_Tree_least 23 = .ok (.aload_n 0, 1) := by decide +kernel
theorem d_Tree_least_24 : decode b_Tree_least 24 = .ok (.getfield 63, 3) := by decide +kernel
theorem d_Tree_least_27 : decode b_Tree_least 27 = .ok (.iaload, 1) := by decide +kernel
theorem d_Tree_least_28 : decode b_Tree_least 28 = .ok (.aload_n 0, 1) := by decide +kernel
theorem d_Tree_least_29 : decode b_Tree_least 29 = .ok (.getfield 27, 3) := by decide +kernel
theorem d_Tree_least_32 : decode b_Tree_least 32 = .ok (.aload_n 0, 1) := by decide +kernel
theorem d_Tree_least_33 : decode b_Tree_least 33 = .ok (.getfield 66, 3) := by decide +kernel
theorem d_Tree_least_36 : decode b_Tree_least 36 = .ok (.iaload, 1) := by decide +kernel
theorem d_Tree_least_37 : decode b_Tree_least 37 = .ok (.if_icmp .gt 20, 3) := by decide +kernel
theorem d_Tree_least_40 : decode b_Tree_least 40 = .ok (.aload_n 0, 1) := by decide +kernel
theorem d_Tree_least_41 : decode b_Tree_least 41 = .ok (.dup, 1) := by decide +kernel
theorem d_Tree_least_42 : decode b_Tree_least 42 = .ok (.getfield 63, 3) := by decide +kernel
theorem d_Tree_least_45 : decode b_Tree_least 45 = .ok (.iconst 1, 1) := by decide +kernel
theorem d_Tree_least_46 : decode b_Tree_least 46 = .ok (.iadd, 1) := by decide +kernel
theorem d_Tree_least_47 : decode b_Tree_least 47 = .ok (.putfield 63, 3) := by decide +kernel
theorem d_Tree_least_50 : decode b_Tree_least 50 = .ok (.aload_n 0, 1) := by decide +kernel
theorem d_Tree_least_51 : decode b_Tree_least 51 = .ok (.getfield 63, 3) := by decide +kernel
theorem d_Tree_least_54 : decode b_Tree_least 54 = .ok (.iconst 1, 1) := by decide +kernel
theorem d_Tree_least_55 : decode b_Tree_least 55 = .ok (.isub, 1) := by decide +kernel
theorem d_Tree_least_56 : decode b_Tree_least 56 = .ok (.ireturn, 1) := by decide +kernel
theorem d_Tree_least_57 : decode b_Tree_least 57 = .ok (.aload_n 0, 1) := by decide +kernel
theorem d_Tree_least_58 : decode b_Tree_least 58 = .ok (.dup, 1) := by decide +kernel
theorem d_Tree_least_59 : decode b_Tree_least 59 = .ok (.getfield 66, 3) := by decide +kernel
theorem d_Tree_least_62 : decode b_Tree_least 62 = .ok (.iconst 1, 1) := by decide +kernel
theorem d_Tree_least_63 : decode b_Tree_least 63 = .ok (.iadd, 1) := by decide +kernel
theorem d_Tree_least_64 : decode b_Tree_least 64 = .ok (.putfield 66, 3) := by decide +kernel
theorem d_Tree_least_67 : decode b_Tree_least 67 = .ok (.aload_n 0, 1) := by decide +kernel
theorem d_Tree_least_68 : decode b_Tree_least 68 = .ok (.getfield 66, 3) := by decide +kernel
theorem d_Tree_least_71 : decode b_Tree_least 71 = .ok (.iconst 1, 1) := by decide +kernel
theorem d_Tree_least_72 : decode b_Tree_least 72 = .ok (.isub, 1) := by decide +kernel
theorem d_Tree_least_73 : decode b_Tree_least 73 = .ok (.ireturn, 1) := by decide +kernel
abbrev R_Tree_least : Room := ({ frames := 0, cells := 0, slots := 0, locals := 0 } : Room)
def E_Tree_least (p : Program) (l : Launch) (e : Env) (s : State) (m : MethodId) (args : Array Value) (below : List Frame) (meth : Method) (c : Code) (Q : State → Prop) (A : Nat → Prop) (D : va_G) (cI cL cZ : ClassId) (a_this : Nat) (a_sums : Nat) (o_lengths : Nat) (o_halves : Nat) (o_leaves : Nat) (o_sorted : Nat) (o_starts : Nat) (o_above : Nat) (o_depths : Nat) (i_known : Int32) (v_sums : Nat → Int32) (l1 : Int32) (res : Int32 × Int32 × Int32) : Prop := ∀ (pc : Nat) (H : Heap) (locs : List Loc) (ls : Array Slot) (rv : Int32) (i_nextLeaf : Int32) (i_nextSum : Int32), some (rv, i_nextLeaf, i_nextSum) = some res → decode b_Tree_least pc = .ok (.ireturn, 1) → va_P D classes [(a_this, .inr (9, [.ref o_lengths, .ref o_halves, .ref o_leaves, .ref o_sorted, .ref o_starts, .ref a_sums, .ref o_above, .ref o_depths, .int i_known, .int i_nextLeaf, .int i_nextSum])), (a_sums, .inl (cI, 512, .inl v_sums))] H → va_D A [(a_this, .inr (9, [.ref o_lengths, .ref o_halves, .ref o_leaves, .ref o_sorted, .ref o_starts, .ref a_sums, .ref o_above, .ref o_depths, .int i_known, .int i_nextLeaf, .int i_nextSum])), (a_sums, .inl (cI, 512, .inl v_sums))] → va_S A s.heap H locs → W p l e R_Tree_least s m args below meth c H locs 0 0 Q (F0 m pc ls [.int rv])
def I_Tree_least_b40 (p : Program) (l : Launch) (e : Env) (s : State) (m : MethodId) (args : Array Value) (below : List Frame) (meth : Method) (c : Code) (Q : State → Prop) (A : Nat → Prop) (D : va_G) (cI cL cZ : ClassId) (a_this : Nat) (a_sums : Nat) (o_lengths : Nat) (o_halves : Nat) (o_leaves : Nat) (o_sorted : Nat) (o_starts : Nat) (o_above : Nat) (o_depths : Nat) (i_known : Int32) (v_sums : Nat → Int32) (l1 : Int32) (res : Int32 × Int32 × Int32) (kf : Int32 → Int32 → Option (Int32 × Int32 × Int32)) : Prop := ∀ (i_nextLeaf : Int32) (i_nextSum : Int32), kf i_nextLeaf i_nextSum = some res → ∀ (H : Heap) (locs : List Loc) (ls : Array Slot), lv_has ls 2 [(0, .ref a_this)] → va_P D classes [(a_this, .inr (9, [.ref o_lengths, .ref o_halves, .ref o_leaves, .ref o_sorted, .ref o_starts, .ref a_sums, .ref o_above, .ref o_depths, .int i_known, .int i_nextLeaf, .int i_nextSum])), (a_sums, .inl (cI, 512, .inl v_sums))] H → va_D A [(a_this, .inr (9, [.ref o_lengths, .ref o_halves, .ref o_leaves, .ref o_sorted, .ref o_starts, .ref a_sums, .ref o_above, .ref o_depths, .int i_known, .int i_nextLeaf, .int i_nextSum])), (a_sums, .inl (cI, 512, .inl v_sums))] → va_S A s.heap H locs → W p l e R_Tree_least s m args below meth c H locs 0 0 Q (F0 m 40 ls [])
def I_Tree_least_b57 (p : Program) (l : Launch) (e : Env) (s : State) (m : MethodId) (args : Array Value) (below : List Frame) (meth : Method) (c : Code) (Q : State → Prop) (A : Nat → Prop) (D : va_G) (cI cL cZ : ClassId) (a_this : Nat) (a_sums : Nat) (o_lengths : Nat) (o_halves : Nat) (o_leaves : Nat) (o_sorted : Nat) (o_starts : Nat) (o_above : Nat) (o_depths : Nat) (i_known : Int32) (v_sums : Nat → Int32) (l1 : Int32) (res : Int32 × Int32 × Int32) (kf : Int32 → Int32 → Option (Int32 × Int32 × Int32)) : Prop := ∀ (i_nextLeaf : Int32) (i_nextSum : Int32), kf i_nextLeaf i_nextSum = some res → ∀ (H : Heap) (locs : List Loc) (ls : Array Slot), lv_has ls 2 [(0, .ref a_this)] → va_P D classes [(a_this, .inr (9, [.ref o_lengths, .ref o_halves, .ref o_leaves, .ref o_sorted, .ref o_starts, .ref a_sums, .ref o_above, .ref o_depths, .int i_known, .int i_nextLeaf, .int i_nextSum])), (a_sums, .inl (cI, 512, .inl v_sums))] H → va_D A [(a_this, .inr (9, [.ref o_lengths, .ref o_halves, .ref o_leaves, .ref o_sorted, .ref o_starts, .ref a_sums, .ref o_above, .ref o_depths, .int i_known, .int i_nextLeaf, .int i_nextSum])), (a_sums, .inl (cI, 512, .inl v_sums))] → va_S A s.heap H locs → W p l e R_Tree_least s m args below meth c H locs 0 0 Q (F0 m 57 ls [])
def I_Tree_least_b0 (p : Program) (l : Launch) (e : Env) (s : State) (m : MethodId) (args : Array Value) (below : List Frame) (meth : Method) (c : Code) (Q : State → Prop) (A : Nat → Prop) (D : va_G) (cI cL cZ : ClassId) (a_this : Nat) (a_sums : Nat) (o_lengths : Nat) (o_halves : Nat) (o_leaves : Nat) (o_sorted : Nat) (o_starts : Nat) (o_above : Nat) (o_depths : Nat) (i_known : Int32) (v_sums : Nat → Int32) (l1 : Int32) (res : Int32 × Int32 × Int32) (kf : Int32 → Int32 → Option (Int32 × Int32 × Int32)) : Prop := ∀ (i_nextLeaf : Int32) (i_nextSum : Int32), kf i_nextLeaf i_nextSum = some res → ∀ (H : Heap) (locs : List Loc) (ls : Array Slot), lv_has ls 2 [(0, .ref a_this), (1, .int l1)] → va_P D classes [(a_this, .inr (9, [.ref o_lengths, .ref o_halves, .ref o_leaves, .ref o_sorted, .ref o_starts, .ref a_sums, .ref o_above, .ref o_depths, .int i_known, .int i_nextLeaf, .int i_nextSum])), (a_sums, .inl (cI, 512, .inl v_sums))] H → va_D A [(a_this, .inr (9, [.ref o_lengths, .ref o_halves, .ref o_leaves, .ref o_sorted, .ref o_starts, .ref a_sums, .ref o_above, .ref o_depths, .int i_known, .int i_nextLeaf, .int i_nextSum])), (a_sums, .inl (cI, 512, .inl v_sums))] → va_S A s.heap H locs → W p l e R_Tree_least s m args below meth c H locs 0 0 Q (F0 m 0 ls [])
set_option maxHeartbeats 4000000 in
set_option maxRecDepth 100000 in
theorem w_Tree_least_b40 {p : Program} {l : Launch} {e : Env} {s : State} {m : MethodId} {args : Array Value} {below : List Frame} {meth : Method} {c : Code} {Q : State → Prop} {A : Nat → Prop} {D : va_G} {cI cL cZ : ClassId} {a_this : Nat} {a_sums : Nat} {o_lengths : Nat} {o_halves : Nat} {o_leaves : Nat} {o_sorted : Nat} {o_starts : Nat} {o_above : Nat} {o_depths : Nat} {i_known : Int32} {v_sums : Nat → Int32} {l1 : Int32} {N : Nat} {res : Int32 × Int32 × Int32}  (C : Cx p s m args c b_Tree_least 2 "PrefixMill$Tree" D [(cI, .int), (cL, .long), (cZ, .boolean)] A) (hret : E_Tree_least p l e s m args below meth c Q A D cI cL cZ a_this a_sums o_lengths o_halves o_leaves o_sorted o_starts o_above o_depths i_known v_sums l1 res)  : I_Tree_least_b40 p l e s m args below meth c Q A D cI cL cZ a_this a_sums o_lengths o_halves o_leaves o_sorted o_starts o_above o_depths i_known v_sums l1 res (f_Tree_least_b40 N i_known v_sums l1 ) := by
  obtain ⟨hx, hb, hml, hown, hts, hK, hA⟩ := C
  intro i_nextLeaf i_nextSum h H locs ls hl hP hD hS
  unfold f_Tree_least_b40 at h
  refine lv_aload_n hx hb d_Tree_least_40 rfl (lv_at hl 0 rfl) ?_
  refine lv_dup hx hb d_Tree_least_41 rfl ?_
  refine va_get hx hb hts in_Tree hown hK hP 0 rfl rfl 9 (by decide) (hts _ m_166) (fun _ h9 => h9) rfl d_Tree_least_42 ?_
  refine lv_iconst (v := 1) hx hb d_Tree_least_45 (by decide) ?_
  refine lv_iadd hx hb d_Tree_least_46 ?_
  refine lv_topi (fun i_nextLeaf_1 ei_nextLeaf_1 => ?_)
  replace h := nm_s h ei_nextLeaf_1
  refine va_put (v := .int i_nextLeaf_1) (ty := .int) hx hb hts in_Tree t_Tree t_Tree_ok n_Tree hown hK hP hD hS 0 rfl rfl 9 (by decide) (hts _ m_166) (fun _ h9 => h9) rfl (by decide +kernel) rfl rfl (Nat.le_of_ble_eq_true rfl) d_Tree_least_47 (fun H locs hP hD hS => ?_)
  have hP : va_P D classes [(a_this, .inr (9, [.ref o_lengths, .ref o_halves, .ref o_leaves, .ref o_sorted, .ref o_starts, .ref a_sums, .ref o_above, .ref o_depths, .int i_known, .int i_nextLeaf_1, .int i_nextSum])), (a_sums, .inl (cI, 512, .inl v_sums))] H := by exact hP
  have hD : va_D A [(a_this, .inr (9, [.ref o_lengths, .ref o_halves, .ref o_leaves, .ref o_sorted, .ref o_starts, .ref a_sums, .ref o_above, .ref o_depths, .int i_known, .int i_nextLeaf_1, .int i_nextSum])), (a_sums, .inl (cI, 512, .inl v_sums))] := by exact hD
  refine lv_aload_n hx hb d_Tree_least_50 rfl (lv_at hl 0 rfl) ?_
  refine va_get hx hb hts in_Tree hown hK hP 0 rfl rfl 9 (by decide) (hts _ m_166) (fun _ h9 => h9) rfl d_Tree_least_51 ?_
  refine lv_iconst (v := 1) hx hb d_Tree_least_54 (by decide) ?_
  refine lv_isub hx hb d_Tree_least_55 ?_
  exact hret _ _ _ _ (i_nextLeaf_1 - 1) i_nextLeaf_1 i_nextSum h d_Tree_least_56 hP hD hS
set_option maxHeartbeats 4000000 in
set_option maxRecDepth 100000 in
theorem w_Tree_least_b57 {p : Program} {l : Launch} {e : Env} {s : State} {m : MethodId} {args : Array Value} {below : List Frame} {meth : Method} {c : Code} {Q : State → Prop} {A : Nat → Prop} {D : va_G} {cI cL cZ : ClassId} {a_this : Nat} {a_sums : Nat} {o_lengths : Nat} {o_halves : Nat} {o_leaves : Nat} {o_sorted : Nat} {o_starts : Nat} {o_above : Nat} {o_depths : Nat} {i_known : Int32} {v_sums : Nat → Int32} {l1 : Int32} {N : Nat} {res : Int32 × Int32 × Int32}  (C : Cx p s m args c b_Tree_least 2 "PrefixMill$Tree" D [(cI, .int), (cL, .long), (cZ, .boolean)] A) (hret : E_Tree_least p l e s m args below meth c Q A D cI cL cZ a_this a_sums o_lengths o_halves o_leaves o_sorted o_starts o_above o_depths i_known v_sums l1 res)  : I_Tree_least_b57 p l e s m args below meth c Q A D cI cL cZ a_this a_sums o_lengths o_halves o_leaves o_sorted o_starts o_above o_depths i_known v_sums l1 res (f_Tree_least_b57 N i_known v_sums l1 ) := by
  obtain ⟨hx, hb, hml, hown, hts, hK, hA⟩ := C
  intro i_nextLeaf i_nextSum h H locs ls hl hP hD hS
  unfold f_Tree_least_b57 at h
  refine lv_aload_n hx hb d_Tree_least_57 rfl (lv_at hl 0 rfl) ?_
  refine lv_dup hx hb d_Tree_least_58 rfl ?_
  refine va_get hx hb hts in_Tree hown hK hP 0 rfl rfl 10 (by decide) (hts _ m_167) (fun _ h9 => h9) rfl d_Tree_least_59 ?_
  refine lv_iconst (v := 1) hx hb d_Tree_least_62 (by decide) ?_
  refine lv_iadd hx hb d_Tree_least_63 ?_
  refine lv_topi (fun i_nextSum_1 ei_nextSum_1 => ?_)
  replace h := nm_s h ei_nextSum_1
  refine va_put (v := .int i_nextSum_1) (ty := .int) hx hb hts in_Tree t_Tree t_Tree_ok n_Tree hown hK hP hD hS 0 rfl rfl 10 (by decide) (hts _ m_167) (fun _ h9 => h9) rfl (by decide +kernel) rfl rfl (Nat.le_of_ble_eq_true rfl) d_Tree_least_64 (fun H locs hP hD hS => ?_)
  have hP : va_P D classes [(a_this, .inr (9, [.ref o_lengths, .ref o_halves, .ref o_leaves, .ref o_sorted, .ref o_starts, .ref a_sums, .ref o_above, .ref o_depths, .int i_known, .int i_nextLeaf, .int i_nextSum_1])), (a_sums, .inl (cI, 512, .inl v_sums))] H := by exact hP
  have hD : va_D A [(a_this, .inr (9, [.ref o_lengths, .ref o_halves, .ref o_leaves, .ref o_sorted, .ref o_starts, .ref a_sums, .ref o_above, .ref o_depths, .int i_known, .int i_nextLeaf, .int i_nextSum_1])), (a_sums, .inl (cI, 512, .inl v_sums))] := by exact hD
  refine lv_aload_n hx hb d_Tree_least_67 rfl (lv_at hl 0 rfl) ?_
  refine va_get hx hb hts in_Tree hown hK hP 0 rfl rfl 10 (by decide) (hts _ m_167) (fun _ h9 => h9) rfl d_Tree_least_68 ?_
  refine lv_iconst (v := 1) hx hb d_Tree_least_71 (by decide) ?_
  refine lv_isub hx hb d_Tree_least_72 ?_
  exact hret _ _ _ _ (i_nextSum_1 - 1) i_nextLeaf i_nextSum_1 h d_Tree_least_73 hP hD hS
set_option maxHeartbeats 4000000 in
set_option maxRecDepth 100000 in
theorem w_Tree_least_b0 {p : Program} {l : Launch} {e : Env} {s : State} {m : MethodId} {args : Array Value} {below : List Frame} {meth : Method} {c : Code} {Q : State → Prop} {A : Nat → Prop} {D : va_G} {cI cL cZ : ClassId} {a_this : Nat} {a_sums : Nat} {o_lengths : Nat} {o_halves : Nat} {o_leaves : Nat} {o_sorted : Nat} {o_starts : Nat} {o_above : Nat} {o_depths : Nat} {i_known : Int32} {v_sums : Nat → Int32} {l1 : Int32} {N : Nat} {res : Int32 × Int32 × Int32}  (C : Cx p s m args c b_Tree_least 2 "PrefixMill$Tree" D [(cI, .int), (cL, .long), (cZ, .boolean)] A) (hret : E_Tree_least p l e s m args below meth c Q A D cI cL cZ a_this a_sums o_lengths o_halves o_leaves o_sorted o_starts o_above o_depths i_known v_sums l1 res)  : I_Tree_least_b0 p l e s m args below meth c Q A D cI cL cZ a_this a_sums o_lengths o_halves o_leaves o_sorted o_starts o_above o_depths i_known v_sums l1 res (f_Tree_least N i_known v_sums l1 ) := by
  obtain ⟨hx, hb, hml, hown, hts, hK, hA⟩ := C
  intro i_nextLeaf i_nextSum h H locs ls hl hP hD hS
  unfold f_Tree_least at h
  refine lv_aload_n hx hb d_Tree_least_0 rfl (lv_at hl 0 rfl) ?_
  refine va_get hx hb hts in_Tree hown hK hP 0 rfl rfl 9 (by decide) (hts _ m_166) (fun _ h9 => h9) rfl d_Tree_least_1 ?_
  refine lv_aload_n hx hb d_Tree_least_4 rfl (lv_at hl 0 rfl) ?_
  refine va_get hx hb hts in_Tree hown hK hP 0 rfl rfl 8 (by decide) (hts _ m_165) (fun _ h9 => h9) rfl d_Tree_least_5 ?_
  refine lv_icmp_ge (tgt := 57) hx hb d_Tree_least_8 (by decide) (fun c_1 => ?_) (fun c_1 => ?_)
  · replace h := if_t h c_1
    exact w_Tree_least_b57 ⟨hx, hb, hml, hown, hts, hK, hA⟩ hret  _ _ h H locs ls (lv_sub hl [0] rfl) hP hD hS
  · replace h := if_f h c_1
    refine lv_aload_n hx hb d_Tree_least_11 rfl (lv_at hl 0 rfl) ?_
    refine va_get hx hb hts in_Tree hown hK hP 0 rfl rfl 10 (by decide) (hts _ m_167) (fun _ h9 => h9) rfl d_Tree_least_12 ?_
    refine lv_iload_n hx hb d_Tree_least_15 rfl (lv_at hl 1 rfl) ?_
    refine lv_icmp_ge (tgt := 40) hx hb d_Tree_least_16 (by decide) (fun c_2 => ?_) (fun c_2 => ?_)
    · replace h := if_t h c_2
      exact w_Tree_least_b40 ⟨hx, hb, hml, hown, hts, hK, hA⟩ hret  _ _ h H locs ls (lv_sub hl [0] rfl) hP hD hS
    · replace h := if_f h c_2
      refine lv_aload_n hx hb d_Tree_least_19 rfl (lv_at hl 0 rfl) ?_
      refine va_get hx hb hts in_Tree hown hK hP 0 rfl rfl 5 (by decide) (hts _ m_162) (fun _ h9 => h9) rfl d_Tree_least_20 ?_
      refine lv_aload_n hx hb d_Tree_least_23 rfl (lv_at hl 0 rfl) ?_
      refine va_get hx hb hts in_Tree hown hK hP 0 rfl rfl 9 (by decide) (hts _ m_166) (fun _ h9 => h9) rfl d_Tree_least_24 ?_
      obtain ⟨g_3, h⟩ := ck_s h
      refine va_iald hx hb hK hP 1 0 rfl rfl (inb_s g_3) d_Tree_least_27 ?_
      refine lv_aload_n hx hb d_Tree_least_28 rfl (lv_at hl 0 rfl) ?_
      refine va_get hx hb hts in_Tree hown hK hP 0 rfl rfl 5 (by decide) (hts _ m_162) (fun _ h9 => h9) rfl d_Tree_least_29 ?_
      refine lv_aload_n hx hb d_Tree_least_32 rfl (lv_at hl 0 rfl) ?_
      refine va_get hx hb hts in_Tree hown hK hP 0 rfl rfl 10 (by decide) (hts _ m_167) (fun _ h9 => h9) rfl d_Tree_least_33 ?_
      obtain ⟨g_4, h⟩ := ck_s h
      refine va_iald hx hb hK hP 1 0 rfl rfl (inb_s g_4) d_Tree_least_36 ?_
      refine lv_icmp_gt (tgt := 57) hx hb d_Tree_least_37 (by decide) (fun c_5 => ?_) (fun c_5 => ?_)
      · replace h := if_t h c_5
        exact w_Tree_least_b57 ⟨hx, hb, hml, hown, hts, hK, hA⟩ hret  _ _ h H locs ls (lv_sub hl [0] rfl) hP hD hS
      · replace h := if_f h c_5
        exact w_Tree_least_b40 ⟨hx, hb, hml, hown, hts, hK, hA⟩ hret  _ _ h H locs ls (lv_sub hl [0] rfl) hP hD hS
set_option maxHeartbeats 4000000 in
set_option maxRecDepth 100000 in
theorem c_Tree_least (l : Launch) (D : va_G) (cI cL cZ : ClassId) (sz N : Nat) (a_this : Nat) (a_sums : Nat) (o_lengths : Nat) (o_halves : Nat) (o_leaves : Nat) (o_sorted : Nat) (o_starts : Nat) (o_above : Nat) (o_depths : Nat) (i_known : Int32) (i_nextLeaf : Int32) (i_nextSum : Int32) (v_sums : Nat → Int32) (l1 : Int32) (rv : Int32) (i_nextLeaf' : Int32) (i_nextSum' : Int32) (h : f_Tree_least N i_known v_sums l1 i_nextLeaf i_nextSum = some (rv, i_nextLeaf', i_nextSum')) : Met l ({ cls := "PrefixMill$Tree", name := "least", desc := "(I)I" } : Jvm.MethodName) ws_Tree_least R_Tree_least (va_Pc [.ref a_this, .int l1] (fun U => U.heap.size = sz ∧ va_P D classes [(a_this, .inr (9, [.ref o_lengths, .ref o_halves, .ref o_leaves, .ref o_sorted, .ref o_starts, .ref a_sums, .ref o_above, .ref o_depths, .int i_known, .int i_nextLeaf, .int i_nextSum])), (a_sums, .inl (cI, 512, .inl v_sums))] U.heap ∧ va_K D classes [(cI, .int), (cL, .long), (cZ, .boolean)] U ∧ va_D (fun _ => True) [(a_this, .inr (9, [.ref o_lengths, .ref o_halves, .ref o_leaves, .ref o_sorted, .ref o_starts, .ref a_sums, .ref o_above, .ref o_depths, .int i_known, .int i_nextLeaf, .int i_nextSum])), (a_sums, .inl (cI, 512, .inl v_sums))])) (va_Qi (fun (r0 : Int32) (_ : Unit) => rv = r0) (fun _ t => va_P D classes [(a_this, .inr (9, [.ref o_lengths, .ref o_halves, .ref o_leaves, .ref o_sorted, .ref o_starts, .ref a_sums, .ref o_above, .ref o_depths, .int i_known, .int i_nextLeaf', .int i_nextSum'])), (a_sums, .inl (cI, 512, .inl v_sums))] t.heap ∧ va_K D classes [(cI, .int), (cL, .long), (cZ, .boolean)] t ∧ va_D (va_A [(a_this, .inr (9, [.ref o_lengths, .ref o_halves, .ref o_leaves, .ref o_sorted, .ref o_starts, .ref a_sums, .ref o_above, .ref o_depths, .int i_known, .int i_nextLeaf, .int i_nextSum])), (a_sums, .inl (cI, 512, .inl v_sums))] sz) [(a_this, .inr (9, [.ref o_lengths, .ref o_halves, .ref o_leaves, .ref o_sorted, .ref o_starts, .ref a_sums, .ref o_above, .ref o_depths, .int i_known, .int i_nextLeaf', .int i_nextSum'])), (a_sums, .inl (cI, 512, .inl v_sums))]) (va_A [(a_this, .inr (9, [.ref o_lengths, .ref o_halves, .ref o_leaves, .ref o_sorted, .ref o_starts, .ref a_sums, .ref o_above, .ref o_depths, .int i_known, .int i_nextLeaf, .int i_nextSum])), (a_sums, .inl (cI, 512, .inl v_sums))] sz)) 0 0 (va_A [(a_this, .inr (9, [.ref o_lengths, .ref o_halves, .ref o_leaves, .ref o_sorted, .ref o_starts, .ref a_sums, .ref o_above, .ref o_depths, .int i_known, .int i_nextLeaf, .int i_nextSum])), (a_sums, .inl (cI, 512, .inl v_sums))] sz) := by
  refine Met.ofW (cc := b_Tree_least) (maxL := 2) (ret := (some .int)) (by decide) rfl ?_
  intro p e s m args below meth c s₁ B hml hv
  obtain ⟨rfl, hsz, hP, hK, hD0⟩ := hv
  have hx := B.exec
  have hb := B.bytes
  have hr := B.returns
  have hts0 := atoms_spec (ws := ws_Tree_least) B.pre
  have hts := gd_tl hts0
  clear hts0
  have hown : s.vm.findClass "PrefixMill$Tree" = some m.cls := findClass_of_methodNamed B.named
  have hlocks := B.notSynchronized
  subst hsz
  have hD := hD0.self (sz := s.heap.size)
  generalize hAe : va_A [(a_this, .inr (9, [.ref o_lengths, .ref o_halves, .ref o_leaves, .ref o_sorted, .ref o_starts, .ref a_sums, .ref o_above, .ref o_depths, .int i_known, .int i_nextLeaf, .int i_nextSum])), (a_sums, .inl (cI, 512, .inl v_sums))] s.heap.size = A at hD ⊢
  have hA : ∀ q : Nat, s.heap.size ≤ q → A q := fun q h => by rw [← hAe]; exact Or.inr h
  have hS : va_S A s.heap s.heap [] := va_S.rf
  have hP : va_P D classes [(a_this, .inr (9, [.ref o_lengths, .ref o_halves, .ref o_leaves, .ref o_sorted, .ref o_starts, .ref a_sums, .ref o_above, .ref o_depths, .int i_known, .int i_nextLeaf, .int i_nextSum])), (a_sums, .inl (cI, 512, .inl v_sums))] s.heap := hP
  have hl := lv_entry ([.ref a_this, .int l1]) (n := 2) (Nat.le_of_ble_eq_true rfl)
  rw [lg_entry_eq]
  generalize (lg_sl ([.ref a_this, .int l1]) ++ List.replicate (2 - (lg_sl ([.ref a_this, .int l1])).length) Slot.unset).toArray = ls at hl ⊢
  have hl : lv_has ls 2 [(0, .ref a_this), (1, .int l1)] := hl
  have C : Cx p s m ([.ref a_this, .int l1] : List Value).toArray c b_Tree_least 2 "PrefixMill$Tree" D [(cI, .int), (cL, .long), (cZ, .boolean)] A := ⟨hx, hb, hml, hown, hts, hK, hA⟩
  refine w_Tree_least_b0 (res := (rv, i_nextLeaf', i_nextSum')) C ?_ _ _ h s.heap [] ls hl hP hD hS
  intro pc9 H9 locs9 ls9 rv9 i_nextLeaf9 i_nextSum9 e9 d9 hP9 hD9 hS9
  cases e9
  exact W.iret (v := rv) hx hb hr (fun t ht hW => ⟨⟨rv, (), rfl, rfl, by rw [ht]; exact hP9, va_K.moved hW.alike hK, hD9⟩, hS9.F ht⟩) hS9.2.2 d9
abbrev b_Tree_join : ByteArray := prog_9_method_7_code
def ws_Tree_join : List Cond := .code ({ cls := "PrefixMill$Tree", name := "join", desc := "()V" } : Jvm.MethodName) b_Tree_join 4 none :: tt
theorem d_Tree_join_0 : decode b_Tree_join 0 = .ok (.iconst 0, 1) := by decide +kernel
theorem d_Tree_join_1 : decode b_Tree_join 1 = .ok (.istore_n 1, 1) := by decide +kernel
theorem d_Tree_join_2 : decode b_Tree_join 2 = .ok (.iload_n 1, 1) := by decide +kernel
theorem d_Tree_join_3 : decode b_Tree_join 3 = .ok (.aload_n 0, 1) := by decide +kernel
theorem d_Tree_join_4 : decode b_Tree_join 4 = .ok (.getfield 36, 3) := by decide +kernel
theorem d_Tree_join_7 : decode b_Tree_join 7 = .ok (.if_icmp .ge 26, 3) := by decide +kernel
theorem d_Tree_join_10 : decode b_Tree_join 10 = .ok (.aload_n 0, 1) := by decide +kernel
theorem d_Tree_join_11 : decode b_Tree_join 11 = .ok (.getfield 27, 3) := by decide +kernel
theorem d_Tree_join_14 : decode b_Tree_join 14 = .ok (.iload_n 1, 1) := by decide +kernel
theorem d_Tree_join_15 : decode b_Tree_join 15 = .ok (.aload_n 0, 1) := by decide +kernel
theorem d_Tree_join_16 : decode b_Tree_join 16 = .ok (.getfield 15, 3) := by decide +kernel
theorem d_Tree_join_19 : decode b_Tree_join 19 = .ok (.aload_n 0, 1) := by decide +kernel
theorem d_Tree_join_20 : decode b_Tree_join 20 = .ok (.getfield 18, 3) := by decide +kernel
theorem d_Tree_join_23 : decode b_Tree_join 23 = .ok (.iload_n 1, 1) := by decide +kernel
theorem d_Tree_join_24 : decode b_Tree_join 24 = .ok (.iaload, 1) := by decide +kernel
theorem d_Tree_join_25 : decode b_Tree_join 25 = .ok (.iaload, 1) := by decide +kernel
theorem d_Tree_join_26 : decode b_Tree_join 26 = .ok (.iastore, 1) := by decide +kernel
theorem d_Tree_join_27 : decode b_Tree_join 27 = .ok (.iinc 1 1, 3) := by decide +kernel
theorem d_Tree_join_30 : decode b_Tree_join 30 = .ok (.goto (-28), 3) := by decide +kernel
theorem d_Tree_join_33 : decode b_Tree_join 33 = .ok (.aload_n 0, 1) := by decide +kernel
theorem d_Tree_join_34 : decode b_Tree_join 34 = .ok (.iconst 0, 1) := by decide +kernel
theorem d_Tree_join_35 : decode b_Tree_join 35 = .ok (.putfield 63, 3) := by decide +kernel
theorem d_Tree_join_38 : decode b_Tree_join 38 = .ok (.aload_n 0, 1) := by decide +kernel
theorem d_Tree_join_39 : decode b_Tree_join 39 = .ok (.aload_n 0, 1) := by decide +kernel
theorem d_Tree_join_40 : decode b_Tree_join 40 = .ok (.getfield 36, 3) := by decide +kernel
theorem d_Tree_join_43 : decode b_Tree_join 43 = .ok (.putfield 66, 3) := by decide +kernel
theorem d_Tree_join_46 : decode b_Tree_join 46 = .ok (.aload_n 0, 1) := by decide +kernel
theorem d_Tree_join_47 : decode b_Tree_join 47 = .ok (.getfield 36, 3) := by decide +kernel
theorem d_Tree_join_50 : decode b_Tree_join 50 = .ok (.istore_n 1, 1) := by decide +kernel
theorem d_Tree_join_51 : decode b_Tree_join 51 = .ok (.iload_n 1, 1) := by decide +kernel
theorem d_Tree_join_52 : decode b_Tree_join 52 = .ok (.iconst 2, 1) := by decide +kernel
theorem d_Tree_join_53 : decode b_Tree_join 53 = .ok (.aload_n 0, 1) := by decide +kernel
theorem d_Tree_join_54 : decode b_Tree_join 54 = .ok (.getfield 36, 3) := by decide +kernel
theorem d_Tree_join_57 : decode b_Tree_join 57 = .ok (.imul, 1) := by decide +kernel
theorem d_Tree_join_58 : decode b_Tree_join 58 = .ok (.iconst 1, 1) := by decide +kernel
theorem d_Tree_join_59 : decode b_Tree_join 59 = .ok (.isub, 1) := by decide +kernel
theorem d_Tree_join_60 : decode b_Tree_join 60 = .ok (.if_icmp .ge 54, 3) := by decide +kernel
theorem d_Tree_join_63 : decode b_Tree_join 63 = .ok (.aload_n 0, 1) := by decide +kernel
theorem d_Tree_join_64 : decode b_Tree_join 64 = .ok (.iload_n 1, 1) := by decide +kernel
theorem d_Tree_join_65 : decode b_Tree_join 65 = .ok (.invokevirtual 69, 3) := by decide +kernel
theorem d_Tree_join_68 : decode b_Tree_join 68 = .ok (.istore_n 2, 1) := by decide +kernel
theorem d_Tree_join_69 : decode b_Tree_join 69 = .ok (.aload_n 0, 1) := by decide +kernel
theorem d_Tree_join_70 : decode b_Tree_join 70 = .ok (.iload_n 1, 1) := by decide +kernel
theorem d_Tree_join_71 : decode b_Tree_join 71 = .ok (.invokevirtual 69, 3) := by decide +kernel
theorem d_Tree_join_74 : decode b_Tree_join 74 = .ok (.istore_n 3, 1) := by decide +kernel
theorem d_Tree_join_75 : decode b_Tree_join 75 = .ok (.aload_n 0, 1) := by decide +kernel
theorem d_Tree_join_76 : decode b_Tree_join 76 = .ok (.getfield 27, 3) := by decide +kernel
theorem d_Tree_join_79 : decode b_Tree_join 79 = .ok (.iload_n 1, 1) := by decide +kernel
theorem d_Tree_join_80 : decode b_Tree_join 80 = .ok (.aload_n 0, 1) := by decide +kernel
theorem d_Tree_join_81 : decode b_Tree_join 81 = .ok (.getfield 27, 3) := by decide +kernel
theorem d_Tree_join_84 : decode b_Tree_join 84 = .ok (.iload_n 2, 1) := by decide +kernel
theorem d_Tree_join_85 : decode b_Tree_join 85 = .ok (.iaload, 1) := by decide +kernel
theorem d_Tree_join_86 : decode b_Tree_join 86 = .ok (.aload_n 0, 1) := by decide +kernel
theorem d_Tree_join_87 : decode b_Tree_join 87 = .ok (.getfield 27, 3) := by decide +kernel
theorem d_Tree_join_90 : decode b_Tree_join 90 = .ok (.iload_n 3, 1) := by decide +kernel
theorem d_Tree_join_91 : decode b_Tree_join 91 = .ok (.iaload, 1) := by decide +kernel
theorem d_Tree_join_92 : decode b_Tree_join 92 = .ok (.iadd, 1) := by decide +kernel
theorem d_Tree_join_93 : decode b_Tree_join 93 = .ok (.iastore, 1) := by decide +kernel
theorem d_Tree_join_94 : decode b_Tree_join 94 = .ok (.aload_n 0, 1) := by decide +kernel
theorem d_Tree_join_95 : decode b_Tree_join 95 = .ok (.getfield 30, 3) := by decide +kernel
theorem d_Tree_join_98 : decode b_Tree_join 98 = .ok (.iload_n 2, 1) := by decide +kernel
theorem d_Tree_join_99 : decode b_Tree_join 99 = .ok (.iload_n 1, 1) := by decide +kernel
theorem d_Tree_join_100 : decode b_Tree_join 100 = .ok (.iastore, 1) := by decide +kernel
theorem d_Tree_join_101 : decode b_Tree_join 101 = .ok (.aload_n 0, 1) := by decide +kernel
theorem d_Tree_join_102 : decode b_Tree_join 102 = .ok (.getfield 30, 3) := by decide +kernel
theorem d_Tree_join_105 : decode b_Tree_join 105 = .ok (.iload_n 3, 1) := by decide +kernel
theorem d_Tree_join_106 : decode b_Tree_join 106 = .ok (.iload_n 1, 1) := by decide +kernel
theorem d_Tree_join_107 : decode b_Tree_join 107 = .ok (.iastore, 1) := by decide +kernel
theorem d_Tree_join_108 : decode b_Tree_join 108 = .ok (.iinc 1 1, 3) := by decide +kernel
theorem d_Tree_join_111 : decode b_Tree_join 111 = .ok (.goto (-60), 3) := by decide +kernel
theorem d_Tree_join_114 : decode b_Tree_join 114 = .ok (.return_, 1) := by decide +kernel
abbrev R_Tree_join : Room := ({ frames := 1, cells := 0, slots := 0, locals := 21 } : Room)
def E_Tree_join (p : Program) (l : Launch) (e : Env) (s : State) (m : MethodId) (args : Array Value) (below : List Frame) (meth : Method) (c : Code) (Q : State → Prop) (A : Nat → Prop) (D : va_G) (cI cL cZ : ClassId) (a_this : Nat) (a_halves : Nat) (a_leaves : Nat) (a_sums : Nat) (a_above : Nat) (o_lengths : Nat) (o_sorted : Nat) (o_starts : Nat) (o_depths : Nat) (i_known : Int32) (v_halves : Nat → Int32) (v_leaves : Nat → Int32) (res : Int32 × Int32 × (Nat → Int32) × (Nat → Int32)) : Prop := ∀ (pc : Nat) (H : Heap) (locs : List Loc) (ls : Array Slot) (i_nextLeaf : Int32) (i_nextSum : Int32) (v_sums : Nat → Int32) (v_above : Nat → Int32), some (i_nextLeaf, i_nextSum, v_sums, v_above) = some res → decode b_Tree_join pc = .ok (.return_, 1) → va_P D classes [(a_this, .inr (9, [.ref o_lengths, .ref a_halves, .ref a_leaves, .ref o_sorted, .ref o_starts, .ref a_sums, .ref a_above, .ref o_depths, .int i_known, .int i_nextLeaf, .int i_nextSum])), (a_halves, .inl (cI, 256, .inl v_halves)), (a_leaves, .inl (cI, 256, .inl v_leaves)), (a_sums, .inl (cI, 512, .inl v_sums)), (a_above, .inl (cI, 512, .inl v_above))] H → va_D A [(a_this, .inr (9, [.ref o_lengths, .ref a_halves, .ref a_leaves, .ref o_sorted, .ref o_starts, .ref a_sums, .ref a_above, .ref o_depths, .int i_known, .int i_nextLeaf, .int i_nextSum])), (a_halves, .inl (cI, 256, .inl v_halves)), (a_leaves, .inl (cI, 256, .inl v_leaves)), (a_sums, .inl (cI, 512, .inl v_sums)), (a_above, .inl (cI, 512, .inl v_above))] → va_S A s.heap H locs → W p l e R_Tree_join s m args below meth c H locs 0 0 Q (F0 m pc ls [])
def I_Tree_join_b51 (p : Program) (l : Launch) (e : Env) (s : State) (m : MethodId) (args : Array Value) (below : List Frame) (meth : Method) (c : Code) (Q : State → Prop) (A : Nat → Prop) (D : va_G) (cI cL cZ : ClassId) (a_this : Nat) (a_halves : Nat) (a_leaves : Nat) (a_sums : Nat) (a_above : Nat) (o_lengths : Nat) (o_sorted : Nat) (o_starts : Nat) (o_depths : Nat) (i_known : Int32) (v_halves : Nat → Int32) (v_leaves : Nat → Int32) (res : Int32 × Int32 × (Nat → Int32) × (Nat → Int32)) (kf : Int32 → Int32 → Int32 → (Nat → Int32) → (Nat → Int32) → Option (Int32 × Int32 × (Nat → Int32) × (Nat → Int32))) : Prop := ∀ (l1 : Int32) (i_nextLeaf : Int32) (i_nextSum : Int32) (v_sums : Nat → Int32) (v_above : Nat → Int32), kf l1 i_nextLeaf i_nextSum v_sums v_above = some res → ∀ (H : Heap) (locs : List Loc) (ls : Array Slot), lv_has ls 4 [(0, .ref a_this), (1, .int l1)] → va_P D classes [(a_this, .inr (9, [.ref o_lengths, .ref a_halves, .ref a_leaves, .ref o_sorted, .ref o_starts, .ref a_sums, .ref a_above, .ref o_depths, .int i_known, .int i_nextLeaf, .int i_nextSum])), (a_halves, .inl (cI, 256, .inl v_halves)), (a_leaves, .inl (cI, 256, .inl v_leaves)), (a_sums, .inl (cI, 512, .inl v_sums)), (a_above, .inl (cI, 512, .inl v_above))] H → va_D A [(a_this, .inr (9, [.ref o_lengths, .ref a_halves, .ref a_leaves, .ref o_sorted, .ref o_starts, .ref a_sums, .ref a_above, .ref o_depths, .int i_known, .int i_nextLeaf, .int i_nextSum])), (a_halves, .inl (cI, 256, .inl v_halves)), (a_leaves, .inl (cI, 256, .inl v_leaves)), (a_sums, .inl (cI, 512, .inl v_sums)), (a_above, .inl (cI, 512, .inl v_above))] → va_S A s.heap H locs → W p l e R_Tree_join s m args below meth c H locs 0 0 Q (F0 m 51 ls [])
def I_Tree_join_b33 (p : Program) (l : Launch) (e : Env) (s : State) (m : MethodId) (args : Array Value) (below : List Frame) (meth : Method) (c : Code) (Q : State → Prop) (A : Nat → Prop) (D : va_G) (cI cL cZ : ClassId) (a_this : Nat) (a_halves : Nat) (a_leaves : Nat) (a_sums : Nat) (a_above : Nat) (o_lengths : Nat) (o_sorted : Nat) (o_starts : Nat) (o_depths : Nat) (i_known : Int32) (v_halves : Nat → Int32) (v_leaves : Nat → Int32) (res : Int32 × Int32 × (Nat → Int32) × (Nat → Int32)) (kf : Int32 → Int32 → (Nat → Int32) → (Nat → Int32) → Option (Int32 × Int32 × (Nat → Int32) × (Nat → Int32))) : Prop := ∀ (i_nextLeaf : Int32) (i_nextSum : Int32) (v_sums : Nat → Int32) (v_above : Nat → Int32), kf i_nextLeaf i_nextSum v_sums v_above = some res → ∀ (H : Heap) (locs : List Loc) (ls : Array Slot), lv_has ls 4 [(0, .ref a_this)] → va_P D classes [(a_this, .inr (9, [.ref o_lengths, .ref a_halves, .ref a_leaves, .ref o_sorted, .ref o_starts, .ref a_sums, .ref a_above, .ref o_depths, .int i_known, .int i_nextLeaf, .int i_nextSum])), (a_halves, .inl (cI, 256, .inl v_halves)), (a_leaves, .inl (cI, 256, .inl v_leaves)), (a_sums, .inl (cI, 512, .inl v_sums)), (a_above, .inl (cI, 512, .inl v_above))] H → va_D A [(a_this, .inr (9, [.ref o_lengths, .ref a_halves, .ref a_leaves, .ref o_sorted, .ref o_starts, .ref a_sums, .ref a_above, .ref o_depths, .int i_known, .int i_nextLeaf, .int i_nextSum])), (a_halves, .inl (cI, 256, .inl v_halves)), (a_leaves, .inl (cI, 256, .inl v_leaves)), (a_sums, .inl (cI, 512, .inl v_sums)), (a_above, .inl (cI, 512, .inl v_above))] → va_S A s.heap H locs → W p l e R_Tree_join s m args below meth c H locs 0 0 Q (F0 m 33 ls [])
def I_Tree_join_b2 (p : Program) (l : Launch) (e : Env) (s : State) (m : MethodId) (args : Array Value) (below : List Frame) (meth : Method) (c : Code) (Q : State → Prop) (A : Nat → Prop) (D : va_G) (cI cL cZ : ClassId) (a_this : Nat) (a_halves : Nat) (a_leaves : Nat) (a_sums : Nat) (a_above : Nat) (o_lengths : Nat) (o_sorted : Nat) (o_starts : Nat) (o_depths : Nat) (i_known : Int32) (v_halves : Nat → Int32) (v_leaves : Nat → Int32) (res : Int32 × Int32 × (Nat → Int32) × (Nat → Int32)) (kf : Int32 → Int32 → Int32 → (Nat → Int32) → (Nat → Int32) → Option (Int32 × Int32 × (Nat → Int32) × (Nat → Int32))) : Prop := ∀ (l1 : Int32) (i_nextLeaf : Int32) (i_nextSum : Int32) (v_sums : Nat → Int32) (v_above : Nat → Int32), kf l1 i_nextLeaf i_nextSum v_sums v_above = some res → ∀ (H : Heap) (locs : List Loc) (ls : Array Slot), lv_has ls 4 [(0, .ref a_this), (1, .int l1)] → va_P D classes [(a_this, .inr (9, [.ref o_lengths, .ref a_halves, .ref a_leaves, .ref o_sorted, .ref o_starts, .ref a_sums, .ref a_above, .ref o_depths, .int i_known, .int i_nextLeaf, .int i_nextSum])), (a_halves, .inl (cI, 256, .inl v_halves)), (a_leaves, .inl (cI, 256, .inl v_leaves)), (a_sums, .inl (cI, 512, .inl v_sums)), (a_above, .inl (cI, 512, .inl v_above))] H → va_D A [(a_this, .inr (9, [.ref o_lengths, .ref a_halves, .ref a_leaves, .ref o_sorted, .ref o_starts, .ref a_sums, .ref a_above, .ref o_depths, .int i_known, .int i_nextLeaf, .int i_nextSum])), (a_halves, .inl (cI, 256, .inl v_halves)), (a_leaves, .inl (cI, 256, .inl v_leaves)), (a_sums, .inl (cI, 512, .inl v_sums)), (a_above, .inl (cI, 512, .inl v_above))] → va_S A s.heap H locs → W p l e R_Tree_join s m args below meth c H locs 0 0 Q (F0 m 2 ls [])
def I_Tree_join_b0 (p : Program) (l : Launch) (e : Env) (s : State) (m : MethodId) (args : Array Value) (below : List Frame) (meth : Method) (c : Code) (Q : State → Prop) (A : Nat → Prop) (D : va_G) (cI cL cZ : ClassId) (a_this : Nat) (a_halves : Nat) (a_leaves : Nat) (a_sums : Nat) (a_above : Nat) (o_lengths : Nat) (o_sorted : Nat) (o_starts : Nat) (o_depths : Nat) (i_known : Int32) (v_halves : Nat → Int32) (v_leaves : Nat → Int32) (res : Int32 × Int32 × (Nat → Int32) × (Nat → Int32)) (kf : Int32 → Int32 → (Nat → Int32) → (Nat → Int32) → Option (Int32 × Int32 × (Nat → Int32) × (Nat → Int32))) : Prop := ∀ (i_nextLeaf : Int32) (i_nextSum : Int32) (v_sums : Nat → Int32) (v_above : Nat → Int32), kf i_nextLeaf i_nextSum v_sums v_above = some res → ∀ (H : Heap) (locs : List Loc) (ls : Array Slot), lv_has ls 4 [(0, .ref a_this)] → va_P D classes [(a_this, .inr (9, [.ref o_lengths, .ref a_halves, .ref a_leaves, .ref o_sorted, .ref o_starts, .ref a_sums, .ref a_above, .ref o_depths, .int i_known, .int i_nextLeaf, .int i_nextSum])), (a_halves, .inl (cI, 256, .inl v_halves)), (a_leaves, .inl (cI, 256, .inl v_leaves)), (a_sums, .inl (cI, 512, .inl v_sums)), (a_above, .inl (cI, 512, .inl v_above))] H → va_D A [(a_this, .inr (9, [.ref o_lengths, .ref a_halves, .ref a_leaves, .ref o_sorted, .ref o_starts, .ref a_sums, .ref a_above, .ref o_depths, .int i_known, .int i_nextLeaf, .int i_nextSum])), (a_halves, .inl (cI, 256, .inl v_halves)), (a_leaves, .inl (cI, 256, .inl v_leaves)), (a_sums, .inl (cI, 512, .inl v_sums)), (a_above, .inl (cI, 512, .inl v_above))] → va_S A s.heap H locs → W p l e R_Tree_join s m args below meth c H locs 0 0 Q (F0 m 0 ls [])
set_option maxHeartbeats 4000000 in
set_option maxRecDepth 100000 in
theorem w_Tree_join_b51 {p : Program} {l : Launch} {e : Env} {s : State} {m : MethodId} {args : Array Value} {below : List Frame} {meth : Method} {c : Code} {Q : State → Prop} {A : Nat → Prop} {D : va_G} {cI cL cZ : ClassId} {a_this : Nat} {a_halves : Nat} {a_leaves : Nat} {a_sums : Nat} {a_above : Nat} {o_lengths : Nat} {o_sorted : Nat} {o_starts : Nat} {o_depths : Nat} {i_known : Int32} {v_halves : Nat → Int32} {v_leaves : Nat → Int32} {N : Nat} {res : Int32 × Int32 × (Nat → Int32) × (Nat → Int32)}  (C : Cx p s m args c b_Tree_join 4 "PrefixMill$Tree" D [(cI, .int), (cL, .long), (cZ, .boolean)] A) (hret : E_Tree_join p l e s m args below meth c Q A D cI cL cZ a_this a_halves a_leaves a_sums a_above o_lengths o_sorted o_starts o_depths i_known v_halves v_leaves res)  : ∀ z : Nat, I_Tree_join_b51 p l e s m args below meth c Q A D cI cL cZ a_this a_halves a_leaves a_sums a_above o_lengths o_sorted o_starts o_depths i_known v_halves v_leaves res (f_Tree_join_b51 N i_known v_halves v_leaves  z) := by
  obtain ⟨hx, hb, hml, hown, hts, hK, hA⟩ := C
  intro z
  induction z with
  | zero => intro l1 i_nextLeaf i_nextSum v_sums v_above h; cases h
  | succ z ih =>
    intro l1 i_nextLeaf i_nextSum v_sums v_above h H locs ls hl hP hD hS
    refine lv_iload_n hx hb d_Tree_join_51 rfl (lv_at hl 1 rfl) ?_
    refine lv_iconst (v := 2) hx hb d_Tree_join_52 (by decide) ?_
    refine lv_aload_n hx hb d_Tree_join_53 rfl (lv_at hl 0 rfl) ?_
    refine va_get hx hb hts in_Tree hown hK hP 0 rfl rfl 8 (by decide) (hts _ m_165) (fun _ h9 => h9) rfl d_Tree_join_54 ?_
    refine lv_imul hx hb d_Tree_join_57 ?_
    refine lv_iconst (v := 1) hx hb d_Tree_join_58 (by decide) ?_
    refine lv_isub hx hb d_Tree_join_59 ?_
    refine lv_icmp_ge (tgt := 114) hx hb d_Tree_join_60 (by decide) (fun c_1 => ?_) (fun c_1 => ?_)
    · replace h := if_t h c_1
      exact hret _ _ _ _ i_nextLeaf i_nextSum v_sums v_above h d_Tree_join_114 hP hD hS
    · replace h := if_f h c_1
      refine lv_aload_n hx hb d_Tree_join_63 rfl (lv_at hl 0 rfl) ?_
      refine lv_iload_n hx hb d_Tree_join_64 rfl (lv_at hl 1 rfl) ?_
      obtain ⟨r_2, i_nextLeaf_3, i_nextSum_4, hc_5, h⟩ := bd3_s h
      have hPc := hP.sub (ws' := [(a_this, .inr (9, [.ref o_lengths, .ref a_halves, .ref a_leaves, .ref o_sorted, .ref o_starts, .ref a_sums, .ref a_above, .ref o_depths, .int i_known, .int i_nextLeaf, .int i_nextSum])), (a_sums, .inl (cI, 512, .inl v_sums))]) [0, 3] rfl
      have hDc := hD.sub (ws' := [(a_this, .inr (9, [.ref o_lengths, .ref a_halves, .ref a_leaves, .ref o_sorted, .ref o_starts, .ref a_sums, .ref a_above, .ref o_depths, .int i_known, .int i_nextLeaf, .int i_nextSum])), (a_sums, .inl (cI, 512, .inl v_sums))]) [0, 3] (by decide) rfl
      have hFc := va_free (wc := [(a_this, .inr (9, [.ref o_lengths, .ref a_halves, .ref a_leaves, .ref o_sorted, .ref o_starts, .ref a_sums, .ref a_above, .ref o_depths, .int i_known, .int i_nextLeaf, .int i_nextSum])), (a_sums, .inl (cI, 512, .inl v_sums))]) hD hS hA [0, 3] rfl
      refine va_calli (va_runV (As := [.int l1]) (rest := []) ⟨hx, hb, hml, hown, hts⟩ (c_Tree_least l D cI cL cZ H.size N a_this a_sums o_lengths a_halves a_leaves o_sorted o_starts a_above o_depths i_known i_nextLeaf i_nextSum v_sums l1 r_2 i_nextLeaf_3 i_nextSum_4 hc_5) ⟨(my_cb 1 hts m_459 rfl rfl (hts _ m_69) (hts _ m_456) (by decide +kernel) ⟨Nat.le_of_ble_eq_true rfl, Nat.le_of_ble_eq_true rfl⟩), hts _ m_458, hts _ m_3⟩ ⟨fun a U g mk q => by obtain ⟨q0, q1, qP, qK, qD⟩ := q; exact ⟨q0, q1, qP, va_K.moved (u := U) (U := U.calling g mk a) (Vm.Alike.refl U.vm) qK, qD⟩, va_recv hK hPc (ci := 9) (q0 := 0) rfl rfl, fun U hU hW => ⟨rfl, by rw [hU], by rw [hU]; exact hPc, va_K.moved hW.alike hK, hDc.weaken (fun _ _ _ _ => trivial)⟩⟩ rfl rfl hl.1 rfl (lv_room (Nat.le_of_ble_eq_true rfl)) d_Tree_join_65 ⟨Nat.zero_le _, Nat.zero_le _⟩) hS (fun q _ h => hFc q h) hFc (fun rr u t H1 locs ht hvm hw hB hz1 hk1 hS => ?_)
      obtain ⟨hP1, hK1, hD1⟩ := hB
      rw [ht] at hP1
      subst hw
      obtain ⟨hP, hD⟩ := va_join (wr := [(a_halves, .inl (cI, 256, .inl v_halves)), (a_leaves, .inl (cI, 256, .inl v_leaves)), (a_above, .inl (cI, 512, .inl v_above))]) (w1 := [(a_this, .inr (9, [.ref o_lengths, .ref a_halves, .ref a_leaves, .ref o_sorted, .ref o_starts, .ref a_sums, .ref a_above, .ref o_depths, .int i_known, .int i_nextLeaf_3, .int i_nextSum_4])), (a_sums, .inl (cI, 512, .inl v_sums))]) hP hD [0, 3] [1, 2, 4] rfl rfl (by decide) (by decide) hk1 hFc hP1 hD1
      clear hPc hDc hFc hk1 hP1 hD1 hK1
      generalize H1 = H at hP hS ⊢
      have hP : va_P D classes [(a_this, .inr (9, [.ref o_lengths, .ref a_halves, .ref a_leaves, .ref o_sorted, .ref o_starts, .ref a_sums, .ref a_above, .ref o_depths, .int i_known, .int i_nextLeaf_3, .int i_nextSum_4])), (a_halves, .inl (cI, 256, .inl v_halves)), (a_leaves, .inl (cI, 256, .inl v_leaves)), (a_sums, .inl (cI, 512, .inl v_sums)), (a_above, .inl (cI, 512, .inl v_above))] H := hP.sub [3, 0, 1, 4, 2] rfl
      have hD : va_D A [(a_this, .inr (9, [.ref o_lengths, .ref a_halves, .ref a_leaves, .ref o_sorted, .ref o_starts, .ref a_sums, .ref a_above, .ref o_depths, .int i_known, .int i_nextLeaf_3, .int i_nextSum_4])), (a_halves, .inl (cI, 256, .inl v_halves)), (a_leaves, .inl (cI, 256, .inl v_leaves)), (a_sums, .inl (cI, 512, .inl v_sums)), (a_above, .inl (cI, 512, .inl v_above))] := hD.sub [3, 0, 1, 4, 2] (by decide) rfl
      refine lv_istore_n (lv' := [(2, .int r_2), (0, .ref a_this), (1, .int l1)]) hx hb d_Tree_join_68 rfl hl (by decide) rfl (fun ls hl => ?_)
      refine lv_aload_n hx hb d_Tree_join_69 rfl (lv_at hl 1 rfl) ?_
      refine lv_iload_n hx hb d_Tree_join_70 rfl (lv_at hl 2 rfl) ?_
      obtain ⟨r_6, i_nextLeaf_7, i_nextSum_8, hc_9, h⟩ := bd3_s h
      have hPc := hP.sub (ws' := [(a_this, .inr (9, [.ref o_lengths, .ref a_halves, .ref a_leaves, .ref o_sorted, .ref o_starts, .ref a_sums, .ref a_above, .ref o_depths, .int i_known, .int i_nextLeaf_3, .int i_nextSum_4])), (a_sums, .inl (cI, 512, .inl v_sums))]) [0, 3] rfl
      have hDc := hD.sub (ws' := [(a_this, .inr (9, [.ref o_lengths, .ref a_halves, .ref a_leaves, .ref o_sorted, .ref o_starts, .ref a_sums, .ref a_above, .ref o_depths, .int i_known, .int i_nextLeaf_3, .int i_nextSum_4])), (a_sums, .inl (cI, 512, .inl v_sums))]) [0, 3] (by decide) rfl
      have hFc := va_free (wc := [(a_this, .inr (9, [.ref o_lengths, .ref a_halves, .ref a_leaves, .ref o_sorted, .ref o_starts, .ref a_sums, .ref a_above, .ref o_depths, .int i_known, .int i_nextLeaf_3, .int i_nextSum_4])), (a_sums, .inl (cI, 512, .inl v_sums))]) hD hS hA [0, 3] rfl
      refine va_calli (va_runV (As := [.int l1]) (rest := []) ⟨hx, hb, hml, hown, hts⟩ (c_Tree_least l D cI cL cZ H.size N a_this a_sums o_lengths a_halves a_leaves o_sorted o_starts a_above o_depths i_known i_nextLeaf_3 i_nextSum_4 v_sums l1 r_6 i_nextLeaf_7 i_nextSum_8 hc_9) ⟨(my_cb 1 hts m_459 rfl rfl (hts _ m_69) (hts _ m_456) (by decide +kernel) ⟨Nat.le_of_ble_eq_true rfl, Nat.le_of_ble_eq_true rfl⟩), hts _ m_458, hts _ m_3⟩ ⟨fun a U g mk q => by obtain ⟨q0, q1, qP, qK, qD⟩ := q; exact ⟨q0, q1, qP, va_K.moved (u := U) (U := U.calling g mk a) (Vm.Alike.refl U.vm) qK, qD⟩, va_recv hK hPc (ci := 9) (q0 := 0) rfl rfl, fun U hU hW => ⟨rfl, by rw [hU], by rw [hU]; exact hPc, va_K.moved hW.alike hK, hDc.weaken (fun _ _ _ _ => trivial)⟩⟩ rfl rfl hl.1 rfl (lv_room (Nat.le_of_ble_eq_true rfl)) d_Tree_join_71 ⟨Nat.zero_le _, Nat.zero_le _⟩) hS (fun q _ h => hFc q h) hFc (fun rr u t H1 locs ht hvm hw hB hz1 hk1 hS => ?_)
      obtain ⟨hP1, hK1, hD1⟩ := hB
      rw [ht] at hP1
      subst hw
      obtain ⟨hP, hD⟩ := va_join (wr := [(a_halves, .inl (cI, 256, .inl v_halves)), (a_leaves, .inl (cI, 256, .inl v_leaves)), (a_above, .inl (cI, 512, .inl v_above))]) (w1 := [(a_this, .inr (9, [.ref o_lengths, .ref a_halves, .ref a_leaves, .ref o_sorted, .ref o_starts, .ref a_sums, .ref a_above, .ref o_depths, .int i_known, .int i_nextLeaf_7, .int i_nextSum_8])), (a_sums, .inl (cI, 512, .inl v_sums))]) hP hD [0, 3] [1, 2, 4] rfl rfl (by decide) (by decide) hk1 hFc hP1 hD1
      clear hPc hDc hFc hk1 hP1 hD1 hK1
      generalize H1 = H at hP hS ⊢
      have hP : va_P D classes [(a_this, .inr (9, [.ref o_lengths, .ref a_halves, .ref a_leaves, .ref o_sorted, .ref o_starts, .ref a_sums, .ref a_above, .ref o_depths, .int i_known, .int i_nextLeaf_7, .int i_nextSum_8])), (a_halves, .inl (cI, 256, .inl v_halves)), (a_leaves, .inl (cI, 256, .inl v_leaves)), (a_sums, .inl (cI, 512, .inl v_sums)), (a_above, .inl (cI, 512, .inl v_above))] H := hP.sub [3, 0, 1, 4, 2] rfl
      have hD : va_D A [(a_this, .inr (9, [.ref o_lengths, .ref a_halves, .ref a_leaves, .ref o_sorted, .ref o_starts, .ref a_sums, .ref a_above, .ref o_depths, .int i_known, .int i_nextLeaf_7, .int i_nextSum_8])), (a_halves, .inl (cI, 256, .inl v_halves)), (a_leaves, .inl (cI, 256, .inl v_leaves)), (a_sums, .inl (cI, 512, .inl v_sums)), (a_above, .inl (cI, 512, .inl v_above))] := hD.sub [3, 0, 1, 4, 2] (by decide) rfl
      refine lv_istore_n (lv' := [(3, .int r_6), (2, .int r_2), (0, .ref a_this), (1, .int l1)]) hx hb d_Tree_join_74 rfl hl (by decide) rfl (fun ls hl => ?_)
      refine lv_aload_n hx hb d_Tree_join_75 rfl (lv_at hl 2 rfl) ?_
      refine va_get hx hb hts in_Tree hown hK hP 0 rfl rfl 5 (by decide) (hts _ m_162) (fun _ h9 => h9) rfl d_Tree_join_76 ?_
      refine lv_iload_n hx hb d_Tree_join_79 rfl (lv_at hl 3 rfl) ?_
      refine lv_aload_n hx hb d_Tree_join_80 rfl (lv_at hl 2 rfl) ?_
      refine va_get hx hb hts in_Tree hown hK hP 0 rfl rfl 5 (by decide) (hts _ m_162) (fun _ h9 => h9) rfl d_Tree_join_81 ?_
      refine lv_iload_n hx hb d_Tree_join_84 rfl (lv_at hl 1 rfl) ?_
      obtain ⟨g_10, h⟩ := ck_s h
      refine va_iald hx hb hK hP 3 0 rfl rfl (inb_s g_10) d_Tree_join_85 ?_
      refine lv_aload_n hx hb d_Tree_join_86 rfl (lv_at hl 2 rfl) ?_
      refine va_get hx hb hts in_Tree hown hK hP 0 rfl rfl 5 (by decide) (hts _ m_162) (fun _ h9 => h9) rfl d_Tree_join_87 ?_
      refine lv_iload_n hx hb d_Tree_join_90 rfl (lv_at hl 0 rfl) ?_
      obtain ⟨g_11, h⟩ := ck_s h
      refine va_iald hx hb hK hP 3 0 rfl rfl (inb_s g_11) d_Tree_join_91 ?_
      refine lv_iadd hx hb d_Tree_join_92 ?_
      obtain ⟨g_12, h⟩ := ck_s h
      refine va_iast hx hb hK hP hD hS 3 0 rfl rfl (inb_s g_12) d_Tree_join_93 (fun H locs hP hD hS => ?_)
      obtain ⟨v_sums_13, ev_sums_13⟩ : ∃ y, y = (upd v_sums (Int32.toNatClampNeg l1) ((v_sums (Int32.toNatClampNeg r_2)) + (v_sums (Int32.toNatClampNeg r_6)))) := ⟨_, rfl⟩
      replace h := nm_s h ev_sums_13
      have hP : va_P D classes [(a_this, .inr (9, [.ref o_lengths, .ref a_halves, .ref a_leaves, .ref o_sorted, .ref o_starts, .ref a_sums, .ref a_above, .ref o_depths, .int i_known, .int i_nextLeaf_7, .int i_nextSum_8])), (a_halves, .inl (cI, 256, .inl v_halves)), (a_leaves, .inl (cI, 256, .inl v_leaves)), (a_sums, .inl (cI, 512, .inl v_sums_13)), (a_above, .inl (cI, 512, .inl v_above))] H := by rw [ev_sums_13]; exact hP
      have hD : va_D A [(a_this, .inr (9, [.ref o_lengths, .ref a_halves, .ref a_leaves, .ref o_sorted, .ref o_starts, .ref a_sums, .ref a_above, .ref o_depths, .int i_known, .int i_nextLeaf_7, .int i_nextSum_8])), (a_halves, .inl (cI, 256, .inl v_halves)), (a_leaves, .inl (cI, 256, .inl v_leaves)), (a_sums, .inl (cI, 512, .inl v_sums_13)), (a_above, .inl (cI, 512, .inl v_above))] := by rw [ev_sums_13]; exact hD
      refine lv_aload_n hx hb d_Tree_join_94 rfl (lv_at hl 2 rfl) ?_
      refine va_get hx hb hts in_Tree hown hK hP 0 rfl rfl 6 (by decide) (hts _ m_163) (fun _ h9 => h9) rfl d_Tree_join_95 ?_
      refine lv_iload_n hx hb d_Tree_join_98 rfl (lv_at hl 1 rfl) ?_
      refine lv_iload_n hx hb d_Tree_join_99 rfl (lv_at hl 3 rfl) ?_
      obtain ⟨g_14, h⟩ := ck_s h
      refine va_iast hx hb hK hP hD hS 4 0 rfl rfl (inb_s g_14) d_Tree_join_100 (fun H locs hP hD hS => ?_)
      obtain ⟨v_above_15, ev_above_15⟩ : ∃ y, y = (upd v_above (Int32.toNatClampNeg r_2) l1) := ⟨_, rfl⟩
      replace h := nm_s h ev_above_15
      have hP : va_P D classes [(a_this, .inr (9, [.ref o_lengths, .ref a_halves, .ref a_leaves, .ref o_sorted, .ref o_starts, .ref a_sums, .ref a_above, .ref o_depths, .int i_known, .int i_nextLeaf_7, .int i_nextSum_8])), (a_halves, .inl (cI, 256, .inl v_halves)), (a_leaves, .inl (cI, 256, .inl v_leaves)), (a_sums, .inl (cI, 512, .inl v_sums_13)), (a_above, .inl (cI, 512, .inl v_above_15))] H := by rw [ev_above_15]; exact hP
      have hD : va_D A [(a_this, .inr (9, [.ref o_lengths, .ref a_halves, .ref a_leaves, .ref o_sorted, .ref o_starts, .ref a_sums, .ref a_above, .ref o_depths, .int i_known, .int i_nextLeaf_7, .int i_nextSum_8])), (a_halves, .inl (cI, 256, .inl v_halves)), (a_leaves, .inl (cI, 256, .inl v_leaves)), (a_sums, .inl (cI, 512, .inl v_sums_13)), (a_above, .inl (cI, 512, .inl v_above_15))] := by rw [ev_above_15]; exact hD
      refine lv_aload_n hx hb d_Tree_join_101 rfl (lv_at hl 2 rfl) ?_
      refine va_get hx hb hts in_Tree hown hK hP 0 rfl rfl 6 (by decide) (hts _ m_163) (fun _ h9 => h9) rfl d_Tree_join_102 ?_
      refine lv_iload_n hx hb d_Tree_join_105 rfl (lv_at hl 0 rfl) ?_
      refine lv_iload_n hx hb d_Tree_join_106 rfl (lv_at hl 3 rfl) ?_
      obtain ⟨g_16, h⟩ := ck_s h
      refine va_iast hx hb hK hP hD hS 4 0 rfl rfl (inb_s g_16) d_Tree_join_107 (fun H locs hP hD hS => ?_)
      obtain ⟨v_above_17, ev_above_17⟩ : ∃ y, y = (upd v_above_15 (Int32.toNatClampNeg r_6) l1) := ⟨_, rfl⟩
      replace h := nm_s h ev_above_17
      have hP : va_P D classes [(a_this, .inr (9, [.ref o_lengths, .ref a_halves, .ref a_leaves, .ref o_sorted, .ref o_starts, .ref a_sums, .ref a_above, .ref o_depths, .int i_known, .int i_nextLeaf_7, .int i_nextSum_8])), (a_halves, .inl (cI, 256, .inl v_halves)), (a_leaves, .inl (cI, 256, .inl v_leaves)), (a_sums, .inl (cI, 512, .inl v_sums_13)), (a_above, .inl (cI, 512, .inl v_above_17))] H := by rw [ev_above_17]; exact hP
      have hD : va_D A [(a_this, .inr (9, [.ref o_lengths, .ref a_halves, .ref a_leaves, .ref o_sorted, .ref o_starts, .ref a_sums, .ref a_above, .ref o_depths, .int i_known, .int i_nextLeaf_7, .int i_nextSum_8])), (a_halves, .inl (cI, 256, .inl v_halves)), (a_leaves, .inl (cI, 256, .inl v_leaves)), (a_sums, .inl (cI, 512, .inl v_sums_13)), (a_above, .inl (cI, 512, .inl v_above_17))] := by rw [ev_above_17]; exact hD
      obtain ⟨l1_18, el1_18⟩ : ∃ y : Int32, y = l1 + 1 := ⟨_, rfl⟩
      replace h := nm_s h el1_18
      refine lv_iinc (v := l1_18) (lv' := [(1, .int l1_18), (3, .int r_6), (2, .int r_2), (0, .ref a_this)]) hx hb d_Tree_join_108 hl (k := 3) rfl (by rw [el1_18]; rfl) (by decide) rfl (fun ls hl => ?_)
      refine lv_goto (tgt := 51) hx hb d_Tree_join_111 (by decide) ?_
      exact ih _ _ _ _ _ h H locs ls (lv_sub hl [3, 0] rfl) hP hD hS
set_option maxHeartbeats 4000000 in
set_option maxRecDepth 100000 in
theorem w_Tree_join_b33 {p : Program} {l : Launch} {e : Env} {s : State} {m : MethodId} {args : Array Value} {below : List Frame} {meth : Method} {c : Code} {Q : State → Prop} {A : Nat → Prop} {D : va_G} {cI cL cZ : ClassId} {a_this : Nat} {a_halves : Nat} {a_leaves : Nat} {a_sums : Nat} {a_above : Nat} {o_lengths : Nat} {o_sorted : Nat} {o_starts : Nat} {o_depths : Nat} {i_known : Int32} {v_halves : Nat → Int32} {v_leaves : Nat → Int32} {N : Nat} {res : Int32 × Int32 × (Nat → Int32) × (Nat → Int32)}  (C : Cx p s m args c b_Tree_join 4 "PrefixMill$Tree" D [(cI, .int), (cL, .long), (cZ, .boolean)] A) (hret : E_Tree_join p l e s m args below meth c Q A D cI cL cZ a_this a_halves a_leaves a_sums a_above o_lengths o_sorted o_starts o_depths i_known v_halves v_leaves res)  : I_Tree_join_b33 p l e s m args below meth c Q A D cI cL cZ a_this a_halves a_leaves a_sums a_above o_lengths o_sorted o_starts o_depths i_known v_halves v_leaves res (f_Tree_join_b33 N i_known v_halves v_leaves ) := by
  obtain ⟨hx, hb, hml, hown, hts, hK, hA⟩ := C
  intro i_nextLeaf i_nextSum v_sums v_above h H locs ls hl hP hD hS
  unfold f_Tree_join_b33 at h
  refine lv_aload_n hx hb d_Tree_join_33 rfl (lv_at hl 0 rfl) ?_
  refine lv_iconst (v := 0) hx hb d_Tree_join_34 (by decide) ?_
  refine va_put (v := .int 0) (ty := .int) hx hb hts in_Tree t_Tree t_Tree_ok n_Tree hown hK hP hD hS 0 rfl rfl 9 (by decide) (hts _ m_166) (fun _ h9 => h9) rfl (by decide +kernel) rfl rfl (Nat.le_of_ble_eq_true rfl) d_Tree_join_35 (fun H locs hP hD hS => ?_)
  have hP : va_P D classes [(a_this, .inr (9, [.ref o_lengths, .ref a_halves, .ref a_leaves, .ref o_sorted, .ref o_starts, .ref a_sums, .ref a_above, .ref o_depths, .int i_known, .int 0, .int i_nextSum])), (a_halves, .inl (cI, 256, .inl v_halves)), (a_leaves, .inl (cI, 256, .inl v_leaves)), (a_sums, .inl (cI, 512, .inl v_sums)), (a_above, .inl (cI, 512, .inl v_above))] H := by exact hP
  have hD : va_D A [(a_this, .inr (9, [.ref o_lengths, .ref a_halves, .ref a_leaves, .ref o_sorted, .ref o_starts, .ref a_sums, .ref a_above, .ref o_depths, .int i_known, .int 0, .int i_nextSum])), (a_halves, .inl (cI, 256, .inl v_halves)), (a_leaves, .inl (cI, 256, .inl v_leaves)), (a_sums, .inl (cI, 512, .inl v_sums)), (a_above, .inl (cI, 512, .inl v_above))] := by exact hD
  refine lv_aload_n hx hb d_Tree_join_38 rfl (lv_at hl 0 rfl) ?_
  refine lv_aload_n hx hb d_Tree_join_39 rfl (lv_at hl 0 rfl) ?_
  refine va_get hx hb hts in_Tree hown hK hP 0 rfl rfl 8 (by decide) (hts _ m_165) (fun _ h9 => h9) rfl d_Tree_join_40 ?_
  refine va_put (v := .int i_known) (ty := .int) hx hb hts in_Tree t_Tree t_Tree_ok n_Tree hown hK hP hD hS 0 rfl rfl 10 (by decide) (hts _ m_167) (fun _ h9 => h9) rfl (by decide +kernel) rfl rfl (Nat.le_of_ble_eq_true rfl) d_Tree_join_43 (fun H locs hP hD hS => ?_)
  have hP : va_P D classes [(a_this, .inr (9, [.ref o_lengths, .ref a_halves, .ref a_leaves, .ref o_sorted, .ref o_starts, .ref a_sums, .ref a_above, .ref o_depths, .int i_known, .int 0, .int i_known])), (a_halves, .inl (cI, 256, .inl v_halves)), (a_leaves, .inl (cI, 256, .inl v_leaves)), (a_sums, .inl (cI, 512, .inl v_sums)), (a_above, .inl (cI, 512, .inl v_above))] H := by exact hP
  have hD : va_D A [(a_this, .inr (9, [.ref o_lengths, .ref a_halves, .ref a_leaves, .ref o_sorted, .ref o_starts, .ref a_sums, .ref a_above, .ref o_depths, .int i_known, .int 0, .int i_known])), (a_halves, .inl (cI, 256, .inl v_halves)), (a_leaves, .inl (cI, 256, .inl v_leaves)), (a_sums, .inl (cI, 512, .inl v_sums)), (a_above, .inl (cI, 512, .inl v_above))] := by exact hD
  refine lv_aload_n hx hb d_Tree_join_46 rfl (lv_at hl 0 rfl) ?_
  refine va_get hx hb hts in_Tree hown hK hP 0 rfl rfl 8 (by decide) (hts _ m_165) (fun _ h9 => h9) rfl d_Tree_join_47 ?_
  refine lv_istore_n (lv' := [(1, .int i_known), (0, .ref a_this)]) hx hb d_Tree_join_50 rfl hl (by decide) rfl (fun ls hl => ?_)
  exact w_Tree_join_b51 ⟨hx, hb, hml, hown, hts, hK, hA⟩ hret  N _ _ _ _ _ h H locs ls (lv_sub hl [1, 0] rfl) hP hD hS
set_option maxHeartbeats 4000000 in
set_option maxRecDepth 100000 in
theorem w_Tree_join_b2 {p : Program} {l : Launch} {e : Env} {s : State} {m : MethodId} {args : Array Value} {below : List Frame} {meth : Method} {c : Code} {Q : State → Prop} {A : Nat → Prop} {D : va_G} {cI cL cZ : ClassId} {a_this : Nat} {a_halves : Nat} {a_leaves : Nat} {a_sums : Nat} {a_above : Nat} {o_lengths : Nat} {o_sorted : Nat} {o_starts : Nat} {o_depths : Nat} {i_known : Int32} {v_halves : Nat → Int32} {v_leaves : Nat → Int32} {N : Nat} {res : Int32 × Int32 × (Nat → Int32) × (Nat → Int32)}  (C : Cx p s m args c b_Tree_join 4 "PrefixMill$Tree" D [(cI, .int), (cL, .long), (cZ, .boolean)] A) (hret : E_Tree_join p l e s m args below meth c Q A D cI cL cZ a_this a_halves a_leaves a_sums a_above o_lengths o_sorted o_starts o_depths i_known v_halves v_leaves res)  : ∀ z : Nat, I_Tree_join_b2 p l e s m args below meth c Q A D cI cL cZ a_this a_halves a_leaves a_sums a_above o_lengths o_sorted o_starts o_depths i_known v_halves v_leaves res (f_Tree_join_b2 N i_known v_halves v_leaves  z) := by
  obtain ⟨hx, hb, hml, hown, hts, hK, hA⟩ := C
  intro z
  induction z with
  | zero => intro l1 i_nextLeaf i_nextSum v_sums v_above h; cases h
  | succ z ih =>
    intro l1 i_nextLeaf i_nextSum v_sums v_above h H locs ls hl hP hD hS
    refine lv_iload_n hx hb d_Tree_join_2 rfl (lv_at hl 1 rfl) ?_
    refine lv_aload_n hx hb d_Tree_join_3 rfl (lv_at hl 0 rfl) ?_
    refine va_get hx hb hts in_Tree hown hK hP 0 rfl rfl 8 (by decide) (hts _ m_165) (fun _ h9 => h9) rfl d_Tree_join_4 ?_
    refine lv_icmp_ge (tgt := 33) hx hb d_Tree_join_7 (by decide) (fun c_1 => ?_) (fun c_1 => ?_)
    · replace h := if_t h c_1
      exact w_Tree_join_b33 ⟨hx, hb, hml, hown, hts, hK, hA⟩ hret  _ _ _ _ h H locs ls (lv_sub hl [0] rfl) hP hD hS
    · replace h := if_f h c_1
      refine lv_aload_n hx hb d_Tree_join_10 rfl (lv_at hl 0 rfl) ?_
      refine va_get hx hb hts in_Tree hown hK hP 0 rfl rfl 5 (by decide) (hts _ m_162) (fun _ h9 => h9) rfl d_Tree_join_11 ?_
      refine lv_iload_n hx hb d_Tree_join_14 rfl (lv_at hl 1 rfl) ?_
      refine lv_aload_n hx hb d_Tree_join_15 rfl (lv_at hl 0 rfl) ?_
      refine va_get hx hb hts in_Tree hown hK hP 0 rfl rfl 1 (by decide) (hts _ m_158) (fun _ h9 => h9) rfl d_Tree_join_16 ?_
      refine lv_aload_n hx hb d_Tree_join_19 rfl (lv_at hl 0 rfl) ?_
      refine va_get hx hb hts in_Tree hown hK hP 0 rfl rfl 2 (by decide) (hts _ m_159) (fun _ h9 => h9) rfl d_Tree_join_20 ?_
      refine lv_iload_n hx hb d_Tree_join_23 rfl (lv_at hl 1 rfl) ?_
      obtain ⟨g_2, h⟩ := ck_s h
      refine va_iald hx hb hK hP 2 0 rfl rfl (inb_s g_2) d_Tree_join_24 ?_
      obtain ⟨g_3, h⟩ := ck_s h
      refine va_iald hx hb hK hP 1 0 rfl rfl (inb_s g_3) d_Tree_join_25 ?_
      obtain ⟨g_4, h⟩ := ck_s h
      refine va_iast hx hb hK hP hD hS 3 0 rfl rfl (inb_s g_4) d_Tree_join_26 (fun H locs hP hD hS => ?_)
      obtain ⟨v_sums_5, ev_sums_5⟩ : ∃ y, y = (upd v_sums (Int32.toNatClampNeg l1) (v_halves (Int32.toNatClampNeg (v_leaves (Int32.toNatClampNeg l1))))) := ⟨_, rfl⟩
      replace h := nm_s h ev_sums_5
      have hP : va_P D classes [(a_this, .inr (9, [.ref o_lengths, .ref a_halves, .ref a_leaves, .ref o_sorted, .ref o_starts, .ref a_sums, .ref a_above, .ref o_depths, .int i_known, .int i_nextLeaf, .int i_nextSum])), (a_halves, .inl (cI, 256, .inl v_halves)), (a_leaves, .inl (cI, 256, .inl v_leaves)), (a_sums, .inl (cI, 512, .inl v_sums_5)), (a_above, .inl (cI, 512, .inl v_above))] H := by rw [ev_sums_5]; exact hP
      have hD : va_D A [(a_this, .inr (9, [.ref o_lengths, .ref a_halves, .ref a_leaves, .ref o_sorted, .ref o_starts, .ref a_sums, .ref a_above, .ref o_depths, .int i_known, .int i_nextLeaf, .int i_nextSum])), (a_halves, .inl (cI, 256, .inl v_halves)), (a_leaves, .inl (cI, 256, .inl v_leaves)), (a_sums, .inl (cI, 512, .inl v_sums_5)), (a_above, .inl (cI, 512, .inl v_above))] := by rw [ev_sums_5]; exact hD
      obtain ⟨l1_6, el1_6⟩ : ∃ y : Int32, y = l1 + 1 := ⟨_, rfl⟩
      replace h := nm_s h el1_6
      refine lv_iinc (v := l1_6) (lv' := [(1, .int l1_6), (0, .ref a_this)]) hx hb d_Tree_join_27 hl (k := 1) rfl (by rw [el1_6]; rfl) (by decide) rfl (fun ls hl => ?_)
      refine lv_goto (tgt := 2) hx hb d_Tree_join_30 (by decide) ?_
      exact ih _ _ _ _ _ h H locs ls (lv_sub hl [1, 0] rfl) hP hD hS
set_option maxHeartbeats 4000000 in
set_option maxRecDepth 100000 in
theorem w_Tree_join_b0 {p : Program} {l : Launch} {e : Env} {s : State} {m : MethodId} {args : Array Value} {below : List Frame} {meth : Method} {c : Code} {Q : State → Prop} {A : Nat → Prop} {D : va_G} {cI cL cZ : ClassId} {a_this : Nat} {a_halves : Nat} {a_leaves : Nat} {a_sums : Nat} {a_above : Nat} {o_lengths : Nat} {o_sorted : Nat} {o_starts : Nat} {o_depths : Nat} {i_known : Int32} {v_halves : Nat → Int32} {v_leaves : Nat → Int32} {N : Nat} {res : Int32 × Int32 × (Nat → Int32) × (Nat → Int32)}  (C : Cx p s m args c b_Tree_join 4 "PrefixMill$Tree" D [(cI, .int), (cL, .long), (cZ, .boolean)] A) (hret : E_Tree_join p l e s m args below meth c Q A D cI cL cZ a_this a_halves a_leaves a_sums a_above o_lengths o_sorted o_starts o_depths i_known v_halves v_leaves res)  : I_Tree_join_b0 p l e s m args below meth c Q A D cI cL cZ a_this a_halves a_leaves a_sums a_above o_lengths o_sorted o_starts o_depths i_known v_halves v_leaves res (f_Tree_join N i_known v_halves v_leaves ) := by
  obtain ⟨hx, hb, hml, hown, hts, hK, hA⟩ := C
  intro i_nextLeaf i_nextSum v_sums v_above h H locs ls hl hP hD hS
  unfold f_Tree_join at h
  refine lv_iconst (v := 0) hx hb d_Tree_join_0 (by decide) ?_
  refine lv_istore_n (lv' := [(1, .int 0), (0, .ref a_this)]) hx hb d_Tree_join_1 rfl hl (by decide) rfl (fun ls hl => ?_)
  exact w_Tree_join_b2 ⟨hx, hb, hml, hown, hts, hK, hA⟩ hret  N _ _ _ _ _ h H locs ls (lv_sub hl [1, 0] rfl) hP hD hS
set_option maxHeartbeats 4000000 in
set_option maxRecDepth 100000 in
theorem c_Tree_join (l : Launch) (D : va_G) (cI cL cZ : ClassId) (sz N : Nat) (a_this : Nat) (a_halves : Nat) (a_leaves : Nat) (a_sums : Nat) (a_above : Nat) (o_lengths : Nat) (o_sorted : Nat) (o_starts : Nat) (o_depths : Nat) (i_known : Int32) (i_nextLeaf : Int32) (i_nextSum : Int32) (v_halves : Nat → Int32) (v_leaves : Nat → Int32) (v_sums : Nat → Int32) (v_above : Nat → Int32) (i_nextLeaf' : Int32) (i_nextSum' : Int32) (v_sums' : Nat → Int32) (v_above' : Nat → Int32) (h : f_Tree_join N i_known v_halves v_leaves i_nextLeaf i_nextSum v_sums v_above = some (i_nextLeaf', i_nextSum', v_sums', v_above')) : Met l ({ cls := "PrefixMill$Tree", name := "join", desc := "()V" } : Jvm.MethodName) ws_Tree_join R_Tree_join (va_Pc [.ref a_this] (fun U => U.heap.size = sz ∧ va_P D classes [(a_this, .inr (9, [.ref o_lengths, .ref a_halves, .ref a_leaves, .ref o_sorted, .ref o_starts, .ref a_sums, .ref a_above, .ref o_depths, .int i_known, .int i_nextLeaf, .int i_nextSum])), (a_halves, .inl (cI, 256, .inl v_halves)), (a_leaves, .inl (cI, 256, .inl v_leaves)), (a_sums, .inl (cI, 512, .inl v_sums)), (a_above, .inl (cI, 512, .inl v_above))] U.heap ∧ va_K D classes [(cI, .int), (cL, .long), (cZ, .boolean)] U ∧ va_D (fun _ => True) [(a_this, .inr (9, [.ref o_lengths, .ref a_halves, .ref a_leaves, .ref o_sorted, .ref o_starts, .ref a_sums, .ref a_above, .ref o_depths, .int i_known, .int i_nextLeaf, .int i_nextSum])), (a_halves, .inl (cI, 256, .inl v_halves)), (a_leaves, .inl (cI, 256, .inl v_leaves)), (a_sums, .inl (cI, 512, .inl v_sums)), (a_above, .inl (cI, 512, .inl v_above))])) (va_Qv (fun _ : Unit => True) (fun _ t => va_P D classes [(a_this, .inr (9, [.ref o_lengths, .ref a_halves, .ref a_leaves, .ref o_sorted, .ref o_starts, .ref a_sums, .ref a_above, .ref o_depths, .int i_known, .int i_nextLeaf', .int i_nextSum'])), (a_halves, .inl (cI, 256, .inl v_halves)), (a_leaves, .inl (cI, 256, .inl v_leaves)), (a_sums, .inl (cI, 512, .inl v_sums')), (a_above, .inl (cI, 512, .inl v_above'))] t.heap ∧ va_K D classes [(cI, .int), (cL, .long), (cZ, .boolean)] t ∧ va_D (va_A [(a_this, .inr (9, [.ref o_lengths, .ref a_halves, .ref a_leaves, .ref o_sorted, .ref o_starts, .ref a_sums, .ref a_above, .ref o_depths, .int i_known, .int i_nextLeaf, .int i_nextSum])), (a_halves, .inl (cI, 256, .inl v_halves)), (a_leaves, .inl (cI, 256, .inl v_leaves)), (a_sums, .inl (cI, 512, .inl v_sums)), (a_above, .inl (cI, 512, .inl v_above))] sz) [(a_this, .inr (9, [.ref o_lengths, .ref a_halves, .ref a_leaves, .ref o_sorted, .ref o_starts, .ref a_sums, .ref a_above, .ref o_depths, .int i_known, .int i_nextLeaf', .int i_nextSum'])), (a_halves, .inl (cI, 256, .inl v_halves)), (a_leaves, .inl (cI, 256, .inl v_leaves)), (a_sums, .inl (cI, 512, .inl v_sums')), (a_above, .inl (cI, 512, .inl v_above'))]) (va_A [(a_this, .inr (9, [.ref o_lengths, .ref a_halves, .ref a_leaves, .ref o_sorted, .ref o_starts, .ref a_sums, .ref a_above, .ref o_depths, .int i_known, .int i_nextLeaf, .int i_nextSum])), (a_halves, .inl (cI, 256, .inl v_halves)), (a_leaves, .inl (cI, 256, .inl v_leaves)), (a_sums, .inl (cI, 512, .inl v_sums)), (a_above, .inl (cI, 512, .inl v_above))] sz)) 0 0 (va_A [(a_this, .inr (9, [.ref o_lengths, .ref a_halves, .ref a_leaves, .ref o_sorted, .ref o_starts, .ref a_sums, .ref a_above, .ref o_depths, .int i_known, .int i_nextLeaf, .int i_nextSum])), (a_halves, .inl (cI, 256, .inl v_halves)), (a_leaves, .inl (cI, 256, .inl v_leaves)), (a_sums, .inl (cI, 512, .inl v_sums)), (a_above, .inl (cI, 512, .inl v_above))] sz) := by
  refine Met.ofW (cc := b_Tree_join) (maxL := 4) (ret := none) (by decide) rfl ?_
  intro p e s m args below meth c s₁ B hml hv
  obtain ⟨rfl, hsz, hP, hK, hD0⟩ := hv
  have hx := B.exec
  have hb := B.bytes
  have hr := B.returns
  have hts0 := atoms_spec (ws := ws_Tree_join) B.pre
  have hts := gd_tl hts0
  clear hts0
  have hown : s.vm.findClass "PrefixMill$Tree" = some m.cls := findClass_of_methodNamed B.named
  have hlocks := B.notSynchronized
  subst hsz
  have hD := hD0.self (sz := s.heap.size)
  generalize hAe : va_A [(a_this, .inr (9, [.ref o_lengths, .ref a_halves, .ref a_leaves, .ref o_sorted, .ref o_starts, .ref a_sums, .ref a_above, .ref o_depths, .int i_known, .int i_nextLeaf, .int i_nextSum])), (a_halves, .inl (cI, 256, .inl v_halves)), (a_leaves, .inl (cI, 256, .inl v_leaves)), (a_sums, .inl (cI, 512, .inl v_sums)), (a_above, .inl (cI, 512, .inl v_above))] s.heap.size = A at hD ⊢
  have hA : ∀ q : Nat, s.heap.size ≤ q → A q := fun q h => by rw [← hAe]; exact Or.inr h
  have hS : va_S A s.heap s.heap [] := va_S.rf
  have hP : va_P D classes [(a_this, .inr (9, [.ref o_lengths, .ref a_halves, .ref a_leaves, .ref o_sorted, .ref o_starts, .ref a_sums, .ref a_above, .ref o_depths, .int i_known, .int i_nextLeaf, .int i_nextSum])), (a_halves, .inl (cI, 256, .inl v_halves)), (a_leaves, .inl (cI, 256, .inl v_leaves)), (a_sums, .inl (cI, 512, .inl v_sums)), (a_above, .inl (cI, 512, .inl v_above))] s.heap := hP
  have hl := lv_entry ([.ref a_this]) (n := 4) (Nat.le_of_ble_eq_true rfl)
  rw [lg_entry_eq]
  generalize (lg_sl ([.ref a_this]) ++ List.replicate (4 - (lg_sl ([.ref a_this])).length) Slot.unset).toArray = ls at hl ⊢
  have hl : lv_has ls 4 [(0, .ref a_this)] := hl
  have C : Cx p s m ([.ref a_this] : List Value).toArray c b_Tree_join 4 "PrefixMill$Tree" D [(cI, .int), (cL, .long), (cZ, .boolean)] A := ⟨hx, hb, hml, hown, hts, hK, hA⟩
  refine w_Tree_join_b0 (res := (i_nextLeaf', i_nextSum', v_sums', v_above')) C ?_ _ _ _ _ h s.heap [] ls hl hP hD hS
  intro pc9 H9 locs9 ls9 i_nextLeaf9 i_nextSum9 v_sums9 v_above9 e9 d9 hP9 hD9 hS9
  cases e9
  exact W.vret hx hb hr (fun t ht hW => ⟨⟨(), rfl, trivial, by rw [ht]; exact hP9, va_K.moved hW.alike hK, hD9⟩, hS9.F ht⟩) hS9.2.2 d9
abbrev b_JMath_max : ByteArray := prog_13_method_65_code
def ws_JMath_max : List Cond := .code ({ cls := "java/lang/Math", name := "max", desc := "(II)I" } : Jvm.MethodName) b_JMath_max 2 (some .int) :: tt
theorem d_JMath_max_0 : decode b_JMath_max 0 = .ok (.iload_n 0, 1) := by decide +kernel
theorem d_JMath_max_1 : decode b_JMath_max 1 = .ok (.iload_n 1, 1) := by decide +kernel
theorem d_JMath_max_2 : decode b_JMath_max 2 = .ok (.if_icmp .lt 7, 3) := by decide +kernel
theorem d_JMath_max_5 : decode b_JMath_max 5 = .ok (.iload_n 0, 1) := by decide +kernel
theorem d_JMath_max_6 : decode b_JMath_max 6 = .ok (.goto 4, 3) := by decide +kernel
theorem d_JMath_max_9 : decode b_JMath_max 9 = .ok (.iload_n 1, 1) := by decide +kernel
theorem d_JMath_max_10 : decode b_JMath_max 10 = .ok (.ireturn, 1) := by decide +kernel
abbrev R_JMath_max : Room := ({ frames := 0, cells := 0, slots := 0, locals := 0 } : Room)
def E_JMath_max (p : Program) (l : Launch) (e : Env) (s : State) (m : MethodId) (args : Array Value) (below : List Frame) (meth : Method) (c : Code) (Q : State → Prop) (A : Nat → Prop) (D : va_G) (cI cL cZ : ClassId) (l0 : Int32) (l1 : Int32) (res : Int32) : Prop := ∀ (pc : Nat) (H : Heap) (locs : List Loc) (ls : Array Slot) (rv : Int32), some (rv) = some res → decode b_JMath_max pc = .ok (.ireturn, 1) → va_P D classes [] H → va_D A [] → va_S A s.heap H locs → W p l e R_JMath_max s m args below meth c H locs 0 0 Q (F0 m pc ls [.int rv])
def I_JMath_max_b0 (p : Program) (l : Launch) (e : Env) (s : State) (m : MethodId) (args : Array Value) (below : List Frame) (meth : Method) (c : Code) (Q : State → Prop) (A : Nat → Prop) (D : va_G) (cI cL cZ : ClassId) (l0 : Int32) (l1 : Int32) (res : Int32) (kf : Option (Int32)) : Prop := ∀ (_ : Unit), kf  = some res → ∀ (H : Heap) (locs : List Loc) (ls : Array Slot), lv_has ls 2 [(0, .int l0), (1, .int l1)] → va_P D classes [] H → va_D A [] → va_S A s.heap H locs → W p l e R_JMath_max s m args below meth c H locs 0 0 Q (F0 m 0 ls [])
set_option maxHeartbeats 4000000 in
set_option maxRecDepth 100000 in
theorem w_JMath_max_b0 {p : Program} {l : Launch} {e : Env} {s : State} {m : MethodId} {args : Array Value} {below : List Frame} {meth : Method} {c : Code} {Q : State → Prop} {A : Nat → Prop} {D : va_G} {cI cL cZ : ClassId} {l0 : Int32} {l1 : Int32} {N : Nat} {res : Int32}  (C : Cx p s m args c b_JMath_max 2 "java/lang/Math" D [(cI, .int), (cL, .long), (cZ, .boolean)] A) (hret : E_JMath_max p l e s m args below meth c Q A D cI cL cZ l0 l1 res)  : I_JMath_max_b0 p l e s m args below meth c Q A D cI cL cZ l0 l1 res (f_JMath_max N l0 l1 ) := by
  obtain ⟨hx, hb, hml, hown, hts, hK, hA⟩ := C
  intro _ h H locs ls hl hP hD hS
  unfold f_JMath_max at h
  refine lv_iload_n hx hb d_JMath_max_0 rfl (lv_at hl 0 rfl) ?_
  refine lv_iload_n hx hb d_JMath_max_1 rfl (lv_at hl 1 rfl) ?_
  refine lv_icmp_lt (tgt := 9) hx hb d_JMath_max_2 (by decide) (fun c_1 => ?_) (fun c_1 => ?_)
  · replace h := if_t h c_1
    refine lv_iload_n hx hb d_JMath_max_9 rfl (lv_at hl 1 rfl) ?_
    exact hret _ _ _ _ l1  h d_JMath_max_10 hP hD hS
  · replace h := if_f h c_1
    refine lv_iload_n hx hb d_JMath_max_5 rfl (lv_at hl 0 rfl) ?_
    refine lv_goto (tgt := 10) hx hb d_JMath_max_6 (by decide) ?_
    exact hret _ _ _ _ l0  h d_JMath_max_10 hP hD hS
set_option maxHeartbeats 4000000 in
set_option maxRecDepth 100000 in
theorem c_JMath_max (l : Launch) (D : va_G) (cI cL cZ : ClassId) (sz N : Nat) (l0 : Int32) (l1 : Int32) (rv : Int32) (h : f_JMath_max N l0 l1  = some (rv)) : Met l ({ cls := "java/lang/Math", name := "max", desc := "(II)I" } : Jvm.MethodName) ws_JMath_max R_JMath_max (va_Pc [.int l0, .int l1] (fun U => U.heap.size = sz ∧ va_P D classes [] U.heap ∧ va_K D classes [(cI, .int), (cL, .long), (cZ, .boolean)] U ∧ va_D (fun _ => True) [])) (va_Qi (fun (r0 : Int32) (_ : Unit) => rv = r0) (fun _ t => va_P D classes [] t.heap ∧ va_K D classes [(cI, .int), (cL, .long), (cZ, .boolean)] t ∧ va_D (va_A [] sz) []) (va_A [] sz)) 0 0 (va_A [] sz) := by
  refine va_MetF (cc := b_JMath_max) (maxL := 2) (ret := (some .int)) (by decide +kernel) rfl ?_
  intro p e s m args below meth c s₁ B hml hv
  obtain ⟨rfl, hsz, hP, hK, hD0⟩ := hv
  have hx := B.exec
  have hb := B.bytes
  have hr := B.returns
  have hts0 := atoms_spec (ws := ws_JMath_max) B.pre
  have hts := gd_tl hts0
  clear hts0
  have hown : s.vm.findClass "java/lang/Math" = some m.cls := findClass_of_methodNamed B.named
  have hlocks := B.notSynchronized
  subst hsz
  have hD := hD0.self (sz := s.heap.size)
  generalize hAe : va_A [] s.heap.size = A at hD ⊢
  have hA : ∀ q : Nat, s.heap.size ≤ q → A q := fun q h => by rw [← hAe]; exact Or.inr h
  have hS : va_S A s.heap s.heap [] := va_S.rf
  have hP : va_P D classes [] s.heap := hP
  have hl := lv_entry ([.int l0, .int l1]) (n := 2) (Nat.le_of_ble_eq_true rfl)
  rw [lg_entry_eq]
  generalize (lg_sl ([.int l0, .int l1]) ++ List.replicate (2 - (lg_sl ([.int l0, .int l1])).length) Slot.unset).toArray = ls at hl ⊢
  have hl : lv_has ls 2 [(0, .int l0), (1, .int l1)] := hl
  have C : Cx p s m ([.int l0, .int l1] : List Value).toArray c b_JMath_max 2 "java/lang/Math" D [(cI, .int), (cL, .long), (cZ, .boolean)] A := ⟨hx, hb, hml, hown, hts, hK, hA⟩
  refine w_JMath_max_b0 (res := (rv)) C ?_ () h s.heap [] ls hl hP hD hS
  intro pc9 H9 locs9 ls9 rv9 e9 d9 hP9 hD9 hS9
  cases e9
  exact W.iret (v := rv) hx hb hr (fun t ht hW => ⟨⟨rv, (), rfl, rfl, by rw [ht]; exact hP9, va_K.moved hW.alike hK, hD9⟩, hS9.F ht⟩) hS9.2.2 d9
abbrev b_PM_greatestOf : ByteArray := prog_1_method_23_code
def ws_PM_greatestOf : List Cond := .code ({ cls := "PrefixMill", name := "greatestOf", desc := "([I)I" } : Jvm.MethodName) b_PM_greatestOf 3 (some .int) :: tt
theorem d_PM_greatestOf_0 : decode b_PM_greatestOf 0 = .ok (.iconst 0, 1) := by decide +kernel
theorem d_PM_greatestOf_1 : decode b_PM_greatestOf 1 = .ok (.istore_n 1, 1) := by decide +kernel
theorem d_PM_greatestOf_2 : decode b_PM_greatestOf 2 = .ok (.iconst 0, 1) := by decide +kernel
theorem d_PM_greatestOf_3 : decode b_PM_greatestOf 3 = .ok (.istore_n 2, 1) := by decide +kernel
theorem d_PM_greatestOf_4 : decode b_PM_greatestOf 4 = .ok (.iload_n 2, 1) := by decide +kernel
theorem d_PM_greatestOf_5 : decode b_PM_greatestOf 5 = .ok (.sipush 256, 3) := by decide +kernel
theorem d_PM_greatestOf_8 : decode b_PM_greatestOf 8 = .ok (.if_icmp .ge 17, 3) := by decide +kernel
theorem d_PM_greatestOf_11 : decode b_PM_greatestOf 11 = .ok (.iload_n 1, 1) := by decide +kernel
theorem d_PM_greatestOf_12 : decode b_PM_greatestOf 12 = .ok (.aload_n 0, 1) := by decide +kernel
theorem d_PM_greatestOf_13 : decode b_PM_greatestOf 13 = .ok (.iload_n 2, 1) := by decide +kernel
theorem d_PM_greatestOf_14 : decode b_PM_greatestOf 14 = .ok (.iaload, 1) := by decide +kernel
theorem d_PM_greatestOf_15 : decode b_PM_greatestOf 15 = .ok (.invokestatic 161, 3) := by decide +kernel
theorem d_PM_greatestOf_18 : decode b_PM_greatestOf 18 = .ok (.istore_n 1, 1) := by decide +kernel
theorem d_PM_greatestOf_19 : decode b_PM_greatestOf 19 = .ok (.iinc 2 1, 3) := by decide +kernel
theorem d_PM_greatestOf_22 : decode b_PM_greatestOf 22 = .ok (.goto (-18), 3) := by decide +kernel
theorem d_PM_greatestOf_25 : decode b_PM_greatestOf 25 = .ok (.iload_n 1, 1) := by decide +kernel
theorem d_PM_greatestOf_26 : decode b_PM_greatestOf 26 = .ok (.ireturn, 1) := by decide +kernel
abbrev R_PM_greatestOf : Room := ({ frames := 1, cells := 0, slots := 0, locals := 21 } : Room)
def E_PM_greatestOf (p : Program) (l : Launch) (e : Env) (s : State) (m : MethodId) (args : Array Value) (below : List Frame) (meth : Method) (c : Code) (Q : State → Prop) (A : Nat → Prop) (D : va_G) (cI cL cZ : ClassId) (a_p1 : Nat) (n_p1 : Nat) (v_p1 : Nat → Int32) (res : Int32) : Prop := ∀ (pc : Nat) (H : Heap) (locs : List Loc) (ls : Array Slot) (rv : Int32), some (rv) = some res → decode b_PM_greatestOf pc = .ok (.ireturn, 1) → va_P D classes [(a_p1, .inl (cI, n_p1, .inl v_p1))] H → va_D A [(a_p1, .inl (cI, n_p1, .inl v_p1))] → va_S A s.heap H locs → W p l e R_PM_greatestOf s m args below meth c H locs 0 0 Q (F0 m pc ls [.int rv])
def I_PM_greatestOf_b25 (p : Program) (l : Launch) (e : Env) (s : State) (m : MethodId) (args : Array Value) (below : List Frame) (meth : Method) (c : Code) (Q : State → Prop) (A : Nat → Prop) (D : va_G) (cI cL cZ : ClassId) (a_p1 : Nat) (n_p1 : Nat) (v_p1 : Nat → Int32) (res : Int32) (kf : Int32 → Option (Int32)) : Prop := ∀ (l1 : Int32), kf l1 = some res → ∀ (H : Heap) (locs : List Loc) (ls : Array Slot), lv_has ls 3 [(1, .int l1)] → va_P D classes [(a_p1, .inl (cI, n_p1, .inl v_p1))] H → va_D A [(a_p1, .inl (cI, n_p1, .inl v_p1))] → va_S A s.heap H locs → W p l e R_PM_greatestOf s m args below meth c H locs 0 0 Q (F0 m 25 ls [])
def I_PM_greatestOf_b4 (p : Program) (l : Launch) (e : Env) (s : State) (m : MethodId) (args : Array Value) (below : List Frame) (meth : Method) (c : Code) (Q : State → Prop) (A : Nat → Prop) (D : va_G) (cI cL cZ : ClassId) (a_p1 : Nat) (n_p1 : Nat) (v_p1 : Nat → Int32) (res : Int32) (kf : Int32 → Int32 → Option (Int32)) : Prop := ∀ (l1 : Int32) (l2 : Int32), kf l1 l2 = some res → ∀ (H : Heap) (locs : List Loc) (ls : Array Slot), lv_has ls 3 [(0, .ref a_p1), (1, .int l1), (2, .int l2)] → va_P D classes [(a_p1, .inl (cI, n_p1, .inl v_p1))] H → va_D A [(a_p1, .inl (cI, n_p1, .inl v_p1))] → va_S A s.heap H locs → W p l e R_PM_greatestOf s m args below meth c H locs 0 0 Q (F0 m 4 ls [])
def I_PM_greatestOf_b0 (p : Program) (l : Launch) (e : Env) (s : State) (m : MethodId) (args : Array Value) (below : List Frame) (meth : Method) (c : Code) (Q : State → Prop) (A : Nat → Prop) (D : va_G) (cI cL cZ : ClassId) (a_p1 : Nat) (n_p1 : Nat) (v_p1 : Nat → Int32) (res : Int32) (kf : Option (Int32)) : Prop := ∀ (_ : Unit), kf  = some res → ∀ (H : Heap) (locs : List Loc) (ls : Array Slot), lv_has ls 3 [(0, .ref a_p1)] → va_P D classes [(a_p1, .inl (cI, n_p1, .inl v_p1))] H → va_D A [(a_p1, .inl (cI, n_p1, .inl v_p1))] → va_S A s.heap H locs → W p l e R_PM_greatestOf s m args below meth c H locs 0 0 Q (F0 m 0 ls [])
set_option maxHeartbeats 4000000 in
set_option maxRecDepth 100000 in
theorem w_PM_greatestOf_b25 {p : Program} {l : Launch} {e : Env} {s : State} {m : MethodId} {args : Array Value} {below : List Frame} {meth : Method} {c : Code} {Q : State → Prop} {A : Nat → Prop} {D : va_G} {cI cL cZ : ClassId} {a_p1 : Nat} {n_p1 : Nat} {v_p1 : Nat → Int32} {N : Nat} {res : Int32}  (C : Cx p s m args c b_PM_greatestOf 3 "PrefixMill" D [(cI, .int), (cL, .long), (cZ, .boolean)] A) (hret : E_PM_greatestOf p l e s m args below meth c Q A D cI cL cZ a_p1 n_p1 v_p1 res)  : I_PM_greatestOf_b25 p l e s m args below meth c Q A D cI cL cZ a_p1 n_p1 v_p1 res (f_PM_greatestOf_b25 N n_p1 v_p1 ) := by
  obtain ⟨hx, hb, hml, hown, hts, hK, hA⟩ := C
  intro l1 h H locs ls hl hP hD hS
  unfold f_PM_greatestOf_b25 at h
  refine lv_iload_n hx hb d_PM_greatestOf_25 rfl (lv_at hl 0 rfl) ?_
  exact hret _ _ _ _ l1  h d_PM_greatestOf_26 hP hD hS
set_option maxHeartbeats 4000000 in
set_option maxRecDepth 100000 in
theorem w_PM_greatestOf_b4 {p : Program} {l : Launch} {e : Env} {s : State} {m : MethodId} {args : Array Value} {below : List Frame} {meth : Method} {c : Code} {Q : State → Prop} {A : Nat → Prop} {D : va_G} {cI cL cZ : ClassId} {a_p1 : Nat} {n_p1 : Nat} {v_p1 : Nat → Int32} {N : Nat} {res : Int32}  (C : Cx p s m args c b_PM_greatestOf 3 "PrefixMill" D [(cI, .int), (cL, .long), (cZ, .boolean)] A) (hret : E_PM_greatestOf p l e s m args below meth c Q A D cI cL cZ a_p1 n_p1 v_p1 res)  : ∀ z : Nat, I_PM_greatestOf_b4 p l e s m args below meth c Q A D cI cL cZ a_p1 n_p1 v_p1 res (f_PM_greatestOf_b4 N n_p1 v_p1  z) := by
  obtain ⟨hx, hb, hml, hown, hts, hK, hA⟩ := C
  intro z
  induction z with
  | zero => intro l1 l2 h; cases h
  | succ z ih =>
    intro l1 l2 h H locs ls hl hP hD hS
    refine lv_iload_n hx hb d_PM_greatestOf_4 rfl (lv_at hl 2 rfl) ?_
    refine lv_sipush (v := 256) hx hb d_PM_greatestOf_5 (by decide) ?_
    refine lv_icmp_ge (tgt := 25) hx hb d_PM_greatestOf_8 (by decide) (fun c_1 => ?_) (fun c_1 => ?_)
    · replace h := if_t h c_1
      exact w_PM_greatestOf_b25 ⟨hx, hb, hml, hown, hts, hK, hA⟩ hret  _ h H locs ls (lv_sub hl [1] rfl) hP hD hS
    · replace h := if_f h c_1
      refine lv_iload_n hx hb d_PM_greatestOf_11 rfl (lv_at hl 1 rfl) ?_
      refine lv_aload_n hx hb d_PM_greatestOf_12 rfl (lv_at hl 0 rfl) ?_
      refine lv_iload_n hx hb d_PM_greatestOf_13 rfl (lv_at hl 2 rfl) ?_
      obtain ⟨g_2, h⟩ := ck_s h
      refine va_iald hx hb hK hP 0 0 rfl rfl (inb_s g_2) d_PM_greatestOf_14 ?_
      obtain ⟨r_3, hc_4, h⟩ := bd1_s h
      have hPc := hP.sub (ws' := []) [] rfl
      have hDc := hD.sub (ws' := []) [] (by decide) rfl
      have hFc := va_free (wc := []) hD hS hA [] rfl
      refine va_calli (va_runS (As := [.int l1, .int (v_p1 (Int32.toNatClampNeg l2))]) (rest := []) ⟨hx, hb, hml, hown, hts⟩ (c_JMath_max l D cI cL cZ H.size N l1 (v_p1 (Int32.toNatClampNeg l2)) r_3 hc_4) ⟨(my_cb 2 hts m_469 rfl rfl (hts _ m_77) (hts _ m_467) (by decide +kernel) ⟨Nat.le_of_ble_eq_true rfl, Nat.le_of_ble_eq_true rfl⟩), hts _ m_468⟩ ⟨fun a U g mk q => by obtain ⟨q0, q1, qP, qK, qD⟩ := q; exact ⟨q0, q1, qP, va_K.moved (u := U) (U := U.calling g mk a) (Vm.Alike.refl U.vm) qK, qD⟩, fun U hU hW => ⟨rfl, by rw [hU], by rw [hU]; exact hPc, va_K.moved hW.alike hK, hDc.weaken (fun _ _ _ _ => trivial)⟩⟩ rfl rfl hl.1 rfl (lv_room (Nat.le_of_ble_eq_true rfl)) d_PM_greatestOf_15 ⟨Nat.zero_le _, Nat.zero_le _⟩) hS (fun q _ h => hFc q h) hFc (fun rr u t H1 locs ht hvm hw hB hz1 hk1 hS => ?_)
      obtain ⟨hP1, hK1, hD1⟩ := hB
      rw [ht] at hP1
      subst hw
      obtain ⟨hP, hD⟩ := va_join (wr := [(a_p1, .inl (cI, n_p1, .inl v_p1))]) (w1 := []) hP hD [] [0] rfl rfl (by decide) (by decide) hk1 hFc hP1 hD1
      clear hPc hDc hFc hk1 hP1 hD1 hK1
      generalize H1 = H at hP hS ⊢
      have hP : va_P D classes [(a_p1, .inl (cI, n_p1, .inl v_p1))] H := hP.sub [0] rfl
      have hD : va_D A [(a_p1, .inl (cI, n_p1, .inl v_p1))] := hD.sub [0] (by decide) rfl
      refine lv_istore_n (lv' := [(1, .int r_3), (0, .ref a_p1), (2, .int l2)]) hx hb d_PM_greatestOf_18 rfl hl (by decide) rfl (fun ls hl => ?_)
      obtain ⟨l2_5, el2_5⟩ : ∃ y : Int32, y = l2 + 1 := ⟨_, rfl⟩
      replace h := nm_s h el2_5
      refine lv_iinc (v := l2_5) (lv' := [(2, .int l2_5), (1, .int r_3), (0, .ref a_p1)]) hx hb d_PM_greatestOf_19 hl (k := 2) rfl (by rw [el2_5]; rfl) (by decide) rfl (fun ls hl => ?_)
      refine lv_goto (tgt := 4) hx hb d_PM_greatestOf_22 (by decide) ?_
      exact ih _ _ h H locs ls (lv_sub hl [2, 1, 0] rfl) hP hD hS
set_option maxHeartbeats 4000000 in
set_option maxRecDepth 100000 in
theorem w_PM_greatestOf_b0 {p : Program} {l : Launch} {e : Env} {s : State} {m : MethodId} {args : Array Value} {below : List Frame} {meth : Method} {c : Code} {Q : State → Prop} {A : Nat → Prop} {D : va_G} {cI cL cZ : ClassId} {a_p1 : Nat} {n_p1 : Nat} {v_p1 : Nat → Int32} {N : Nat} {res : Int32}  (C : Cx p s m args c b_PM_greatestOf 3 "PrefixMill" D [(cI, .int), (cL, .long), (cZ, .boolean)] A) (hret : E_PM_greatestOf p l e s m args below meth c Q A D cI cL cZ a_p1 n_p1 v_p1 res)  : I_PM_greatestOf_b0 p l e s m args below meth c Q A D cI cL cZ a_p1 n_p1 v_p1 res (f_PM_greatestOf N n_p1 v_p1 ) := by
  obtain ⟨hx, hb, hml, hown, hts, hK, hA⟩ := C
  intro _ h H locs ls hl hP hD hS
  unfold f_PM_greatestOf at h
  refine lv_iconst (v := 0) hx hb d_PM_greatestOf_0 (by decide) ?_
  refine lv_istore_n (lv' := [(1, .int 0), (0, .ref a_p1)]) hx hb d_PM_greatestOf_1 rfl hl (by decide) rfl (fun ls hl => ?_)
  refine lv_iconst (v := 0) hx hb d_PM_greatestOf_2 (by decide) ?_
  refine lv_istore_n (lv' := [(2, .int 0), (1, .int 0), (0, .ref a_p1)]) hx hb d_PM_greatestOf_3 rfl hl (by decide) rfl (fun ls hl => ?_)
  exact w_PM_greatestOf_b4 ⟨hx, hb, hml, hown, hts, hK, hA⟩ hret  N _ _ h H locs ls (lv_sub hl [2, 1, 0] rfl) hP hD hS
set_option maxHeartbeats 4000000 in
set_option maxRecDepth 100000 in
theorem c_PM_greatestOf (l : Launch) (D : va_G) (cI cL cZ : ClassId) (sz N : Nat) (a_p1 : Nat) (n_p1 : Nat) (v_p1 : Nat → Int32) (rv : Int32) (h : f_PM_greatestOf N n_p1 v_p1  = some (rv)) : Met l ({ cls := "PrefixMill", name := "greatestOf", desc := "([I)I" } : Jvm.MethodName) ws_PM_greatestOf R_PM_greatestOf (va_Pc [.ref a_p1] (fun U => U.heap.size = sz ∧ va_P D classes [(a_p1, .inl (cI, n_p1, .inl v_p1))] U.heap ∧ va_K D classes [(cI, .int), (cL, .long), (cZ, .boolean)] U ∧ va_D (fun _ => True) [(a_p1, .inl (cI, n_p1, .inl v_p1))])) (va_Qi (fun (r0 : Int32) (_ : Unit) => rv = r0) (fun _ t => va_P D classes [(a_p1, .inl (cI, n_p1, .inl v_p1))] t.heap ∧ va_K D classes [(cI, .int), (cL, .long), (cZ, .boolean)] t ∧ va_D (va_A [(a_p1, .inl (cI, n_p1, .inl v_p1))] sz) [(a_p1, .inl (cI, n_p1, .inl v_p1))]) (va_A [(a_p1, .inl (cI, n_p1, .inl v_p1))] sz)) 0 0 (va_A [(a_p1, .inl (cI, n_p1, .inl v_p1))] sz) := by
  refine Met.ofW (cc := b_PM_greatestOf) (maxL := 3) (ret := (some .int)) (by decide) rfl ?_
  intro p e s m args below meth c s₁ B hml hv
  obtain ⟨rfl, hsz, hP, hK, hD0⟩ := hv
  have hx := B.exec
  have hb := B.bytes
  have hr := B.returns
  have hts0 := atoms_spec (ws := ws_PM_greatestOf) B.pre
  have hts := gd_tl hts0
  clear hts0
  have hown : s.vm.findClass "PrefixMill" = some m.cls := findClass_of_methodNamed B.named
  have hlocks := B.notSynchronized
  subst hsz
  have hD := hD0.self (sz := s.heap.size)
  generalize hAe : va_A [(a_p1, .inl (cI, n_p1, .inl v_p1))] s.heap.size = A at hD ⊢
  have hA : ∀ q : Nat, s.heap.size ≤ q → A q := fun q h => by rw [← hAe]; exact Or.inr h
  have hS : va_S A s.heap s.heap [] := va_S.rf
  have hP : va_P D classes [(a_p1, .inl (cI, n_p1, .inl v_p1))] s.heap := hP
  have hl := lv_entry ([.ref a_p1]) (n := 3) (Nat.le_of_ble_eq_true rfl)
  rw [lg_entry_eq]
  generalize (lg_sl ([.ref a_p1]) ++ List.replicate (3 - (lg_sl ([.ref a_p1])).length) Slot.unset).toArray = ls at hl ⊢
  have hl : lv_has ls 3 [(0, .ref a_p1)] := hl
  have C : Cx p s m ([.ref a_p1] : List Value).toArray c b_PM_greatestOf 3 "PrefixMill" D [(cI, .int), (cL, .long), (cZ, .boolean)] A := ⟨hx, hb, hml, hown, hts, hK, hA⟩
  refine w_PM_greatestOf_b0 (res := (rv)) C ?_ () h s.heap [] ls hl hP hD hS
  intro pc9 H9 locs9 ls9 rv9 e9 d9 hP9 hD9 hS9
  cases e9
  exact W.iret (v := rv) hx hb hr (fun t ht hW => ⟨⟨rv, (), rfl, rfl, by rw [ht]; exact hP9, va_K.moved hW.alike hK, hD9⟩, hS9.F ht⟩) hS9.2.2 d9
abbrev b_Tree_measure : ByteArray := prog_9_method_9_code
def ws_Tree_measure : List Cond := .code ({ cls := "PrefixMill$Tree", name := "measure", desc := "()I" } : Jvm.MethodName) b_Tree_measure 3 (some .int) :: tt
theorem d_Tree_measure_0 : decode b_Tree_measure 0 = .ok (.iconst 2, 1) := by decide +kernel
theorem d_Tree_measure_1 : decode b_Tree_measure 1 = .ok (.aload_n 0, 1) := by decide +kernel
theorem d_Tree_measure_2 : decode b_Tree_measure 2 = .ok (.getfield 36, 3) := by decide +kernel
theorem d_Tree_measure_5 : decode b_Tree_measure 5 = .ok (.imul, 1) := by decide +kernel
theorem d_Tree_measure_6 : decode b_Tree_measure 6 = .ok (.iconst 2, 1) := by decide +kernel
theorem d_Tree_measure_7 : decode b_Tree_measure 7 = .ok (.isub, 1) := by decide +kernel
theorem d_Tree_measure_8 : decode b_Tree_measure 8 = .ok (.istore_n 1, 1) := by decide +kernel
theorem d_Tree_measure_9 : decode b_Tree_measure 9 = .ok (.aload_n 0, 1) := by decide +kernel
theorem d_Tree_measure_10 : decode b_Tree_measure 10 = .ok (.getfield 33, 3) := by decide +kernel
theorem d_Tree_measure_13 : decode b_Tree_measure 13 = .ok (.iload_n 1, 1) := by decide +kernel
theorem d_Tree_measure_14 : decode b_Tree_measure 14 = .ok (.iconst 0, 1) := by decide +kernel
theorem d_Tree_measure_15 : decode b_Tree_measure 15 = .ok (.iastore, 1) := by decide +kernel
theorem d_Tree_measure_16 : decode b_Tree_measure 16 = .ok (.iload_n 1, 1) := by decide +kernel
theorem d_Tree_measure_17 : decode b_Tree_measure 17 = .ok (.iconst 1, 1) := by decide +kernel
theorem d_Tree_measure_18 : decode b_Tree_measure 18 = .ok (.isub, 1) := by decide +kernel
theorem d_Tree_measure_19 : decode b_Tree_measure 19 = .ok (.istore_n 2, 1) := by decide +kernel
theorem d_Tree_measure_20 : decode b_Tree_measure 20 = .ok (.iload_n 2, 1) := by decide +kernel
theorem d_Tree_measure_21 : decode b_Tree_measure 21 = .ok (.ifCond .lt 28, 3) := by decide +kernel
theorem d_Tree_measure_24 : decode b_Tree_measure 24 = .ok (.aload_n 0, 1) := by decide +kernel
theorem d_Tree_measure_25 : decode b_Tree_measure 25 = .ok (.getfield 33, 3) := by decide +kernel
theorem d_Tree_measure_28 : decode b_Tree_measure 28 = .ok (.iload_n 2, 1) := by decide +kernel
theorem d_Tree_measure_29 : decode b_Tree_measure 29 = .ok (.aload_n 0, 1) := by decide +kernel
theorem d_Tree_measure_30 : decode b_Tree_measure 30 = .ok (.getfield 33, 3) := by decide +kernel
theorem d_Tree_measure_33 : decode b_Tree_measure 33 = .ok (.aload_n 0, 1) := by decide +kernel
theorem d_Tree_measure_34 : decode b_Tree_measure 34 = .ok (.getfield 30, 3) := by decide +kernel
theorem d_Tree_measure_37 : decode b_Tree_measure 37 = .ok (.iload_n 2, 1) := by decide +kernel
theorem d_Tree_measure_38 : decode b_Tree_measure 38 = .ok (.iaload, 1) := by decide +kernel
theorem d_Tree_measure_39 : decode b_Tree_measure 39 = .ok (.iaload, 1) := by decide +kernel
theorem d_Tree_measure_40 : decode b_Tree_measure 40 = .ok (.iconst 1, 1) := by decide +kernel
theorem d_Tree_measure_41 : decode b_Tree_measure 41 = .ok (.iadd, 1) := by decide +kernel
theorem d_Tree_measure_42 : decode b_Tree_measure 42 = .ok (.iastore, 1) := by decide +kernel
theorem d_Tree_measure_43 : decode b_Tree_measure 43 = .ok (.iinc 2 (-1), 3) := by decide +kernel
theorem d_Tree_measure_46 : decode b_Tree_measure 46 = .ok (.goto (-26), 3) := by decide +kernel
theorem d_Tree_measure_49 : decode b_Tree_measure 49 = .ok (.aload_n 0, 1) := by decide +kernel
theorem d_Tree_measure_50 : decode b_Tree_measure 50 = .ok (.getfield 9, 3) := by decide +kernel
theorem d_Tree_measure_53 : decode b_Tree_measure 53 = .ok (.iconst 0, 1) := by decide +kernel
theorem d_Tree_measure_54 : decode b_Tree_measure 54 = .ok (.invokestatic 57, 3) := by decide +kernel
theorem d_Tree_measure_57 : decode b_Tree_measure 57 = .ok (.iconst 0, 1) := by decide +kernel
theorem d_Tree_measure_58 : decode b_Tree_measure 58 = .ok (.istore_n 2, 1) := by decide +kernel
theorem d_Tree_measure_59 : decode b_Tree_measure 59 = .ok (.iload_n 2, 1) := by decide +kernel
theorem d_Tree_measure_60 : decode b_Tree_measure 60 = .ok (.aload_n 0, 1) := by decide +kernel
theorem d_Tree_measure_61 : decode b_Tree_measure 61 = .ok (.getfield 36, 3) := by decide +kernel
theorem d_Tree_measure_64 : decode b_Tree_measure 64 = .ok (.if_icmp .ge 26, 3) := by decide +kernel
theorem d_Tree_measure_67 : decode b_Tree_measure 67 = .ok (.aload_n 0, 1) := by decide +kernel
theorem d_Tree_measure_68 : decode b_Tree_measure 68 = .ok (.getfield 9, 3) := by decide +kernel
theorem d_Tree_measure_71 : decode b_Tree_measure 71 = .ok (.aload_n 0, 1) := by decide +kernel
theorem d_Tree_measure_72 : decode b_Tree_measure 72 = .ok (.getfield 18, 3) := by decide +kernel
theorem d_Tree_measure_75 : decode b_Tree_measure 75 = .ok (.iload_n 2, 1) := by decide +kernel
theorem d_Tree_measure_76 : decode b_Tree_measure 76 = .ok (.iaload, 1) := by decide +kernel
theorem d_Tree_measure_77 : decode b_Tree_measure 77 = .ok (.aload_n 0, 1) := by decide +kernel
theorem d_Tree_measure_78 : decode b_Tree_measure 78 = .ok (.getfield 33, 3) := by decide +kernel
theorem d_Tree_measure_81 : decode b_Tree_measure 81 = .ok (.iload_n 2, 1) := by decide +kernel
theorem d_Tree_measure_82 : decode b_Tree_measure 82 = .ok (.iaload, 1) := by decide +kernel
theorem d_Tree_measure_83 : decode b_Tree_measure 83 = .ok (.iastore, 1) := by decide +kernel
theorem d_Tree_measure_84 : decode b_Tree_measure 84 = .ok (.iinc 2 1, 3) := by decide +kernel
theorem d_Tree_measure_87 : decode b_Tree_measure 87 = .ok (.goto (-28), 3) := by decide +kernel
theorem d_Tree_measure_90 : decode b_Tree_measure 90 = .ok (.aload_n 0, 1) := by decide +kernel
theorem d_Tree_measure_91 : decode b_Tree_measure 91 = .ok (.getfield 9, 3) := by decide +kernel
theorem d_Tree_measure_94 : decode b_Tree_measure 94 = .ok (.invokestatic 73, 3) := by decide +kernel
theorem d_Tree_measure_97 : decode b_Tree_measure 97 = .ok (.ireturn, 1) := by decide +kernel
abbrev R_Tree_measure : Room := ({ frames := 2, cells := 0, slots := 0, locals := 43 } : Room)
def E_Tree_measure (p : Program) (l : Launch) (e : Env) (s : State) (m : MethodId) (args : Array Value) (below : List Frame) (meth : Method) (c : Code) (Q : State → Prop) (A : Nat → Prop) (D : va_G) (cI cL cZ : ClassId) (a_this : Nat) (a_lengths : Nat) (a_leaves : Nat) (a_above : Nat) (a_depths : Nat) (o_halves : Nat) (o_sorted : Nat) (o_starts : Nat) (o_sums : Nat) (i_known : Int32) (i_nextLeaf : Int32) (i_nextSum : Int32) (v_leaves : Nat → Int32) (v_above : Nat → Int32) (res : Int32 × (Nat → Int32) × (Nat → Int32)) : Prop := ∀ (pc : Nat) (H : Heap) (locs : List Loc) (ls : Array Slot) (rv : Int32) (v_lengths : Nat → Int32) (v_depths : Nat → Int32), some (rv, v_lengths, v_depths) = some res → decode b_Tree_measure pc = .ok (.ireturn, 1) → va_P D classes [(a_this, .inr (9, [.ref a_lengths, .ref o_halves, .ref a_leaves, .ref o_sorted, .ref o_starts, .ref o_sums, .ref a_above, .ref a_depths, .int i_known, .int i_nextLeaf, .int i_nextSum])), (a_lengths, .inl (cI, 256, .inl v_lengths)), (a_leaves, .inl (cI, 256, .inl v_leaves)), (a_above, .inl (cI, 512, .inl v_above)), (a_depths, .inl (cI, 512, .inl v_depths))] H → va_D A [(a_this, .inr (9, [.ref a_lengths, .ref o_halves, .ref a_leaves, .ref o_sorted, .ref o_starts, .ref o_sums, .ref a_above, .ref a_depths, .int i_known, .int i_nextLeaf, .int i_nextSum])), (a_lengths, .inl (cI, 256, .inl v_lengths)), (a_leaves, .inl (cI, 256, .inl v_leaves)), (a_above, .inl (cI, 512, .inl v_above)), (a_depths, .inl (cI, 512, .inl v_depths))] → va_S A s.heap H locs → W p l e R_Tree_measure s m args below meth c H locs 0 0 Q (F0 m pc ls [.int rv])
def I_Tree_measure_b90 (p : Program) (l : Launch) (e : Env) (s : State) (m : MethodId) (args : Array Value) (below : List Frame) (meth : Method) (c : Code) (Q : State → Prop) (A : Nat → Prop) (D : va_G) (cI cL cZ : ClassId) (a_this : Nat) (a_lengths : Nat) (a_leaves : Nat) (a_above : Nat) (a_depths : Nat) (o_halves : Nat) (o_sorted : Nat) (o_starts : Nat) (o_sums : Nat) (i_known : Int32) (i_nextLeaf : Int32) (i_nextSum : Int32) (v_leaves : Nat → Int32) (v_above : Nat → Int32) (res : Int32 × (Nat → Int32) × (Nat → Int32)) (kf : (Nat → Int32) → (Nat → Int32) → Option (Int32 × (Nat → Int32) × (Nat → Int32))) : Prop := ∀ (v_lengths : Nat → Int32) (v_depths : Nat → Int32), kf v_lengths v_depths = some res → ∀ (H : Heap) (locs : List Loc) (ls : Array Slot), lv_has ls 3 [(0, .ref a_this)] → va_P D classes [(a_this, .inr (9, [.ref a_lengths, .ref o_halves, .ref a_leaves, .ref o_sorted, .ref o_starts, .ref o_sums, .ref a_above, .ref a_depths, .int i_known, .int i_nextLeaf, .int i_nextSum])), (a_lengths, .inl (cI, 256, .inl v_lengths)), (a_leaves, .inl (cI, 256, .inl v_leaves)), (a_above, .inl (cI, 512, .inl v_above)), (a_depths, .inl (cI, 512, .inl v_depths))] H → va_D A [(a_this, .inr (9, [.ref a_lengths, .ref o_halves, .ref a_leaves, .ref o_sorted, .ref o_starts, .ref o_sums, .ref a_above, .ref a_depths, .int i_known, .int i_nextLeaf, .int i_nextSum])), (a_lengths, .inl (cI, 256, .inl v_lengths)), (a_leaves, .inl (cI, 256, .inl v_leaves)), (a_above, .inl (cI, 512, .inl v_above)), (a_depths, .inl (cI, 512, .inl v_depths))] → va_S A s.heap H locs → W p l e R_Tree_measure s m args below meth c H locs 0 0 Q (F0 m 90 ls [])
def I_Tree_measure_b59 (p : Program) (l : Launch) (e : Env) (s : State) (m : MethodId) (args : Array Value) (below : List Frame) (meth : Method) (c : Code) (Q : State → Prop) (A : Nat → Prop) (D : va_G) (cI cL cZ : ClassId) (a_this : Nat) (a_lengths : Nat) (a_leaves : Nat) (a_above : Nat) (a_depths : Nat) (o_halves : Nat) (o_sorted : Nat) (o_starts : Nat) (o_sums : Nat) (i_known : Int32) (i_nextLeaf : Int32) (i_nextSum : Int32) (v_leaves : Nat → Int32) (v_above : Nat → Int32) (res : Int32 × (Nat → Int32) × (Nat → Int32)) (kf : Int32 → (Nat → Int32) → (Nat → Int32) → Option (Int32 × (Nat → Int32) × (Nat → Int32))) : Prop := ∀ (l2 : Int32) (v_lengths : Nat → Int32) (v_depths : Nat → Int32), kf l2 v_lengths v_depths = some res → ∀ (H : Heap) (locs : List Loc) (ls : Array Slot), lv_has ls 3 [(0, .ref a_this), (2, .int l2)] → va_P D classes [(a_this, .inr (9, [.ref a_lengths, .ref o_halves, .ref a_leaves, .ref o_sorted, .ref o_starts, .ref o_sums, .ref a_above, .ref a_depths, .int i_known, .int i_nextLeaf, .int i_nextSum])), (a_lengths, .inl (cI, 256, .inl v_lengths)), (a_leaves, .inl (cI, 256, .inl v_leaves)), (a_above, .inl (cI, 512, .inl v_above)), (a_depths, .inl (cI, 512, .inl v_depths))] H → va_D A [(a_this, .inr (9, [.ref a_lengths, .ref o_halves, .ref a_leaves, .ref o_sorted, .ref o_starts, .ref o_sums, .ref a_above, .ref a_depths, .int i_known, .int i_nextLeaf, .int i_nextSum])), (a_lengths, .inl (cI, 256, .inl v_lengths)), (a_leaves, .inl (cI, 256, .inl v_leaves)), (a_above, .inl (cI, 512, .inl v_above)), (a_depths, .inl (cI, 512, .inl v_depths))] → va_S A s.heap H locs → W p l e R_Tree_measure s m args below meth c H locs 0 0 Q (F0 m 59 ls [])
def I_Tree_measure_b49 (p : Program) (l : Launch) (e : Env) (s : State) (m : MethodId) (args : Array Value) (below : List Frame) (meth : Method) (c : Code) (Q : State → Prop) (A : Nat → Prop) (D : va_G) (cI cL cZ : ClassId) (a_this : Nat) (a_lengths : Nat) (a_leaves : Nat) (a_above : Nat) (a_depths : Nat) (o_halves : Nat) (o_sorted : Nat) (o_starts : Nat) (o_sums : Nat) (i_known : Int32) (i_nextLeaf : Int32) (i_nextSum : Int32) (v_leaves : Nat → Int32) (v_above : Nat → Int32) (res : Int32 × (Nat → Int32) × (Nat → Int32)) (kf : (Nat → Int32) → (Nat → Int32) → Option (Int32 × (Nat → Int32) × (Nat → Int32))) : Prop := ∀ (v_lengths : Nat → Int32) (v_depths : Nat → Int32), kf v_lengths v_depths = some res → ∀ (H : Heap) (locs : List Loc) (ls : Array Slot), lv_has ls 3 [(0, .ref a_this)] → va_P D classes [(a_this, .inr (9, [.ref a_lengths, .ref o_halves, .ref a_leaves, .ref o_sorted, .ref o_starts, .ref o_sums, .ref a_above, .ref a_depths, .int i_known, .int i_nextLeaf, .int i_nextSum])), (a_lengths, .inl (cI, 256, .inl v_lengths)), (a_leaves, .inl (cI, 256, .inl v_leaves)), (a_above, .inl (cI, 512, .inl v_above)), (a_depths, .inl (cI, 512, .inl v_depths))] H → va_D A [(a_this, .inr (9, [.ref a_lengths, .ref o_halves, .ref a_leaves, .ref o_sorted, .ref o_starts, .ref o_sums, .ref a_above, .ref a_depths, .int i_known, .int i_nextLeaf, .int i_nextSum])), (a_lengths, .inl (cI, 256, .inl v_lengths)), (a_leaves, .inl (cI, 256, .inl v_leaves)), (a_above, .inl (cI, 512, .inl v_above)), (a_depths, .inl (cI, 512, .inl v_depths))] → va_S A s.heap H locs → W p l e R_Tree_measure s m args below meth c H locs 0 0 Q (F0 m 49 ls [])
def I_Tree_measure_b20 (p : Program) (l : Launch) (e : Env) (s : State) (m : MethodId) (args : Array Value) (below : List Frame) (meth : Method) (c : Code) (Q : State → Prop) (A : Nat → Prop) (D : va_G) (cI cL cZ : ClassId) (a_this : Nat) (a_lengths : Nat) (a_leaves : Nat) (a_above : Nat) (a_depths : Nat) (o_halves : Nat) (o_sorted : Nat) (o_starts : Nat) (o_sums : Nat) (i_known : Int32) (i_nextLeaf : Int32) (i_nextSum : Int32) (v_leaves : Nat → Int32) (v_above : Nat → Int32) (res : Int32 × (Nat → Int32) × (Nat → Int32)) (kf : Int32 → (Nat → Int32) → (Nat → Int32) → Option (Int32 × (Nat → Int32) × (Nat → Int32))) : Prop := ∀ (l2 : Int32) (v_lengths : Nat → Int32) (v_depths : Nat → Int32), kf l2 v_lengths v_depths = some res → ∀ (H : Heap) (locs : List Loc) (ls : Array Slot), lv_has ls 3 [(0, .ref a_this), (2, .int l2)] → va_P D classes [(a_this, .inr (9, [.ref a_lengths, .ref o_halves, .ref a_leaves, .ref o_sorted, .ref o_starts, .ref o_sums, .ref a_above, .ref a_depths, .int i_known, .int i_nextLeaf, .int i_nextSum])), (a_lengths, .inl (cI, 256, .inl v_lengths)), (a_leaves, .inl (cI, 256, .inl v_leaves)), (a_above, .inl (cI, 512, .inl v_above)), (a_depths, .inl (cI, 512, .inl v_depths))] H → va_D A [(a_this, .inr (9, [.ref a_lengths, .ref o_halves, .ref a_leaves, .ref o_sorted, .ref o_starts, .ref o_sums, .ref a_above, .ref a_depths, .int i_known, .int i_nextLeaf, .int i_nextSum])), (a_lengths, .inl (cI, 256, .inl v_lengths)), (a_leaves, .inl (cI, 256, .inl v_leaves)), (a_above, .inl (cI, 512, .inl v_above)), (a_depths, .inl (cI, 512, .inl v_depths))] → va_S A s.heap H locs → W p l e R_Tree_measure s m args below meth c H locs 0 0 Q (F0 m 20 ls [])
def I_Tree_measure_b0 (p : Program) (l : Launch) (e : Env) (s : State) (m : MethodId) (args : Array Value) (below : List Frame) (meth : Method) (c : Code) (Q : State → Prop) (A : Nat → Prop) (D : va_G) (cI cL cZ : ClassId) (a_this : Nat) (a_lengths : Nat) (a_leaves : Nat) (a_above : Nat) (a_depths : Nat) (o_halves : Nat) (o_sorted : Nat) (o_starts : Nat) (o_sums : Nat) (i_known : Int32) (i_nextLeaf : Int32) (i_nextSum : Int32) (v_leaves : Nat → Int32) (v_above : Nat → Int32) (res : Int32 × (Nat → Int32) × (Nat → Int32)) (kf : (Nat → Int32) → (Nat → Int32) → Option (Int32 × (Nat → Int32) × (Nat → Int32))) : Prop := ∀ (v_lengths : Nat → Int32) (v_depths : Nat → Int32), kf v_lengths v_depths = some res → ∀ (H : Heap) (locs : List Loc) (ls : Array Slot), lv_has ls 3 [(0, .ref a_this)] → va_P D classes [(a_this, .inr (9, [.ref a_lengths, .ref o_halves, .ref a_leaves, .ref o_sorted, .ref o_starts, .ref o_sums, .ref a_above, .ref a_depths, .int i_known, .int i_nextLeaf, .int i_nextSum])), (a_lengths, .inl (cI, 256, .inl v_lengths)), (a_leaves, .inl (cI, 256, .inl v_leaves)), (a_above, .inl (cI, 512, .inl v_above)), (a_depths, .inl (cI, 512, .inl v_depths))] H → va_D A [(a_this, .inr (9, [.ref a_lengths, .ref o_halves, .ref a_leaves, .ref o_sorted, .ref o_starts, .ref o_sums, .ref a_above, .ref a_depths, .int i_known, .int i_nextLeaf, .int i_nextSum])), (a_lengths, .inl (cI, 256, .inl v_lengths)), (a_leaves, .inl (cI, 256, .inl v_leaves)), (a_above, .inl (cI, 512, .inl v_above)), (a_depths, .inl (cI, 512, .inl v_depths))] → va_S A s.heap H locs → W p l e R_Tree_measure s m args below meth c H locs 0 0 Q (F0 m 0 ls [])
set_option maxHeartbeats 4000000 in
set_option maxRecDepth 100000 in
theorem w_Tree_measure_b90 {p : Program} {l : Launch} {e : Env} {s : State} {m : MethodId} {args : Array Value} {below : List Frame} {meth : Method} {c : Code} {Q : State → Prop} {A : Nat → Prop} {D : va_G} {cI cL cZ : ClassId} {a_this : Nat} {a_lengths : Nat} {a_leaves : Nat} {a_above : Nat} {a_depths : Nat} {o_halves : Nat} {o_sorted : Nat} {o_starts : Nat} {o_sums : Nat} {i_known : Int32} {i_nextLeaf : Int32} {i_nextSum : Int32} {v_leaves : Nat → Int32} {v_above : Nat → Int32} {N : Nat} {res : Int32 × (Nat → Int32) × (Nat → Int32)}  (C : Cx p s m args c b_Tree_measure 3 "PrefixMill$Tree" D [(cI, .int), (cL, .long), (cZ, .boolean)] A) (hret : E_Tree_measure p l e s m args below meth c Q A D cI cL cZ a_this a_lengths a_leaves a_above a_depths o_halves o_sorted o_starts o_sums i_known i_nextLeaf i_nextSum v_leaves v_above res)  : I_Tree_measure_b90 p l e s m args below meth c Q A D cI cL cZ a_this a_lengths a_leaves a_above a_depths o_halves o_sorted o_starts o_sums i_known i_nextLeaf i_nextSum v_leaves v_above res (f_Tree_measure_b90 N i_known v_leaves v_above ) := by
  obtain ⟨hx, hb, hml, hown, hts, hK, hA⟩ := C
  intro v_lengths v_depths h H locs ls hl hP hD hS
  unfold f_Tree_measure_b90 at h
  refine lv_aload_n hx hb d_Tree_measure_90 rfl (lv_at hl 0 rfl) ?_
  refine va_get hx hb hts in_Tree hown hK hP 0 rfl rfl 0 (by decide) (hts _ m_156) (fun _ h9 => h9) rfl d_Tree_measure_91 ?_
  obtain ⟨r_1, hc_2, h⟩ := bd1_s h
  have hPc := hP.sub (ws' := [(a_lengths, .inl (cI, 256, .inl v_lengths))]) [1] rfl
  have hDc := hD.sub (ws' := [(a_lengths, .inl (cI, 256, .inl v_lengths))]) [1] (by decide) rfl
  have hFc := va_free (wc := [(a_lengths, .inl (cI, 256, .inl v_lengths))]) hD hS hA [1] rfl
  refine va_calli (va_runSN (As := [.ref a_lengths]) (rest := []) ⟨hx, hb, hml, hown, hts⟩ (c_PM_greatestOf l D cI cL cZ H.size N a_lengths 256 v_lengths r_1 hc_2) ⟨(my_cn 1 hts m_466 rfl rfl (hts _ m_66) (hts _ m_464) (by decide +kernel) ⟨Nat.le_of_ble_eq_true rfl, Nat.le_of_ble_eq_true rfl⟩), hts _ m_465, trivial⟩ ⟨fun a U g mk q => by obtain ⟨q0, q1, qP, qK, qD⟩ := q; exact ⟨q0, q1, qP, va_K.moved (u := U) (U := U.calling g mk a) (Vm.Alike.refl U.vm) qK, qD⟩, fun U hU hW => ⟨rfl, by rw [hU], by rw [hU]; exact hPc, va_K.moved hW.alike hK, hDc.weaken (fun _ _ _ _ => trivial)⟩⟩ rfl rfl hl.1 rfl (lv_room (Nat.le_of_ble_eq_true rfl)) d_Tree_measure_94 ⟨Nat.zero_le _, Nat.zero_le _⟩) hS (fun q _ h => hFc q h) hFc (fun rr u t H1 locs ht hvm hw hB hz1 hk1 hS => ?_)
  obtain ⟨hP1, hK1, hD1⟩ := hB
  rw [ht] at hP1
  subst hw
  obtain ⟨hP, hD⟩ := va_join (wr := [(a_this, .inr (9, [.ref a_lengths, .ref o_halves, .ref a_leaves, .ref o_sorted, .ref o_starts, .ref o_sums, .ref a_above, .ref a_depths, .int i_known, .int i_nextLeaf, .int i_nextSum])), (a_leaves, .inl (cI, 256, .inl v_leaves)), (a_above, .inl (cI, 512, .inl v_above)), (a_depths, .inl (cI, 512, .inl v_depths))]) (w1 := [(a_lengths, .inl (cI, 256, .inl v_lengths))]) hP hD [1] [0, 2, 3, 4] rfl rfl (by decide) (by decide) hk1 hFc hP1 hD1
  clear hPc hDc hFc hk1 hP1 hD1 hK1
  generalize H1 = H at hP hS ⊢
  have hP : va_P D classes [(a_this, .inr (9, [.ref a_lengths, .ref o_halves, .ref a_leaves, .ref o_sorted, .ref o_starts, .ref o_sums, .ref a_above, .ref a_depths, .int i_known, .int i_nextLeaf, .int i_nextSum])), (a_lengths, .inl (cI, 256, .inl v_lengths)), (a_leaves, .inl (cI, 256, .inl v_leaves)), (a_above, .inl (cI, 512, .inl v_above)), (a_depths, .inl (cI, 512, .inl v_depths))] H := hP.sub [0, 4, 1, 2, 3] rfl
  have hD : va_D A [(a_this, .inr (9, [.ref a_lengths, .ref o_halves, .ref a_leaves, .ref o_sorted, .ref o_starts, .ref o_sums, .ref a_above, .ref a_depths, .int i_known, .int i_nextLeaf, .int i_nextSum])), (a_lengths, .inl (cI, 256, .inl v_lengths)), (a_leaves, .inl (cI, 256, .inl v_leaves)), (a_above, .inl (cI, 512, .inl v_above)), (a_depths, .inl (cI, 512, .inl v_depths))] := hD.sub [0, 4, 1, 2, 3] (by decide) rfl
  exact hret _ _ _ _ r_1 v_lengths v_depths h d_Tree_measure_97 hP hD hS
set_option maxHeartbeats 4000000 in
set_option maxRecDepth 100000 in
theorem w_Tree_measure_b59 {p : Program} {l : Launch} {e : Env} {s : State} {m : MethodId} {args : Array Value} {below : List Frame} {meth : Method} {c : Code} {Q : State → Prop} {A : Nat → Prop} {D : va_G} {cI cL cZ : ClassId} {a_this : Nat} {a_lengths : Nat} {a_leaves : Nat} {a_above : Nat} {a_depths : Nat} {o_halves : Nat} {o_sorted : Nat} {o_starts : Nat} {o_sums : Nat} {i_known : Int32} {i_nextLeaf : Int32} {i_nextSum : Int32} {v_leaves : Nat → Int32} {v_above : Nat → Int32} {N : Nat} {res : Int32 × (Nat → Int32) × (Nat → Int32)}  (C : Cx p s m args c b_Tree_measure 3 "PrefixMill$Tree" D [(cI, .int), (cL, .long), (cZ, .boolean)] A) (hret : E_Tree_measure p l e s m args below meth c Q A D cI cL cZ a_this a_lengths a_leaves a_above a_depths o_halves o_sorted o_starts o_sums i_known i_nextLeaf i_nextSum v_leaves v_above res)  : ∀ z : Nat, I_Tree_measure_b59 p l e s m args below meth c Q A D cI cL cZ a_this a_lengths a_leaves a_above a_depths o_halves o_sorted o_starts o_sums i_known i_nextLeaf i_nextSum v_leaves v_above res (f_Tree_measure_b59 N i_known v_leaves v_above  z) := by
  obtain ⟨hx, hb, hml, hown, hts, hK, hA⟩ := C
  intro z
  induction z with
  | zero => intro l2 v_lengths v_depths h; cases h
  | succ z ih =>
    intro l2 v_lengths v_depths h H locs ls hl hP hD hS
    refine lv_iload_n hx hb d_Tree_measure_59 rfl (lv_at hl 1 rfl) ?_
    refine lv_aload_n hx hb d_Tree_measure_60 rfl (lv_at hl 0 rfl) ?_
    refine va_get hx hb hts in_Tree hown hK hP 0 rfl rfl 8 (by decide) (hts _ m_165) (fun _ h9 => h9) rfl d_Tree_measure_61 ?_
    refine lv_icmp_ge (tgt := 90) hx hb d_Tree_measure_64 (by decide) (fun c_1 => ?_) (fun c_1 => ?_)
    · replace h := if_t h c_1
      exact w_Tree_measure_b90 ⟨hx, hb, hml, hown, hts, hK, hA⟩ hret  _ _ h H locs ls (lv_sub hl [0] rfl) hP hD hS
    · replace h := if_f h c_1
      refine lv_aload_n hx hb d_Tree_measure_67 rfl (lv_at hl 0 rfl) ?_
      refine va_get hx hb hts in_Tree hown hK hP 0 rfl rfl 0 (by decide) (hts _ m_156) (fun _ h9 => h9) rfl d_Tree_measure_68 ?_
      refine lv_aload_n hx hb d_Tree_measure_71 rfl (lv_at hl 0 rfl) ?_
      refine va_get hx hb hts in_Tree hown hK hP 0 rfl rfl 2 (by decide) (hts _ m_159) (fun _ h9 => h9) rfl d_Tree_measure_72 ?_
      refine lv_iload_n hx hb d_Tree_measure_75 rfl (lv_at hl 1 rfl) ?_
      obtain ⟨g_2, h⟩ := ck_s h
      refine va_iald hx hb hK hP 2 0 rfl rfl (inb_s g_2) d_Tree_measure_76 ?_
      refine lv_aload_n hx hb d_Tree_measure_77 rfl (lv_at hl 0 rfl) ?_
      refine va_get hx hb hts in_Tree hown hK hP 0 rfl rfl 7 (by decide) (hts _ m_164) (fun _ h9 => h9) rfl d_Tree_measure_78 ?_
      refine lv_iload_n hx hb d_Tree_measure_81 rfl (lv_at hl 1 rfl) ?_
      obtain ⟨g_3, h⟩ := ck_s h
      refine va_iald hx hb hK hP 4 0 rfl rfl (inb_s g_3) d_Tree_measure_82 ?_
      obtain ⟨g_4, h⟩ := ck_s h
      refine va_iast hx hb hK hP hD hS 1 0 rfl rfl (inb_s g_4) d_Tree_measure_83 (fun H locs hP hD hS => ?_)
      obtain ⟨v_lengths_5, ev_lengths_5⟩ : ∃ y, y = (upd v_lengths (Int32.toNatClampNeg (v_leaves (Int32.toNatClampNeg l2))) (v_depths (Int32.toNatClampNeg l2))) := ⟨_, rfl⟩
      replace h := nm_s h ev_lengths_5
      have hP : va_P D classes [(a_this, .inr (9, [.ref a_lengths, .ref o_halves, .ref a_leaves, .ref o_sorted, .ref o_starts, .ref o_sums, .ref a_above, .ref a_depths, .int i_known, .int i_nextLeaf, .int i_nextSum])), (a_lengths, .inl (cI, 256, .inl v_lengths_5)), (a_leaves, .inl (cI, 256, .inl v_leaves)), (a_above, .inl (cI, 512, .inl v_above)), (a_depths, .inl (cI, 512, .inl v_depths))] H := by rw [ev_lengths_5]; exact hP
      have hD : va_D A [(a_this, .inr (9, [.ref a_lengths, .ref o_halves, .ref a_leaves, .ref o_sorted, .ref o_starts, .ref o_sums, .ref a_above, .ref a_depths, .int i_known, .int i_nextLeaf, .int i_nextSum])), (a_lengths, .inl (cI, 256, .inl v_lengths_5)), (a_leaves, .inl (cI, 256, .inl v_leaves)), (a_above, .inl (cI, 512, .inl v_above)), (a_depths, .inl (cI, 512, .inl v_depths))] := by rw [ev_lengths_5]; exact hD
      obtain ⟨l2_6, el2_6⟩ : ∃ y : Int32, y = l2 + 1 := ⟨_, rfl⟩
      replace h := nm_s h el2_6
      refine lv_iinc (v := l2_6) (lv' := [(2, .int l2_6), (0, .ref a_this)]) hx hb d_Tree_measure_84 hl (k := 1) rfl (by rw [el2_6]; rfl) (by decide) rfl (fun ls hl => ?_)
      refine lv_goto (tgt := 59) hx hb d_Tree_measure_87 (by decide) ?_
      exact ih _ _ _ h H locs ls (lv_sub hl [1, 0] rfl) hP hD hS
set_option maxHeartbeats 4000000 in
set_option maxRecDepth 100000 in
theorem w_Tree_measure_b49 {p : Program} {l : Launch} {e : Env} {s : State} {m : MethodId} {args : Array Value} {below : List Frame} {meth : Method} {c : Code} {Q : State → Prop} {A : Nat → Prop} {D : va_G} {cI cL cZ : ClassId} {a_this : Nat} {a_lengths : Nat} {a_leaves : Nat} {a_above : Nat} {a_depths : Nat} {o_halves : Nat} {o_sorted : Nat} {o_starts : Nat} {o_sums : Nat} {i_known : Int32} {i_nextLeaf : Int32} {i_nextSum : Int32} {v_leaves : Nat → Int32} {v_above : Nat → Int32} {N : Nat} {res : Int32 × (Nat → Int32) × (Nat → Int32)}  (C : Cx p s m args c b_Tree_measure 3 "PrefixMill$Tree" D [(cI, .int), (cL, .long), (cZ, .boolean)] A) (hret : E_Tree_measure p l e s m args below meth c Q A D cI cL cZ a_this a_lengths a_leaves a_above a_depths o_halves o_sorted o_starts o_sums i_known i_nextLeaf i_nextSum v_leaves v_above res)  : I_Tree_measure_b49 p l e s m args below meth c Q A D cI cL cZ a_this a_lengths a_leaves a_above a_depths o_halves o_sorted o_starts o_sums i_known i_nextLeaf i_nextSum v_leaves v_above res (f_Tree_measure_b49 N i_known v_leaves v_above ) := by
  obtain ⟨hx, hb, hml, hown, hts, hK, hA⟩ := C
  intro v_lengths v_depths h H locs ls hl hP hD hS
  unfold f_Tree_measure_b49 at h
  refine lv_aload_n hx hb d_Tree_measure_49 rfl (lv_at hl 0 rfl) ?_
  refine va_get hx hb hts in_Tree hown hK hP 0 rfl rfl 0 (by decide) (hts _ m_156) (fun _ h9 => h9) rfl d_Tree_measure_50 ?_
  refine lv_iconst (v := 0) hx hb d_Tree_measure_53 (by decide) ?_
  obtain ⟨v_lengths_1, hc_2, h⟩ := bd1_s h
  have hPc := hP.sub (ws' := [(a_lengths, .inl (cI, 256, .inl v_lengths))]) [1] rfl
  have hDc := hD.sub (ws' := [(a_lengths, .inl (cI, 256, .inl v_lengths))]) [1] (by decide) rfl
  have hFc := va_free (wc := [(a_lengths, .inl (cI, 256, .inl v_lengths))]) hD hS hA [1] rfl
  refine va_callv (va_runS (As := [.ref a_lengths, .int 0]) (rest := []) ⟨hx, hb, hml, hown, hts⟩ (c_JArr_fill l D cI cL cZ H.size N a_lengths 256 v_lengths 0 v_lengths_1 hc_2) ⟨(my_cb 2 hts m_410 rfl rfl (hts _ m_79) (hts _ m_451) (by decide +kernel) ⟨Nat.le_of_ble_eq_true rfl, Nat.le_of_ble_eq_true rfl⟩), hts _ m_409⟩ ⟨fun a U g mk q => by obtain ⟨q0, q1, qP, qK, qD⟩ := q; exact ⟨q0, q1, qP, va_K.moved (u := U) (U := U.calling g mk a) (Vm.Alike.refl U.vm) qK, qD⟩, fun U hU hW => ⟨rfl, by rw [hU], by rw [hU]; exact hPc, va_K.moved hW.alike hK, hDc.weaken (fun _ _ _ _ => trivial)⟩⟩ rfl rfl hl.1 rfl (lv_room (Nat.le_of_ble_eq_true rfl)) d_Tree_measure_54 ⟨Nat.zero_le _, Nat.zero_le _⟩) hS (fun q _ h => hFc q h) hFc (fun u t H1 locs ht hvm hw hB hz1 hk1 hS => ?_)
  obtain ⟨hP1, hK1, hD1⟩ := hB
  rw [ht] at hP1
  obtain ⟨hP, hD⟩ := va_join (wr := [(a_this, .inr (9, [.ref a_lengths, .ref o_halves, .ref a_leaves, .ref o_sorted, .ref o_starts, .ref o_sums, .ref a_above, .ref a_depths, .int i_known, .int i_nextLeaf, .int i_nextSum])), (a_leaves, .inl (cI, 256, .inl v_leaves)), (a_above, .inl (cI, 512, .inl v_above)), (a_depths, .inl (cI, 512, .inl v_depths))]) (w1 := [(a_lengths, .inl (cI, 256, .inl v_lengths_1))]) hP hD [1] [0, 2, 3, 4] rfl rfl (by decide) (by decide) hk1 hFc hP1 hD1
  clear hPc hDc hFc hk1 hP1 hD1 hK1
  generalize H1 = H at hP hS ⊢
  have hP : va_P D classes [(a_this, .inr (9, [.ref a_lengths, .ref o_halves, .ref a_leaves, .ref o_sorted, .ref o_starts, .ref o_sums, .ref a_above, .ref a_depths, .int i_known, .int i_nextLeaf, .int i_nextSum])), (a_lengths, .inl (cI, 256, .inl v_lengths_1)), (a_leaves, .inl (cI, 256, .inl v_leaves)), (a_above, .inl (cI, 512, .inl v_above)), (a_depths, .inl (cI, 512, .inl v_depths))] H := hP.sub [0, 4, 1, 2, 3] rfl
  have hD : va_D A [(a_this, .inr (9, [.ref a_lengths, .ref o_halves, .ref a_leaves, .ref o_sorted, .ref o_starts, .ref o_sums, .ref a_above, .ref a_depths, .int i_known, .int i_nextLeaf, .int i_nextSum])), (a_lengths, .inl (cI, 256, .inl v_lengths_1)), (a_leaves, .inl (cI, 256, .inl v_leaves)), (a_above, .inl (cI, 512, .inl v_above)), (a_depths, .inl (cI, 512, .inl v_depths))] := hD.sub [0, 4, 1, 2, 3] (by decide) rfl
  refine lv_iconst (v := 0) hx hb d_Tree_measure_57 (by decide) ?_
  refine lv_istore_n (lv' := [(2, .int 0), (0, .ref a_this)]) hx hb d_Tree_measure_58 rfl hl (by decide) rfl (fun ls hl => ?_)
  exact w_Tree_measure_b59 ⟨hx, hb, hml, hown, hts, hK, hA⟩ hret  N _ _ _ h H locs ls (lv_sub hl [1, 0] rfl) hP hD hS
set_option maxHeartbeats 4000000 in
set_option maxRecDepth 100000 in
theorem w_Tree_measure_b20 {p : Program} {l : Launch} {e : Env} {s : State} {m : MethodId} {args : Array Value} {below : List Frame} {meth : Method} {c : Code} {Q : State → Prop} {A : Nat → Prop} {D : va_G} {cI cL cZ : ClassId} {a_this : Nat} {a_lengths : Nat} {a_leaves : Nat} {a_above : Nat} {a_depths : Nat} {o_halves : Nat} {o_sorted : Nat} {o_starts : Nat} {o_sums : Nat} {i_known : Int32} {i_nextLeaf : Int32} {i_nextSum : Int32} {v_leaves : Nat → Int32} {v_above : Nat → Int32} {N : Nat} {res : Int32 × (Nat → Int32) × (Nat → Int32)}  (C : Cx p s m args c b_Tree_measure 3 "PrefixMill$Tree" D [(cI, .int), (cL, .long), (cZ, .boolean)] A) (hret : E_Tree_measure p l e s m args below meth c Q A D cI cL cZ a_this a_lengths a_leaves a_above a_depths o_halves o_sorted o_starts o_sums i_known i_nextLeaf i_nextSum v_leaves v_above res)  : ∀ z : Nat, I_Tree_measure_b20 p l e s m args below meth c Q A D cI cL cZ a_this a_lengths a_leaves a_above a_depths o_halves o_sorted o_starts o_sums i_known i_nextLeaf i_nextSum v_leaves v_above res (f_Tree_measure_b20 N i_known v_leaves v_above  z) := by
  obtain ⟨hx, hb, hml, hown, hts, hK, hA⟩ := C
  intro z
  induction z with
  | zero => intro l2 v_lengths v_depths h; cases h
  | succ z ih =>
    intro l2 v_lengths v_depths h H locs ls hl hP hD hS
    refine lv_iload_n hx hb d_Tree_measure_20 rfl (lv_at hl 1 rfl) ?_
    refine lv_if_lt (tgt := 49) hx hb d_Tree_measure_21 (by decide) (fun c_1 => ?_) (fun c_1 => ?_)
    · replace h := if_t h c_1
      exact w_Tree_measure_b49 ⟨hx, hb, hml, hown, hts, hK, hA⟩ hret  _ _ h H locs ls (lv_sub hl [0] rfl) hP hD hS
    · replace h := if_f h c_1
      refine lv_aload_n hx hb d_Tree_measure_24 rfl (lv_at hl 0 rfl) ?_
      refine va_get hx hb hts in_Tree hown hK hP 0 rfl rfl 7 (by decide) (hts _ m_164) (fun _ h9 => h9) rfl d_Tree_measure_25 ?_
      refine lv_iload_n hx hb d_Tree_measure_28 rfl (lv_at hl 1 rfl) ?_
      refine lv_aload_n hx hb d_Tree_measure_29 rfl (lv_at hl 0 rfl) ?_
      refine va_get hx hb hts in_Tree hown hK hP 0 rfl rfl 7 (by decide) (hts _ m_164) (fun _ h9 => h9) rfl d_Tree_measure_30 ?_
      refine lv_aload_n hx hb d_Tree_measure_33 rfl (lv_at hl 0 rfl) ?_
      refine va_get hx hb hts in_Tree hown hK hP 0 rfl rfl 6 (by decide) (hts _ m_163) (fun _ h9 => h9) rfl d_Tree_measure_34 ?_
      refine lv_iload_n hx hb d_Tree_measure_37 rfl (lv_at hl 1 rfl) ?_
      obtain ⟨g_2, h⟩ := ck_s h
      refine va_iald hx hb hK hP 3 0 rfl rfl (inb_s g_2) d_Tree_measure_38 ?_
      obtain ⟨g_3, h⟩ := ck_s h
      refine va_iald hx hb hK hP 4 0 rfl rfl (inb_s g_3) d_Tree_measure_39 ?_
      refine lv_iconst (v := 1) hx hb d_Tree_measure_40 (by decide) ?_
      refine lv_iadd hx hb d_Tree_measure_41 ?_
      obtain ⟨g_4, h⟩ := ck_s h
      refine va_iast hx hb hK hP hD hS 4 0 rfl rfl (inb_s g_4) d_Tree_measure_42 (fun H locs hP hD hS => ?_)
      obtain ⟨v_depths_5, ev_depths_5⟩ : ∃ y, y = (upd v_depths (Int32.toNatClampNeg l2) ((v_depths (Int32.toNatClampNeg (v_above (Int32.toNatClampNeg l2)))) + 1)) := ⟨_, rfl⟩
      replace h := nm_s h ev_depths_5
      have hP : va_P D classes [(a_this, .inr (9, [.ref a_lengths, .ref o_halves, .ref a_leaves, .ref o_sorted, .ref o_starts, .ref o_sums, .ref a_above, .ref a_depths, .int i_known, .int i_nextLeaf, .int i_nextSum])), (a_lengths, .inl (cI, 256, .inl v_lengths)), (a_leaves, .inl (cI, 256, .inl v_leaves)), (a_above, .inl (cI, 512, .inl v_above)), (a_depths, .inl (cI, 512, .inl v_depths_5))] H := by rw [ev_depths_5]; exact hP
      have hD : va_D A [(a_this, .inr (9, [.ref a_lengths, .ref o_halves, .ref a_leaves, .ref o_sorted, .ref o_starts, .ref o_sums, .ref a_above, .ref a_depths, .int i_known, .int i_nextLeaf, .int i_nextSum])), (a_lengths, .inl (cI, 256, .inl v_lengths)), (a_leaves, .inl (cI, 256, .inl v_leaves)), (a_above, .inl (cI, 512, .inl v_above)), (a_depths, .inl (cI, 512, .inl v_depths_5))] := by rw [ev_depths_5]; exact hD
      obtain ⟨l2_6, el2_6⟩ : ∃ y : Int32, y = l2 + (-1) := ⟨_, rfl⟩
      replace h := nm_s h el2_6
      refine lv_iinc (v := l2_6) (lv' := [(2, .int l2_6), (0, .ref a_this)]) hx hb d_Tree_measure_43 hl (k := 1) rfl (by rw [el2_6]; rfl) (by decide) rfl (fun ls hl => ?_)
      refine lv_goto (tgt := 20) hx hb d_Tree_measure_46 (by decide) ?_
      exact ih _ _ _ h H locs ls (lv_sub hl [1, 0] rfl) hP hD hS
set_option maxHeartbeats 4000000 in
set_option maxRecDepth 100000 in
theorem w_Tree_measure_b0 {p : Program} {l : Launch} {e : Env} {s : State} {m : MethodId} {args : Array Value} {below : List Frame} {meth : Method} {c : Code} {Q : State → Prop} {A : Nat → Prop} {D : va_G} {cI cL cZ : ClassId} {a_this : Nat} {a_lengths : Nat} {a_leaves : Nat} {a_above : Nat} {a_depths : Nat} {o_halves : Nat} {o_sorted : Nat} {o_starts : Nat} {o_sums : Nat} {i_known : Int32} {i_nextLeaf : Int32} {i_nextSum : Int32} {v_leaves : Nat → Int32} {v_above : Nat → Int32} {N : Nat} {res : Int32 × (Nat → Int32) × (Nat → Int32)}  (C : Cx p s m args c b_Tree_measure 3 "PrefixMill$Tree" D [(cI, .int), (cL, .long), (cZ, .boolean)] A) (hret : E_Tree_measure p l e s m args below meth c Q A D cI cL cZ a_this a_lengths a_leaves a_above a_depths o_halves o_sorted o_starts o_sums i_known i_nextLeaf i_nextSum v_leaves v_above res)  : I_Tree_measure_b0 p l e s m args below meth c Q A D cI cL cZ a_this a_lengths a_leaves a_above a_depths o_halves o_sorted o_starts o_sums i_known i_nextLeaf i_nextSum v_leaves v_above res (f_Tree_measure N i_known v_leaves v_above ) := by
  obtain ⟨hx, hb, hml, hown, hts, hK, hA⟩ := C
  intro v_lengths v_depths h H locs ls hl hP hD hS
  unfold f_Tree_measure at h
  refine lv_iconst (v := 2) hx hb d_Tree_measure_0 (by decide) ?_
  refine lv_aload_n hx hb d_Tree_measure_1 rfl (lv_at hl 0 rfl) ?_
  refine va_get hx hb hts in_Tree hown hK hP 0 rfl rfl 8 (by decide) (hts _ m_165) (fun _ h9 => h9) rfl d_Tree_measure_2 ?_
  refine lv_imul hx hb d_Tree_measure_5 ?_
  refine lv_iconst (v := 2) hx hb d_Tree_measure_6 (by decide) ?_
  refine lv_isub hx hb d_Tree_measure_7 ?_
  refine lv_topi (fun l1_1 el1_1 => ?_)
  replace h := nm_s h el1_1
  refine lv_istore_n (lv' := [(1, .int l1_1), (0, .ref a_this)]) hx hb d_Tree_measure_8 rfl hl (by decide) rfl (fun ls hl => ?_)
  refine lv_aload_n hx hb d_Tree_measure_9 rfl (lv_at hl 1 rfl) ?_
  refine va_get hx hb hts in_Tree hown hK hP 0 rfl rfl 7 (by decide) (hts _ m_164) (fun _ h9 => h9) rfl d_Tree_measure_10 ?_
  refine lv_iload_n hx hb d_Tree_measure_13 rfl (lv_at hl 0 rfl) ?_
  refine lv_iconst (v := 0) hx hb d_Tree_measure_14 (by decide) ?_
  obtain ⟨g_2, h⟩ := ck_s h
  refine va_iast hx hb hK hP hD hS 4 0 rfl rfl (inb_s g_2) d_Tree_measure_15 (fun H locs hP hD hS => ?_)
  obtain ⟨v_depths_3, ev_depths_3⟩ : ∃ y, y = (upd v_depths (Int32.toNatClampNeg l1_1) 0) := ⟨_, rfl⟩
  replace h := nm_s h ev_depths_3
  have hP : va_P D classes [(a_this, .inr (9, [.ref a_lengths, .ref o_halves, .ref a_leaves, .ref o_sorted, .ref o_starts, .ref o_sums, .ref a_above, .ref a_depths, .int i_known, .int i_nextLeaf, .int i_nextSum])), (a_lengths, .inl (cI, 256, .inl v_lengths)), (a_leaves, .inl (cI, 256, .inl v_leaves)), (a_above, .inl (cI, 512, .inl v_above)), (a_depths, .inl (cI, 512, .inl v_depths_3))] H := by rw [ev_depths_3]; exact hP
  have hD : va_D A [(a_this, .inr (9, [.ref a_lengths, .ref o_halves, .ref a_leaves, .ref o_sorted, .ref o_starts, .ref o_sums, .ref a_above, .ref a_depths, .int i_known, .int i_nextLeaf, .int i_nextSum])), (a_lengths, .inl (cI, 256, .inl v_lengths)), (a_leaves, .inl (cI, 256, .inl v_leaves)), (a_above, .inl (cI, 512, .inl v_above)), (a_depths, .inl (cI, 512, .inl v_depths_3))] := by rw [ev_depths_3]; exact hD
  refine lv_iload_n hx hb d_Tree_measure_16 rfl (lv_at hl 0 rfl) ?_
  refine lv_iconst (v := 1) hx hb d_Tree_measure_17 (by decide) ?_
  refine lv_isub hx hb d_Tree_measure_18 ?_
  refine lv_topi (fun l2_4 el2_4 => ?_)
  replace h := nm_s h el2_4
  refine lv_istore_n (lv' := [(2, .int l2_4), (1, .int l1_1), (0, .ref a_this)]) hx hb d_Tree_measure_19 rfl hl (by decide) rfl (fun ls hl => ?_)
  exact w_Tree_measure_b20 ⟨hx, hb, hml, hown, hts, hK, hA⟩ hret  N _ _ _ h H locs ls (lv_sub hl [2, 0] rfl) hP hD hS
set_option maxHeartbeats 4000000 in
set_option maxRecDepth 100000 in
theorem c_Tree_measure (l : Launch) (D : va_G) (cI cL cZ : ClassId) (sz N : Nat) (a_this : Nat) (a_lengths : Nat) (a_leaves : Nat) (a_above : Nat) (a_depths : Nat) (o_halves : Nat) (o_sorted : Nat) (o_starts : Nat) (o_sums : Nat) (i_known : Int32) (i_nextLeaf : Int32) (i_nextSum : Int32) (v_lengths : Nat → Int32) (v_leaves : Nat → Int32) (v_above : Nat → Int32) (v_depths : Nat → Int32) (rv : Int32) (v_lengths' : Nat → Int32) (v_depths' : Nat → Int32) (h : f_Tree_measure N i_known v_leaves v_above v_lengths v_depths = some (rv, v_lengths', v_depths')) : Met l ({ cls := "PrefixMill$Tree", name := "measure", desc := "()I" } : Jvm.MethodName) ws_Tree_measure R_Tree_measure (va_Pc [.ref a_this] (fun U => U.heap.size = sz ∧ va_P D classes [(a_this, .inr (9, [.ref a_lengths, .ref o_halves, .ref a_leaves, .ref o_sorted, .ref o_starts, .ref o_sums, .ref a_above, .ref a_depths, .int i_known, .int i_nextLeaf, .int i_nextSum])), (a_lengths, .inl (cI, 256, .inl v_lengths)), (a_leaves, .inl (cI, 256, .inl v_leaves)), (a_above, .inl (cI, 512, .inl v_above)), (a_depths, .inl (cI, 512, .inl v_depths))] U.heap ∧ va_K D classes [(cI, .int), (cL, .long), (cZ, .boolean)] U ∧ va_D (fun _ => True) [(a_this, .inr (9, [.ref a_lengths, .ref o_halves, .ref a_leaves, .ref o_sorted, .ref o_starts, .ref o_sums, .ref a_above, .ref a_depths, .int i_known, .int i_nextLeaf, .int i_nextSum])), (a_lengths, .inl (cI, 256, .inl v_lengths)), (a_leaves, .inl (cI, 256, .inl v_leaves)), (a_above, .inl (cI, 512, .inl v_above)), (a_depths, .inl (cI, 512, .inl v_depths))])) (va_Qi (fun (r0 : Int32) (_ : Unit) => rv = r0) (fun _ t => va_P D classes [(a_this, .inr (9, [.ref a_lengths, .ref o_halves, .ref a_leaves, .ref o_sorted, .ref o_starts, .ref o_sums, .ref a_above, .ref a_depths, .int i_known, .int i_nextLeaf, .int i_nextSum])), (a_lengths, .inl (cI, 256, .inl v_lengths')), (a_leaves, .inl (cI, 256, .inl v_leaves)), (a_above, .inl (cI, 512, .inl v_above)), (a_depths, .inl (cI, 512, .inl v_depths'))] t.heap ∧ va_K D classes [(cI, .int), (cL, .long), (cZ, .boolean)] t ∧ va_D (va_A [(a_this, .inr (9, [.ref a_lengths, .ref o_halves, .ref a_leaves, .ref o_sorted, .ref o_starts, .ref o_sums, .ref a_above, .ref a_depths, .int i_known, .int i_nextLeaf, .int i_nextSum])), (a_lengths, .inl (cI, 256, .inl v_lengths)), (a_leaves, .inl (cI, 256, .inl v_leaves)), (a_above, .inl (cI, 512, .inl v_above)), (a_depths, .inl (cI, 512, .inl v_depths))] sz) [(a_this, .inr (9, [.ref a_lengths, .ref o_halves, .ref a_leaves, .ref o_sorted, .ref o_starts, .ref o_sums, .ref a_above, .ref a_depths, .int i_known, .int i_nextLeaf, .int i_nextSum])), (a_lengths, .inl (cI, 256, .inl v_lengths')), (a_leaves, .inl (cI, 256, .inl v_leaves)), (a_above, .inl (cI, 512, .inl v_above)), (a_depths, .inl (cI, 512, .inl v_depths'))]) (va_A [(a_this, .inr (9, [.ref a_lengths, .ref o_halves, .ref a_leaves, .ref o_sorted, .ref o_starts, .ref o_sums, .ref a_above, .ref a_depths, .int i_known, .int i_nextLeaf, .int i_nextSum])), (a_lengths, .inl (cI, 256, .inl v_lengths)), (a_leaves, .inl (cI, 256, .inl v_leaves)), (a_above, .inl (cI, 512, .inl v_above)), (a_depths, .inl (cI, 512, .inl v_depths))] sz)) 0 0 (va_A [(a_this, .inr (9, [.ref a_lengths, .ref o_halves, .ref a_leaves, .ref o_sorted, .ref o_starts, .ref o_sums, .ref a_above, .ref a_depths, .int i_known, .int i_nextLeaf, .int i_nextSum])), (a_lengths, .inl (cI, 256, .inl v_lengths)), (a_leaves, .inl (cI, 256, .inl v_leaves)), (a_above, .inl (cI, 512, .inl v_above)), (a_depths, .inl (cI, 512, .inl v_depths))] sz) := by
  refine Met.ofW (cc := b_Tree_measure) (maxL := 3) (ret := (some .int)) (by decide) rfl ?_
  intro p e s m args below meth c s₁ B hml hv
  obtain ⟨rfl, hsz, hP, hK, hD0⟩ := hv
  have hx := B.exec
  have hb := B.bytes
  have hr := B.returns
  have hts0 := atoms_spec (ws := ws_Tree_measure) B.pre
  have hts := gd_tl hts0
  clear hts0
  have hown : s.vm.findClass "PrefixMill$Tree" = some m.cls := findClass_of_methodNamed B.named
  have hlocks := B.notSynchronized
  subst hsz
  have hD := hD0.self (sz := s.heap.size)
  generalize hAe : va_A [(a_this, .inr (9, [.ref a_lengths, .ref o_halves, .ref a_leaves, .ref o_sorted, .ref o_starts, .ref o_sums, .ref a_above, .ref a_depths, .int i_known, .int i_nextLeaf, .int i_nextSum])), (a_lengths, .inl (cI, 256, .inl v_lengths)), (a_leaves, .inl (cI, 256, .inl v_leaves)), (a_above, .inl (cI, 512, .inl v_above)), (a_depths, .inl (cI, 512, .inl v_depths))] s.heap.size = A at hD ⊢
  have hA : ∀ q : Nat, s.heap.size ≤ q → A q := fun q h => by rw [← hAe]; exact Or.inr h
  have hS : va_S A s.heap s.heap [] := va_S.rf
  have hP : va_P D classes [(a_this, .inr (9, [.ref a_lengths, .ref o_halves, .ref a_leaves, .ref o_sorted, .ref o_starts, .ref o_sums, .ref a_above, .ref a_depths, .int i_known, .int i_nextLeaf, .int i_nextSum])), (a_lengths, .inl (cI, 256, .inl v_lengths)), (a_leaves, .inl (cI, 256, .inl v_leaves)), (a_above, .inl (cI, 512, .inl v_above)), (a_depths, .inl (cI, 512, .inl v_depths))] s.heap := hP
  have hl := lv_entry ([.ref a_this]) (n := 3) (Nat.le_of_ble_eq_true rfl)
  rw [lg_entry_eq]
  generalize (lg_sl ([.ref a_this]) ++ List.replicate (3 - (lg_sl ([.ref a_this])).length) Slot.unset).toArray = ls at hl ⊢
  have hl : lv_has ls 3 [(0, .ref a_this)] := hl
  have C : Cx p s m ([.ref a_this] : List Value).toArray c b_Tree_measure 3 "PrefixMill$Tree" D [(cI, .int), (cL, .long), (cZ, .boolean)] A := ⟨hx, hb, hml, hown, hts, hK, hA⟩
  refine w_Tree_measure_b0 (res := (rv, v_lengths', v_depths')) C ?_ _ _ h s.heap [] ls hl hP hD hS
  intro pc9 H9 locs9 ls9 rv9 v_lengths9 v_depths9 e9 d9 hP9 hD9 hS9
  cases e9
  exact W.iret (v := rv) hx hb hr (fun t ht hW => ⟨⟨rv, (), rfl, rfl, by rw [ht]; exact hP9, va_K.moved hW.alike hK, hD9⟩, hS9.F ht⟩) hS9.2.2 d9
