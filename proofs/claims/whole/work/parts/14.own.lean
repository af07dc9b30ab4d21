abbrev b_Share_give : ByteArray := prog_6_method_5_code
def ws_Share_give : List Cond := .code ({ cls := "PrefixMill$Share", name := "give", desc := "(I)V" } : Jvm.MethodName) b_Share_give 4 none :: tt
theorem d_Share_give_0 : decode b_Share_give 0 = .ok (.aload_n 0, 1) := by decide +kernel
theorem d_Share_give_1 : decode b_Share_give 1 = .ok (.invokevirtual 73, 3) := by decide +kernel
theorem d_Share_give_4 : decode b_Share_give 4 = .ok (.istore_n 2, 1) := by decide +kernel
theorem d_Share_give_5 : decode b_Share_give 5 = .ok (.iconst 0, 1) := by decide +kernel
theorem d_Share_give_6 : decode b_Share_give 6 = .ok (.istore_n 3, 1) := by decide +kernel
theorem d_Share_give_7 : decode b_Share_give 7 = .ok (.iload_n 3, 1) := by decide +kernel
theorem d_Share_give_8 : decode b_Share_give 8 = .ok (.iload_n 1, 1) := by decide +kernel
theorem d_Share_give_9 : decode b_Share_give 9 = .ok (.if_icmp .ge 30, 3) := by decide +kernel
theorem d_Share_give_12 : decode b_Share_give 12 = .ok (.iload_n 2, 1) := by decide +kernel
theorem d_Share_give_13 : decode b_Share_give 13 = .ok (.ifCond .le 26, 3) := by decide +kernel
theorem d_Share_give_16 : decode b_Share_give 16 = .ok (.aload_n 0, 1) := by decide +kernel
theorem d_Share_give_17 : decode b_Share_give 17 = .ok (.getfield 9, 3) := by decide +kernel
theorem d_Share_give_20 : decode b_Share_give 20 = .ok (.aload_n 0, 1) := by decide +kernel
theorem d_Share_give_21 : decode b_Share_give 21 = .ok (.getfield 18, 3) := by decide +kernel
theorem d_Share_give_24 : decode b_Share_give 24 = .ok (.iload_n 3, 1) := by decide +kernel
theorem d_Share_give_25 : decode b_Share_give 25 = .ok (.iload_n 2, 1) := by decide +kernel
theorem d_Share_give_26 : decode b_Share_give 26 = .ok (.irem, 1) := by decide +kernel
theorem d_Share_give_27 : decode b_Share_give 27 = .ok (.iaload, 1) := by decide +kernel
theorem d_Share_give_28 : decode b_Share_give 28 = .ok (.dup2, 1) := by decide +kernel
theorem d_Share_give_29 : decode b_Share_give 29 = .ok (.iaload, 1) := by decide +kernel
theorem d_Share_give_30 : decode b_Share_give 30 = .ok (.iconst 1, 1) := by decide +kernel
theorem d_Share_give_31 : decode b_Share_give 31 = .ok (.iadd, 1) := by decide +kernel
theorem d_Share_give_32 : decode b_Share_give 32 = .ok (.iastore, 1) := by decide +kernel
theorem d_Share_give_33 : decode b_Share_give 33 = .ok (.iinc 3 1, 3) := by decide +kernel
theorem d_Share_give_36 : decode b_Share_give 36 = .ok (.goto (-29), 3) := by decide +kernel
theorem d_Share_give_39 : decode b_Share_give 39 = .ok (.return_, 1) := by decide +kernel
def f_Share_give_b7 (N : Nat) (v_cuts : Nat → Int32) (l1 : Int32)  : Nat → Int32 → Int32 → (Nat → Int32) → (Nat → Int32) → Option ((Nat → Int32) × (Nat → Int32))
  | 0, _, _, _, _ => none
  | z + 1, l2, l3, v_points, v_queue =>
  if l1 ≤ l3 then
  some (v_points, v_queue)
  else
  if l2 ≤ 0 then
  some (v_points, v_queue)
  else
  ck (nz l2) <|
  ck (inb (l3 - l3 / l2 * l2) 12) <|
  ck (inb (v_queue (Int32.toNatClampNeg (l3 - l3 / l2 * l2))) 12) <|
  ck (inb (v_queue (Int32.toNatClampNeg (l3 - l3 / l2 * l2))) 12) <|
  nm (upd v_points (Int32.toNatClampNeg (v_queue (Int32.toNatClampNeg (l3 - l3 / l2 * l2)))) ((v_points (Int32.toNatClampNeg (v_queue (Int32.toNatClampNeg (l3 - l3 / l2 * l2))))) + 1)) fun v_points_7 =>
  nm (l3 + 1) fun l3_8 =>
  f_Share_give_b7 N v_cuts l1  z l2 l3_8 v_points_7 v_queue
def f_Share_give (N : Nat) (v_cuts : Nat → Int32) (l1 : Int32)  (v_points : Nat → Int32) (v_queue : Nat → Int32) : Option ((Nat → Int32) × (Nat → Int32)) :=
  bd2 (f_Share_queueByCuts N v_points v_cuts v_queue) fun r_1 v_queue_2 =>
  f_Share_give_b7 N v_cuts l1  N r_1 0 v_points v_queue_2
abbrev R_Share_give : Room := ({ frames := 1, cells := 0, slots := 0, locals := 23 } : Room)
def E_Share_give (p : Program) (l : Launch) (e : Env) (s : State) (m : MethodId) (args : Array Value) (below : List Frame) (meth : Method) (c : Code) (Q : State → Prop) (A : Nat → Prop) (D : va_G) (cI cL cZ : ClassId) (a_this : Nat) (a_points : Nat) (a_cuts : Nat) (a_queue : Nat) (o_owners : Nat) (o_takes : Nat) (o_bases : Nat) (o_ranked : Nat) (o_starts : Nat) (o_numbers : Nat) (o_walk : Nat) (i_order : Int32) (i_next : Int32) (v_cuts : Nat → Int32) (l1 : Int32) (res : (Nat → Int32) × (Nat → Int32)) : Prop := ∀ (pc : Nat) (H : Heap) (locs : List Loc) (ls : Array Slot) (v_points : Nat → Int32) (v_queue : Nat → Int32), some (v_points, v_queue) = some res → decode b_Share_give pc = .ok (.return_, 1) → va_P D classes [(a_this, .inr (6, [.ref a_points, .ref a_cuts, .ref a_queue, .ref o_owners, .ref o_takes, .ref o_bases, .ref o_ranked, .ref o_starts, .ref o_numbers, .ref o_walk, .int i_order, .int i_next])), (a_points, .inl (cI, 12, .inl v_points)), (a_cuts, .inl (cI, 12, .inl v_cuts)), (a_queue, .inl (cI, 12, .inl v_queue))] H → va_D A [(a_this, .inr (6, [.ref a_points, .ref a_cuts, .ref a_queue, .ref o_owners, .ref o_takes, .ref o_bases, .ref o_ranked, .ref o_starts, .ref o_numbers, .ref o_walk, .int i_order, .int i_next])), (a_points, .inl (cI, 12, .inl v_points)), (a_cuts, .inl (cI, 12, .inl v_cuts)), (a_queue, .inl (cI, 12, .inl v_queue))] → va_S A s.heap H locs → W p l e R_Share_give s m args below meth c H locs 0 0 Q (F0 m pc ls [])
def I_Share_give_b7 (p : Program) (l : Launch) (e : Env) (s : State) (m : MethodId) (args : Array Value) (below : List Frame) (meth : Method) (c : Code) (Q : State → Prop) (A : Nat → Prop) (D : va_G) (cI cL cZ : ClassId) (a_this : Nat) (a_points : Nat) (a_cuts : Nat) (a_queue : Nat) (o_owners : Nat) (o_takes : Nat) (o_bases : Nat) (o_ranked : Nat) (o_starts : Nat) (o_numbers : Nat) (o_walk : Nat) (i_order : Int32) (i_next : Int32) (v_cuts : Nat → Int32) (l1 : Int32) (res : (Nat → Int32) × (Nat → Int32)) (kf : Int32 → Int32 → (Nat → Int32) → (Nat → Int32) → Option ((Nat → Int32) × (Nat → Int32))) : Prop := ∀ (l2 : Int32) (l3 : Int32) (v_points : Nat → Int32) (v_queue : Nat → Int32), kf l2 l3 v_points v_queue = some res → ∀ (H : Heap) (locs : List Loc) (ls : Array Slot), lv_has ls 4 [(0, .ref a_this), (1, .int l1), (2, .int l2), (3, .int l3)] → va_P D classes [(a_this, .inr (6, [.ref a_points, .ref a_cuts, .ref a_queue, .ref o_owners, .ref o_takes, .ref o_bases, .ref o_ranked, .ref o_starts, .ref o_numbers, .ref o_walk, .int i_order, .int i_next])), (a_points, .inl (cI, 12, .inl v_points)), (a_cuts, .inl (cI, 12, .inl v_cuts)), (a_queue, .inl (cI, 12, .inl v_queue))] H → va_D A [(a_this, .inr (6, [.ref a_points, .ref a_cuts, .ref a_queue, .ref o_owners, .ref o_takes, .ref o_bases, .ref o_ranked, .ref o_starts, .ref o_numbers, .ref o_walk, .int i_order, .int i_next])), (a_points, .inl (cI, 12, .inl v_points)), (a_cuts, .inl (cI, 12, .inl v_cuts)), (a_queue, .inl (cI, 12, .inl v_queue))] → va_S A s.heap H locs → W p l e R_Share_give s m args below meth c H locs 0 0 Q (F0 m 7 ls [])
def I_Share_give_b0 (p : Program) (l : Launch) (e : Env) (s : State) (m : MethodId) (args : Array Value) (below : List Frame) (meth : Method) (c : Code) (Q : State → Prop) (A : Nat → Prop) (D : va_G) (cI cL cZ : ClassId) (a_this : Nat) (a_points : Nat) (a_cuts : Nat) (a_queue : Nat) (o_owners : Nat) (o_takes : Nat) (o_bases : Nat) (o_ranked : Nat) (o_starts : Nat) (o_numbers : Nat) (o_walk : Nat) (i_order : Int32) (i_next : Int32) (v_cuts : Nat → Int32) (l1 : Int32) (res : (Nat → Int32) × (Nat → Int32)) (kf : (Nat → Int32) → (Nat → Int32) → Option ((Nat → Int32) × (Nat → Int32))) : Prop := ∀ (v_points : Nat → Int32) (v_queue : Nat → Int32), kf v_points v_queue = some res → ∀ (H : Heap) (locs : List Loc) (ls : Array Slot), lv_has ls 4 [(0, .ref a_this), (1, .int l1)] → va_P D classes [(a_this, .inr (6, [.ref a_points, .ref a_cuts, .ref a_queue, .ref o_owners, .ref o_takes, .ref o_bases, .ref o_ranked, .ref o_starts, .ref o_numbers, .ref o_walk, .int i_order, .int i_next])), (a_points, .inl (cI, 12, .inl v_points)), (a_cuts, .inl (cI, 12, .inl v_cuts)), (a_queue, .inl (cI, 12, .inl v_queue))] H → va_D A [(a_this, .inr (6, [.ref a_points, .ref a_cuts, .ref a_queue, .ref o_owners, .ref o_takes, .ref o_bases, .ref o_ranked, .ref o_starts, .ref o_numbers, .ref o_walk, .int i_order, .int i_next])), (a_points, .inl (cI, 12, .inl v_points)), (a_cuts, .inl (cI, 12, .inl v_cuts)), (a_queue, .inl (cI, 12, .inl v_queue))] → va_S A s.heap H locs → W p l e R_Share_give s m args below meth c H locs 0 0 Q (F0 m 0 ls [])
set_option maxHeartbeats 4000000 in
set_option maxRecDepth 100000 in
theorem w_Share_give_b7 {p : Program} {l : Launch} {e : Env} {s : State} {m : MethodId} {args : Array Value} {below : List Frame} {meth : Method} {c : Code} {Q : State → Prop} {A : Nat → Prop} {D : va_G} {cI cL cZ : ClassId} {a_this : Nat} {a_points : Nat} {a_cuts : Nat} {a_queue : Nat} {o_owners : Nat} {o_takes : Nat} {o_bases : Nat} {o_ranked : Nat} {o_starts : Nat} {o_numbers : Nat} {o_walk : Nat} {i_order : Int32} {i_next : Int32} {v_cuts : Nat → Int32} {l1 : Int32} {N : Nat} {res : (Nat → Int32) × (Nat → Int32)}  (C : Cx p s m args c b_Share_give 4 "PrefixMill$Share" D [(cI, .int), (cL, .long), (cZ, .boolean)] A) (hret : E_Share_give p l e s m args below meth c Q A D cI cL cZ a_this a_points a_cuts a_queue o_owners o_takes o_bases o_ranked o_starts o_numbers o_walk i_order i_next v_cuts l1 res)  : ∀ z : Nat, I_Share_give_b7 p l e s m args below meth c Q A D cI cL cZ a_this a_points a_cuts a_queue o_owners o_takes o_bases o_ranked o_starts o_numbers o_walk i_order i_next v_cuts l1 res (f_Share_give_b7 N v_cuts l1  z) := by
  obtain ⟨hx, hb, hml, hown, hts, hK, hA⟩ := C
  intro z
  induction z with
  | zero => intro l2 l3 v_points v_queue h; cases h
  | succ z ih =>
    intro l2 l3 v_points v_queue h H locs ls hl hP hD hS
    refine lv_iload_n hx hb d_Share_give_7 rfl (lv_at hl 3 rfl) ?_
    refine lv_iload_n hx hb d_Share_give_8 rfl (lv_at hl 1 rfl) ?_
    refine lv_icmp_ge (tgt := 39) hx hb d_Share_give_9 (by decide) (fun c_1 => ?_) (fun c_1 => ?_)
    · replace h := if_t h c_1
      exact hret _ _ _ _ v_points v_queue h d_Share_give_39 hP hD hS
    · replace h := if_f h c_1
      refine lv_iload_n hx hb d_Share_give_12 rfl (lv_at hl 2 rfl) ?_
      refine lv_if_le (tgt := 39) hx hb d_Share_give_13 (by decide) (fun c_2 => ?_) (fun c_2 => ?_)
      · replace h := if_t h c_2
        exact hret _ _ _ _ v_points v_queue h d_Share_give_39 hP hD hS
      · replace h := if_f h c_2
        refine lv_aload_n hx hb d_Share_give_16 rfl (lv_at hl 0 rfl) ?_
        refine va_get hx hb hts in_Share hown hK hP 0 rfl rfl 0 (by decide) (hts _ m_211) (fun _ h9 => h9) rfl d_Share_give_17 ?_
        refine lv_aload_n hx hb d_Share_give_20 rfl (lv_at hl 0 rfl) ?_
        refine va_get hx hb hts in_Share hown hK hP 0 rfl rfl 2 (by decide) (hts _ m_213) (fun _ h9 => h9) rfl d_Share_give_21 ?_
        refine lv_iload_n hx hb d_Share_give_24 rfl (lv_at hl 3 rfl) ?_
        refine lv_iload_n hx hb d_Share_give_25 rfl (lv_at hl 2 rfl) ?_
        obtain ⟨g_3, h⟩ := ck_s h
        refine lv_irem hx hb d_Share_give_26 (nz_s g_3) ?_
        obtain ⟨g_4, h⟩ := ck_s h
        refine va_iald hx hb hK hP 3 0 rfl rfl (inb_s g_4) d_Share_give_27 ?_
        refine lv_dup2_11 hx hb d_Share_give_28 rfl rfl ?_
        obtain ⟨g_5, h⟩ := ck_s h
        refine va_iald hx hb hK hP 1 0 rfl rfl (inb_s g_5) d_Share_give_29 ?_
        refine lv_iconst (v := 1) hx hb d_Share_give_30 (by decide) ?_
        refine lv_iadd hx hb d_Share_give_31 ?_
        obtain ⟨g_6, h⟩ := ck_s h
        refine va_iast hx hb hK hP hD hS 1 0 rfl rfl (inb_s g_6) d_Share_give_32 (fun H locs hP hD hS => ?_)
        obtain ⟨v_points_7, ev_points_7⟩ : ∃ y, y = (upd v_points (Int32.toNatClampNeg (v_queue (Int32.toNatClampNeg (l3 - l3 / l2 * l2)))) ((v_points (Int32.toNatClampNeg (v_queue (Int32.toNatClampNeg (l3 - l3 / l2 * l2))))) + 1)) := ⟨_, rfl⟩
        replace h := nm_s h ev_points_7
        have hP : va_P D classes [(a_this, .inr (6, [.ref a_points, .ref a_cuts, .ref a_queue, .ref o_owners, .ref o_takes, .ref o_bases, .ref o_ranked, .ref o_starts, .ref o_numbers, .ref o_walk, .int i_order, .int i_next])), (a_points, .inl (cI, 12, .inl v_points_7)), (a_cuts, .inl (cI, 12, .inl v_cuts)), (a_queue, .inl (cI, 12, .inl v_queue))] H := by rw [ev_points_7]; exact hP
        have hD : va_D A [(a_this, .inr (6, [.ref a_points, .ref a_cuts, .ref a_queue, .ref o_owners, .ref o_takes, .ref o_bases, .ref o_ranked, .ref o_starts, .ref o_numbers, .ref o_walk, .int i_order, .int i_next])), (a_points, .inl (cI, 12, .inl v_points_7)), (a_cuts, .inl (cI, 12, .inl v_cuts)), (a_queue, .inl (cI, 12, .inl v_queue))] := by rw [ev_points_7]; exact hD
        obtain ⟨l3_8, el3_8⟩ : ∃ y : Int32, y = l3 + 1 := ⟨_, rfl⟩
        replace h := nm_s h el3_8
        refine lv_iinc (v := l3_8) (lv' := [(3, .int l3_8), (0, .ref a_this), (1, .int l1), (2, .int l2)]) hx hb d_Share_give_33 hl (k := 3) rfl (by rw [el3_8]; rfl) (by decide) rfl (fun ls hl => ?_)
        refine lv_goto (tgt := 7) hx hb d_Share_give_36 (by decide) ?_
        exact ih _ _ _ _ h H locs ls (lv_sub hl [1, 2, 3, 0] rfl) hP hD hS
set_option maxHeartbeats 4000000 in
set_option maxRecDepth 100000 in
theorem w_Share_give_b0 {p : Program} {l : Launch} {e : Env} {s : State} {m : MethodId} {args : Array Value} {below : List Frame} {meth : Method} {c : Code} {Q : State → Prop} {A : Nat → Prop} {D : va_G} {cI cL cZ : ClassId} {a_this : Nat} {a_points : Nat} {a_cuts : Nat} {a_queue : Nat} {o_owners : Nat} {o_takes : Nat} {o_bases : Nat} {o_ranked : Nat} {o_starts : Nat} {o_numbers : Nat} {o_walk : Nat} {i_order : Int32} {i_next : Int32} {v_cuts : Nat → Int32} {l1 : Int32} {N : Nat} {res : (Nat → Int32) × (Nat → Int32)}  (C : Cx p s m args c b_Share_give 4 "PrefixMill$Share" D [(cI, .int), (cL, .long), (cZ, .boolean)] A) (hret : E_Share_give p l e s m args below meth c Q A D cI cL cZ a_this a_points a_cuts a_queue o_owners o_takes o_bases o_ranked o_starts o_numbers o_walk i_order i_next v_cuts l1 res)  : I_Share_give_b0 p l e s m args below meth c Q A D cI cL cZ a_this a_points a_cuts a_queue o_owners o_takes o_bases o_ranked o_starts o_numbers o_walk i_order i_next v_cuts l1 res (f_Share_give N v_cuts l1 ) := by
  obtain ⟨hx, hb, hml, hown, hts, hK, hA⟩ := C
  intro v_points v_queue h H locs ls hl hP hD hS
  unfold f_Share_give at h
  refine lv_aload_n hx hb d_Share_give_0 rfl (lv_at hl 0 rfl) ?_
  obtain ⟨r_1, v_queue_2, hc_3, h⟩ := bd2_s h
  have hPc := hP.sub (ws' := [(a_this, .inr (6, [.ref a_points, .ref a_cuts, .ref a_queue, .ref o_owners, .ref o_takes, .ref o_bases, .ref o_ranked, .ref o_starts, .ref o_numbers, .ref o_walk, .int i_order, .int i_next])), (a_points, .inl (cI, 12, .inl v_points)), (a_cuts, .inl (cI, 12, .inl v_cuts)), (a_queue, .inl (cI, 12, .inl v_queue))]) [0, 1, 2, 3] rfl
  have hDc := hD.sub (ws' := [(a_this, .inr (6, [.ref a_points, .ref a_cuts, .ref a_queue, .ref o_owners, .ref o_takes, .ref o_bases, .ref o_ranked, .ref o_starts, .ref o_numbers, .ref o_walk, .int i_order, .int i_next])), (a_points, .inl (cI, 12, .inl v_points)), (a_cuts, .inl (cI, 12, .inl v_cuts)), (a_queue, .inl (cI, 12, .inl v_queue))]) [0, 1, 2, 3] (by decide) rfl
  have hFc := va_free (wc := [(a_this, .inr (6, [.ref a_points, .ref a_cuts, .ref a_queue, .ref o_owners, .ref o_takes, .ref o_bases, .ref o_ranked, .ref o_starts, .ref o_numbers, .ref o_walk, .int i_order, .int i_next])), (a_points, .inl (cI, 12, .inl v_points)), (a_cuts, .inl (cI, 12, .inl v_cuts)), (a_queue, .inl (cI, 12, .inl v_queue))]) hD hS hA [0, 1, 2, 3] rfl
  refine va_calli (va_runV (As := []) (rest := []) ⟨hx, hb, hml, hown, hts⟩ (c_Share_queueByCuts l D cI cL cZ H.size N a_this a_points a_cuts a_queue o_owners o_takes o_bases o_ranked o_starts o_numbers o_walk i_order i_next v_points v_cuts v_queue r_1 v_queue_2 hc_3) ⟨(my_cb 0 hts m_545 rfl rfl (hts _ m_72) (hts _ m_542) (by decide +kernel) ⟨Nat.le_of_ble_eq_true rfl, Nat.le_of_ble_eq_true rfl⟩), hts _ m_544, hts _ m_12⟩ ⟨fun a U g mk q => by obtain ⟨q0, q1, qP, qK, qD⟩ := q; exact ⟨q0, q1, qP, va_K.moved (u := U) (U := U.calling g mk a) (Vm.Alike.refl U.vm) qK, qD⟩, va_recv hK hPc (ci := 6) (q0 := 0) rfl rfl, fun U hU hW => ⟨rfl, by rw [hU], by rw [hU]; exact hPc, va_K.moved hW.alike hK, hDc.weaken (fun _ _ _ _ => trivial)⟩⟩ rfl rfl hl.1 rfl (lv_room (Nat.le_of_ble_eq_true rfl)) d_Share_give_1 ⟨Nat.zero_le _, Nat.zero_le _⟩) hS (fun q _ h => hFc q h) hFc (fun rr u t H1 locs ht hvm hw hB hz1 hk1 hS => ?_)
  obtain ⟨hP1, hK1, hD1⟩ := hB
  rw [ht] at hP1
  subst hw
  obtain ⟨hP, hD⟩ := va_join (wr := []) (w1 := [(a_this, .inr (6, [.ref a_points, .ref a_cuts, .ref a_queue, .ref o_owners, .ref o_takes, .ref o_bases, .ref o_ranked, .ref o_starts, .ref o_numbers, .ref o_walk, .int i_order, .int i_next])), (a_points, .inl (cI, 12, .inl v_points)), (a_cuts, .inl (cI, 12, .inl v_cuts)), (a_queue, .inl (cI, 12, .inl v_queue_2))]) hP hD [0, 1, 2, 3] [] rfl rfl (by decide) (by decide) hk1 hFc hP1 hD1
  clear hPc hDc hFc hk1 hP1 hD1 hK1
  generalize H1 = H at hP hS ⊢
  have hP : va_P D classes [(a_this, .inr (6, [.ref a_points, .ref a_cuts, .ref a_queue, .ref o_owners, .ref o_takes, .ref o_bases, .ref o_ranked, .ref o_starts, .ref o_numbers, .ref o_walk, .int i_order, .int i_next])), (a_points, .inl (cI, 12, .inl v_points)), (a_cuts, .inl (cI, 12, .inl v_cuts)), (a_queue, .inl (cI, 12, .inl v_queue_2))] H := hP.sub [0, 1, 2, 3] rfl
  have hD : va_D A [(a_this, .inr (6, [.ref a_points, .ref a_cuts, .ref a_queue, .ref o_owners, .ref o_takes, .ref o_bases, .ref o_ranked, .ref o_starts, .ref o_numbers, .ref o_walk, .int i_order, .int i_next])), (a_points, .inl (cI, 12, .inl v_points)), (a_cuts, .inl (cI, 12, .inl v_cuts)), (a_queue, .inl (cI, 12, .inl v_queue_2))] := hD.sub [0, 1, 2, 3] (by decide) rfl
  refine lv_istore_n (lv' := [(2, .int r_1), (0, .ref a_this), (1, .int l1)]) hx hb d_Share_give_4 rfl hl (by decide) rfl (fun ls hl => ?_)
  refine lv_iconst (v := 0) hx hb d_Share_give_5 (by decide) ?_
  refine lv_istore_n (lv' := [(3, .int 0), (2, .int r_1), (0, .ref a_this), (1, .int l1)]) hx hb d_Share_give_6 rfl hl (by decide) rfl (fun ls hl => ?_)
  exact w_Share_give_b7 ⟨hx, hb, hml, hown, hts, hK, hA⟩ hret  N _ _ _ _ h H locs ls (lv_sub hl [2, 3, 1, 0] rfl) hP hD hS
set_option maxHeartbeats 4000000 in
set_option maxRecDepth 100000 in
theorem c_Share_give (l : Launch) (D : va_G) (cI cL cZ : ClassId) (sz N : Nat) (a_this : Nat) (a_points : Nat) (a_cuts : Nat) (a_queue : Nat) (o_owners : Nat) (o_takes : Nat) (o_bases : Nat) (o_ranked : Nat) (o_starts : Nat) (o_numbers : Nat) (o_walk : Nat) (i_order : Int32) (i_next : Int32) (v_points : Nat → Int32) (v_cuts : Nat → Int32) (v_queue : Nat → Int32) (l1 : Int32) (v_points' : Nat → Int32) (v_queue' : Nat → Int32) (h : f_Share_give N v_cuts l1 v_points v_queue = some (v_points', v_queue')) : Met l ({ cls := "PrefixMill$Share", name := "give", desc := "(I)V" } : Jvm.MethodName) ws_Share_give R_Share_give (va_Pc [.ref a_this, .int l1] (fun U => U.heap.size = sz ∧ va_P D classes [(a_this, .inr (6, [.ref a_points, .ref a_cuts, .ref a_queue, .ref o_owners, .ref o_takes, .ref o_bases, .ref o_ranked, .ref o_starts, .ref o_numbers, .ref o_walk, .int i_order, .int i_next])), (a_points, .inl (cI, 12, .inl v_points)), (a_cuts, .inl (cI, 12, .inl v_cuts)), (a_queue, .inl (cI, 12, .inl v_queue))] U.heap ∧ va_K D classes [(cI, .int), (cL, .long), (cZ, .boolean)] U ∧ va_D (fun _ => True) [(a_this, .inr (6, [.ref a_points, .ref a_cuts, .ref a_queue, .ref o_owners, .ref o_takes, .ref o_bases, .ref o_ranked, .ref o_starts, .ref o_numbers, .ref o_walk, .int i_order, .int i_next])), (a_points, .inl (cI, 12, .inl v_points)), (a_cuts, .inl (cI, 12, .inl v_cuts)), (a_queue, .inl (cI, 12, .inl v_queue))])) (va_Qv (fun _ : Unit => True) (fun _ t => va_P D classes [(a_this, .inr (6, [.ref a_points, .ref a_cuts, .ref a_queue, .ref o_owners, .ref o_takes, .ref o_bases, .ref o_ranked, .ref o_starts, .ref o_numbers, .ref o_walk, .int i_order, .int i_next])), (a_points, .inl (cI, 12, .inl v_points')), (a_cuts, .inl (cI, 12, .inl v_cuts)), (a_queue, .inl (cI, 12, .inl v_queue'))] t.heap ∧ va_K D classes [(cI, .int), (cL, .long), (cZ, .boolean)] t ∧ va_D (va_A [(a_this, .inr (6, [.ref a_points, .ref a_cuts, .ref a_queue, .ref o_owners, .ref o_takes, .ref o_bases, .ref o_ranked, .ref o_starts, .ref o_numbers, .ref o_walk, .int i_order, .int i_next])), (a_points, .inl (cI, 12, .inl v_points)), (a_cuts, .inl (cI, 12, .inl v_cuts)), (a_queue, .inl (cI, 12, .inl v_queue))] sz) [(a_this, .inr (6, [.ref a_points, .ref a_cuts, .ref a_queue, .ref o_owners, .ref o_takes, .ref o_bases, .ref o_ranked, .ref o_starts, .ref o_numbers, .ref o_walk, .int i_order, .int i_next])), (a_points, .inl (cI, 12, .inl v_points')), (a_cuts, .inl (cI, 12, .inl v_cuts)), (a_queue, .inl (cI, 12, .inl v_queue'))]) (va_A [(a_this, .inr (6, [.ref a_points, .ref a_cuts, .ref a_queue, .ref o_owners, .ref o_takes, .ref o_bases, .ref o_ranked, .ref o_starts, .ref o_numbers, .ref o_walk, .int i_order, .int i_next])), (a_points, .inl (cI, 12, .inl v_points)), (a_cuts, .inl (cI, 12, .inl v_cuts)), (a_queue, .inl (cI, 12, .inl v_queue))] sz)) 0 0 (va_A [(a_this, .inr (6, [.ref a_points, .ref a_cuts, .ref a_queue, .ref o_owners, .ref o_takes, .ref o_bases, .ref o_ranked, .ref o_starts, .ref o_numbers, .ref o_walk, .int i_order, .int i_next])), (a_points, .inl (cI, 12, .inl v_points)), (a_cuts, .inl (cI, 12, .inl v_cuts)), (a_queue, .inl (cI, 12, .inl v_queue))] sz) := by
  refine Met.ofW (cc := b_Share_give) (maxL := 4) (ret := none) (by decide) rfl ?_
  intro p e s m args below meth c s₁ B hml hv
  obtain ⟨rfl, hsz, hP, hK, hD0⟩ := hv
  have hx := B.exec
  have hb := B.bytes
  have hr := B.returns
  have hts0 := atoms_spec (ws := ws_Share_give) B.pre
  have hts := gd_tl hts0
  clear hts0
  have hown : s.vm.findClass "PrefixMill$Share" = some m.cls := findClass_of_methodNamed B.named
  have hlocks := B.notSynchronized
  subst hsz
  have hD := hD0.self (sz := s.heap.size)
  generalize hAe : va_A [(a_this, .inr (6, [.ref a_points, .ref a_cuts, .ref a_queue, .ref o_owners, .ref o_takes, .ref o_bases, .ref o_ranked, .ref o_starts, .ref o_numbers, .ref o_walk, .int i_order, .int i_next])), (a_points, .inl (cI, 12, .inl v_points)), (a_cuts, .inl (cI, 12, .inl v_cuts)), (a_queue, .inl (cI, 12, .inl v_queue))] s.heap.size = A at hD ⊢
  have hA : ∀ q : Nat, s.heap.size ≤ q → A q := fun q h => by rw [← hAe]; exact Or.inr h
  have hS : va_S A s.heap s.heap [] := va_S.rf
  have hP : va_P D classes [(a_this, .inr (6, [.ref a_points, .ref a_cuts, .ref a_queue, .ref o_owners, .ref o_takes, .ref o_bases, .ref o_ranked, .ref o_starts, .ref o_numbers, .ref o_walk, .int i_order, .int i_next])), (a_points, .inl (cI, 12, .inl v_points)), (a_cuts, .inl (cI, 12, .inl v_cuts)), (a_queue, .inl (cI, 12, .inl v_queue))] s.heap := hP
  have hl := lv_entry ([.ref a_this, .int l1]) (n := 4) (Nat.le_of_ble_eq_true rfl)
  rw [lg_entry_eq]
  generalize (lg_sl ([.ref a_this, .int l1]) ++ List.replicate (4 - (lg_sl ([.ref a_this, .int l1])).length) Slot.unset).toArray = ls at hl ⊢
  have hl : lv_has ls 4 [(0, .ref a_this), (1, .int l1)] := hl
  have C : Cx p s m ([.ref a_this, .int l1] : List Value).toArray c b_Share_give 4 "PrefixMill$Share" D [(cI, .int), (cL, .long), (cZ, .boolean)] A := ⟨hx, hb, hml, hown, hts, hK, hA⟩
  refine w_Share_give_b0 (res := (v_points', v_queue')) C ?_ _ _ h s.heap [] ls hl hP hD hS
  intro pc9 H9 locs9 ls9 v_points9 v_queue9 e9 d9 hP9 hD9 hS9
  cases e9
  exact W.vret hx hb hr (fun t ht hW => ⟨⟨(), rfl, trivial, by rw [ht]; exact hP9, va_K.moved hW.alike hK, hD9⟩, hS9.F ht⟩) hS9.2.2 d9
abbrev b_Share_takeAway : ByteArray := prog_6_method_7_code
def ws_Share_takeAway : List Cond := .code ({ cls := "PrefixMill$Share", name := "takeAway", desc := "(I)V" } : Jvm.MethodName) b_Share_takeAway 5 none :: tt
theorem d_Share_takeAway_0 : decode b_Share_takeAway 0 = .ok (.iconst 0, 1) := by decide +kernel
theorem d_Share_takeAway_1 : decode b_Share_takeAway 1 = .ok (.istore_n 2, 1) := by decide +kernel
theorem d_Share_takeAway_2 : decode b_Share_takeAway 2 = .ok (.iload_n 2, 1) := by decide +kernel
theorem d_Share_takeAway_3 : decode b_Share_takeAway 3 = .ok (.iload_n 1, 1) := by decide +kernel
theorem d_Share_takeAway_4 : decode b_Share_takeAway 4 = .ok (.if_icmp .ge 56, 3) := by decide +kernel
theorem d_Share_takeAway_7 : decode b_Share_takeAway 7 = .ok (.iconst 0, 1) := by decide +kernel
theorem d_Share_takeAway_8 : decode b_Share_takeAway 8 = .ok (.istore_n 3, 1) := by decide +kernel
theorem d_Share_takeAway_9 : decode b_Share_takeAway 9 = .ok (.iconst 1, 1) := by decide +kernel
theorem d_Share_takeAway_10 : decode b_Share_takeAway 10 = .ok (.istore 4, 2) := by decide +kernel
theorem d_Share_takeAway_12 : decode b_Share_takeAway 12 = .ok (.iload 4, 2) := by decide +kernel
theorem d_Share_takeAway_14 : decode b_Share_takeAway 14 = .ok (.bipush 12, 2) := by decide +kernel
theorem d_Share_takeAway_16 : decode b_Share_takeAway 16 = .ok (.if_icmp .ge 28, 3) := by decide +kernel
theorem d_Share_takeAway_19 : decode b_Share_takeAway 19 = .ok (.aload_n 0, 1) := by decide +kernel
theorem d_Share_takeAway_20 : decode b_Share_takeAway 20 = .ok (.getfield 9, 3) := by decide +kernel
theorem d_Share_takeAway_23 : decode b_Share_takeAway 23 = .ok (.iload 4, 2) := by decide +kernel
theorem d_Share_takeAway_25 : decode b_Share_takeAway 25 = .ok (.iaload, 1) := by decide +kernel
theorem d_Share_takeAway_26 : decode b_Share_takeAway 26 = .ok (.aload_n 0, 1) := by decide +kernel
theorem d_Share_takeAway_27 : decode b_Share_takeAway 27 = .ok (.getfield 9, 3) := by decide +kernel
theorem d_Share_takeAway_30 : decode b_Share_takeAway 30 = .ok (.iload_n 3, 1) := by decide +kernel
theorem d_Share_takeAway_31 : decode b_Share_takeAway 31 = .ok (.iaload, 1) := by decide +kernel
theorem d_Share_takeAway_32 : decode b_Share_takeAway 32 = .ok (.if_icmp .le 6, 3) := by decide +kernel
theorem d_Share_takeAway_35 : decode b_Share_takeAway 35 = .ok (.iload 4, 2) := by decide +kernel
theorem d_Share_takeAway_37 : decode b_Share_takeAway 37 = .ok (.istore_n 3, 1) := by decide +kernel
theorem d_Share_takeAway_38 : decode b_Share_takeAway 38 = .ok (.iinc 4 1, 3) := by decide +kernel
theorem d_Share_takeAway_41 : decode b_Share_takeAway 41 = .ok (.goto (-29), 3) := by decide +kernel
theorem d_Share_takeAway_44 : decode b_Share_takeAway 44 = .ok (.aload_n 0, 1) := by decide +kernel
theorem d_Share_takeAway_45 : decode b_Share_takeAway 45 = .ok (.getfield 9, 3) := by decide +kernel
theorem d_Share_takeAway_48 : decode b_Share_takeAway 48 = .ok (.iload_n 3, 1) := by decide +kernel
theorem d_Share_takeAway_49 : decode b_Share_takeAway 49 = .ok (.dup2, 1) := by decide +kernel
theorem d_Share_takeAway_50 : decode b_Share_takeAway 50 = .ok (.iaload, 1) := by decide +kernel
theorem d_Share_takeAway_51 : decode b_Share_takeAway 51 = .ok (.iconst 1, 1) := by decide +kernel
theorem d_Share_takeAway_52 : decode b_Share_takeAway 52 = .ok (.isub, 1) := by decide +kernel
theorem d_Share_takeAway_53 : decode b_Share_takeAway 53 = .ok (.iastore, 1) := by decide +kernel
theorem d_Share_takeAway_54 : decode b_Share_takeAway 54 = .ok (.iinc 2 1, 3) := by decide +kernel
theorem d_Share_takeAway_57 : decode b_Share_takeAway 57 = .ok (.goto (-55), 3) := by decide +kernel
theorem d_Share_takeAway_60 : decode b_Share_takeAway 60 = .ok (.return_, 1) := by decide +kernel
def f_Share_takeAway_b38 (N : Nat) (l1 : Int32) (k2 : Int32 → (Nat → Int32) → Option ((Nat → Int32))) (k12 : Int32 → Int32 → Int32 → (Nat → Int32) → Option ((Nat → Int32))) (l2 : Int32) (l3 : Int32) (l4 : Int32) (v_points : Nat → Int32) : Option ((Nat → Int32)) :=
  nm (l4 + 1) fun l4_1 =>
  k12 l2 l3 l4_1 v_points
def f_Share_takeAway_b44 (N : Nat) (l1 : Int32) (k2 : Int32 → (Nat → Int32) → Option ((Nat → Int32))) (l2 : Int32) (l3 : Int32) (v_points : Nat → Int32) : Option ((Nat → Int32)) :=
  ck (inb l3 12) <|
  ck (inb l3 12) <|
  nm (upd v_points (Int32.toNatClampNeg l3) ((v_points (Int32.toNatClampNeg l3)) - 1)) fun v_points_3 =>
  nm (l2 + 1) fun l2_4 =>
  k2 l2_4 v_points_3
def f_Share_takeAway_b12 (N : Nat) (l1 : Int32) (k2 : Int32 → (Nat → Int32) → Option ((Nat → Int32))) : Nat → Int32 → Int32 → Int32 → (Nat → Int32) → Option ((Nat → Int32))
  | 0, _, _, _, _ => none
  | z + 1, l2, l3, l4, v_points =>
  if 12 ≤ l4 then
  f_Share_takeAway_b44 N l1 k2 l2 l3 v_points
  else
  ck (inb l4 12) <|
  ck (inb l3 12) <|
  if (v_points (Int32.toNatClampNeg l4)) ≤ (v_points (Int32.toNatClampNeg l3)) then
  f_Share_takeAway_b38 N l1 k2 (f_Share_takeAway_b12 N l1 k2 z) l2 l3 l4 v_points
  else
  f_Share_takeAway_b38 N l1 k2 (f_Share_takeAway_b12 N l1 k2 z) l2 l4 l4 v_points
def f_Share_takeAway_b2 (N : Nat) (l1 : Int32)  : Nat → Int32 → (Nat → Int32) → Option ((Nat → Int32))
  | 0, _, _ => none
  | z + 1, l2, v_points =>
  if l1 ≤ l2 then
  some (v_points)
  else
  f_Share_takeAway_b12 N l1 (f_Share_takeAway_b2 N l1  z) N l2 0 1 v_points
def f_Share_takeAway (N : Nat) (l1 : Int32)  (v_points : Nat → Int32) : Option ((Nat → Int32)) :=
  f_Share_takeAway_b2 N l1  N 0 v_points
abbrev R_Share_takeAway : Room := ({ frames := 0, cells := 0, slots := 0, locals := 0 } : Room)
def E_Share_takeAway (p : Program) (l : Launch) (e : Env) (s : State) (m : MethodId) (args : Array Value) (below : List Frame) (meth : Method) (c : Code) (Q : State → Prop) (A : Nat → Prop) (D : va_G) (cI cL cZ : ClassId) (a_this : Nat) (a_points : Nat) (o_cuts : Nat) (o_queue : Nat) (o_owners : Nat) (o_takes : Nat) (o_bases : Nat) (o_ranked : Nat) (o_starts : Nat) (o_numbers : Nat) (o_walk : Nat) (i_order : Int32) (i_next : Int32) (l1 : Int32) (res : (Nat → Int32)) : Prop := ∀ (pc : Nat) (H : Heap) (locs : List Loc) (ls : Array Slot) (v_points : Nat → Int32), some (v_points) = some res → decode b_Share_takeAway pc = .ok (.return_, 1) → va_P D classes [(a_this, .inr (6, [.ref a_points, .ref o_cuts, .ref o_queue, .ref o_owners, .ref o_takes, .ref o_bases, .ref o_ranked, .ref o_starts, .ref o_numbers, .ref o_walk, .int i_order, .int i_next])), (a_points, .inl (cI, 12, .inl v_points))] H → va_D A [(a_this, .inr (6, [.ref a_points, .ref o_cuts, .ref o_queue, .ref o_owners, .ref o_takes, .ref o_bases, .ref o_ranked, .ref o_starts, .ref o_numbers, .ref o_walk, .int i_order, .int i_next])), (a_points, .inl (cI, 12, .inl v_points))] → va_S A s.heap H locs → W p l e R_Share_takeAway s m args below meth c H locs 0 0 Q (F0 m pc ls [])
def I_Share_takeAway_b38 (p : Program) (l : Launch) (e : Env) (s : State) (m : MethodId) (args : Array Value) (below : List Frame) (meth : Method) (c : Code) (Q : State → Prop) (A : Nat → Prop) (D : va_G) (cI cL cZ : ClassId) (a_this : Nat) (a_points : Nat) (o_cuts : Nat) (o_queue : Nat) (o_owners : Nat) (o_takes : Nat) (o_bases : Nat) (o_ranked : Nat) (o_starts : Nat) (o_numbers : Nat) (o_walk : Nat) (i_order : Int32) (i_next : Int32) (l1 : Int32) (res : (Nat → Int32)) (kf : Int32 → Int32 → Int32 → (Nat → Int32) → Option ((Nat → Int32))) : Prop := ∀ (l2 : Int32) (l3 : Int32) (l4 : Int32) (v_points : Nat → Int32), kf l2 l3 l4 v_points = some res → ∀ (H : Heap) (locs : List Loc) (ls : Array Slot), lv_has ls 5 [(0, .ref a_this), (1, .int l1), (2, .int l2), (3, .int l3), (4, .int l4)] → va_P D classes [(a_this, .inr (6, [.ref a_points, .ref o_cuts, .ref o_queue, .ref o_owners, .ref o_takes, .ref o_bases, .ref o_ranked, .ref o_starts, .ref o_numbers, .ref o_walk, .int i_order, .int i_next])), (a_points, .inl (cI, 12, .inl v_points))] H → va_D A [(a_this, .inr (6, [.ref a_points, .ref o_cuts, .ref o_queue, .ref o_owners, .ref o_takes, .ref o_bases, .ref o_ranked, .ref o_starts, .ref o_numbers, .ref o_walk, .int i_order, .int i_next])), (a_points, .inl (cI, 12, .inl v_points))] → va_S A s.heap H locs → W p l e R_Share_takeAway s m args below meth c H locs 0 0 Q (F0 m 38 ls [])
def I_Share_takeAway_b44 (p : Program) (l : Launch) (e : Env) (s : State) (m : MethodId) (args : Array Value) (below : List Frame) (meth : Method) (c : Code) (Q : State → Prop) (A : Nat → Prop) (D : va_G) (cI cL cZ : ClassId) (a_this : Nat) (a_points : Nat) (o_cuts : Nat) (o_queue : Nat) (o_owners : Nat) (o_takes : Nat) (o_bases : Nat) (o_ranked : Nat) (o_starts : Nat) (o_numbers : Nat) (o_walk : Nat) (i_order : Int32) (i_next : Int32) (l1 : Int32) (res : (Nat → Int32)) (kf : Int32 → Int32 → (Nat → Int32) → Option ((Nat → Int32))) : Prop := ∀ (l2 : Int32) (l3 : Int32) (v_points : Nat → Int32), kf l2 l3 v_points = some res → ∀ (H : Heap) (locs : List Loc) (ls : Array Slot), lv_has ls 5 [(0, .ref a_this), (1, .int l1), (2, .int l2), (3, .int l3)] → va_P D classes [(a_this, .inr (6, [.ref a_points, .ref o_cuts, .ref o_queue, .ref o_owners, .ref o_takes, .ref o_bases, .ref o_ranked, .ref o_starts, .ref o_numbers, .ref o_walk, .int i_order, .int i_next])), (a_points, .inl (cI, 12, .inl v_points))] H → va_D A [(a_this, .inr (6, [.ref a_points, .ref o_cuts, .ref o_queue, .ref o_owners, .ref o_takes, .ref o_bases, .ref o_ranked, .ref o_starts, .ref o_numbers, .ref o_walk, .int i_order, .int i_next])), (a_points, .inl (cI, 12, .inl v_points))] → va_S A s.heap H locs → W p l e R_Share_takeAway s m args below meth c H locs 0 0 Q (F0 m 44 ls [])
def I_Share_takeAway_b12 (p : Program) (l : Launch) (e : Env) (s : State) (m : MethodId) (args : Array Value) (below : List Frame) (meth : Method) (c : Code) (Q : State → Prop) (A : Nat → Prop) (D : va_G) (cI cL cZ : ClassId) (a_this : Nat) (a_points : Nat) (o_cuts : Nat) (o_queue : Nat) (o_owners : Nat) (o_takes : Nat) (o_bases : Nat) (o_ranked : Nat) (o_starts : Nat) (o_numbers : Nat) (o_walk : Nat) (i_order : Int32) (i_next : Int32) (l1 : Int32) (res : (Nat → Int32)) (kf : Int32 → Int32 → Int32 → (Nat → Int32) → Option ((Nat → Int32))) : Prop := ∀ (l2 : Int32) (l3 : Int32) (l4 : Int32) (v_points : Nat → Int32), kf l2 l3 l4 v_points = some res → ∀ (H : Heap) (locs : List Loc) (ls : Array Slot), lv_has ls 5 [(0, .ref a_this), (1, .int l1), (2, .int l2), (3, .int l3), (4, .int l4)] → va_P D classes [(a_this, .inr (6, [.ref a_points, .ref o_cuts, .ref o_queue, .ref o_owners, .ref o_takes, .ref o_bases, .ref o_ranked, .ref o_starts, .ref o_numbers, .ref o_walk, .int i_order, .int i_next])), (a_points, .inl (cI, 12, .inl v_points))] H → va_D A [(a_this, .inr (6, [.ref a_points, .ref o_cuts, .ref o_queue, .ref o_owners, .ref o_takes, .ref o_bases, .ref o_ranked, .ref o_starts, .ref o_numbers, .ref o_walk, .int i_order, .int i_next])), (a_points, .inl (cI, 12, .inl v_points))] → va_S A s.heap H locs → W p l e R_Share_takeAway s m args below meth c H locs 0 0 Q (F0 m 12 ls [])
def I_Share_takeAway_b2 (p : Program) (l : Launch) (e : Env) (s : State) (m : MethodId) (args : Array Value) (below : List Frame) (meth : Method) (c : Code) (Q : State → Prop) (A : Nat → Prop) (D : va_G) (cI cL cZ : ClassId) (a_this : Nat) (a_points : Nat) (o_cuts : Nat) (o_queue : Nat) (o_owners : Nat) (o_takes : Nat) (o_bases : Nat) (o_ranked : Nat) (o_starts : Nat) (o_numbers : Nat) (o_walk : Nat) (i_order : Int32) (i_next : Int32) (l1 : Int32) (res : (Nat → Int32)) (kf : Int32 → (Nat → Int32) → Option ((Nat → Int32))) : Prop := ∀ (l2 : Int32) (v_points : Nat → Int32), kf l2 v_points = some res → ∀ (H : Heap) (locs : List Loc) (ls : Array Slot), lv_has ls 5 [(0, .ref a_this), (1, .int l1), (2, .int l2)] → va_P D classes [(a_this, .inr (6, [.ref a_points, .ref o_cuts, .ref o_queue, .ref o_owners, .ref o_takes, .ref o_bases, .ref o_ranked, .ref o_starts, .ref o_numbers, .ref o_walk, .int i_order, .int i_next])), (a_points, .inl (cI, 12, .inl v_points))] H → va_D A [(a_this, .inr (6, [.ref a_points, .ref o_cuts, .ref o_queue, .ref o_owners, .ref o_takes, .ref o_bases, .ref o_ranked, .ref o_starts, .ref o_numbers, .ref o_walk, .int i_order, .int i_next])), (a_points, .inl (cI, 12, .inl v_points))] → va_S A s.heap H locs → W p l e R_Share_takeAway s m args below meth c H locs 0 0 Q (F0 m 2 ls [])
def I_Share_takeAway_b0 (p : Program) (l : Launch) (e : Env) (s : State) (m : MethodId) (args : Array Value) (below : List Frame) (meth : Method) (c : Code) (Q : State → Prop) (A : Nat → Prop) (D : va_G) (cI cL cZ : ClassId) (a_this : Nat) (a_points : Nat) (o_cuts : Nat) (o_queue : Nat) (o_owners : Nat) (o_takes : Nat) (o_bases : Nat) (o_ranked : Nat) (o_starts : Nat) (o_numbers : Nat) (o_walk : Nat) (i_order : Int32) (i_next : Int32) (l1 : Int32) (res : (Nat → Int32)) (kf : (Nat → Int32) → Option ((Nat → Int32))) : Prop := ∀ (v_points : Nat → Int32), kf v_points = some res → ∀ (H : Heap) (locs : List Loc) (ls : Array Slot), lv_has ls 5 [(0, .ref a_this), (1, .int l1)] → va_P D classes [(a_this, .inr (6, [.ref a_points, .ref o_cuts, .ref o_queue, .ref o_owners, .ref o_takes, .ref o_bases, .ref o_ranked, .ref o_starts, .ref o_numbers, .ref o_walk, .int i_order, .int i_next])), (a_points, .inl (cI, 12, .inl v_points))] H → va_D A [(a_this, .inr (6, [.ref a_points, .ref o_cuts, .ref o_queue, .ref o_owners, .ref o_takes, .ref o_bases, .ref o_ranked, .ref o_starts, .ref o_numbers, .ref o_walk, .int i_order, .int i_next])), (a_points, .inl (cI, 12, .inl v_points))] → va_S A s.heap H locs → W p l e R_Share_takeAway s m args below meth c H locs 0 0 Q (F0 m 0 ls [])
set_option maxHeartbeats 4000000 in
set_option maxRecDepth 100000 in
theorem w_Share_takeAway_b38 {p : Program} {l : Launch} {e : Env} {s : State} {m : MethodId} {args : Array Value} {below : List Frame} {meth : Method} {c : Code} {Q : State → Prop} {A : Nat → Prop} {D : va_G} {cI cL cZ : ClassId} {a_this : Nat} {a_points : Nat} {o_cuts : Nat} {o_queue : Nat} {o_owners : Nat} {o_takes : Nat} {o_bases : Nat} {o_ranked : Nat} {o_starts : Nat} {o_numbers : Nat} {o_walk : Nat} {i_order : Int32} {i_next : Int32} {l1 : Int32} {N : Nat} {res : (Nat → Int32)} {k2 : Int32 → (Nat → Int32) → Option ((Nat → Int32))} {k12 : Int32 → Int32 → Int32 → (Nat → Int32) → Option ((Nat → Int32))} (C : Cx p s m args c b_Share_takeAway 5 "PrefixMill$Share" D [(cI, .int), (cL, .long), (cZ, .boolean)] A) (hret : E_Share_takeAway p l e s m args below meth c Q A D cI cL cZ a_this a_points o_cuts o_queue o_owners o_takes o_bases o_ranked o_starts o_numbers o_walk i_order i_next l1 res) (hk2 : I_Share_takeAway_b2 p l e s m args below meth c Q A D cI cL cZ a_this a_points o_cuts o_queue o_owners o_takes o_bases o_ranked o_starts o_numbers o_walk i_order i_next l1 res k2) (hk12 : I_Share_takeAway_b12 p l e s m args below meth c Q A D cI cL cZ a_this a_points o_cuts o_queue o_owners o_takes o_bases o_ranked o_starts o_numbers o_walk i_order i_next l1 res k12) : I_Share_takeAway_b38 p l e s m args below meth c Q A D cI cL cZ a_this a_points o_cuts o_queue o_owners o_takes o_bases o_ranked o_starts o_numbers o_walk i_order i_next l1 res (f_Share_takeAway_b38 N l1 k2 k12) := by
  obtain ⟨hx, hb, hml, hown, hts, hK, hA⟩ := C
  intro l2 l3 l4 v_points h H locs ls hl hP hD hS
  unfold f_Share_takeAway_b38 at h
  obtain ⟨l4_1, el4_1⟩ : ∃ y : Int32, y = l4 + 1 := ⟨_, rfl⟩
  replace h := nm_s h el4_1
  refine lv_iinc (v := l4_1) (lv' := [(4, .int l4_1), (0, .ref a_this), (1, .int l1), (2, .int l2), (3, .int l3)]) hx hb d_Share_takeAway_38 hl (k := 4) rfl (by rw [el4_1]; rfl) (by decide) rfl (fun ls hl => ?_)
  refine lv_goto (tgt := 12) hx hb d_Share_takeAway_41 (by decide) ?_
  exact hk12 _ _ _ _ h H locs ls (lv_sub hl [1, 2, 3, 4, 0] rfl) hP hD hS
set_option maxHeartbeats 4000000 in
set_option maxRecDepth 100000 in
theorem w_Share_takeAway_b44 {p : Program} {l : Launch} {e : Env} {s : State} {m : MethodId} {args : Array Value} {below : List Frame} {meth : Method} {c : Code} {Q : State → Prop} {A : Nat → Prop} {D : va_G} {cI cL cZ : ClassId} {a_this : Nat} {a_points : Nat} {o_cuts : Nat} {o_queue : Nat} {o_owners : Nat} {o_takes : Nat} {o_bases : Nat} {o_ranked : Nat} {o_starts : Nat} {o_numbers : Nat} {o_walk : Nat} {i_order : Int32} {i_next : Int32} {l1 : Int32} {N : Nat} {res : (Nat → Int32)} {k2 : Int32 → (Nat → Int32) → Option ((Nat → Int32))} (C : Cx p s m args c b_Share_takeAway 5 "PrefixMill$Share" D [(cI, .int), (cL, .long), (cZ, .boolean)] A) (hret : E_Share_takeAway p l e s m args below meth c Q A D cI cL cZ a_this a_points o_cuts o_queue o_owners o_takes o_bases o_ranked o_starts o_numbers o_walk i_order i_next l1 res) (hk2 : I_Share_takeAway_b2 p l e s m args below meth c Q A D cI cL cZ a_this a_points o_cuts o_queue o_owners o_takes o_bases o_ranked o_starts o_numbers o_walk i_order i_next l1 res k2) : I_Share_takeAway_b44 p l e s m args below meth c Q A D cI cL cZ a_this a_points o_cuts o_queue o_owners o_takes o_bases o_ranked o_starts o_numbers o_walk i_order i_next l1 res (f_Share_takeAway_b44 N l1 k2) := by
  obtain ⟨hx, hb, hml, hown, hts, hK, hA⟩ := C
  intro l2 l3 v_points h H locs ls hl hP hD hS
  unfold f_Share_takeAway_b44 at h
  refine lv_aload_n hx hb d_Share_takeAway_44 rfl (lv_at hl 0 rfl) ?_
  refine va_get hx hb hts in_Share hown hK hP 0 rfl rfl 0 (by decide) (hts _ m_211) (fun _ h9 => h9) rfl d_Share_takeAway_45 ?_
  refine lv_iload_n hx hb d_Share_takeAway_48 rfl (lv_at hl 3 rfl) ?_
  refine lv_dup2_11 hx hb d_Share_takeAway_49 rfl rfl ?_
  obtain ⟨g_1, h⟩ := ck_s h
  refine va_iald hx hb hK hP 1 0 rfl rfl (inb_s g_1) d_Share_takeAway_50 ?_
  refine lv_iconst (v := 1) hx hb d_Share_takeAway_51 (by decide) ?_
  refine lv_isub hx hb d_Share_takeAway_52 ?_
  obtain ⟨g_2, h⟩ := ck_s h
  refine va_iast hx hb hK hP hD hS 1 0 rfl rfl (inb_s g_2) d_Share_takeAway_53 (fun H locs hP hD hS => ?_)
  obtain ⟨v_points_3, ev_points_3⟩ : ∃ y, y = (upd v_points (Int32.toNatClampNeg l3) ((v_points (Int32.toNatClampNeg l3)) - 1)) := ⟨_, rfl⟩
  replace h := nm_s h ev_points_3
  have hP : va_P D classes [(a_this, .inr (6, [.ref a_points, .ref o_cuts, .ref o_queue, .ref o_owners, .ref o_takes, .ref o_bases, .ref o_ranked, .ref o_starts, .ref o_numbers, .ref o_walk, .int i_order, .int i_next])), (a_points, .inl (cI, 12, .inl v_points_3))] H := by rw [ev_points_3]; exact hP
  have hD : va_D A [(a_this, .inr (6, [.ref a_points, .ref o_cuts, .ref o_queue, .ref o_owners, .ref o_takes, .ref o_bases, .ref o_ranked, .ref o_starts, .ref o_numbers, .ref o_walk, .int i_order, .int i_next])), (a_points, .inl (cI, 12, .inl v_points_3))] := by rw [ev_points_3]; exact hD
  obtain ⟨l2_4, el2_4⟩ : ∃ y : Int32, y = l2 + 1 := ⟨_, rfl⟩
  replace h := nm_s h el2_4
  refine lv_iinc (v := l2_4) (lv' := [(2, .int l2_4), (0, .ref a_this), (1, .int l1), (3, .int l3)]) hx hb d_Share_takeAway_54 hl (k := 2) rfl (by rw [el2_4]; rfl) (by decide) rfl (fun ls hl => ?_)
  refine lv_goto (tgt := 2) hx hb d_Share_takeAway_57 (by decide) ?_
  exact hk2 _ _ h H locs ls (lv_sub hl [1, 2, 0] rfl) hP hD hS
set_option maxHeartbeats 4000000 in
set_option maxRecDepth 100000 in
theorem w_Share_takeAway_b12 {p : Program} {l : Launch} {e : Env} {s : State} {m : MethodId} {args : Array Value} {below : List Frame} {meth : Method} {c : Code} {Q : State → Prop} {A : Nat → Prop} {D : va_G} {cI cL cZ : ClassId} {a_this : Nat} {a_points : Nat} {o_cuts : Nat} {o_queue : Nat} {o_owners : Nat} {o_takes : Nat} {o_bases : Nat} {o_ranked : Nat} {o_starts : Nat} {o_numbers : Nat} {o_walk : Nat} {i_order : Int32} {i_next : Int32} {l1 : Int32} {N : Nat} {res : (Nat → Int32)} {k2 : Int32 → (Nat → Int32) → Option ((Nat → Int32))} (C : Cx p s m args c b_Share_takeAway 5 "PrefixMill$Share" D [(cI, .int), (cL, .long), (cZ, .boolean)] A) (hret : E_Share_takeAway p l e s m args below meth c Q A D cI cL cZ a_this a_points o_cuts o_queue o_owners o_takes o_bases o_ranked o_starts o_numbers o_walk i_order i_next l1 res) (hk2 : I_Share_takeAway_b2 p l e s m args below meth c Q A D cI cL cZ a_this a_points o_cuts o_queue o_owners o_takes o_bases o_ranked o_starts o_numbers o_walk i_order i_next l1 res k2) : ∀ z : Nat, I_Share_takeAway_b12 p l e s m args below meth c Q A D cI cL cZ a_this a_points o_cuts o_queue o_owners o_takes o_bases o_ranked o_starts o_numbers o_walk i_order i_next l1 res (f_Share_takeAway_b12 N l1 k2 z) := by
  obtain ⟨hx, hb, hml, hown, hts, hK, hA⟩ := C
  intro z
  induction z with
  | zero => intro l2 l3 l4 v_points h; cases h
  | succ z ih =>
    intro l2 l3 l4 v_points h H locs ls hl hP hD hS
    refine lv_iload hx hb d_Share_takeAway_12 (lv_at hl 4 rfl) ?_
    refine lv_bipush (v := 12) hx hb d_Share_takeAway_14 (by decide) ?_
    refine lv_icmp_ge (tgt := 44) hx hb d_Share_takeAway_16 (by decide) (fun c_1 => ?_) (fun c_1 => ?_)
    · replace h := if_t h c_1
      exact w_Share_takeAway_b44 ⟨hx, hb, hml, hown, hts, hK, hA⟩ hret hk2 _ _ _ h H locs ls (lv_sub hl [0, 1, 2, 3] rfl) hP hD hS
    · replace h := if_f h c_1
      refine lv_aload_n hx hb d_Share_takeAway_19 rfl (lv_at hl 0 rfl) ?_
      refine va_get hx hb hts in_Share hown hK hP 0 rfl rfl 0 (by decide) (hts _ m_211) (fun _ h9 => h9) rfl d_Share_takeAway_20 ?_
      refine lv_iload hx hb d_Share_takeAway_23 (lv_at hl 4 rfl) ?_
      obtain ⟨g_2, h⟩ := ck_s h
      refine va_iald hx hb hK hP 1 0 rfl rfl (inb_s g_2) d_Share_takeAway_25 ?_
      refine lv_aload_n hx hb d_Share_takeAway_26 rfl (lv_at hl 0 rfl) ?_
      refine va_get hx hb hts in_Share hown hK hP 0 rfl rfl 0 (by decide) (hts _ m_211) (fun _ h9 => h9) rfl d_Share_takeAway_27 ?_
      refine lv_iload_n hx hb d_Share_takeAway_30 rfl (lv_at hl 3 rfl) ?_
      obtain ⟨g_3, h⟩ := ck_s h
      refine va_iald hx hb hK hP 1 0 rfl rfl (inb_s g_3) d_Share_takeAway_31 ?_
      refine lv_icmp_le (tgt := 38) hx hb d_Share_takeAway_32 (by decide) (fun c_4 => ?_) (fun c_4 => ?_)
      · replace h := if_t h c_4
        exact w_Share_takeAway_b38 ⟨hx, hb, hml, hown, hts, hK, hA⟩ hret hk2 ih _ _ _ _ h H locs ls (lv_sub hl [0, 1, 2, 3, 4] rfl) hP hD hS
      · replace h := if_f h c_4
        refine lv_iload hx hb d_Share_takeAway_35 (lv_at hl 4 rfl) ?_
        refine lv_istore_n (lv' := [(3, .int l4), (0, .ref a_this), (1, .int l1), (2, .int l2), (4, .int l4)]) hx hb d_Share_takeAway_37 rfl hl (by decide) rfl (fun ls hl => ?_)
        exact w_Share_takeAway_b38 ⟨hx, hb, hml, hown, hts, hK, hA⟩ hret hk2 ih _ _ _ _ h H locs ls (lv_sub hl [1, 2, 3, 0, 4] rfl) hP hD hS
set_option maxHeartbeats 4000000 in
set_option maxRecDepth 100000 in
theorem w_Share_takeAway_b2 {p : Program} {l : Launch} {e : Env} {s : State} {m : MethodId} {args : Array Value} {below : List Frame} {meth : Method} {c : Code} {Q : State → Prop} {A : Nat → Prop} {D : va_G} {cI cL cZ : ClassId} {a_this : Nat} {a_points : Nat} {o_cuts : Nat} {o_queue : Nat} {o_owners : Nat} {o_takes : Nat} {o_bases : Nat} {o_ranked : Nat} {o_starts : Nat} {o_numbers : Nat} {o_walk : Nat} {i_order : Int32} {i_next : Int32} {l1 : Int32} {N : Nat} {res : (Nat → Int32)}  (C : Cx p s m args c b_Share_takeAway 5 "PrefixMill$Share" D [(cI, .int), (cL, .long), (cZ, .boolean)] A) (hret : E_Share_takeAway p l e s m args below meth c Q A D cI cL cZ a_this a_points o_cuts o_queue o_owners o_takes o_bases o_ranked o_starts o_numbers o_walk i_order i_next l1 res)  : ∀ z : Nat, I_Share_takeAway_b2 p l e s m args below meth c Q A D cI cL cZ a_this a_points o_cuts o_queue o_owners o_takes o_bases o_ranked o_starts o_numbers o_walk i_order i_next l1 res (f_Share_takeAway_b2 N l1  z) := by
  obtain ⟨hx, hb, hml, hown, hts, hK, hA⟩ := C
  intro z
  induction z with
  | zero => intro l2 v_points h; cases h
  | succ z ih =>
    intro l2 v_points h H locs ls hl hP hD hS
    refine lv_iload_n hx hb d_Share_takeAway_2 rfl (lv_at hl 2 rfl) ?_
    refine lv_iload_n hx hb d_Share_takeAway_3 rfl (lv_at hl 1 rfl) ?_
    refine lv_icmp_ge (tgt := 60) hx hb d_Share_takeAway_4 (by decide) (fun c_1 => ?_) (fun c_1 => ?_)
    · replace h := if_t h c_1
      exact hret _ _ _ _ v_points h d_Share_takeAway_60 hP hD hS
    · replace h := if_f h c_1
      refine lv_iconst (v := 0) hx hb d_Share_takeAway_7 (by decide) ?_
      refine lv_istore_n (lv' := [(3, .int 0), (0, .ref a_this), (1, .int l1), (2, .int l2)]) hx hb d_Share_takeAway_8 rfl hl (by decide) rfl (fun ls hl => ?_)
      refine lv_iconst (v := 1) hx hb d_Share_takeAway_9 (by decide) ?_
      refine lv_istore (lv' := [(4, .int 1), (3, .int 0), (0, .ref a_this), (1, .int l1), (2, .int l2)]) hx hb d_Share_takeAway_10 hl (by decide) rfl (fun ls hl => ?_)
      exact w_Share_takeAway_b12 ⟨hx, hb, hml, hown, hts, hK, hA⟩ hret ih N _ _ _ _ h H locs ls (lv_sub hl [2, 3, 4, 1, 0] rfl) hP hD hS
set_option maxHeartbeats 4000000 in
set_option maxRecDepth 100000 in
theorem w_Share_takeAway_b0 {p : Program} {l : Launch} {e : Env} {s : State} {m : MethodId} {args : Array Value} {below : List Frame} {meth : Method} {c : Code} {Q : State → Prop} {A : Nat → Prop} {D : va_G} {cI cL cZ : ClassId} {a_this : Nat} {a_points : Nat} {o_cuts : Nat} {o_queue : Nat} {o_owners : Nat} {o_takes : Nat} {o_bases : Nat} {o_ranked : Nat} {o_starts : Nat} {o_numbers : Nat} {o_walk : Nat} {i_order : Int32} {i_next : Int32} {l1 : Int32} {N : Nat} {res : (Nat → Int32)}  (C : Cx p s m args c b_Share_takeAway 5 "PrefixMill$Share" D [(cI, .int), (cL, .long), (cZ, .boolean)] A) (hret : E_Share_takeAway p l e s m args below meth c Q A D cI cL cZ a_this a_points o_cuts o_queue o_owners o_takes o_bases o_ranked o_starts o_numbers o_walk i_order i_next l1 res)  : I_Share_takeAway_b0 p l e s m args below meth c Q A D cI cL cZ a_this a_points o_cuts o_queue o_owners o_takes o_bases o_ranked o_starts o_numbers o_walk i_order i_next l1 res (f_Share_takeAway N l1 ) := by
  obtain ⟨hx, hb, hml, hown, hts, hK, hA⟩ := C
  intro v_points h H locs ls hl hP hD hS
  unfold f_Share_takeAway at h
  refine lv_iconst (v := 0) hx hb d_Share_takeAway_0 (by decide) ?_
  refine lv_istore_n (lv' := [(2, .int 0), (0, .ref a_this), (1, .int l1)]) hx hb d_Share_takeAway_1 rfl hl (by decide) rfl (fun ls hl => ?_)
  exact w_Share_takeAway_b2 ⟨hx, hb, hml, hown, hts, hK, hA⟩ hret  N _ _ h H locs ls (lv_sub hl [1, 2, 0] rfl) hP hD hS
set_option maxHeartbeats 4000000 in
set_option maxRecDepth 100000 in
theorem c_Share_takeAway (l : Launch) (D : va_G) (cI cL cZ : ClassId) (sz N : Nat) (a_this : Nat) (a_points : Nat) (o_cuts : Nat) (o_queue : Nat) (o_owners : Nat) (o_takes : Nat) (o_bases : Nat) (o_ranked : Nat) (o_starts : Nat) (o_numbers : Nat) (o_walk : Nat) (i_order : Int32) (i_next : Int32) (v_points : Nat → Int32) (l1 : Int32) (v_points' : Nat → Int32) (h : f_Share_takeAway N l1 v_points = some (v_points')) : Met l ({ cls := "PrefixMill$Share", name := "takeAway", desc := "(I)V" } : Jvm.MethodName) ws_Share_takeAway R_Share_takeAway (va_Pc [.ref a_this, .int l1] (fun U => U.heap.size = sz ∧ va_P D classes [(a_this, .inr (6, [.ref a_points, .ref o_cuts, .ref o_queue, .ref o_owners, .ref o_takes, .ref o_bases, .ref o_ranked, .ref o_starts, .ref o_numbers, .ref o_walk, .int i_order, .int i_next])), (a_points, .inl (cI, 12, .inl v_points))] U.heap ∧ va_K D classes [(cI, .int), (cL, .long), (cZ, .boolean)] U ∧ va_D (fun _ => True) [(a_this, .inr (6, [.ref a_points, .ref o_cuts, .ref o_queue, .ref o_owners, .ref o_takes, .ref o_bases, .ref o_ranked, .ref o_starts, .ref o_numbers, .ref o_walk, .int i_order, .int i_next])), (a_points, .inl (cI, 12, .inl v_points))])) (va_Qv (fun _ : Unit => True) (fun _ t => va_P D classes [(a_this, .inr (6, [.ref a_points, .ref o_cuts, .ref o_queue, .ref o_owners, .ref o_takes, .ref o_bases, .ref o_ranked, .ref o_starts, .ref o_numbers, .ref o_walk, .int i_order, .int i_next])), (a_points, .inl (cI, 12, .inl v_points'))] t.heap ∧ va_K D classes [(cI, .int), (cL, .long), (cZ, .boolean)] t ∧ va_D (va_A [(a_this, .inr (6, [.ref a_points, .ref o_cuts, .ref o_queue, .ref o_owners, .ref o_takes, .ref o_bases, .ref o_ranked, .ref o_starts, .ref o_numbers, .ref o_walk, .int i_order, .int i_next])), (a_points, .inl (cI, 12, .inl v_points))] sz) [(a_this, .inr (6, [.ref a_points, .ref o_cuts, .ref o_queue, .ref o_owners, .ref o_takes, .ref o_bases, .ref o_ranked, .ref o_starts, .ref o_numbers, .ref o_walk, .int i_order, .int i_next])), (a_points, .inl (cI, 12, .inl v_points'))]) (va_A [(a_this, .inr (6, [.ref a_points, .ref o_cuts, .ref o_queue, .ref o_owners, .ref o_takes, .ref o_bases, .ref o_ranked, .ref o_starts, .ref o_numbers, .ref o_walk, .int i_order, .int i_next])), (a_points, .inl (cI, 12, .inl v_points))] sz)) 0 0 (va_A [(a_this, .inr (6, [.ref a_points, .ref o_cuts, .ref o_queue, .ref o_owners, .ref o_takes, .ref o_bases, .ref o_ranked, .ref o_starts, .ref o_numbers, .ref o_walk, .int i_order, .int i_next])), (a_points, .inl (cI, 12, .inl v_points))] sz) := by
  refine Met.ofW (cc := b_Share_takeAway) (maxL := 5) (ret := none) (by decide) rfl ?_
  intro p e s m args below meth c s₁ B hml hv
  obtain ⟨rfl, hsz, hP, hK, hD0⟩ := hv
  have hx := B.exec
  have hb := B.bytes
  have hr := B.returns
  have hts0 := atoms_spec (ws := ws_Share_takeAway) B.pre
  have hts := gd_tl hts0
  clear hts0
  have hown : s.vm.findClass "PrefixMill$Share" = some m.cls := findClass_of_methodNamed B.named
  have hlocks := B.notSynchronized
  subst hsz
  have hD := hD0.self (sz := s.heap.size)
  generalize hAe : va_A [(a_this, .inr (6, [.ref a_points, .ref o_cuts, .ref o_queue, .ref o_owners, .ref o_takes, .ref o_bases, .ref o_ranked, .ref o_starts, .ref o_numbers, .ref o_walk, .int i_order, .int i_next])), (a_points, .inl (cI, 12, .inl v_points))] s.heap.size = A at hD ⊢
  have hA : ∀ q : Nat, s.heap.size ≤ q → A q := fun q h => by rw [← hAe]; exact Or.inr h
  have hS : va_S A s.heap s.heap [] := va_S.rf
  have hP : va_P D classes [(a_this, .inr (6, [.ref a_points, .ref o_cuts, .ref o_queue, .ref o_owners, .ref o_takes, .ref o_bases, .ref o_ranked, .ref o_starts, .ref o_numbers, .ref o_walk, .int i_order, .int i_next])), (a_points, .inl (cI, 12, .inl v_points))] s.heap := hP
  have hl := lv_entry ([.ref a_this, .int l1]) (n := 5) (Nat.le_of_ble_eq_true rfl)
  rw [lg_entry_eq]
  generalize (lg_sl ([.ref a_this, .int l1]) ++ List.replicate (5 - (lg_sl ([.ref a_this, .int l1])).length) Slot.unset).toArray = ls at hl ⊢
  have hl : lv_has ls 5 [(0, .ref a_this), (1, .int l1)] := hl
  have C : Cx p s m ([.ref a_this, .int l1] : List Value).toArray c b_Share_takeAway 5 "PrefixMill$Share" D [(cI, .int), (cL, .long), (cZ, .boolean)] A := ⟨hx, hb, hml, hown, hts, hK, hA⟩
  refine w_Share_takeAway_b0 (res := (v_points')) C ?_ _ h s.heap [] ls hl hP hD hS
  intro pc9 H9 locs9 ls9 v_points9 e9 d9 hP9 hD9 hS9
  cases e9
  exact W.vret hx hb hr (fun t ht hW => ⟨⟨(), rfl, trivial, by rw [ht]; exact hP9, va_K.moved hW.alike hK, hD9⟩, hS9.F ht⟩) hS9.2.2 d9
abbrev b_Share_giveHighest : ByteArray := prog_6_method_9_code
def ws_Share_giveHighest : List Cond := .code ({ cls := "PrefixMill$Share", name := "giveHighest", desc := "()I" } : Jvm.MethodName) b_Share_giveHighest 3 (some .int) :: tt
theorem d_Share_giveHighest_0 : decode b_Share_giveHighest 0 = .ok (.iconst 1, 1) := by decide +kernel
theorem d_Share_giveHighest_1 : decode b_Share_giveHighest 1 = .ok (.aload_n 0, 1) := by decide +kernel
theorem d_Share_giveHighest_2 : decode b_Share_giveHighest 2 = .ok (.getfield 48, 3) := by decide +kernel
theorem d_Share_giveHighest_5 : decode b_Share_giveHighest 5 = .ok (.ishl, 1) := by decide +kernel
theorem d_Share_giveHighest_6 : decode b_Share_giveHighest 6 = .ok (.istore_n 1, 1) := by decide +kernel
theorem d_Share_giveHighest_7 : decode b_Share_giveHighest 7 = .ok (.iconst 0, 1) := by decide +kernel
theorem d_Share_giveHighest_8 : decode b_Share_giveHighest 8 = .ok (.istore_n 2, 1) := by decide +kernel
theorem d_Share_giveHighest_9 : decode b_Share_giveHighest 9 = .ok (.iload_n 2, 1) := by decide +kernel
theorem d_Share_giveHighest_10 : decode b_Share_giveHighest 10 = .ok (.bipush 12, 2) := by decide +kernel
theorem d_Share_giveHighest_12 : decode b_Share_giveHighest 12 = .ok (.if_icmp .ge 28, 3) := by decide +kernel
theorem d_Share_giveHighest_15 : decode b_Share_giveHighest 15 = .ok (.aload_n 0, 1) := by decide +kernel
theorem d_Share_giveHighest_16 : decode b_Share_giveHighest 16 = .ok (.getfield 9, 3) := by decide +kernel
theorem d_Share_giveHighest_19 : decode b_Share_giveHighest 19 = .ok (.iload_n 2, 1) := by decide +kernel
theorem d_Share_giveHighest_20 : decode b_Share_giveHighest 20 = .ok (.iaload, 1) := by decide +kernel
theorem d_Share_giveHighest_21 : decode b_Share_giveHighest 21 = .ok (.ifCond .ge 13, 3) := by decide +kernel
theorem d_Share_giveHighest_24 : decode b_Share_giveHighest 24 = .ok (.iinc 1 (-1), 3) := by decide +kernel
theorem d_Share_giveHighest_27 : decode b_Share_giveHighest 27 = .ok (.aload_n 0, 1) := by decide +kernel
theorem d_Share_giveHighest_28 : decode b_Share_giveHighest 28 = .ok (.getfield 21, 3) := by decide +kernel
theorem d_Share_giveHighest_31 : decode b_Share_giveHighest 31 = .ok (.iload_n 1, 1) := by decide +kernel
theorem d_Share_giveHighest_32 : decode b_Share_giveHighest 32 = .ok (.iload_n 2, 1) := by decide +kernel
theorem d_Share_giveHighest_33 : decode b_Share_giveHighest 33 = .ok (.iastore, 1) := by decide +kernel
theorem d_Share_giveHighest_34 : decode b_Share_giveHighest 34 = .ok (.iinc 2 1, 3) := by decide +kernel
theorem d_Share_giveHighest_37 : decode b_Share_giveHighest 37 = .ok (.goto (-28), 3) := by decide +kernel
theorem d_Share_giveHighest_40 : decode b_Share_giveHighest 40 = .ok (.iload_n 1, 1) := by decide +kernel
theorem d_Share_giveHighest_41 : decode b_Share_giveHighest 41 = .ok (.ireturn, 1) := by decide +kernel
def f_Share_giveHighest_b34 (N : Nat) (i_order : Int32) (v_points : Nat → Int32) (k9 : Int32 → Int32 → (Nat → Int32) → Option (Int32 × (Nat → Int32))) (l1 : Int32) (l2 : Int32) (v_owners : Nat → Int32) : Option (Int32 × (Nat → Int32)) :=
  nm (l2 + 1) fun l2_1 =>
  k9 l1 l2_1 v_owners
def f_Share_giveHighest_b40 (N : Nat) (i_order : Int32) (v_points : Nat → Int32)  (l1 : Int32) (v_owners : Nat → Int32) : Option (Int32 × (Nat → Int32)) :=
  some (l1, v_owners)
def f_Share_giveHighest_b9 (N : Nat) (i_order : Int32) (v_points : Nat → Int32)  : Nat → Int32 → Int32 → (Nat → Int32) → Option (Int32 × (Nat → Int32))
  | 0, _, _, _ => none
  | z + 1, l1, l2, v_owners =>
  if 12 ≤ l2 then
  f_Share_giveHighest_b40 N i_order v_points  l1 v_owners
  else
  ck (inb l2 12) <|
  if 0 ≤ (v_points (Int32.toNatClampNeg l2)) then
  f_Share_giveHighest_b34 N i_order v_points (f_Share_giveHighest_b9 N i_order v_points  z) l1 l2 v_owners
  else
  nm (l1 + (-1)) fun l1_4 =>
  ck (inb l1_4 64) <|
  nm (upd v_owners (Int32.toNatClampNeg l1_4) l2) fun v_owners_6 =>
  f_Share_giveHighest_b34 N i_order v_points (f_Share_giveHighest_b9 N i_order v_points  z) l1_4 l2 v_owners_6
def f_Share_giveHighest (N : Nat) (i_order : Int32) (v_points : Nat → Int32)  (v_owners : Nat → Int32) : Option (Int32 × (Nat → Int32)) :=
  nm (1 <<< (i_order &&& 31)) fun l1_1 =>
  f_Share_giveHighest_b9 N i_order v_points  N l1_1 0 v_owners
abbrev R_Share_giveHighest : Room := ({ frames := 0, cells := 0, slots := 0, locals := 0 } : Room)
def E_Share_giveHighest (p : Program) (l : Launch) (e : Env) (s : State) (m : MethodId) (args : Array Value) (below : List Frame) (meth : Method) (c : Code) (Q : State → Prop) (A : Nat → Prop) (D : va_G) (cI cL cZ : ClassId) (a_this : Nat) (a_points : Nat) (a_owners : Nat) (o_cuts : Nat) (o_queue : Nat) (o_takes : Nat) (o_bases : Nat) (o_ranked : Nat) (o_starts : Nat) (o_numbers : Nat) (o_walk : Nat) (i_order : Int32) (i_next : Int32) (v_points : Nat → Int32) (res : Int32 × (Nat → Int32)) : Prop := ∀ (pc : Nat) (H : Heap) (locs : List Loc) (ls : Array Slot) (rv : Int32) (v_owners : Nat → Int32), some (rv, v_owners) = some res → decode b_Share_giveHighest pc = .ok (.ireturn, 1) → va_P D classes [(a_this, .inr (6, [.ref a_points, .ref o_cuts, .ref o_queue, .ref a_owners, .ref o_takes, .ref o_bases, .ref o_ranked, .ref o_starts, .ref o_numbers, .ref o_walk, .int i_order, .int i_next])), (a_points, .inl (cI, 12, .inl v_points)), (a_owners, .inl (cI, 64, .inl v_owners))] H → va_D A [(a_this, .inr (6, [.ref a_points, .ref o_cuts, .ref o_queue, .ref a_owners, .ref o_takes, .ref o_bases, .ref o_ranked, .ref o_starts, .ref o_numbers, .ref o_walk, .int i_order, .int i_next])), (a_points, .inl (cI, 12, .inl v_points)), (a_owners, .inl (cI, 64, .inl v_owners))] → va_S A s.heap H locs → W p l e R_Share_giveHighest s m args below meth c H locs 0 0 Q (F0 m pc ls [.int rv])
def I_Share_giveHighest_b34 (p : Program) (l : Launch) (e : Env) (s : State) (m : MethodId) (args : Array Value) (below : List Frame) (meth : Method) (c : Code) (Q : State → Prop) (A : Nat → Prop) (D : va_G) (cI cL cZ : ClassId) (a_this : Nat) (a_points : Nat) (a_owners : Nat) (o_cuts : Nat) (o_queue : Nat) (o_takes : Nat) (o_bases : Nat) (o_ranked : Nat) (o_starts : Nat) (o_numbers : Nat) (o_walk : Nat) (i_order : Int32) (i_next : Int32) (v_points : Nat → Int32) (res : Int32 × (Nat → Int32)) (kf : Int32 → Int32 → (Nat → Int32) → Option (Int32 × (Nat → Int32))) : Prop := ∀ (l1 : Int32) (l2 : Int32) (v_owners : Nat → Int32), kf l1 l2 v_owners = some res → ∀ (H : Heap) (locs : List Loc) (ls : Array Slot), lv_has ls 3 [(0, .ref a_this), (1, .int l1), (2, .int l2)] → va_P D classes [(a_this, .inr (6, [.ref a_points, .ref o_cuts, .ref o_queue, .ref a_owners, .ref o_takes, .ref o_bases, .ref o_ranked, .ref o_starts, .ref o_numbers, .ref o_walk, .int i_order, .int i_next])), (a_points, .inl (cI, 12, .inl v_points)), (a_owners, .inl (cI, 64, .inl v_owners))] H → va_D A [(a_this, .inr (6, [.ref a_points, .ref o_cuts, .ref o_queue, .ref a_owners, .ref o_takes, .ref o_bases, .ref o_ranked, .ref o_starts, .ref o_numbers, .ref o_walk, .int i_order, .int i_next])), (a_points, .inl (cI, 12, .inl v_points)), (a_owners, .inl (cI, 64, .inl v_owners))] → va_S A s.heap H locs → W p l e R_Share_giveHighest s m args below meth c H locs 0 0 Q (F0 m 34 ls [])
def I_Share_giveHighest_b40 (p : Program) (l : Launch) (e : Env) (s : State) (m : MethodId) (args : Array Value) (below : List Frame) (meth : Method) (c : Code) (Q : State → Prop) (A : Nat → Prop) (D : va_G) (cI cL cZ : ClassId) (a_this : Nat) (a_points : Nat) (a_owners : Nat) (o_cuts : Nat) (o_queue : Nat) (o_takes : Nat) (o_bases : Nat) (o_ranked : Nat) (o_starts : Nat) (o_numbers : Nat) (o_walk : Nat) (i_order : Int32) (i_next : Int32) (v_points : Nat → Int32) (res : Int32 × (Nat → Int32)) (kf : Int32 → (Nat → Int32) → Option (Int32 × (Nat → Int32))) : Prop := ∀ (l1 : Int32) (v_owners : Nat → Int32), kf l1 v_owners = some res → ∀ (H : Heap) (locs : List Loc) (ls : Array Slot), lv_has ls 3 [(1, .int l1)] → va_P D classes [(a_this, .inr (6, [.ref a_points, .ref o_cuts, .ref o_queue, .ref a_owners, .ref o_takes, .ref o_bases, .ref o_ranked, .ref o_starts, .ref o_numbers, .ref o_walk, .int i_order, .int i_next])), (a_points, .inl (cI, 12, .inl v_points)), (a_owners, .inl (cI, 64, .inl v_owners))] H → va_D A [(a_this, .inr (6, [.ref a_points, .ref o_cuts, .ref o_queue, .ref a_owners, .ref o_takes, .ref o_bases, .ref o_ranked, .ref o_starts, .ref o_numbers, .ref o_walk, .int i_order, .int i_next])), (a_points, .inl (cI, 12, .inl v_points)), (a_owners, .inl (cI, 64, .inl v_owners))] → va_S A s.heap H locs → W p l e R_Share_giveHighest s m args below meth c H locs 0 0 Q (F0 m 40 ls [])
def I_Share_giveHighest_b9 (p : Program) (l : Launch) (e : Env) (s : State) (m : MethodId) (args : Array Value) (below : List Frame) (meth : Method) (c : Code) (Q : State → Prop) (A : Nat → Prop) (D : va_G) (cI cL cZ : ClassId) (a_this : Nat) (a_points : Nat) (a_owners : Nat) (o_cuts : Nat) (o_queue : Nat) (o_takes : Nat) (o_bases : Nat) (o_ranked : Nat) (o_starts : Nat) (o_numbers : Nat) (o_walk : Nat) (i_order : Int32) (i_next : Int32) (v_points : Nat → Int32) (res : Int32 × (Nat → Int32)) (kf : Int32 → Int32 → (Nat → Int32) → Option (Int32 × (Nat → Int32))) : Prop := ∀ (l1 : Int32) (l2 : Int32) (v_owners : Nat → Int32), kf l1 l2 v_owners = some res → ∀ (H : Heap) (locs : List Loc) (ls : Array Slot), lv_has ls 3 [(0, .ref a_this), (1, .int l1), (2, .int l2)] → va_P D classes [(a_this, .inr (6, [.ref a_points, .ref o_cuts, .ref o_queue, .ref a_owners, .ref o_takes, .ref o_bases, .ref o_ranked, .ref o_starts, .ref o_numbers, .ref o_walk, .int i_order, .int i_next])), (a_points, .inl (cI, 12, .inl v_points)), (a_owners, .inl (cI, 64, .inl v_owners))] H → va_D A [(a_this, .inr (6, [.ref a_points, .ref o_cuts, .ref o_queue, .ref a_owners, .ref o_takes, .ref o_bases, .ref o_ranked, .ref o_starts, .ref o_numbers, .ref o_walk, .int i_order, .int i_next])), (a_points, .inl (cI, 12, .inl v_points)), (a_owners, .inl (cI, 64, .inl v_owners))] → va_S A s.heap H locs → W p l e R_Share_giveHighest s m args below meth c H locs 0 0 Q (F0 m 9 ls [])
def I_Share_giveHighest_b0 (p : Program) (l : Launch) (e : Env) (s : State) (m : MethodId) (args : Array Value) (below : List Frame) (meth : Method) (c : Code) (Q : State → Prop) (A : Nat → Prop) (D : va_G) (cI cL cZ : ClassId) (a_this : Nat) (a_points : Nat) (a_owners : Nat) (o_cuts : Nat) (o_queue : Nat) (o_takes : Nat) (o_bases : Nat) (o_ranked : Nat) (o_starts : Nat) (o_numbers : Nat) (o_walk : Nat) (i_order : Int32) (i_next : Int32) (v_points : Nat → Int32) (res : Int32 × (Nat → Int32)) (kf : (Nat → Int32) → Option (Int32 × (Nat → Int32))) : Prop := ∀ (v_owners : Nat → Int32), kf v_owners = some res → ∀ (H : Heap) (locs : List Loc) (ls : Array Slot), lv_has ls 3 [(0, .ref a_this)] → va_P D classes [(a_this, .inr (6, [.ref a_points, .ref o_cuts, .ref o_queue, .ref a_owners, .ref o_takes, .ref o_bases, .ref o_ranked, .ref o_starts, .ref o_numbers, .ref o_walk, .int i_order, .int i_next])), (a_points, .inl (cI, 12, .inl v_points)), (a_owners, .inl (cI, 64, .inl v_owners))] H → va_D A [(a_this, .inr (6, [.ref a_points, .ref o_cuts, .ref o_queue, .ref a_owners, .ref o_takes, .ref o_bases, .ref o_ranked, .ref o_starts, .ref o_numbers, .ref o_walk, .int i_order, .int i_next])), (a_points, .inl (cI, 12, .inl v_points)), (a_owners, .inl (cI, 64, .inl v_owners))] → va_S A s.heap H locs → W p l e R_Share_giveHighest s m args below meth c H locs 0 0 Q (F0 m 0 ls [])
set_option maxHeartbeats 4000000 in
set_option maxRecDepth 100000 in
theorem w_Share_giveHighest_b34 {p : Program} {l : Launch} {e : Env} {s : State} {m : MethodId} {args : Array Value} {below : List Frame} {meth : Method} {c : Code} {Q : State → Prop} {A : Nat → Prop} {D : va_G} {cI cL cZ : ClassId} {a_this : Nat} {a_points : Nat} {a_owners : Nat} {o_cuts : Nat} {o_queue : Nat} {o_takes : Nat} {o_bases : Nat} {o_ranked : Nat} {o_starts : Nat} {o_numbers : Nat} {o_walk : Nat} {i_order : Int32} {i_next : Int32} {v_points : Nat → Int32} {N : Nat} {res : Int32 × (Nat → Int32)} {k9 : Int32 → Int32 → (Nat → Int32) → Option (Int32 × (Nat → Int32))} (C : Cx p s m args c b_Share_giveHighest 3 "PrefixMill$Share" D [(cI, .int), (cL, .long), (cZ, .boolean)] A) (hret : E_Share_giveHighest p l e s m args below meth c Q A D cI cL cZ a_this a_points a_owners o_cuts o_queue o_takes o_bases o_ranked o_starts o_numbers o_walk i_order i_next v_points res) (hk9 : I_Share_giveHighest_b9 p l e s m args below meth c Q A D cI cL cZ a_this a_points a_owners o_cuts o_queue o_takes o_bases o_ranked o_starts o_numbers o_walk i_order i_next v_points res k9) : I_Share_giveHighest_b34 p l e s m args below meth c Q A D cI cL cZ a_this a_points a_owners o_cuts o_queue o_takes o_bases o_ranked o_starts o_numbers o_walk i_order i_next v_points res (f_Share_giveHighest_b34 N i_order v_points k9) := by
  obtain ⟨hx, hb, hml, hown, hts, hK, hA⟩ := C
  intro l1 l2 v_owners h H locs ls hl hP hD hS
  unfold f_Share_giveHighest_b34 at h
  obtain ⟨l2_1, el2_1⟩ : ∃ y : Int32, y = l2 + 1 := ⟨_, rfl⟩
  replace h := nm_s h el2_1
  refine lv_iinc (v := l2_1) (lv' := [(2, .int l2_1), (0, .ref a_this), (1, .int l1)]) hx hb d_Share_giveHighest_34 hl (k := 2) rfl (by rw [el2_1]; rfl) (by decide) rfl (fun ls hl => ?_)
  refine lv_goto (tgt := 9) hx hb d_Share_giveHighest_37 (by decide) ?_
  exact hk9 _ _ _ h H locs ls (lv_sub hl [1, 2, 0] rfl) hP hD hS
set_option maxHeartbeats 4000000 in
set_option maxRecDepth 100000 in
theorem w_Share_giveHighest_b40 {p : Program} {l : Launch} {e : Env} {s : State} {m : MethodId} {args : Array Value} {below : List Frame} {meth : Method} {c : Code} {Q : State → Prop} {A : Nat → Prop} {D : va_G} {cI cL cZ : ClassId} {a_this : Nat} {a_points : Nat} {a_owners : Nat} {o_cuts : Nat} {o_queue : Nat} {o_takes : Nat} {o_bases : Nat} {o_ranked : Nat} {o_starts : Nat} {o_numbers : Nat} {o_walk : Nat} {i_order : Int32} {i_next : Int32} {v_points : Nat → Int32} {N : Nat} {res : Int32 × (Nat → Int32)}  (C : Cx p s m args c b_Share_giveHighest 3 "PrefixMill$Share" D [(cI, .int), (cL, .long), (cZ, .boolean)] A) (hret : E_Share_giveHighest p l e s m args below meth c Q A D cI cL cZ a_this a_points a_owners o_cuts o_queue o_takes o_bases o_ranked o_starts o_numbers o_walk i_order i_next v_points res)  : I_Share_giveHighest_b40 p l e s m args below meth c Q A D cI cL cZ a_this a_points a_owners o_cuts o_queue o_takes o_bases o_ranked o_starts o_numbers o_walk i_order i_next v_points res (f_Share_giveHighest_b40 N i_order v_points ) := by
  obtain ⟨hx, hb, hml, hown, hts, hK, hA⟩ := C
  intro l1 v_owners h H locs ls hl hP hD hS
  unfold f_Share_giveHighest_b40 at h
  refine lv_iload_n hx hb d_Share_giveHighest_40 rfl (lv_at hl 0 rfl) ?_
  exact hret _ _ _ _ l1 v_owners h d_Share_giveHighest_41 hP hD hS
set_option maxHeartbeats 4000000 in
set_option maxRecDepth 100000 in
theorem w_Share_giveHighest_b9 {p : Program} {l : Launch} {e : Env} {s : State} {m : MethodId} {args : Array Value} {below : List Frame} {meth : Method} {c : Code} {Q : State → Prop} {A : Nat → Prop} {D : va_G} {cI cL cZ : ClassId} {a_this : Nat} {a_points : Nat} {a_owners : Nat} {o_cuts : Nat} {o_queue : Nat} {o_takes : Nat} {o_bases : Nat} {o_ranked : Nat} {o_starts : Nat} {o_numbers : Nat} {o_walk : Nat} {i_order : Int32} {i_next : Int32} {v_points : Nat → Int32} {N : Nat} {res : Int32 × (Nat → Int32)}  (C : Cx p s m args c b_Share_giveHighest 3 "PrefixMill$Share" D [(cI, .int), (cL, .long), (cZ, .boolean)] A) (hret : E_Share_giveHighest p l e s m args below meth c Q A D cI cL cZ a_this a_points a_owners o_cuts o_queue o_takes o_bases o_ranked o_starts o_numbers o_walk i_order i_next v_points res)  : ∀ z : Nat, I_Share_giveHighest_b9 p l e s m args below meth c Q A D cI cL cZ a_this a_points a_owners o_cuts o_queue o_takes o_bases o_ranked o_starts o_numbers o_walk i_order i_next v_points res (f_Share_giveHighest_b9 N i_order v_points  z) := by
  obtain ⟨hx, hb, hml, hown, hts, hK, hA⟩ := C
  intro z
  induction z with
  | zero => intro l1 l2 v_owners h; cases h
  | succ z ih =>
    intro l1 l2 v_owners h H locs ls hl hP hD hS
    refine lv_iload_n hx hb d_Share_giveHighest_9 rfl (lv_at hl 2 rfl) ?_
    refine lv_bipush (v := 12) hx hb d_Share_giveHighest_10 (by decide) ?_
    refine lv_icmp_ge (tgt := 40) hx hb d_Share_giveHighest_12 (by decide) (fun c_1 => ?_) (fun c_1 => ?_)
    · replace h := if_t h c_1
      exact w_Share_giveHighest_b40 ⟨hx, hb, hml, hown, hts, hK, hA⟩ hret  _ _ h H locs ls (lv_sub hl [1] rfl) hP hD hS
    · replace h := if_f h c_1
      refine lv_aload_n hx hb d_Share_giveHighest_15 rfl (lv_at hl 0 rfl) ?_
      refine va_get hx hb hts in_Share hown hK hP 0 rfl rfl 0 (by decide) (hts _ m_211) (fun _ h9 => h9) rfl d_Share_giveHighest_16 ?_
      refine lv_iload_n hx hb d_Share_giveHighest_19 rfl (lv_at hl 2 rfl) ?_
      obtain ⟨g_2, h⟩ := ck_s h
      refine va_iald hx hb hK hP 1 0 rfl rfl (inb_s g_2) d_Share_giveHighest_20 ?_
      refine lv_if_ge (tgt := 34) hx hb d_Share_giveHighest_21 (by decide) (fun c_3 => ?_) (fun c_3 => ?_)
      · replace h := if_t h c_3
        exact w_Share_giveHighest_b34 ⟨hx, hb, hml, hown, hts, hK, hA⟩ hret ih _ _ _ h H locs ls (lv_sub hl [0, 1, 2] rfl) hP hD hS
      · replace h := if_f h c_3
        obtain ⟨l1_4, el1_4⟩ : ∃ y : Int32, y = l1 + (-1) := ⟨_, rfl⟩
        replace h := nm_s h el1_4
        refine lv_iinc (v := l1_4) (lv' := [(1, .int l1_4), (0, .ref a_this), (2, .int l2)]) hx hb d_Share_giveHighest_24 hl (k := 1) rfl (by rw [el1_4]; rfl) (by decide) rfl (fun ls hl => ?_)
        refine lv_aload_n hx hb d_Share_giveHighest_27 rfl (lv_at hl 1 rfl) ?_
        refine va_get hx hb hts in_Share hown hK hP 0 rfl rfl 3 (by decide) (hts _ m_214) (fun _ h9 => h9) rfl d_Share_giveHighest_28 ?_
        refine lv_iload_n hx hb d_Share_giveHighest_31 rfl (lv_at hl 0 rfl) ?_
        refine lv_iload_n hx hb d_Share_giveHighest_32 rfl (lv_at hl 2 rfl) ?_
        obtain ⟨g_5, h⟩ := ck_s h
        refine va_iast hx hb hK hP hD hS 2 0 rfl rfl (inb_s g_5) d_Share_giveHighest_33 (fun H locs hP hD hS => ?_)
        obtain ⟨v_owners_6, ev_owners_6⟩ : ∃ y, y = (upd v_owners (Int32.toNatClampNeg l1_4) l2) := ⟨_, rfl⟩
        replace h := nm_s h ev_owners_6
        have hP : va_P D classes [(a_this, .inr (6, [.ref a_points, .ref o_cuts, .ref o_queue, .ref a_owners, .ref o_takes, .ref o_bases, .ref o_ranked, .ref o_starts, .ref o_numbers, .ref o_walk, .int i_order, .int i_next])), (a_points, .inl (cI, 12, .inl v_points)), (a_owners, .inl (cI, 64, .inl v_owners_6))] H := by rw [ev_owners_6]; exact hP
        have hD : va_D A [(a_this, .inr (6, [.ref a_points, .ref o_cuts, .ref o_queue, .ref a_owners, .ref o_takes, .ref o_bases, .ref o_ranked, .ref o_starts, .ref o_numbers, .ref o_walk, .int i_order, .int i_next])), (a_points, .inl (cI, 12, .inl v_points)), (a_owners, .inl (cI, 64, .inl v_owners_6))] := by rw [ev_owners_6]; exact hD
        exact w_Share_giveHighest_b34 ⟨hx, hb, hml, hown, hts, hK, hA⟩ hret ih _ _ _ h H locs ls (lv_sub hl [1, 0, 2] rfl) hP hD hS
set_option maxHeartbeats 4000000 in
set_option maxRecDepth 100000 in
theorem w_Share_giveHighest_b0 {p : Program} {l : Launch} {e : Env} {s : State} {m : MethodId} {args : Array Value} {below : List Frame} {meth : Method} {c : Code} {Q : State → Prop} {A : Nat → Prop} {D : va_G} {cI cL cZ : ClassId} {a_this : Nat} {a_points : Nat} {a_owners : Nat} {o_cuts : Nat} {o_queue : Nat} {o_takes : Nat} {o_bases : Nat} {o_ranked : Nat} {o_starts : Nat} {o_numbers : Nat} {o_walk : Nat} {i_order : Int32} {i_next : Int32} {v_points : Nat → Int32} {N : Nat} {res : Int32 × (Nat → Int32)}  (C : Cx p s m args c b_Share_giveHighest 3 "PrefixMill$Share" D [(cI, .int), (cL, .long), (cZ, .boolean)] A) (hret : E_Share_giveHighest p l e s m args below meth c Q A D cI cL cZ a_this a_points a_owners o_cuts o_queue o_takes o_bases o_ranked o_starts o_numbers o_walk i_order i_next v_points res)  : I_Share_giveHighest_b0 p l e s m args below meth c Q A D cI cL cZ a_this a_points a_owners o_cuts o_queue o_takes o_bases o_ranked o_starts o_numbers o_walk i_order i_next v_points res (f_Share_giveHighest N i_order v_points ) := by
  obtain ⟨hx, hb, hml, hown, hts, hK, hA⟩ := C
  intro v_owners h H locs ls hl hP hD hS
  unfold f_Share_giveHighest at h
  refine lv_iconst (v := 1) hx hb d_Share_giveHighest_0 (by decide) ?_
  refine lv_aload_n hx hb d_Share_giveHighest_1 rfl (lv_at hl 0 rfl) ?_
  refine va_get hx hb hts in_Share hown hK hP 0 rfl rfl 10 (by decide) (hts _ m_226) (fun _ h9 => h9) rfl d_Share_giveHighest_2 ?_
  refine lv_ishl hx hb d_Share_giveHighest_5 ?_
  refine lv_topi (fun l1_1 el1_1 => ?_)
  replace h := nm_s h el1_1
  refine lv_istore_n (lv' := [(1, .int l1_1), (0, .ref a_this)]) hx hb d_Share_giveHighest_6 rfl hl (by decide) rfl (fun ls hl => ?_)
  refine lv_iconst (v := 0) hx hb d_Share_giveHighest_7 (by decide) ?_
  refine lv_istore_n (lv' := [(2, .int 0), (1, .int l1_1), (0, .ref a_this)]) hx hb d_Share_giveHighest_8 rfl hl (by decide) rfl (fun ls hl => ?_)
  exact w_Share_giveHighest_b9 ⟨hx, hb, hml, hown, hts, hK, hA⟩ hret  N _ _ _ h H locs ls (lv_sub hl [2, 1, 0] rfl) hP hD hS
set_option maxHeartbeats 4000000 in
set_option maxRecDepth 100000 in
theorem c_Share_giveHighest (l : Launch) (D : va_G) (cI cL cZ : ClassId) (sz N : Nat) (a_this : Nat) (a_points : Nat) (a_owners : Nat) (o_cuts : Nat) (o_queue : Nat) (o_takes : Nat) (o_bases : Nat) (o_ranked : Nat) (o_starts : Nat) (o_numbers : Nat) (o_walk : Nat) (i_order : Int32) (i_next : Int32) (v_points : Nat → Int32) (v_owners : Nat → Int32) (rv : Int32) (v_owners' : Nat → Int32) (h : f_Share_giveHighest N i_order v_points v_owners = some (rv, v_owners')) : Met l ({ cls := "PrefixMill$Share", name := "giveHighest", desc := "()I" } : Jvm.MethodName) ws_Share_giveHighest R_Share_giveHighest (va_Pc [.ref a_this] (fun U => U.heap.size = sz ∧ va_P D classes [(a_this, .inr (6, [.ref a_points, .ref o_cuts, .ref o_queue, .ref a_owners, .ref o_takes, .ref o_bases, .ref o_ranked, .ref o_starts, .ref o_numbers, .ref o_walk, .int i_order, .int i_next])), (a_points, .inl (cI, 12, .inl v_points)), (a_owners, .inl (cI, 64, .inl v_owners))] U.heap ∧ va_K D classes [(cI, .int), (cL, .long), (cZ, .boolean)] U ∧ va_D (fun _ => True) [(a_this, .inr (6, [.ref a_points, .ref o_cuts, .ref o_queue, .ref a_owners, .ref o_takes, .ref o_bases, .ref o_ranked, .ref o_starts, .ref o_numbers, .ref o_walk, .int i_order, .int i_next])), (a_points, .inl (cI, 12, .inl v_points)), (a_owners, .inl (cI, 64, .inl v_owners))])) (va_Qi (fun (r0 : Int32) (_ : Unit) => rv = r0) (fun _ t => va_P D classes [(a_this, .inr (6, [.ref a_points, .ref o_cuts, .ref o_queue, .ref a_owners, .ref o_takes, .ref o_bases, .ref o_ranked, .ref o_starts, .ref o_numbers, .ref o_walk, .int i_order, .int i_next])), (a_points, .inl (cI, 12, .inl v_points)), (a_owners, .inl (cI, 64, .inl v_owners'))] t.heap ∧ va_K D classes [(cI, .int), (cL, .long), (cZ, .boolean)] t ∧ va_D (va_A [(a_this, .inr (6, [.ref a_points, .ref o_cuts, .ref o_queue, .ref a_owners, .ref o_takes, .ref o_bases, .ref o_ranked, .ref o_starts, .ref o_numbers, .ref o_walk, .int i_order, .int i_next])), (a_points, .inl (cI, 12, .inl v_points)), (a_owners, .inl (cI, 64, .inl v_owners))] sz) [(a_this, .inr (6, [.ref a_points, .ref o_cuts, .ref o_queue, .ref a_owners, .ref o_takes, .ref o_bases, .ref o_ranked, .ref o_starts, .ref o_numbers, .ref o_walk, .int i_order, .int i_next])), (a_points, .inl (cI, 12, .inl v_points)), (a_owners, .inl (cI, 64, .inl v_owners'))]) (va_A [(a_this, .inr (6, [.ref a_points, .ref o_cuts, .ref o_queue, .ref a_owners, .ref o_takes, .ref o_bases, .ref o_ranked, .ref o_starts, .ref o_numbers, .ref o_walk, .int i_order, .int i_next])), (a_points, .inl (cI, 12, .inl v_points)), (a_owners, .inl (cI, 64, .inl v_owners))] sz)) 0 0 (va_A [(a_this, .inr (6, [.ref a_points, .ref o_cuts, .ref o_queue, .ref a_owners, .ref o_takes, .ref o_bases, .ref o_ranked, .ref o_starts, .ref o_numbers, .ref o_walk, .int i_order, .int i_next])), (a_points, .inl (cI, 12, .inl v_points)), (a_owners, .inl (cI, 64, .inl v_owners))] sz) := by
  refine Met.ofW (cc := b_Share_giveHighest) (maxL := 3) (ret := (some .int)) (by decide) rfl ?_
  intro p e s m args below meth c s₁ B hml hv
  obtain ⟨rfl, hsz, hP, hK, hD0⟩ := hv
  have hx := B.exec
  have hb := B.bytes
  have hr := B.returns
  have hts0 := atoms_spec (ws := ws_Share_giveHighest) B.pre
  have hts := gd_tl hts0
  clear hts0
  have hown : s.vm.findClass "PrefixMill$Share" = some m.cls := findClass_of_methodNamed B.named
  have hlocks := B.notSynchronized
  subst hsz
  have hD := hD0.self (sz := s.heap.size)
  generalize hAe : va_A [(a_this, .inr (6, [.ref a_points, .ref o_cuts, .ref o_queue, .ref a_owners, .ref o_takes, .ref o_bases, .ref o_ranked, .ref o_starts, .ref o_numbers, .ref o_walk, .int i_order, .int i_next])), (a_points, .inl (cI, 12, .inl v_points)), (a_owners, .inl (cI, 64, .inl v_owners))] s.heap.size = A at hD ⊢
  have hA : ∀ q : Nat, s.heap.size ≤ q → A q := fun q h => by rw [← hAe]; exact Or.inr h
  have hS : va_S A s.heap s.heap [] := va_S.rf
  have hP : va_P D classes [(a_this, .inr (6, [.ref a_points, .ref o_cuts, .ref o_queue, .ref a_owners, .ref o_takes, .ref o_bases, .ref o_ranked, .ref o_starts, .ref o_numbers, .ref o_walk, .int i_order, .int i_next])), (a_points, .inl (cI, 12, .inl v_points)), (a_owners, .inl (cI, 64, .inl v_owners))] s.heap := hP
  have hl := lv_entry ([.ref a_this]) (n := 3) (Nat.le_of_ble_eq_true rfl)
  rw [lg_entry_eq]
  generalize (lg_sl ([.ref a_this]) ++ List.replicate (3 - (lg_sl ([.ref a_this])).length) Slot.unset).toArray = ls at hl ⊢
  have hl : lv_has ls 3 [(0, .ref a_this)] := hl
  have C : Cx p s m ([.ref a_this] : List Value).toArray c b_Share_giveHighest 3 "PrefixMill$Share" D [(cI, .int), (cL, .long), (cZ, .boolean)] A := ⟨hx, hb, hml, hown, hts, hK, hA⟩
  refine w_Share_giveHighest_b0 (res := (rv, v_owners')) C ?_ _ h s.heap [] ls hl hP hD hS
  intro pc9 H9 locs9 ls9 rv9 v_owners9 e9 d9 hP9 hD9 hS9
  cases e9
  exact W.iret (v := rv) hx hb hr (fun t ht hW => ⟨⟨rv, (), rfl, rfl, by rw [ht]; exact hP9, va_K.moved hW.alike hK, hD9⟩, hS9.F ht⟩) hS9.2.2 d9
abbrev b_Share_giveByWalk : ByteArray := prog_6_method_10_code
def ws_Share_giveByWalk : List Cond := .code ({ cls := "PrefixMill$Share", name := "giveByWalk", desc := "(I)V" } : Jvm.MethodName) b_Share_giveByWalk 8 none :: tt
theorem d_Share_giveByWalk_0 : decode b_Share_giveByWalk 0 = .ok (.iconst 1, 1) := by decide +kernel
theorem d_Share_giveByWalk_1 : decode b_Share_giveByWalk 1 = .ok (.aload_n 0, 1) := by decide +kernel
theorem d_Share_giveByWalk_2 : decode b_Share_giveByWalk 2 = .ok (.getfield 48, 3) := by decide +kernel
theorem d_Share_giveByWalk_5 : decode b_Share_giveByWalk 5 = .ok (.ishl, 1) := by decide +kernel
theorem d_Share_giveByWalk_6 : decode b_Share_giveByWalk 6 = .ok (.istore_n 2, 1) := by decide +kernel
theorem d_Share_giveByWalk_7 : decode b_Share_giveByWalk 7 = .ok (.iload_n 2, 1) := by decide +kernel
theorem d_Share_giveByWalk_8 : decode b_Share_giveByWalk 8 = .ok (.iconst 1, 1) := by decide +kernel
theorem d_Share_giveByWalk_9 : decode b_Share_giveByWalk 9 = .ok (.ishr, 1) := by decide +kernel
theorem d_Share_giveByWalk_10 : decode b_Share_giveByWalk 10 = .ok (.iload_n 2, 1) := by decide +kernel
theorem d_Share_giveByWalk_11 : decode b_Share_giveByWalk 11 = .ok (.iconst 3, 1) := by decide +kernel
theorem d_Share_giveByWalk_12 : decode b_Share_giveByWalk 12 = .ok (.ishr, 1) := by decide +kernel
theorem d_Share_giveByWalk_13 : decode b_Share_giveByWalk 13 = .ok (.iadd, 1) := by decide +kernel
theorem d_Share_giveByWalk_14 : decode b_Share_giveByWalk 14 = .ok (.iconst 3, 1) := by decide +kernel
theorem d_Share_giveByWalk_15 : decode b_Share_giveByWalk 15 = .ok (.iadd, 1) := by decide +kernel
theorem d_Share_giveByWalk_16 : decode b_Share_giveByWalk 16 = .ok (.istore_n 3, 1) := by decide +kernel
theorem d_Share_giveByWalk_17 : decode b_Share_giveByWalk 17 = .ok (.iconst 0, 1) := by decide +kernel
theorem d_Share_giveByWalk_18 : decode b_Share_giveByWalk 18 = .ok (.istore 4, 2) := by decide +kernel
theorem d_Share_giveByWalk_20 : decode b_Share_giveByWalk 20 = .ok (.iconst 0, 1) := by decide +kernel
theorem d_Share_giveByWalk_21 : decode b_Share_giveByWalk 21 = .ok (.istore 5, 2) := by decide +kernel
theorem d_Share_giveByWalk_23 : decode b_Share_giveByWalk 23 = .ok (.iload 5, 2) := by decide +kernel
theorem d_Share_giveByWalk_25 : decode b_Share_giveByWalk 25 = .ok (.iload_n 2, 1) := by decide +kernel
theorem d_Share_giveByWalk_26 : decode b_Share_giveByWalk 26 = .ok (.if_icmp .ge 37, 3) := by decide +kernel
theorem d_Share_giveByWalk_29 : decode b_Share_giveByWalk 29 = .ok (.iload 5, 2) := by decide +kernel
theorem d_Share_giveByWalk_31 : decode b_Share_giveByWalk 31 = .ok (.iload_n 3, 1) := by decide +kernel
theorem d_Share_giveByWalk_32 : decode b_Share_giveByWalk 32 = .ok (.imul, 1) := by decide +kernel
theorem d_Share_giveByWalk_33 : decode b_Share_giveByWalk 33 = .ok (.iload_n 2, 1) := by decide +kernel
theorem d_Share_giveByWalk_34 : decode b_Share_giveByWalk 34 = .ok (.iconst 1, 1) := by decide +kernel
theorem d_Share_giveByWalk_35 : decode b_Share_giveByWalk 35 = .ok (.isub, 1) := by decide +kernel
theorem d_Share_giveByWalk_36 : decode b_Share_giveByWalk 36 = .ok (.iand, 1) := by decide +kernel
theorem d_Share_giveByWalk_37 : decode b_Share_giveByWalk 37 = .ok (.istore 6, 2) := by decide +kernel
theorem d_Share_giveByWalk_39 : decode b_Share_giveByWalk 39 = .ok (.iload 6, 2) := by decide +kernel
theorem d_Share_giveByWalk_41 : decode b_Share_giveByWalk 41 = .ok (.iload_n 1, 1) := by decide +kernel
theorem d_Share_giveByWalk_42 : decode b_Share_giveByWalk 42 = .ok (.if_icmp .ge 15, 3) := by decide +kernel
theorem d_Share_giveByWalk_45 : decode b_Share_giveByWalk 45 = .ok (.aload_n 0, 1) := by decide +kernel
theorem d_Share_giveByWalk_46 : decode b_Share_giveByWalk 46 = .ok (.getfield 39, 3) := by decide +kernel
theorem d_Share_giveByWalk_49 : decode b_Share_giveByWalk 49 = .ok (.iload 4, 2) := by decide +kernel
theorem d_Share_giveByWalk_51 : decode b_Share_giveByWalk 51 = .ok (.iload 6, 2) := by decide +kernel
theorem d_Share_giveByWalk_53 : decode b_Share_giveByWalk 53 = .ok (.iastore, 1) := by decide +kernel
theorem d_Share_giveByWalk_54 : decode b_Share_giveByWalk 54 = .ok (.iinc 4 1, 3) := by decide +kernel
theorem d_Share_giveByWalk_57 : decode b_Share_giveByWalk 57 = .ok (.iinc 5 1, 3) := by decide +kernel
theorem d_Share_giveByWalk_60 : decode b_Share_giveByWalk 60 = .ok (.goto (-37), 3) := by decide +kernel
theorem d_Share_giveByWalk_63 : decode b_Share_giveByWalk 63 = .ok (.iconst 0, 1) := by decide +kernel
theorem d_Share_giveByWalk_64 : decode b_Share_giveByWalk 64 = .ok (.istore 5, 2) := by decide +kernel
theorem d_Share_giveByWalk_66 : decode b_Share_giveByWalk 66 = .ok (.iconst 0, 1) := by decide +kernel
theorem d_Share_giveByWalk_67 : decode b_Share_giveByWalk 67 = .ok (.istore 6, 2) := by decide +kernel
theorem d_Share_giveByWalk_69 : decode b_Share_giveByWalk 69 = .ok (.iload 6, 2) := by decide +kernel
theorem d_Share_giveByWalk_71 : decode b_Share_giveByWalk 71 = .ok (.bipush 12, 2) := by decide +kernel
theorem d_Share_giveByWalk_73 : decode b_Share_giveByWalk 73 = .ok (.if_icmp .ge 54, 3) := by decide +kernel
theorem d_Share_giveByWalk_76 : decode b_Share_giveByWalk 76 = .ok (.iconst 0, 1) := by decide +kernel
theorem d_Share_giveByWalk_77 : decode b_Share_giveByWalk 77 = .ok (.istore 7, 2) := by decide +kernel
theorem d_Share_giveByWalk_79 : decode b_Share_giveByWalk 79 = .ok (.iload 7, 2) := by decide +kernel
theorem d_Share_giveByWalk_81 : decode b_Share_giveByWalk 81 = .ok (.aload_n 0, 1) := by decide +kernel
theorem d_Share_giveByWalk_82 : decode b_Share_giveByWalk 82 = .ok (.getfield 9, 3) := by decide +kernel
theorem d_Share_giveByWalk_85 : decode b_Share_giveByWalk 85 = .ok (.iload 6, 2) := by decide +kernel
theorem d_Share_giveByWalk_87 : decode b_Share_giveByWalk 87 = .ok (.iaload, 1) := by decide +kernel
theorem d_Share_giveByWalk_88 : decode b_Share_giveByWalk 88 = .ok (.if_icmp .ge 33, 3) := by decide +kernel
theorem d_Share_giveByWalk_91 : decode b_Share_giveByWalk 91 = .ok (.iload 5, 2) := by decide +kernel
theorem d_Share_giveByWalk_93 : decode b_Share_giveByWalk 93 = .ok (.iload 4, 2) := by decide +kernel
theorem d_Share_giveByWalk_95 : decode b_Share_giveByWalk 95 = .ok (.if_icmp .ge 26, 3) := by decide +kernel
theorem d_Share_giveByWalk_98 : decode b_Share_giveByWalk 98 = .ok (.aload_n 0, 1) := by decide +kernel
theorem d_Share_giveByWalk_99 : decode b_Share_giveByWalk 99 = .ok (.getfield 21, 3) := by decide +kernel
theorem d_Share_giveByWalk_102 : decode b_Share_giveByWalk 102 = .ok (.aload_n 0, 1) := by decide +kernel
theorem d_Share_giveByWalk_103 : decode b_Share_giveByWalk 103 = .ok (.getfield 39, 3) := by decide +kernel
theorem d_Share_giveByWalk_106 : decode b_Share_giveByWalk 106 = .ok (.iload 5, 2) := by decide +kernel
theorem d_Share_giveByWalk_108 : decode b_Share_giveByWalk 108 = .ok (.iaload, 1) := by decide +kernel
theorem d_Share_giveByWalk_109 : decode b_Share_giveByWalk 109 = .ok (.iload 6, 2) := by decide +kernel
theorem d_Share_giveByWalk_111 : decode b_Share_giveByWalk 111 = .ok (.iastore, 1) := by decide +kernel
theorem d_Share_giveByWalk_112 : decode b_Share_giveByWalk 112 = .ok (.iinc 5 1, 3) := by decide +kernel
theorem d_Share_giveByWalk_115 : decode b_Share_giveByWalk 115 = .ok (.iinc 7 1, 3) := by decide +kernel
theorem d_Share_giveByWalk_118 : decode b_Share_giveByWalk 118 = .ok (.goto (-39), 3) := by decide +kernel
theorem d_Share_giveByWalk_121 : decode b_Share_giveByWalk 121 = .ok (.iinc 6 1, 3) := by decide +kernel
theorem d_Share_giveByWalk_124 : decode b_Share_giveByWalk 124 = .ok (.goto (-55), 3) := by decide +kernel
theorem d_Share_giveByWalk_127 : decode b_Share_giveByWalk 127 = .ok (.return_, 1) := by decide +kernel
def f_Share_giveByWalk_b57 (N : Nat) (i_order : Int32) (v_points : Nat → Int32) (l1 : Int32) (k23 : Int32 → Int32 → Int32 → Int32 → (Nat → Int32) → (Nat → Int32) → Option ((Nat → Int32) × (Nat → Int32))) (l2 : Int32) (l3 : Int32) (l4 : Int32) (l5 : Int32) (v_owners : Nat → Int32) (v_walk : Nat → Int32) : Option ((Nat → Int32) × (Nat → Int32)) :=
  nm (l5 + 1) fun l5_1 =>
  k23 l2 l3 l4 l5_1 v_owners v_walk
def f_Share_giveByWalk_b121 (N : Nat) (i_order : Int32) (v_points : Nat → Int32) (l1 : Int32) (k69 : Int32 → Int32 → Int32 → (Nat → Int32) → (Nat → Int32) → Option ((Nat → Int32) × (Nat → Int32))) (l4 : Int32) (l5 : Int32) (l6 : Int32) (v_owners : Nat → Int32) (v_walk : Nat → Int32) : Option ((Nat → Int32) × (Nat → Int32)) :=
  nm (l6 + 1) fun l6_1 =>
  k69 l4 l5 l6_1 v_owners v_walk
def f_Share_giveByWalk_b79 (N : Nat) (i_order : Int32) (v_points : Nat → Int32) (l1 : Int32) (k69 : Int32 → Int32 → Int32 → (Nat → Int32) → (Nat → Int32) → Option ((Nat → Int32) × (Nat → Int32))) : Nat → Int32 → Int32 → Int32 → Int32 → (Nat → Int32) → (Nat → Int32) → Option ((Nat → Int32) × (Nat → Int32))
  | 0, _, _, _, _, _, _ => none
  | z + 1, l4, l5, l6, l7, v_owners, v_walk =>
  ck (inb l6 12) <|
  if (v_points (Int32.toNatClampNeg l6)) ≤ l7 then
  f_Share_giveByWalk_b121 N i_order v_points l1 k69 l4 l5 l6 v_owners v_walk
  else
  if l4 ≤ l5 then
  f_Share_giveByWalk_b121 N i_order v_points l1 k69 l4 l5 l6 v_owners v_walk
  else
  ck (inb l5 64) <|
  ck (inb (v_walk (Int32.toNatClampNeg l5)) 64) <|
  nm (upd v_owners (Int32.toNatClampNeg (v_walk (Int32.toNatClampNeg l5))) l6) fun v_owners_6 =>
  nm (l5 + 1) fun l5_7 =>
  nm (l7 + 1) fun l7_8 =>
  f_Share_giveByWalk_b79 N i_order v_points l1 k69 z l4 l5_7 l6 l7_8 v_owners_6 v_walk
def f_Share_giveByWalk_b69 (N : Nat) (i_order : Int32) (v_points : Nat → Int32) (l1 : Int32)  : Nat → Int32 → Int32 → Int32 → (Nat → Int32) → (Nat → Int32) → Option ((Nat → Int32) × (Nat → Int32))
  | 0, _, _, _, _, _ => none
  | z + 1, l4, l5, l6, v_owners, v_walk =>
  if 12 ≤ l6 then
  some (v_owners, v_walk)
  else
  f_Share_giveByWalk_b79 N i_order v_points l1 (f_Share_giveByWalk_b69 N i_order v_points l1  z) N l4 l5 l6 0 v_owners v_walk
def f_Share_giveByWalk_b63 (N : Nat) (i_order : Int32) (v_points : Nat → Int32) (l1 : Int32)  (l4 : Int32) (v_owners : Nat → Int32) (v_walk : Nat → Int32) : Option ((Nat → Int32) × (Nat → Int32)) :=
  f_Share_giveByWalk_b69 N i_order v_points l1  N l4 0 0 v_owners v_walk
def f_Share_giveByWalk_b23 (N : Nat) (i_order : Int32) (v_points : Nat → Int32) (l1 : Int32)  : Nat → Int32 → Int32 → Int32 → Int32 → (Nat → Int32) → (Nat → Int32) → Option ((Nat → Int32) × (Nat → Int32))
  | 0, _, _, _, _, _, _ => none
  | z + 1, l2, l3, l4, l5, v_owners, v_walk =>
  if l2 ≤ l5 then
  f_Share_giveByWalk_b63 N i_order v_points l1  l4 v_owners v_walk
  else
  nm ((l5 * l3) &&& (l2 - 1)) fun l6_2 =>
  if l1 ≤ l6_2 then
  f_Share_giveByWalk_b57 N i_order v_points l1 (f_Share_giveByWalk_b23 N i_order v_points l1  z) l2 l3 l4 l5 v_owners v_walk
  else
  ck (inb l4 64) <|
  nm (upd v_walk (Int32.toNatClampNeg l4) l6_2) fun v_walk_5 =>
  nm (l4 + 1) fun l4_6 =>
  f_Share_giveByWalk_b57 N i_order v_points l1 (f_Share_giveByWalk_b23 N i_order v_points l1  z) l2 l3 l4_6 l5 v_owners v_walk_5
def f_Share_giveByWalk (N : Nat) (i_order : Int32) (v_points : Nat → Int32) (l1 : Int32)  (v_owners : Nat → Int32) (v_walk : Nat → Int32) : Option ((Nat → Int32) × (Nat → Int32)) :=
  nm (1 <<< (i_order &&& 31)) fun l2_1 =>
  nm (((l2_1 >>> (1 &&& 31)) + (l2_1 >>> (3 &&& 31))) + 3) fun l3_2 =>
  f_Share_giveByWalk_b23 N i_order v_points l1  N l2_1 l3_2 0 0 v_owners v_walk
abbrev R_Share_giveByWalk : Room := ({ frames := 0, cells := 0, slots := 0, locals := 0 } : Room)
def E_Share_giveByWalk (p : Program) (l : Launch) (e : Env) (s : State) (m : MethodId) (args : Array Value) (below : List Frame) (meth : Method) (c : Code) (Q : State → Prop) (A : Nat → Prop) (D : va_G) (cI cL cZ : ClassId) (a_this : Nat) (a_points : Nat) (a_owners : Nat) (a_walk : Nat) (o_cuts : Nat) (o_queue : Nat) (o_takes : Nat) (o_bases : Nat) (o_ranked : Nat) (o_starts : Nat) (o_numbers : Nat) (i_order : Int32) (i_next : Int32) (v_points : Nat → Int32) (l1 : Int32) (res : (Nat → Int32) × (Nat → Int32)) : Prop := ∀ (pc : Nat) (H : Heap) (locs : List Loc) (ls : Array Slot) (v_owners : Nat → Int32) (v_walk : Nat → Int32), some (v_owners, v_walk) = some res → decode b_Share_giveByWalk pc = .ok (.return_, 1) → va_P D classes [(a_this, .inr (6, [.ref a_points, .ref o_cuts, .ref o_queue, .ref a_owners, .ref o_takes, .ref o_bases, .ref o_ranked, .ref o_starts, .ref o_numbers, .ref a_walk, .int i_order, .int i_next])), (a_points, .inl (cI, 12, .inl v_points)), (a_owners, .inl (cI, 64, .inl v_owners)), (a_walk, .inl (cI, 64, .inl v_walk))] H → va_D A [(a_this, .inr (6, [.ref a_points, .ref o_cuts, .ref o_queue, .ref a_owners, .ref o_takes, .ref o_bases, .ref o_ranked, .ref o_starts, .ref o_numbers, .ref a_walk, .int i_order, .int i_next])), (a_points, .inl (cI, 12, .inl v_points)), (a_owners, .inl (cI, 64, .inl v_owners)), (a_walk, .inl (cI, 64, .inl v_walk))] → va_S A s.heap H locs → W p l e R_Share_giveByWalk s m args below meth c H locs 0 0 Q (F0 m pc ls [])
def I_Share_giveByWalk_b57 (p : Program) (l : Launch) (e : Env) (s : State) (m : MethodId) (args : Array Value) (below : List Frame) (meth : Method) (c : Code) (Q : State → Prop) (A : Nat → Prop) (D : va_G) (cI cL cZ : ClassId) (a_this : Nat) (a_points : Nat) (a_owners : Nat) (a_walk : Nat) (o_cuts : Nat) (o_queue : Nat) (o_takes : Nat) (o_bases : Nat) (o_ranked : Nat) (o_starts : Nat) (o_numbers : Nat) (i_order : Int32) (i_next : Int32) (v_points : Nat → Int32) (l1 : Int32) (res : (Nat → Int32) × (Nat → Int32)) (kf : Int32 → Int32 → Int32 → Int32 → (Nat → Int32) → (Nat → Int32) → Option ((Nat → Int32) × (Nat → Int32))) : Prop := ∀ (l2 : Int32) (l3 : Int32) (l4 : Int32) (l5 : Int32) (v_owners : Nat → Int32) (v_walk : Nat → Int32), kf l2 l3 l4 l5 v_owners v_walk = some res → ∀ (H : Heap) (locs : List Loc) (ls : Array Slot), lv_has ls 8 [(0, .ref a_this), (1, .int l1), (2, .int l2), (3, .int l3), (4, .int l4), (5, .int l5)] → va_P D classes [(a_this, .inr (6, [.ref a_points, .ref o_cuts, .ref o_queue, .ref a_owners, .ref o_takes, .ref o_bases, .ref o_ranked, .ref o_starts, .ref o_numbers, .ref a_walk, .int i_order, .int i_next])), (a_points, .inl (cI, 12, .inl v_points)), (a_owners, .inl (cI, 64, .inl v_owners)), (a_walk, .inl (cI, 64, .inl v_walk))] H → va_D A [(a_this, .inr (6, [.ref a_points, .ref o_cuts, .ref o_queue, .ref a_owners, .ref o_takes, .ref o_bases, .ref o_ranked, .ref o_starts, .ref o_numbers, .ref a_walk, .int i_order, .int i_next])), (a_points, .inl (cI, 12, .inl v_points)), (a_owners, .inl (cI, 64, .inl v_owners)), (a_walk, .inl (cI, 64, .inl v_walk))] → va_S A s.heap H locs → W p l e R_Share_giveByWalk s m args below meth c H locs 0 0 Q (F0 m 57 ls [])
def I_Share_giveByWalk_b121 (p : Program) (l : Launch) (e : Env) (s : State) (m : MethodId) (args : Array Value) (below : List Frame) (meth : Method) (c : Code) (Q : State → Prop) (A : Nat → Prop) (D : va_G) (cI cL cZ : ClassId) (a_this : Nat) (a_points : Nat) (a_owners : Nat) (a_walk : Nat) (o_cuts : Nat) (o_queue : Nat) (o_takes : Nat) (o_bases : Nat) (o_ranked : Nat) (o_starts : Nat) (o_numbers : Nat) (i_order : Int32) (i_next : Int32) (v_points : Nat → Int32) (l1 : Int32) (res : (Nat → Int32) × (Nat → Int32)) (kf : Int32 → Int32 → Int32 → (Nat → Int32) → (Nat → Int32) → Option ((Nat → Int32) × (Nat → Int32))) : Prop := ∀ (l4 : Int32) (l5 : Int32) (l6 : Int32) (v_owners : Nat → Int32) (v_walk : Nat → Int32), kf l4 l5 l6 v_owners v_walk = some res → ∀ (H : Heap) (locs : List Loc) (ls : Array Slot), lv_has ls 8 [(0, .ref a_this), (4, .int l4), (5, .int l5), (6, .int l6)] → va_P D classes [(a_this, .inr (6, [.ref a_points, .ref o_cuts, .ref o_queue, .ref a_owners, .ref o_takes, .ref o_bases, .ref o_ranked, .ref o_starts, .ref o_numbers, .ref a_walk, .int i_order, .int i_next])), (a_points, .inl (cI, 12, .inl v_points)), (a_owners, .inl (cI, 64, .inl v_owners)), (a_walk, .inl (cI, 64, .inl v_walk))] H → va_D A [(a_this, .inr (6, [.ref a_points, .ref o_cuts, .ref o_queue, .ref a_owners, .ref o_takes, .ref o_bases, .ref o_ranked, .ref o_starts, .ref o_numbers, .ref a_walk, .int i_order, .int i_next])), (a_points, .inl (cI, 12, .inl v_points)), (a_owners, .inl (cI, 64, .inl v_owners)), (a_walk, .inl (cI, 64, .inl v_walk))] → va_S A s.heap H locs → W p l e R_Share_giveByWalk s m args below meth c H locs 0 0 Q (F0 m 121 ls [])
def I_Share_giveByWalk_b79 (p : Program) (l : Launch) (e : Env) (s : State) (m : MethodId) (args : Array Value) (below : List Frame) (meth : Method) (c : Code) (Q : State → Prop) (A : Nat → Prop) (D : va_G) (cI cL cZ : ClassId) (a_this : Nat) (a_points : Nat) (a_owners : Nat) (a_walk : Nat) (o_cuts : Nat) (o_queue : Nat) (o_takes : Nat) (o_bases : Nat) (o_ranked : Nat) (o_starts : Nat) (o_numbers : Nat) (i_order : Int32) (i_next : Int32) (v_points : Nat → Int32) (l1 : Int32) (res : (Nat → Int32) × (Nat → Int32)) (kf : Int32 → Int32 → Int32 → Int32 → (Nat → Int32) → (Nat → Int32) → Option ((Nat → Int32) × (Nat → Int32))) : Prop := ∀ (l4 : Int32) (l5 : Int32) (l6 : Int32) (l7 : Int32) (v_owners : Nat → Int32) (v_walk : Nat → Int32), kf l4 l5 l6 l7 v_owners v_walk = some res → ∀ (H : Heap) (locs : List Loc) (ls : Array Slot), lv_has ls 8 [(0, .ref a_this), (4, .int l4), (5, .int l5), (6, .int l6), (7, .int l7)] → va_P D classes [(a_this, .inr (6, [.ref a_points, .ref o_cuts, .ref o_queue, .ref a_owners, .ref o_takes, .ref o_bases, .ref o_ranked, .ref o_starts, .ref o_numbers, .ref a_walk, .int i_order, .int i_next])), (a_points, .inl (cI, 12, .inl v_points)), (a_owners, .inl (cI, 64, .inl v_owners)), (a_walk, .inl (cI, 64, .inl v_walk))] H → va_D A [(a_this, .inr (6, [.ref a_points, .ref o_cuts, .ref o_queue, .ref a_owners, .ref o_takes, .ref o_bases, .ref o_ranked, .ref o_starts, .ref o_numbers, .ref a_walk, .int i_order, .int i_next])), (a_points, .inl (cI, 12, .inl v_points)), (a_owners, .inl (cI, 64, .inl v_owners)), (a_walk, .inl (cI, 64, .inl v_walk))] → va_S A s.heap H locs → W p l e R_Share_giveByWalk s m args below meth c H locs 0 0 Q (F0 m 79 ls [])
def I_Share_giveByWalk_b69 (p : Program) (l : Launch) (e : Env) (s : State) (m : MethodId) (args : Array Value) (below : List Frame) (meth : Method) (c : Code) (Q : State → Prop) (A : Nat → Prop) (D : va_G) (cI cL cZ : ClassId) (a_this : Nat) (a_points : Nat) (a_owners : Nat) (a_walk : Nat) (o_cuts : Nat) (o_queue : Nat) (o_takes : Nat) (o_bases : Nat) (o_ranked : Nat) (o_starts : Nat) (o_numbers : Nat) (i_order : Int32) (i_next : Int32) (v_points : Nat → Int32) (l1 : Int32) (res : (Nat → Int32) × (Nat → Int32)) (kf : Int32 → Int32 → Int32 → (Nat → Int32) → (Nat → Int32) → Option ((Nat → Int32) × (Nat → Int32))) : Prop := ∀ (l4 : Int32) (l5 : Int32) (l6 : Int32) (v_owners : Nat → Int32) (v_walk : Nat → Int32), kf l4 l5 l6 v_owners v_walk = some res → ∀ (H : Heap) (locs : List Loc) (ls : Array Slot), lv_has ls 8 [(0, .ref a_this), (4, .int l4), (5, .int l5), (6, .int l6)] → va_P D classes [(a_this, .inr (6, [.ref a_points, .ref o_cuts, .ref o_queue, .ref a_owners, .ref o_takes, .ref o_bases, .ref o_ranked, .ref o_starts, .ref o_numbers, .ref a_walk, .int i_order, .int i_next])), (a_points, .inl (cI, 12, .inl v_points)), (a_owners, .inl (cI, 64, .inl v_owners)), (a_walk, .inl (cI, 64, .inl v_walk))] H → va_D A [(a_this, .inr (6, [.ref a_points, .ref o_cuts, .ref o_queue, .ref a_owners, .ref o_takes, .ref o_bases, .ref o_ranked, .ref o_starts, .ref o_numbers, .ref a_walk, .int i_order, .int i_next])), (a_points, .inl (cI, 12, .inl v_points)), (a_owners, .inl (cI, 64, .inl v_owners)), (a_walk, .inl (cI, 64, .inl v_walk))] → va_S A s.heap H locs → W p l e R_Share_giveByWalk s m args below meth c H locs 0 0 Q (F0 m 69 ls [])
def I_Share_giveByWalk_b63 (p : Program) (l : Launch) (e : Env) (s : State) (m : MethodId) (args : Array Value) (below : List Frame) (meth : Method) (c : Code) (Q : State → Prop) (A : Nat → Prop) (D : va_G) (cI cL cZ : ClassId) (a_this : Nat) (a_points : Nat) (a_owners : Nat) (a_walk : Nat) (o_cuts : Nat) (o_queue : Nat) (o_takes : Nat) (o_bases : Nat) (o_ranked : Nat) (o_starts : Nat) (o_numbers : Nat) (i_order : Int32) (i_next : Int32) (v_points : Nat → Int32) (l1 : Int32) (res : (Nat → Int32) × (Nat → Int32)) (kf : Int32 → (Nat → Int32) → (Nat → Int32) → Option ((Nat → Int32) × (Nat → Int32))) : Prop := ∀ (l4 : Int32) (v_owners : Nat → Int32) (v_walk : Nat → Int32), kf l4 v_owners v_walk = some res → ∀ (H : Heap) (locs : List Loc) (ls : Array Slot), lv_has ls 8 [(0, .ref a_this), (4, .int l4)] → va_P D classes [(a_this, .inr (6, [.ref a_points, .ref o_cuts, .ref o_queue, .ref a_owners, .ref o_takes, .ref o_bases, .ref o_ranked, .ref o_starts, .ref o_numbers, .ref a_walk, .int i_order, .int i_next])), (a_points, .inl (cI, 12, .inl v_points)), (a_owners, .inl (cI, 64, .inl v_owners)), (a_walk, .inl (cI, 64, .inl v_walk))] H → va_D A [(a_this, .inr (6, [.ref a_points, .ref o_cuts, .ref o_queue, .ref a_owners, .ref o_takes, .ref o_bases, .ref o_ranked, .ref o_starts, .ref o_numbers, .ref a_walk, .int i_order, .int i_next])), (a_points, .inl (cI, 12, .inl v_points)), (a_owners, .inl (cI, 64, .inl v_owners)), (a_walk, .inl (cI, 64, .inl v_walk))] → va_S A s.heap H locs → W p l e R_Share_giveByWalk s m args below meth c H locs 0 0 Q (F0 m 63 ls [])
def I_Share_giveByWalk_b23 (p : Program) (l : Launch) (e : Env) (s : State) (m : MethodId) (args : Array Value) (below : List Frame) (meth : Method) (c : Code) (Q : State → Prop) (A : Nat → Prop) (D : va_G) (cI cL cZ : ClassId) (a_this : Nat) (a_points : Nat) (a_owners : Nat) (a_walk : Nat) (o_cuts : Nat) (o_queue : Nat) (o_takes : Nat) (o_bases : Nat) (o_ranked : Nat) (o_starts : Nat) (o_numbers : Nat) (i_order : Int32) (i_next : Int32) (v_points : Nat → Int32) (l1 : Int32) (res : (Nat → Int32) × (Nat → Int32)) (kf : Int32 → Int32 → Int32 → Int32 → (Nat → Int32) → (Nat → Int32) → Option ((Nat → Int32) × (Nat → Int32))) : Prop := ∀ (l2 : Int32) (l3 : Int32) (l4 : Int32) (l5 : Int32) (v_owners : Nat → Int32) (v_walk : Nat → Int32), kf l2 l3 l4 l5 v_owners v_walk = some res → ∀ (H : Heap) (locs : List Loc) (ls : Array Slot), lv_has ls 8 [(0, .ref a_this), (1, .int l1), (2, .int l2), (3, .int l3), (4, .int l4), (5, .int l5)] → va_P D classes [(a_this, .inr (6, [.ref a_points, .ref o_cuts, .ref o_queue, .ref a_owners, .ref o_takes, .ref o_bases, .ref o_ranked, .ref o_starts, .ref o_numbers, .ref a_walk, .int i_order, .int i_next])), (a_points, .inl (cI, 12, .inl v_points)), (a_owners, .inl (cI, 64, .inl v_owners)), (a_walk, .inl (cI, 64, .inl v_walk))] H → va_D A [(a_this, .inr (6, [.ref a_points, .ref o_cuts, .ref o_queue, .ref a_owners, .ref o_takes, .ref o_bases, .ref o_ranked, .ref o_starts, .ref o_numbers, .ref a_walk, .int i_order, .int i_next])), (a_points, .inl (cI, 12, .inl v_points)), (a_owners, .inl (cI, 64, .inl v_owners)), (a_walk, .inl (cI, 64, .inl v_walk))] → va_S A s.heap H locs → W p l e R_Share_giveByWalk s m args below meth c H locs 0 0 Q (F0 m 23 ls [])
def I_Share_giveByWalk_b0 (p : Program) (l : Launch) (e : Env) (s : State) (m : MethodId) (args : Array Value) (below : List Frame) (meth : Method) (c : Code) (Q : State → Prop) (A : Nat → Prop) (D : va_G) (cI cL cZ : ClassId) (a_this : Nat) (a_points : Nat) (a_owners : Nat) (a_walk : Nat) (o_cuts : Nat) (o_queue : Nat) (o_takes : Nat) (o_bases : Nat) (o_ranked : Nat) (o_starts : Nat) (o_numbers : Nat) (i_order : Int32) (i_next : Int32) (v_points : Nat → Int32) (l1 : Int32) (res : (Nat → Int32) × (Nat → Int32)) (kf : (Nat → Int32) → (Nat → Int32) → Option ((Nat → Int32) × (Nat → Int32))) : Prop := ∀ (v_owners : Nat → Int32) (v_walk : Nat → Int32), kf v_owners v_walk = some res → ∀ (H : Heap) (locs : List Loc) (ls : Array Slot), lv_has ls 8 [(0, .ref a_this), (1, .int l1)] → va_P D classes [(a_this, .inr (6, [.ref a_points, .ref o_cuts, .ref o_queue, .ref a_owners, .ref o_takes, .ref o_bases, .ref o_ranked, .ref o_starts, .ref o_numbers, .ref a_walk, .int i_order, .int i_next])), (a_points, .inl (cI, 12, .inl v_points)), (a_owners, .inl (cI, 64, .inl v_owners)), (a_walk, .inl (cI, 64, .inl v_walk))] H → va_D A [(a_this, .inr (6, [.ref a_points, .ref o_cuts, .ref o_queue, .ref a_owners, .ref o_takes, .ref o_bases, .ref o_ranked, .ref o_starts, .ref o_numbers, .ref a_walk, .int i_order, .int i_next])), (a_points, .inl (cI, 12, .inl v_points)), (a_owners, .inl (cI, 64, .inl v_owners)), (a_walk, .inl (cI, 64, .inl v_walk))] → va_S A s.heap H locs → W p l e R_Share_giveByWalk s m args below meth c H locs 0 0 Q (F0 m 0 ls [])
set_option maxHeartbeats 4000000 in
set_option maxRecDepth 100000 in
theorem w_Share_giveByWalk_b57 {p : Program} {l : Launch} {e : Env} {s : State} {m : MethodId} {args : Array Value} {below : List Frame} {meth : Method} {c : Code} {Q : State → Prop} {A : Nat → Prop} {D : va_G} {cI cL cZ : ClassId} {a_this : Nat} {a_points : Nat} {a_owners : Nat} {a_walk : Nat} {o_cuts : Nat} {o_queue : Nat} {o_takes : Nat} {o_bases : Nat} {o_ranked : Nat} {o_starts : Nat} {o_numbers : Nat} {i_order : Int32} {i_next : Int32} {v_points : Nat → Int32} {l1 : Int32} {N : Nat} {res : (Nat → Int32) × (Nat → Int32)} {k23 : Int32 → Int32 → Int32 → Int32 → (Nat → Int32) → (Nat → Int32) → Option ((Nat → Int32) × (Nat → Int32))} (C : Cx p s m args c b_Share_giveByWalk 8 "PrefixMill$Share" D [(cI, .int), (cL, .long), (cZ, .boolean)] A) (hret : E_Share_giveByWalk p l e s m args below meth c Q A D cI cL cZ a_this a_points a_owners a_walk o_cuts o_queue o_takes o_bases o_ranked o_starts o_numbers i_order i_next v_points l1 res) (hk23 : I_Share_giveByWalk_b23 p l e s m args below meth c Q A D cI cL cZ a_this a_points a_owners a_walk o_cuts o_queue o_takes o_bases o_ranked o_starts o_numbers i_order i_next v_points l1 res k23) : I_Share_giveByWalk_b57 p l e s m args below meth c Q A D cI cL cZ a_this a_points a_owners a_walk o_cuts o_queue o_takes o_bases o_ranked o_starts o_numbers i_order i_next v_points l1 res (f_Share_giveByWalk_b57 N i_order v_points l1 k23) := by
  obtain ⟨hx, hb, hml, hown, hts, hK, hA⟩ := C
  intro l2 l3 l4 l5 v_owners v_walk h H locs ls hl hP hD hS
  unfold f_Share_giveByWalk_b57 at h
  obtain ⟨l5_1, el5_1⟩ : ∃ y : Int32, y = l5 + 1 := ⟨_, rfl⟩
  replace h := nm_s h el5_1
  refine lv_iinc (v := l5_1) (lv' := [(5, .int l5_1), (0, .ref a_this), (1, .int l1), (2, .int l2), (3, .int l3), (4, .int l4)]) hx hb d_Share_giveByWalk_57 hl (k := 5) rfl (by rw [el5_1]; rfl) (by decide) rfl (fun ls hl => ?_)
  refine lv_goto (tgt := 23) hx hb d_Share_giveByWalk_60 (by decide) ?_
  exact hk23 _ _ _ _ _ _ h H locs ls (lv_sub hl [1, 2, 3, 4, 5, 0] rfl) hP hD hS
set_option maxHeartbeats 4000000 in
set_option maxRecDepth 100000 in
theorem w_Share_giveByWalk_b121 {p : Program} {l : Launch} {e : Env} {s : State} {m : MethodId} {args : Array Value} {below : List Frame} {meth : Method} {c : Code} {Q : State → Prop} {A : Nat → Prop} {D : va_G} {cI cL cZ : ClassId} {a_this : Nat} {a_points : Nat} {a_owners : Nat} {a_walk : Nat} {o_cuts : Nat} {o_queue : Nat} {o_takes : Nat} {o_bases : Nat} {o_ranked : Nat} {o_starts : Nat} {o_numbers : Nat} {i_order : Int32} {i_next : Int32} {v_points : Nat → Int32} {l1 : Int32} {N : Nat} {res : (Nat → Int32) × (Nat → Int32)} {k69 : Int32 → Int32 → Int32 → (Nat → Int32) → (Nat → Int32) → Option ((Nat → Int32) × (Nat → Int32))} (C : Cx p s m args c b_Share_giveByWalk 8 "PrefixMill$Share" D [(cI, .int), (cL, .long), (cZ, .boolean)] A) (hret : E_Share_giveByWalk p l e s m args below meth c Q A D cI cL cZ a_this a_points a_owners a_walk o_cuts o_queue o_takes o_bases o_ranked o_starts o_numbers i_order i_next v_points l1 res) (hk69 : I_Share_giveByWalk_b69 p l e s m args below meth c Q A D cI cL cZ a_this a_points a_owners a_walk o_cuts o_queue o_takes o_bases o_ranked o_starts o_numbers i_order i_next v_points l1 res k69) : I_Share_giveByWalk_b121 p l e s m args below meth c Q A D cI cL cZ a_this a_points a_owners a_walk o_cuts o_queue o_takes o_bases o_ranked o_starts o_numbers i_order i_next v_points l1 res (f_Share_giveByWalk_b121 N i_order v_points l1 k69) := by
  obtain ⟨hx, hb, hml, hown, hts, hK, hA⟩ := C
  intro l4 l5 l6 v_owners v_walk h H locs ls hl hP hD hS
  unfold f_Share_giveByWalk_b121 at h
  obtain ⟨l6_1, el6_1⟩ : ∃ y : Int32, y = l6 + 1 := ⟨_, rfl⟩
  replace h := nm_s h el6_1
  refine lv_iinc (v := l6_1) (lv' := [(6, .int l6_1), (0, .ref a_this), (4, .int l4), (5, .int l5)]) hx hb d_Share_giveByWalk_121 hl (k := 3) rfl (by rw [el6_1]; rfl) (by decide) rfl (fun ls hl => ?_)
  refine lv_goto (tgt := 69) hx hb d_Share_giveByWalk_124 (by decide) ?_
  exact hk69 _ _ _ _ _ h H locs ls (lv_sub hl [1, 2, 3, 0] rfl) hP hD hS
set_option maxHeartbeats 4000000 in
set_option maxRecDepth 100000 in
theorem w_Share_giveByWalk_b79 {p : Program} {l : Launch} {e : Env} {s : State} {m : MethodId} {args : Array Value} {below : List Frame} {meth : Method} {c : Code} {Q : State → Prop} {A : Nat → Prop} {D : va_G} {cI cL cZ : ClassId} {a_this : Nat} {a_points : Nat} {a_owners : Nat} {a_walk : Nat} {o_cuts : Nat} {o_queue : Nat} {o_takes : Nat} {o_bases : Nat} {o_ranked : Nat} {o_starts : Nat} {o_numbers : Nat} {i_order : Int32} {i_next : Int32} {v_points : Nat → Int32} {l1 : Int32} {N : Nat} {res : (Nat → Int32) × (Nat → Int32)} {k69 : Int32 → Int32 → Int32 → (Nat → Int32) → (Nat → Int32) → Option ((Nat → Int32) × (Nat → Int32))} (C : Cx p s m args c b_Share_giveByWalk 8 "PrefixMill$Share" D [(cI, .int), (cL, .long), (cZ, .boolean)] A) (hret : E_Share_giveByWalk p l e s m args below meth c Q A D cI cL cZ a_this a_points a_owners a_walk o_cuts o_queue o_takes o_bases o_ranked o_starts o_numbers i_order i_next v_points l1 res) (hk69 : I_Share_giveByWalk_b69 p l e s m args below meth c Q A D cI cL cZ a_this a_points a_owners a_walk o_cuts o_queue o_takes o_bases o_ranked o_starts o_numbers i_order i_next v_points l1 res k69) : ∀ z : Nat, I_Share_giveByWalk_b79 p l e s m args below meth c Q A D cI cL cZ a_this a_points a_owners a_walk o_cuts o_queue o_takes o_bases o_ranked o_starts o_numbers i_order i_next v_points l1 res (f_Share_giveByWalk_b79 N i_order v_points l1 k69 z) := by
  obtain ⟨hx, hb, hml, hown, hts, hK, hA⟩ := C
  intro z
  induction z with
  | zero => intro l4 l5 l6 l7 v_owners v_walk h; cases h
  | succ z ih =>
    intro l4 l5 l6 l7 v_owners v_walk h H locs ls hl hP hD hS
    refine lv_iload hx hb d_Share_giveByWalk_79 (lv_at hl 4 rfl) ?_
    refine lv_aload_n hx hb d_Share_giveByWalk_81 rfl (lv_at hl 0 rfl) ?_
    refine va_get hx hb hts in_Share hown hK hP 0 rfl rfl 0 (by decide) (hts _ m_211) (fun _ h9 => h9) rfl d_Share_giveByWalk_82 ?_
    refine lv_iload hx hb d_Share_giveByWalk_85 (lv_at hl 3 rfl) ?_
    obtain ⟨g_1, h⟩ := ck_s h
    refine va_iald hx hb hK hP 1 0 rfl rfl (inb_s g_1) d_Share_giveByWalk_87 ?_
    refine lv_icmp_ge (tgt := 121) hx hb d_Share_giveByWalk_88 (by decide) (fun c_2 => ?_) (fun c_2 => ?_)
    · replace h := if_t h c_2
      exact w_Share_giveByWalk_b121 ⟨hx, hb, hml, hown, hts, hK, hA⟩ hret hk69 _ _ _ _ _ h H locs ls (lv_sub hl [0, 1, 2, 3] rfl) hP hD hS
    · replace h := if_f h c_2
      refine lv_iload hx hb d_Share_giveByWalk_91 (lv_at hl 2 rfl) ?_
      refine lv_iload hx hb d_Share_giveByWalk_93 (lv_at hl 1 rfl) ?_
      refine lv_icmp_ge (tgt := 121) hx hb d_Share_giveByWalk_95 (by decide) (fun c_3 => ?_) (fun c_3 => ?_)
      · replace h := if_t h c_3
        exact w_Share_giveByWalk_b121 ⟨hx, hb, hml, hown, hts, hK, hA⟩ hret hk69 _ _ _ _ _ h H locs ls (lv_sub hl [0, 1, 2, 3] rfl) hP hD hS
      · replace h := if_f h c_3
        refine lv_aload_n hx hb d_Share_giveByWalk_98 rfl (lv_at hl 0 rfl) ?_
        refine va_get hx hb hts in_Share hown hK hP 0 rfl rfl 3 (by decide) (hts _ m_214) (fun _ h9 => h9) rfl d_Share_giveByWalk_99 ?_
        refine lv_aload_n hx hb d_Share_giveByWalk_102 rfl (lv_at hl 0 rfl) ?_
        refine va_get hx hb hts in_Share hown hK hP 0 rfl rfl 9 (by decide) (hts _ m_225) (fun _ h9 => h9) rfl d_Share_giveByWalk_103 ?_
        refine lv_iload hx hb d_Share_giveByWalk_106 (lv_at hl 2 rfl) ?_
        obtain ⟨g_4, h⟩ := ck_s h
        refine va_iald hx hb hK hP 3 0 rfl rfl (inb_s g_4) d_Share_giveByWalk_108 ?_
        refine lv_iload hx hb d_Share_giveByWalk_109 (lv_at hl 3 rfl) ?_
        obtain ⟨g_5, h⟩ := ck_s h
        refine va_iast hx hb hK hP hD hS 2 0 rfl rfl (inb_s g_5) d_Share_giveByWalk_111 (fun H locs hP hD hS => ?_)
        obtain ⟨v_owners_6, ev_owners_6⟩ : ∃ y, y = (upd v_owners (Int32.toNatClampNeg (v_walk (Int32.toNatClampNeg l5))) l6) := ⟨_, rfl⟩
        replace h := nm_s h ev_owners_6
        have hP : va_P D classes [(a_this, .inr (6, [.ref a_points, .ref o_cuts, .ref o_queue, .ref a_owners, .ref o_takes, .ref o_bases, .ref o_ranked, .ref o_starts, .ref o_numbers, .ref a_walk, .int i_order, .int i_next])), (a_points, .inl (cI, 12, .inl v_points)), (a_owners, .inl (cI, 64, .inl v_owners_6)), (a_walk, .inl (cI, 64, .inl v_walk))] H := by rw [ev_owners_6]; exact hP
        have hD : va_D A [(a_this, .inr (6, [.ref a_points, .ref o_cuts, .ref o_queue, .ref a_owners, .ref o_takes, .ref o_bases, .ref o_ranked, .ref o_starts, .ref o_numbers, .ref a_walk, .int i_order, .int i_next])), (a_points, .inl (cI, 12, .inl v_points)), (a_owners, .inl (cI, 64, .inl v_owners_6)), (a_walk, .inl (cI, 64, .inl v_walk))] := by rw [ev_owners_6]; exact hD
        obtain ⟨l5_7, el5_7⟩ : ∃ y : Int32, y = l5 + 1 := ⟨_, rfl⟩
        replace h := nm_s h el5_7
        refine lv_iinc (v := l5_7) (lv' := [(5, .int l5_7), (0, .ref a_this), (4, .int l4), (6, .int l6), (7, .int l7)]) hx hb d_Share_giveByWalk_112 hl (k := 2) rfl (by rw [el5_7]; rfl) (by decide) rfl (fun ls hl => ?_)
        obtain ⟨l7_8, el7_8⟩ : ∃ y : Int32, y = l7 + 1 := ⟨_, rfl⟩
        replace h := nm_s h el7_8
        refine lv_iinc (v := l7_8) (lv' := [(7, .int l7_8), (5, .int l5_7), (0, .ref a_this), (4, .int l4), (6, .int l6)]) hx hb d_Share_giveByWalk_115 hl (k := 4) rfl (by rw [el7_8]; rfl) (by decide) rfl (fun ls hl => ?_)
        refine lv_goto (tgt := 79) hx hb d_Share_giveByWalk_118 (by decide) ?_
        exact ih _ _ _ _ _ _ h H locs ls (lv_sub hl [2, 3, 1, 4, 0] rfl) hP hD hS
set_option maxHeartbeats 4000000 in
set_option maxRecDepth 100000 in
theorem w_Share_giveByWalk_b69 {p : Program} {l : Launch} {e : Env} {s : State} {m : MethodId} {args : Array Value} {below : List Frame} {meth : Method} {c : Code} {Q : State → Prop} {A : Nat → Prop} {D : va_G} {cI cL cZ : ClassId} {a_this : Nat} {a_points : Nat} {a_owners : Nat} {a_walk : Nat} {o_cuts : Nat} {o_queue : Nat} {o_takes : Nat} {o_bases : Nat} {o_ranked : Nat} {o_starts : Nat} {o_numbers : Nat} {i_order : Int32} {i_next : Int32} {v_points : Nat → Int32} {l1 : Int32} {N : Nat} {res : (Nat → Int32) × (Nat → Int32)}  (C : Cx p s m args c b_Share_giveByWalk 8 "PrefixMill$Share" D [(cI, .int), (cL, .long), (cZ, .boolean)] A) (hret : E_Share_giveByWalk p l e s m args below meth c Q A D cI cL cZ a_this a_points a_owners a_walk o_cuts o_queue o_takes o_bases o_ranked o_starts o_numbers i_order i_next v_points l1 res)  : ∀ z : Nat, I_Share_giveByWalk_b69 p l e s m args below meth c Q A D cI cL cZ a_this a_points a_owners a_walk o_cuts o_queue o_takes o_bases o_ranked o_starts o_numbers i_order i_next v_points l1 res (f_Share_giveByWalk_b69 N i_order v_points l1  z) := by
  obtain ⟨hx, hb, hml, hown, hts, hK, hA⟩ := C
  intro z
  induction z with
  | zero => intro l4 l5 l6 v_owners v_walk h; cases h
  | succ z ih =>
    intro l4 l5 l6 v_owners v_walk h H locs ls hl hP hD hS
    refine lv_iload hx hb d_Share_giveByWalk_69 (lv_at hl 3 rfl) ?_
    refine lv_bipush (v := 12) hx hb d_Share_giveByWalk_71 (by decide) ?_
    refine lv_icmp_ge (tgt := 127) hx hb d_Share_giveByWalk_73 (by decide) (fun c_1 => ?_) (fun c_1 => ?_)
    · replace h := if_t h c_1
      exact hret _ _ _ _ v_owners v_walk h d_Share_giveByWalk_127 hP hD hS
    · replace h := if_f h c_1
      refine lv_iconst (v := 0) hx hb d_Share_giveByWalk_76 (by decide) ?_
      refine lv_istore (lv' := [(7, .int 0), (0, .ref a_this), (4, .int l4), (5, .int l5), (6, .int l6)]) hx hb d_Share_giveByWalk_77 hl (by decide) rfl (fun ls hl => ?_)
      exact w_Share_giveByWalk_b79 ⟨hx, hb, hml, hown, hts, hK, hA⟩ hret ih N _ _ _ _ _ _ h H locs ls (lv_sub hl [1, 2, 3, 4, 0] rfl) hP hD hS
set_option maxHeartbeats 4000000 in
set_option maxRecDepth 100000 in
theorem w_Share_giveByWalk_b63 {p : Program} {l : Launch} {e : Env} {s : State} {m : MethodId} {args : Array Value} {below : List Frame} {meth : Method} {c : Code} {Q : State → Prop} {A : Nat → Prop} {D : va_G} {cI cL cZ : ClassId} {a_this : Nat} {a_points : Nat} {a_owners : Nat} {a_walk : Nat} {o_cuts : Nat} {o_queue : Nat} {o_takes : Nat} {o_bases : Nat} {o_ranked : Nat} {o_starts : Nat} {o_numbers : Nat} {i_order : Int32} {i_next : Int32} {v_points : Nat → Int32} {l1 : Int32} {N : Nat} {res : (Nat → Int32) × (Nat → Int32)}  (C : Cx p s m args c b_Share_giveByWalk 8 "PrefixMill$Share" D [(cI, .int), (cL, .long), (cZ, .boolean)] A) (hret : E_Share_giveByWalk p l e s m args below meth c Q A D cI cL cZ a_this a_points a_owners a_walk o_cuts o_queue o_takes o_bases o_ranked o_starts o_numbers i_order i_next v_points l1 res)  : I_Share_giveByWalk_b63 p l e s m args below meth c Q A D cI cL cZ a_this a_points a_owners a_walk o_cuts o_queue o_takes o_bases o_ranked o_starts o_numbers i_order i_next v_points l1 res (f_Share_giveByWalk_b63 N i_order v_points l1 ) := by
  obtain ⟨hx, hb, hml, hown, hts, hK, hA⟩ := C
  intro l4 v_owners v_walk h H locs ls hl hP hD hS
  unfold f_Share_giveByWalk_b63 at h
  refine lv_iconst (v := 0) hx hb d_Share_giveByWalk_63 (by decide) ?_
  refine lv_istore (lv' := [(5, .int 0), (0, .ref a_this), (4, .int l4)]) hx hb d_Share_giveByWalk_64 hl (by decide) rfl (fun ls hl => ?_)
  refine lv_iconst (v := 0) hx hb d_Share_giveByWalk_66 (by decide) ?_
  refine lv_istore (lv' := [(6, .int 0), (5, .int 0), (0, .ref a_this), (4, .int l4)]) hx hb d_Share_giveByWalk_67 hl (by decide) rfl (fun ls hl => ?_)
  exact w_Share_giveByWalk_b69 ⟨hx, hb, hml, hown, hts, hK, hA⟩ hret  N _ _ _ _ _ h H locs ls (lv_sub hl [2, 3, 1, 0] rfl) hP hD hS
set_option maxHeartbeats 4000000 in
set_option maxRecDepth 100000 in
theorem w_Share_giveByWalk_b23 {p : Program} {l : Launch} {e : Env} {s : State} {m : MethodId} {args : Array Value} {below : List Frame} {meth : Method} {c : Code} {Q : State → Prop} {A : Nat → Prop} {D : va_G} {cI cL cZ : ClassId} {a_this : Nat} {a_points : Nat} {a_owners : Nat} {a_walk : Nat} {o_cuts : Nat} {o_queue : Nat} {o_takes : Nat} {o_bases : Nat} {o_ranked : Nat} {o_starts : Nat} {o_numbers : Nat} {i_order : Int32} {i_next : Int32} {v_points : Nat → Int32} {l1 : Int32} {N : Nat} {res : (Nat → Int32) × (Nat → Int32)}  (C : Cx p s m args c b_Share_giveByWalk 8 "PrefixMill$Share" D [(cI, .int), (cL, .long), (cZ, .boolean)] A) (hret : E_Share_giveByWalk p l e s m args below meth c Q A D cI cL cZ a_this a_points a_owners a_walk o_cuts o_queue o_takes o_bases o_ranked o_starts o_numbers i_order i_next v_points l1 res)  : ∀ z : Nat, I_Share_giveByWalk_b23 p l e s m args below meth c Q A D cI cL cZ a_this a_points a_owners a_walk o_cuts o_queue o_takes o_bases o_ranked o_starts o_numbers i_order i_next v_points l1 res (f_Share_giveByWalk_b23 N i_order v_points l1  z) := by
  obtain ⟨hx, hb, hml, hown, hts, hK, hA⟩ := C
  intro z
  induction z with
  | zero => intro l2 l3 l4 l5 v_owners v_walk h; cases h
  | succ z ih =>
    intro l2 l3 l4 l5 v_owners v_walk h H locs ls hl hP hD hS
    refine lv_iload hx hb d_Share_giveByWalk_23 (lv_at hl 5 rfl) ?_
    refine lv_iload_n hx hb d_Share_giveByWalk_25 rfl (lv_at hl 2 rfl) ?_
    refine lv_icmp_ge (tgt := 63) hx hb d_Share_giveByWalk_26 (by decide) (fun c_1 => ?_) (fun c_1 => ?_)
    · replace h := if_t h c_1
      exact w_Share_giveByWalk_b63 ⟨hx, hb, hml, hown, hts, hK, hA⟩ hret  _ _ _ h H locs ls (lv_sub hl [0, 4] rfl) hP hD hS
    · replace h := if_f h c_1
      refine lv_iload hx hb d_Share_giveByWalk_29 (lv_at hl 5 rfl) ?_
      refine lv_iload_n hx hb d_Share_giveByWalk_31 rfl (lv_at hl 3 rfl) ?_
      refine lv_imul hx hb d_Share_giveByWalk_32 ?_
      refine lv_iload_n hx hb d_Share_giveByWalk_33 rfl (lv_at hl 2 rfl) ?_
      refine lv_iconst (v := 1) hx hb d_Share_giveByWalk_34 (by decide) ?_
      refine lv_isub hx hb d_Share_giveByWalk_35 ?_
      refine lv_iand hx hb d_Share_giveByWalk_36 ?_
      refine lv_topi (fun l6_2 el6_2 => ?_)
      replace h := nm_s h el6_2
      refine lv_istore (lv' := [(6, .int l6_2), (0, .ref a_this), (1, .int l1), (2, .int l2), (3, .int l3), (4, .int l4), (5, .int l5)]) hx hb d_Share_giveByWalk_37 hl (by decide) rfl (fun ls hl => ?_)
      refine lv_iload hx hb d_Share_giveByWalk_39 (lv_at hl 0 rfl) ?_
      refine lv_iload_n hx hb d_Share_giveByWalk_41 rfl (lv_at hl 2 rfl) ?_
      refine lv_icmp_ge (tgt := 57) hx hb d_Share_giveByWalk_42 (by decide) (fun c_3 => ?_) (fun c_3 => ?_)
      · replace h := if_t h c_3
        exact w_Share_giveByWalk_b57 ⟨hx, hb, hml, hown, hts, hK, hA⟩ hret ih _ _ _ _ _ _ h H locs ls (lv_sub hl [1, 2, 3, 4, 5, 6] rfl) hP hD hS
      · replace h := if_f h c_3
        refine lv_aload_n hx hb d_Share_giveByWalk_45 rfl (lv_at hl 1 rfl) ?_
        refine va_get hx hb hts in_Share hown hK hP 0 rfl rfl 9 (by decide) (hts _ m_225) (fun _ h9 => h9) rfl d_Share_giveByWalk_46 ?_
        refine lv_iload hx hb d_Share_giveByWalk_49 (lv_at hl 5 rfl) ?_
        refine lv_iload hx hb d_Share_giveByWalk_51 (lv_at hl 0 rfl) ?_
        obtain ⟨g_4, h⟩ := ck_s h
        refine va_iast hx hb hK hP hD hS 3 0 rfl rfl (inb_s g_4) d_Share_giveByWalk_53 (fun H locs hP hD hS => ?_)
        obtain ⟨v_walk_5, ev_walk_5⟩ : ∃ y, y = (upd v_walk (Int32.toNatClampNeg l4) l6_2) := ⟨_, rfl⟩
        replace h := nm_s h ev_walk_5
        have hP : va_P D classes [(a_this, .inr (6, [.ref a_points, .ref o_cuts, .ref o_queue, .ref a_owners, .ref o_takes, .ref o_bases, .ref o_ranked, .ref o_starts, .ref o_numbers, .ref a_walk, .int i_order, .int i_next])), (a_points, .inl (cI, 12, .inl v_points)), (a_owners, .inl (cI, 64, .inl v_owners)), (a_walk, .inl (cI, 64, .inl v_walk_5))] H := by rw [ev_walk_5]; exact hP
        have hD : va_D A [(a_this, .inr (6, [.ref a_points, .ref o_cuts, .ref o_queue, .ref a_owners, .ref o_takes, .ref o_bases, .ref o_ranked, .ref o_starts, .ref o_numbers, .ref a_walk, .int i_order, .int i_next])), (a_points, .inl (cI, 12, .inl v_points)), (a_owners, .inl (cI, 64, .inl v_owners)), (a_walk, .inl (cI, 64, .inl v_walk_5))] := by rw [ev_walk_5]; exact hD
        obtain ⟨l4_6, el4_6⟩ : ∃ y : Int32, y = l4 + 1 := ⟨_, rfl⟩
        replace h := nm_s h el4_6
        refine lv_iinc (v := l4_6) (lv' := [(4, .int l4_6), (6, .int l6_2), (0, .ref a_this), (1, .int l1), (2, .int l2), (3, .int l3), (5, .int l5)]) hx hb d_Share_giveByWalk_54 hl (k := 5) rfl (by rw [el4_6]; rfl) (by decide) rfl (fun ls hl => ?_)
        exact w_Share_giveByWalk_b57 ⟨hx, hb, hml, hown, hts, hK, hA⟩ hret ih _ _ _ _ _ _ h H locs ls (lv_sub hl [2, 3, 4, 5, 0, 6] rfl) hP hD hS
set_option maxHeartbeats 4000000 in
set_option maxRecDepth 100000 in
theorem w_Share_giveByWalk_b0 {p : Program} {l : Launch} {e : Env} {s : State} {m : MethodId} {args : Array Value} {below : List Frame} {meth : Method} {c : Code} {Q : State → Prop} {A : Nat → Prop} {D : va_G} {cI cL cZ : ClassId} {a_this : Nat} {a_points : Nat} {a_owners : Nat} {a_walk : Nat} {o_cuts : Nat} {o_queue : Nat} {o_takes : Nat} {o_bases : Nat} {o_ranked : Nat} {o_starts : Nat} {o_numbers : Nat} {i_order : Int32} {i_next : Int32} {v_points : Nat → Int32} {l1 : Int32} {N : Nat} {res : (Nat → Int32) × (Nat → Int32)}  (C : Cx p s m args c b_Share_giveByWalk 8 "PrefixMill$Share" D [(cI, .int), (cL, .long), (cZ, .boolean)] A) (hret : E_Share_giveByWalk p l e s m args below meth c Q A D cI cL cZ a_this a_points a_owners a_walk o_cuts o_queue o_takes o_bases o_ranked o_starts o_numbers i_order i_next v_points l1 res)  : I_Share_giveByWalk_b0 p l e s m args below meth c Q A D cI cL cZ a_this a_points a_owners a_walk o_cuts o_queue o_takes o_bases o_ranked o_starts o_numbers i_order i_next v_points l1 res (f_Share_giveByWalk N i_order v_points l1 ) := by
  obtain ⟨hx, hb, hml, hown, hts, hK, hA⟩ := C
  intro v_owners v_walk h H locs ls hl hP hD hS
  unfold f_Share_giveByWalk at h
  refine lv_iconst (v := 1) hx hb d_Share_giveByWalk_0 (by decide) ?_
  refine lv_aload_n hx hb d_Share_giveByWalk_1 rfl (lv_at hl 0 rfl) ?_
  refine va_get hx hb hts in_Share hown hK hP 0 rfl rfl 10 (by decide) (hts _ m_226) (fun _ h9 => h9) rfl d_Share_giveByWalk_2 ?_
  refine lv_ishl hx hb d_Share_giveByWalk_5 ?_
  refine lv_topi (fun l2_1 el2_1 => ?_)
  replace h := nm_s h el2_1
  refine lv_istore_n (lv' := [(2, .int l2_1), (0, .ref a_this), (1, .int l1)]) hx hb d_Share_giveByWalk_6 rfl hl (by decide) rfl (fun ls hl => ?_)
  refine lv_iload_n hx hb d_Share_giveByWalk_7 rfl (lv_at hl 0 rfl) ?_
  refine lv_iconst (v := 1) hx hb d_Share_giveByWalk_8 (by decide) ?_
  refine lv_ishr hx hb d_Share_giveByWalk_9 ?_
  refine lv_iload_n hx hb d_Share_giveByWalk_10 rfl (lv_at hl 0 rfl) ?_
  refine lv_iconst (v := 3) hx hb d_Share_giveByWalk_11 (by decide) ?_
  refine lv_ishr hx hb d_Share_giveByWalk_12 ?_
  refine lv_iadd hx hb d_Share_giveByWalk_13 ?_
  refine lv_iconst (v := 3) hx hb d_Share_giveByWalk_14 (by decide) ?_
  refine lv_iadd hx hb d_Share_giveByWalk_15 ?_
  refine lv_topi (fun l3_2 el3_2 => ?_)
  replace h := nm_s h el3_2
  refine lv_istore_n (lv' := [(3, .int l3_2), (2, .int l2_1), (0, .ref a_this), (1, .int l1)]) hx hb d_Share_giveByWalk_16 rfl hl (by decide) rfl (fun ls hl => ?_)
  refine lv_iconst (v := 0) hx hb d_Share_giveByWalk_17 (by decide) ?_
  refine lv_istore (lv' := [(4, .int 0), (3, .int l3_2), (2, .int l2_1), (0, .ref a_this), (1, .int l1)]) hx hb d_Share_giveByWalk_18 hl (by decide) rfl (fun ls hl => ?_)
  refine lv_iconst (v := 0) hx hb d_Share_giveByWalk_20 (by decide) ?_
  refine lv_istore (lv' := [(5, .int 0), (4, .int 0), (3, .int l3_2), (2, .int l2_1), (0, .ref a_this), (1, .int l1)]) hx hb d_Share_giveByWalk_21 hl (by decide) rfl (fun ls hl => ?_)
  exact w_Share_giveByWalk_b23 ⟨hx, hb, hml, hown, hts, hK, hA⟩ hret  N _ _ _ _ _ _ h H locs ls (lv_sub hl [4, 5, 3, 2, 1, 0] rfl) hP hD hS
set_option maxHeartbeats 4000000 in
set_option maxRecDepth 100000 in
theorem c_Share_giveByWalk (l : Launch) (D : va_G) (cI cL cZ : ClassId) (sz N : Nat) (a_this : Nat) (a_points : Nat) (a_owners : Nat) (a_walk : Nat) (o_cuts : Nat) (o_queue : Nat) (o_takes : Nat) (o_bases : Nat) (o_ranked : Nat) (o_starts : Nat) (o_numbers : Nat) (i_order : Int32) (i_next : Int32) (v_points : Nat → Int32) (v_owners : Nat → Int32) (v_walk : Nat → Int32) (l1 : Int32) (v_owners' : Nat → Int32) (v_walk' : Nat → Int32) (h : f_Share_giveByWalk N i_order v_points l1 v_owners v_walk = some (v_owners', v_walk')) : Met l ({ cls := "PrefixMill$Share", name := "giveByWalk", desc := "(I)V" } : Jvm.MethodName) ws_Share_giveByWalk R_Share_giveByWalk (va_Pc [.ref a_this, .int l1] (fun U => U.heap.size = sz ∧ va_P D classes [(a_this, .inr (6, [.ref a_points, .ref o_cuts, .ref o_queue, .ref a_owners, .ref o_takes, .ref o_bases, .ref o_ranked, .ref o_starts, .ref o_numbers, .ref a_walk, .int i_order, .int i_next])), (a_points, .inl (cI, 12, .inl v_points)), (a_owners, .inl (cI, 64, .inl v_owners)), (a_walk, .inl (cI, 64, .inl v_walk))] U.heap ∧ va_K D classes [(cI, .int), (cL, .long), (cZ, .boolean)] U ∧ va_D (fun _ => True) [(a_this, .inr (6, [.ref a_points, .ref o_cuts, .ref o_queue, .ref a_owners, .ref o_takes, .ref o_bases, .ref o_ranked, .ref o_starts, .ref o_numbers, .ref a_walk, .int i_order, .int i_next])), (a_points, .inl (cI, 12, .inl v_points)), (a_owners, .inl (cI, 64, .inl v_owners)), (a_walk, .inl (cI, 64, .inl v_walk))])) (va_Qv (fun _ : Unit => True) (fun _ t => va_P D classes [(a_this, .inr (6, [.ref a_points, .ref o_cuts, .ref o_queue, .ref a_owners, .ref o_takes, .ref o_bases, .ref o_ranked, .ref o_starts, .ref o_numbers, .ref a_walk, .int i_order, .int i_next])), (a_points, .inl (cI, 12, .inl v_points)), (a_owners, .inl (cI, 64, .inl v_owners')), (a_walk, .inl (cI, 64, .inl v_walk'))] t.heap ∧ va_K D classes [(cI, .int), (cL, .long), (cZ, .boolean)] t ∧ va_D (va_A [(a_this, .inr (6, [.ref a_points, .ref o_cuts, .ref o_queue, .ref a_owners, .ref o_takes, .ref o_bases, .ref o_ranked, .ref o_starts, .ref o_numbers, .ref a_walk, .int i_order, .int i_next])), (a_points, .inl (cI, 12, .inl v_points)), (a_owners, .inl (cI, 64, .inl v_owners)), (a_walk, .inl (cI, 64, .inl v_walk))] sz) [(a_this, .inr (6, [.ref a_points, .ref o_cuts, .ref o_queue, .ref a_owners, .ref o_takes, .ref o_bases, .ref o_ranked, .ref o_starts, .ref o_numbers, .ref a_walk, .int i_order, .int i_next])), (a_points, .inl (cI, 12, .inl v_points)), (a_owners, .inl (cI, 64, .inl v_owners')), (a_walk, .inl (cI, 64, .inl v_walk'))]) (va_A [(a_this, .inr (6, [.ref a_points, .ref o_cuts, .ref o_queue, .ref a_owners, .ref o_takes, .ref o_bases, .ref o_ranked, .ref o_starts, .ref o_numbers, .ref a_walk, .int i_order, .int i_next])), (a_points, .inl (cI, 12, .inl v_points)), (a_owners, .inl (cI, 64, .inl v_owners)), (a_walk, .inl (cI, 64, .inl v_walk))] sz)) 0 0 (va_A [(a_this, .inr (6, [.ref a_points, .ref o_cuts, .ref o_queue, .ref a_owners, .ref o_takes, .ref o_bases, .ref o_ranked, .ref o_starts, .ref o_numbers, .ref a_walk, .int i_order, .int i_next])), (a_points, .inl (cI, 12, .inl v_points)), (a_owners, .inl (cI, 64, .inl v_owners)), (a_walk, .inl (cI, 64, .inl v_walk))] sz) := by
  refine Met.ofW (cc := b_Share_giveByWalk) (maxL := 8) (ret := none) (by decide) rfl ?_
  intro p e s m args below meth c s₁ B hml hv
  obtain ⟨rfl, hsz, hP, hK, hD0⟩ := hv
  have hx := B.exec
  have hb := B.bytes
  have hr := B.returns
  have hts0 := atoms_spec (ws := ws_Share_giveByWalk) B.pre
  have hts := gd_tl hts0
  clear hts0
  have hown : s.vm.findClass "PrefixMill$Share" = some m.cls := findClass_of_methodNamed B.named
  have hlocks := B.notSynchronized
  subst hsz
  have hD := hD0.self (sz := s.heap.size)
  generalize hAe : va_A [(a_this, .inr (6, [.ref a_points, .ref o_cuts, .ref o_queue, .ref a_owners, .ref o_takes, .ref o_bases, .ref o_ranked, .ref o_starts, .ref o_numbers, .ref a_walk, .int i_order, .int i_next])), (a_points, .inl (cI, 12, .inl v_points)), (a_owners, .inl (cI, 64, .inl v_owners)), (a_walk, .inl (cI, 64, .inl v_walk))] s.heap.size = A at hD ⊢
  have hA : ∀ q : Nat, s.heap.size ≤ q → A q := fun q h => by rw [← hAe]; exact Or.inr h
  have hS : va_S A s.heap s.heap [] := va_S.rf
  have hP : va_P D classes [(a_this, .inr (6, [.ref a_points, .ref o_cuts, .ref o_queue, .ref a_owners, .ref o_takes, .ref o_bases, .ref o_ranked, .ref o_starts, .ref o_numbers, .ref a_walk, .int i_order, .int i_next])), (a_points, .inl (cI, 12, .inl v_points)), (a_owners, .inl (cI, 64, .inl v_owners)), (a_walk, .inl (cI, 64, .inl v_walk))] s.heap := hP
  have hl := lv_entry ([.ref a_this, .int l1]) (n := 8) (Nat.le_of_ble_eq_true rfl)
  rw [lg_entry_eq]
  generalize (lg_sl ([.ref a_this, .int l1]) ++ List.replicate (8 - (lg_sl ([.ref a_this, .int l1])).length) Slot.unset).toArray = ls at hl ⊢
  have hl : lv_has ls 8 [(0, .ref a_this), (1, .int l1)] := hl
  have C : Cx p s m ([.ref a_this, .int l1] : List Value).toArray c b_Share_giveByWalk 8 "PrefixMill$Share" D [(cI, .int), (cL, .long), (cZ, .boolean)] A := ⟨hx, hb, hml, hown, hts, hK, hA⟩
  refine w_Share_giveByWalk_b0 (res := (v_owners', v_walk')) C ?_ _ _ h s.heap [] ls hl hP hD hS
  intro pc9 H9 locs9 ls9 v_owners9 v_walk9 e9 d9 hP9 hD9 hS9
  cases e9
  exact W.vret hx hb hr (fun t ht hW => ⟨⟨(), rfl, trivial, by rw [ht]; exact hP9, va_K.moved hW.alike hK, hD9⟩, hS9.F ht⟩) hS9.2.2 d9
abbrev b_PM_log2 : ByteArray := prog_1_method_21_code
def ws_PM_log2 : List Cond := .code ({ cls := "PrefixMill", name := "log2", desc := "(I)I" } : Jvm.MethodName) b_PM_log2 2 (some .int) :: tt
theorem d_PM_log2_0 : decode b_PM_log2 0 = .ok (.iconst 0, 1) := by decide +kernel
theorem d_PM_log2_1 : decode b_PM_log2 1 = .ok (.istore_n 1, 1) := by decide +kernel
theorem d_PM_log2_2 : decode b_PM_log2 2 = .ok (.iload_n 1, 1) := by decide +kernel
theorem d_PM_log2_3 : decode b_PM_log2 3 = .ok (.bipush 30, 2) := by decide +kernel
theorem d_PM_log2_5 : decode b_PM_log2 5 = .ok (.if_icmp .ge 17, 3) := by decide +kernel
theorem d_PM_log2_8 : decode b_PM_log2 8 = .ok (.iload_n 0, 1) := by decide +kernel
theorem d_PM_log2_9 : decode b_PM_log2 9 = .ok (.iload_n 1, 1) := by decide +kernel
theorem d_PM_log2_10 : decode b_PM_log2 10 = .ok (.iconst 1, 1) := by decide +kernel
theorem d_PM_log2_11 : decode b_PM_log2 11 = .ok (.iadd, 1) := by decide +kernel
theorem d_PM_log2_12 : decode b_PM_log2 12 = .ok (.ishr, 1) := by decide +kernel
theorem d_PM_log2_13 : decode b_PM_log2 13 = .ok (.ifCond .le 9, 3) := by decide +kernel
theorem d_PM_log2_16 : decode b_PM_log2 16 = .ok (.iinc 1 1, 3) := by decide +kernel
theorem d_PM_log2_19 : decode b_PM_log2 19 = .ok (.goto (-17), 3) := by decide +kernel
theorem d_PM_log2_22 : decode b_PM_log2 22 = .ok (.iload_n 1, 1) := by decide +kernel
theorem d_PM_log2_23 : decode b_PM_log2 23 = .ok (.ireturn, 1) := by decide +kernel
def f_PM_log2_b22 (N : Nat) (l0 : Int32)  (l1 : Int32) : Option (Int32) :=
  some (l1)
def f_PM_log2_b2 (N : Nat) (l0 : Int32)  : Nat → Int32 → Option (Int32)
  | 0, _ => none
  | z + 1, l1 =>
  if 30 ≤ l1 then
  f_PM_log2_b22 N l0  l1
  else
  if (l0 >>> ((l1 + 1) &&& 31)) ≤ 0 then
  f_PM_log2_b22 N l0  l1
  else
  nm (l1 + 1) fun l1_3 =>
  f_PM_log2_b2 N l0  z l1_3
def f_PM_log2 (N : Nat) (l0 : Int32)   : Option (Int32) :=
  f_PM_log2_b2 N l0  N 0
abbrev R_PM_log2 : Room := ({ frames := 0, cells := 0, slots := 0, locals := 0 } : Room)
def E_PM_log2 (p : Program) (l : Launch) (e : Env) (s : State) (m : MethodId) (args : Array Value) (below : List Frame) (meth : Method) (c : Code) (Q : State → Prop) (A : Nat → Prop) (D : va_G) (cI cL cZ : ClassId) (l0 : Int32) (res : Int32) : Prop := ∀ (pc : Nat) (H : Heap) (locs : List Loc) (ls : Array Slot) (rv : Int32), some (rv) = some res → decode b_PM_log2 pc = .ok (.ireturn, 1) → va_P D classes [] H → va_D A [] → va_S A s.heap H locs → W p l e R_PM_log2 s m args below meth c H locs 0 0 Q (F0 m pc ls [.int rv])
def I_PM_log2_b22 (p : Program) (l : Launch) (e : Env) (s : State) (m : MethodId) (args : Array Value) (below : List Frame) (meth : Method) (c : Code) (Q : State → Prop) (A : Nat → Prop) (D : va_G) (cI cL cZ : ClassId) (l0 : Int32) (res : Int32) (kf : Int32 → Option (Int32)) : Prop := ∀ (l1 : Int32), kf l1 = some res → ∀ (H : Heap) (locs : List Loc) (ls : Array Slot), lv_has ls 2 [(1, .int l1)] → va_P D classes [] H → va_D A [] → va_S A s.heap H locs → W p l e R_PM_log2 s m args below meth c H locs 0 0 Q (F0 m 22 ls [])
def I_PM_log2_b2 (p : Program) (l : Launch) (e : Env) (s : State) (m : MethodId) (args : Array Value) (below : List Frame) (meth : Method) (c : Code) (Q : State → Prop) (A : Nat → Prop) (D : va_G) (cI cL cZ : ClassId) (l0 : Int32) (res : Int32) (kf : Int32 → Option (Int32)) : Prop := ∀ (l1 : Int32), kf l1 = some res → ∀ (H : Heap) (locs : List Loc) (ls : Array Slot), lv_has ls 2 [(0, .int l0), (1, .int l1)] → va_P D classes [] H → va_D A [] → va_S A s.heap H locs → W p l e R_PM_log2 s m args below meth c H locs 0 0 Q (F0 m 2 ls [])
def I_PM_log2_b0 (p : Program) (l : Launch) (e : Env) (s : State) (m : MethodId) (args : Array Value) (below : List Frame) (meth : Method) (c : Code) (Q : State → Prop) (A : Nat → Prop) (D : va_G) (cI cL cZ : ClassId) (l0 : Int32) (res : Int32) (kf : Option (Int32)) : Prop := ∀ (_ : Unit), kf  = some res → ∀ (H : Heap) (locs : List Loc) (ls : Array Slot), lv_has ls 2 [(0, .int l0)] → va_P D classes [] H → va_D A [] → va_S A s.heap H locs → W p l e R_PM_log2 s m args below meth c H locs 0 0 Q (F0 m 0 ls [])
set_option maxHeartbeats 4000000 in
set_option maxRecDepth 100000 in
theorem w_PM_log2_b22 {p : Program} {l : Launch} {e : Env} {s : State} {m : MethodId} {args : Array Value} {below : List Frame} {meth : Method} {c : Code} {Q : State → Prop} {A : Nat → Prop} {D : va_G} {cI cL cZ : ClassId} {l0 : Int32} {N : Nat} {res : Int32}  (C : Cx p s m args c b_PM_log2 2 "PrefixMill" D [(cI, .int), (cL, .long), (cZ, .boolean)] A) (hret : E_PM_log2 p l e s m args below meth c Q A D cI cL cZ l0 res)  : I_PM_log2_b22 p l e s m args below meth c Q A D cI cL cZ l0 res (f_PM_log2_b22 N l0 ) := by
  obtain ⟨hx, hb, hml, hown, hts, hK, hA⟩ := C
  intro l1 h H locs ls hl hP hD hS
  unfold f_PM_log2_b22 at h
  refine lv_iload_n hx hb d_PM_log2_22 rfl (lv_at hl 0 rfl) ?_
  exact hret _ _ _ _ l1  h d_PM_log2_23 hP hD hS
set_option maxHeartbeats 4000000 in
set_option maxRecDepth 100000 in
theorem w_PM_log2_b2 {p : Program} {l : Launch} {e : Env} {s : State} {m : MethodId} {args : Array Value} {below : List Frame} {meth : Method} {c : Code} {Q : State → Prop} {A : Nat → Prop} {D : va_G} {cI cL cZ : ClassId} {l0 : Int32} {N : Nat} {res : Int32}  (C : Cx p s m args c b_PM_log2 2 "PrefixMill" D [(cI, .int), (cL, .long), (cZ, .boolean)] A) (hret : E_PM_log2 p l e s m args below meth c Q A D cI cL cZ l0 res)  : ∀ z : Nat, I_PM_log2_b2 p l e s m args below meth c Q A D cI cL cZ l0 res (f_PM_log2_b2 N l0  z) := by
  obtain ⟨hx, hb, hml, hown, hts, hK, hA⟩ := C
  intro z
  induction z with
  | zero => intro l1 h; cases h
  | succ z ih =>
    intro l1 h H locs ls hl hP hD hS
    refine lv_iload_n hx hb d_PM_log2_2 rfl (lv_at hl 1 rfl) ?_
    refine lv_bipush (v := 30) hx hb d_PM_log2_3 (by decide) ?_
    refine lv_icmp_ge (tgt := 22) hx hb d_PM_log2_5 (by decide) (fun c_1 => ?_) (fun c_1 => ?_)
    · replace h := if_t h c_1
      exact w_PM_log2_b22 ⟨hx, hb, hml, hown, hts, hK, hA⟩ hret  _ h H locs ls (lv_sub hl [1] rfl) hP hD hS
    · replace h := if_f h c_1
      refine lv_iload_n hx hb d_PM_log2_8 rfl (lv_at hl 0 rfl) ?_
      refine lv_iload_n hx hb d_PM_log2_9 rfl (lv_at hl 1 rfl) ?_
      refine lv_iconst (v := 1) hx hb d_PM_log2_10 (by decide) ?_
      refine lv_iadd hx hb d_PM_log2_11 ?_
      refine lv_ishr hx hb d_PM_log2_12 ?_
      refine lv_if_le (tgt := 22) hx hb d_PM_log2_13 (by decide) (fun c_2 => ?_) (fun c_2 => ?_)
      · replace h := if_t h c_2
        exact w_PM_log2_b22 ⟨hx, hb, hml, hown, hts, hK, hA⟩ hret  _ h H locs ls (lv_sub hl [1] rfl) hP hD hS
      · replace h := if_f h c_2
        obtain ⟨l1_3, el1_3⟩ : ∃ y : Int32, y = l1 + 1 := ⟨_, rfl⟩
        replace h := nm_s h el1_3
        refine lv_iinc (v := l1_3) (lv' := [(1, .int l1_3), (0, .int l0)]) hx hb d_PM_log2_16 hl (k := 1) rfl (by rw [el1_3]; rfl) (by decide) rfl (fun ls hl => ?_)
        refine lv_goto (tgt := 2) hx hb d_PM_log2_19 (by decide) ?_
        exact ih _ h H locs ls (lv_sub hl [1, 0] rfl) hP hD hS
set_option maxHeartbeats 4000000 in
set_option maxRecDepth 100000 in
theorem w_PM_log2_b0 {p : Program} {l : Launch} {e : Env} {s : State} {m : MethodId} {args : Array Value} {below : List Frame} {meth : Method} {c : Code} {Q : State → Prop} {A : Nat → Prop} {D : va_G} {cI cL cZ : ClassId} {l0 : Int32} {N : Nat} {res : Int32}  (C : Cx p s m args c b_PM_log2 2 "PrefixMill" D [(cI, .int), (cL, .long), (cZ, .boolean)] A) (hret : E_PM_log2 p l e s m args below meth c Q A D cI cL cZ l0 res)  : I_PM_log2_b0 p l e s m args below meth c Q A D cI cL cZ l0 res (f_PM_log2 N l0 ) := by
  obtain ⟨hx, hb, hml, hown, hts, hK, hA⟩ := C
  intro _ h H locs ls hl hP hD hS
  unfold f_PM_log2 at h
  refine lv_iconst (v := 0) hx hb d_PM_log2_0 (by decide) ?_
  refine lv_istore_n (lv' := [(1, .int 0), (0, .int l0)]) hx hb d_PM_log2_1 rfl hl (by decide) rfl (fun ls hl => ?_)
  exact w_PM_log2_b2 ⟨hx, hb, hml, hown, hts, hK, hA⟩ hret  N _ h H locs ls (lv_sub hl [1, 0] rfl) hP hD hS
set_option maxHeartbeats 4000000 in
set_option maxRecDepth 100000 in
theorem c_PM_log2 (l : Launch) (D : va_G) (cI cL cZ : ClassId) (sz N : Nat) (l0 : Int32) (rv : Int32) (h : f_PM_log2 N l0  = some (rv)) : Met l ({ cls := "PrefixMill", name := "log2", desc := "(I)I" } : Jvm.MethodName) ws_PM_log2 R_PM_log2 (va_Pc [.int l0] (fun U => U.heap.size = sz ∧ va_P D classes [] U.heap ∧ va_K D classes [(cI, .int), (cL, .long), (cZ, .boolean)] U ∧ va_D (fun _ => True) [])) (va_Qi (fun (r0 : Int32) (_ : Unit) => rv = r0) (fun _ t => va_P D classes [] t.heap ∧ va_K D classes [(cI, .int), (cL, .long), (cZ, .boolean)] t ∧ va_D (va_A [] sz) []) (va_A [] sz)) 0 0 (va_A [] sz) := by
  refine Met.ofW (cc := b_PM_log2) (maxL := 2) (ret := (some .int)) (by decide) rfl ?_
  intro p e s m args below meth c s₁ B hml hv
  obtain ⟨rfl, hsz, hP, hK, hD0⟩ := hv
  have hx := B.exec
  have hb := B.bytes
  have hr := B.returns
  have hts0 := atoms_spec (ws := ws_PM_log2) B.pre
  have hts := gd_tl hts0
  clear hts0
  have hown : s.vm.findClass "PrefixMill" = some m.cls := findClass_of_methodNamed B.named
  have hlocks := B.notSynchronized
  subst hsz
  have hD := hD0.self (sz := s.heap.size)
  generalize hAe : va_A [] s.heap.size = A at hD ⊢
  have hA : ∀ q : Nat, s.heap.size ≤ q → A q := fun q h => by rw [← hAe]; exact Or.inr h
  have hS : va_S A s.heap s.heap [] := va_S.rf
  have hP : va_P D classes [] s.heap := hP
  have hl := lv_entry ([.int l0]) (n := 2) (Nat.le_of_ble_eq_true rfl)
  rw [lg_entry_eq]
  generalize (lg_sl ([.int l0]) ++ List.replicate (2 - (lg_sl ([.int l0])).length) Slot.unset).toArray = ls at hl ⊢
  have hl : lv_has ls 2 [(0, .int l0)] := hl
  have C : Cx p s m ([.int l0] : List Value).toArray c b_PM_log2 2 "PrefixMill" D [(cI, .int), (cL, .long), (cZ, .boolean)] A := ⟨hx, hb, hml, hown, hts, hK, hA⟩
  refine w_PM_log2_b0 (res := (rv)) C ?_ () h s.heap [] ls hl hP hD hS
  intro pc9 H9 locs9 ls9 rv9 e9 d9 hP9 hD9 hS9
  cases e9
  exact W.iret (v := rv) hx hb hr (fun t ht hW => ⟨⟨rv, (), rfl, rfl, by rw [ht]; exact hP9, va_K.moved hW.alike hK, hD9⟩, hS9.F ht⟩) hS9.2.2 d9
abbrev b_Share_rank : ByteArray := prog_6_method_11_code
def ws_Share_rank : List Cond := .code ({ cls := "PrefixMill$Share", name := "rank", desc := "()V" } : Jvm.MethodName) b_Share_rank 6 none :: tt
theorem d_Share_rank_0 : decode b_Share_rank 0 = .ok (.iconst 0, 1) := by decide +kernel
theorem d_Share_rank_1 : decode b_Share_rank 1 = .ok (.istore_n 1, 1) := by decide +kernel
theorem d_Share_rank_2 : decode b_Share_rank 2 = .ok (.iconst 0, 1) := by decide +kernel
theorem d_Share_rank_3 : decode b_Share_rank 3 = .ok (.istore_n 2, 1) := by decide +kernel
theorem d_Share_rank_4 : decode b_Share_rank 4 = .ok (.iload_n 2, 1) := by decide +kernel
theorem d_Share_rank_5 : decode b_Share_rank 5 = .ok (.bipush 12, 2) := by decide +kernel
theorem d_Share_rank_7 : decode b_Share_rank 7 = .ok (.if_icmp .ge 35, 3) := by decide +kernel
theorem d_Share_rank_10 : decode b_Share_rank 10 = .ok (.aload_n 0, 1) := by decide +kernel
theorem d_Share_rank_11 : decode b_Share_rank 11 = .ok (.getfield 33, 3) := by decide +kernel
theorem d_Share_rank_14 : decode b_Share_rank 14 = .ok (.iload_n 2, 1) := by decide +kernel
theorem d_Share_rank_15 : decode b_Share_rank 15 = .ok (.iload_n 1, 1) := by decide +kernel
theorem d_Share_rank_16 : decode b_Share_rank 16 = .ok (.iastore, 1) := by decide +kernel
theorem d_Share_rank_17 : decode b_Share_rank 17 = .ok (.aload_n 0, 1) := by decide +kernel
theorem d_Share_rank_18 : decode b_Share_rank 18 = .ok (.getfield 36, 3) := by decide +kernel
theorem d_Share_rank_21 : decode b_Share_rank 21 = .ok (.iload_n 2, 1) := by decide +kernel
theorem d_Share_rank_22 : decode b_Share_rank 22 = .ok (.aload_n 0, 1) := by decide +kernel
theorem d_Share_rank_23 : decode b_Share_rank 23 = .ok (.iload_n 2, 1) := by decide +kernel
theorem d_Share_rank_24 : decode b_Share_rank 24 = .ok (.invokevirtual 52, 3) := by decide +kernel
theorem d_Share_rank_27 : decode b_Share_rank 27 = .ok (.iastore, 1) := by decide +kernel
theorem d_Share_rank_28 : decode b_Share_rank 28 = .ok (.iload_n 1, 1) := by decide +kernel
theorem d_Share_rank_29 : decode b_Share_rank 29 = .ok (.aload_n 0, 1) := by decide +kernel
theorem d_Share_rank_30 : decode b_Share_rank 30 = .ok (.iload_n 2, 1) := by decide +kernel
theorem d_Share_rank_31 : decode b_Share_rank 31 = .ok (.invokevirtual 52, 3) := by decide +kernel
theorem d_Share_rank_34 : decode b_Share_rank 34 = .ok (.iadd, 1) := by decide +kernel
theorem d_Share_rank_35 : decode b_Share_rank 35 = .ok (.istore_n 1, 1) := by decide +kernel
theorem d_Share_rank_36 : decode b_Share_rank 36 = .ok (.iinc 2 1, 3) := by decide +kernel
theorem d_Share_rank_39 : decode b_Share_rank 39 = .ok (.goto (-35), 3) := by decide +kernel
theorem d_Share_rank_42 : decode b_Share_rank 42 = .ok (.iconst 1, 1) := by decide +kernel
theorem d_Share_rank_43 : decode b_Share_rank 43 = .ok (.aload_n 0, 1) := by decide +kernel
theorem d_Share_rank_44 : decode b_Share_rank 44 = .ok (.getfield 48, 3) := by decide +kernel
theorem d_Share_rank_47 : decode b_Share_rank 47 = .ok (.ishl, 1) := by decide +kernel
theorem d_Share_rank_48 : decode b_Share_rank 48 = .ok (.istore_n 2, 1) := by decide +kernel
theorem d_Share_rank_49 : decode b_Share_rank 49 = .ok (.iconst 0, 1) := by decide +kernel
theorem d_Share_rank_50 : decode b_Share_rank 50 = .ok (.istore_n 3, 1) := by decide +kernel
theorem d_Share_rank_51 : decode b_Share_rank 51 = .ok (.iload_n 3, 1) := by decide +kernel
theorem d_Share_rank_52 : decode b_Share_rank 52 = .ok (.iload_n 2, 1) := by decide +kernel
theorem d_Share_rank_53 : decode b_Share_rank 53 = .ok (.if_icmp .ge 93, 3) := by decide +kernel
theorem d_Share_rank_56 : decode b_Share_rank 56 = .ok (.aload_n 0, 1) := by decide +kernel
theorem d_Share_rank_57 : decode b_Share_rank 57 = .ok (.getfield 21, 3) := by decide +kernel
theorem d_Share_rank_60 : decode b_Share_rank 60 = .ok (.iload_n 3, 1) := by decide +kernel
theorem d_Share_rank_61 : decode b_Share_rank 61 = .ok (.iaload, 1) := by decide +kernel
theorem d_Share_rank_62 : decode b_Share_rank 62 = .ok (.istore 4, 2) := by decide +kernel
theorem d_Share_rank_64 : decode b_Share_rank 64 = .ok (.aload_n 0, 1) := by decide +kernel
theorem d_Share_rank_65 : decode b_Share_rank 65 = .ok (.getfield 36, 3) := by decide +kernel
theorem d_Share_rank_68 : decode b_Share_rank 68 = .ok (.iload 4, 2) := by decide +kernel
theorem d_Share_rank_70 : decode b_Share_rank 70 = .ok (.iaload, 1) := by decide +kernel
theorem d_Share_rank_71 : decode b_Share_rank 71 = .ok (.istore 5, 2) := by decide +kernel
theorem d_Share_rank_73 : decode b_Share_rank 73 = .ok (.aload_n 0, 1) := by decide +kernel
theorem d_Share_rank_74 : decode b_Share_rank 74 = .ok (.getfield 36, 3) := by decide +kernel
theorem d_Share_rank_77 : decode b_Share_rank 77 = .ok (.iload 4, 2) := by decide +kernel
theorem d_Share_rank_79 : decode b_Share_rank 79 = .ok (.dup2, 1) := by decide +kernel
theorem d_Share_rank_80 : decode b_Share_rank 80 = .ok (.iaload, 1) := by decide +kernel
theorem d_Share_rank_81 : decode b_Share_rank 81 = .ok (.iconst 1, 1) := by decide +kernel
theorem d_Share_rank_82 : decode b_Share_rank 82 = .ok (.iadd, 1) := by decide +kernel
theorem d_Share_rank_83 : decode b_Share_rank 83 = .ok (.iastore, 1) := by decide +kernel
theorem d_Share_rank_84 : decode b_Share_rank 84 = .ok (.aload_n 0, 1) := by decide +kernel
theorem d_Share_rank_85 : decode b_Share_rank 85 = .ok (.getfield 24, 3) := by decide +kernel
theorem d_Share_rank_88 : decode b_Share_rank 88 = .ok (.iload_n 3, 1) := by decide +kernel
theorem d_Share_rank_89 : decode b_Share_rank 89 = .ok (.aload_n 0, 1) := by decide +kernel
theorem d_Share_rank_90 : decode b_Share_rank 90 = .ok (.getfield 48, 3) := by decide +kernel
theorem d_Share_rank_93 : decode b_Share_rank 93 = .ok (.iload 5, 2) := by decide +kernel
theorem d_Share_rank_95 : decode b_Share_rank 95 = .ok (.invokestatic 85, 3) := by decide +kernel
theorem d_Share_rank_98 : decode b_Share_rank 98 = .ok (.isub, 1) := by decide +kernel
theorem d_Share_rank_99 : decode b_Share_rank 99 = .ok (.iastore, 1) := by decide +kernel
theorem d_Share_rank_100 : decode b_Share_rank 100 = .ok (.aload_n 0, 1) := by decide +kernel
theorem d_Share_rank_101 : decode b_Share_rank 101 = .ok (.getfield 27, 3) := by decide +kernel
theorem d_Share_rank_104 : decode b_Share_rank 104 = .ok (.iload_n 3, 1) := by decide +kernel
theorem d_Share_rank_105 : decode b_Share_rank 105 = .ok (.iload 5, 2) := by decide +kernel
theorem d_Share_rank_107 : decode b_Share_rank 107 = .ok (.aload_n 0, 1) := by decide +kernel
theorem d_Share_rank_108 : decode b_Share_rank 108 = .ok (.getfield 24, 3) := by decide +kernel
theorem d_Share_rank_111 : decode b_Share_rank 111 = .ok (.iload_n 3, 1) := by decide +kernel
theorem d_Share_rank_112 : decode b_Share_rank 112 = .ok (.iaload, 1) := by decide +kernel
theorem d_Share_rank_113 : decode b_Share_rank 113 = .ok (.ishl, 1) := by decide +kernel
theorem d_Share_rank_114 : decode b_Share_rank 114 = .ok (.iload_n 2, 1) := by decide +kernel
theorem d_Share_rank_115 : decode b_Share_rank 115 = .ok (.isub, 1) := by decide +kernel
theorem d_Share_rank_116 : decode b_Share_rank 116 = .ok (.iastore, 1) := by decide +kernel
theorem d_Share_rank_117 : decode b_Share_rank 117 = .ok (.aload_n 0, 1) := by decide +kernel
theorem d_Share_rank_118 : decode b_Share_rank 118 = .ok (.getfield 30, 3) := by decide +kernel
theorem d_Share_rank_121 : decode b_Share_rank 121 = .ok (.aload_n 0, 1) := by decide +kernel
theorem d_Share_rank_122 : decode b_Share_rank 122 = .ok (.getfield 33, 3) := by decide +kernel
theorem d_Share_rank_125 : decode b_Share_rank 125 = .ok (.iload 4, 2) := by decide +kernel
theorem d_Share_rank_127 : decode b_Share_rank 127 = .ok (.iaload, 1) := by decide +kernel
theorem d_Share_rank_128 : decode b_Share_rank 128 = .ok (.iload 5, 2) := by decide +kernel
theorem d_Share_rank_130 : decode b_Share_rank 130 = .ok (.iadd, 1) := by decide +kernel
theorem d_Share_rank_131 : decode b_Share_rank 131 = .ok (.aload_n 0, 1) := by decide +kernel
theorem d_Share_rank_132 : decode b_Share_rank 132 = .ok (.iload 4, 2) := by decide +kernel
theorem d_Share_rank_134 : decode b_Share_rank 134 = .ok (.invokevirtual 52, 3) := by decide +kernel
theorem d_Share_rank_137 : decode b_Share_rank 137 = .ok (.isub, 1) := by decide +kernel
theorem d_Share_rank_138 : decode b_Share_rank 138 = .ok (.iload_n 3, 1) := by decide +kernel
theorem d_Share_rank_139 : decode b_Share_rank 139 = .ok (.iastore, 1) := by decide +kernel
theorem d_Share_rank_140 : decode b_Share_rank 140 = .ok (.iinc 3 1, 3) := by decide +kernel
theorem d_Share_rank_143 : decode b_Share_rank 143 = .ok (.goto (-92), 3) := by decide +kernel
theorem d_Share_rank_146 : decode b_Share_rank 146 = .ok (.return_, 1) := by decide +kernel
def f_Share_rank_b51 (N : Nat) (i_order : Int32) (v_points : Nat → Int32) (v_owners : Nat → Int32)  : Nat → Int32 → Int32 → (Nat → Int32) → (Nat → Int32) → (Nat → Int32) → (Nat → Int32) → (Nat → Int32) → Option ((Nat → Int32) × (Nat → Int32) × (Nat → Int32) × (Nat → Int32) × (Nat → Int32))
  | 0, _, _, _, _, _, _, _ => none
  | z + 1, l2, l3, v_takes, v_bases, v_ranked, v_starts, v_numbers =>
  if l2 ≤ l3 then
  some (v_takes, v_bases, v_ranked, v_starts, v_numbers)
  else
  ck (inb l3 64) <|
  nm (v_owners (Int32.toNatClampNeg l3)) fun l4_3 =>
  ck (inb l4_3 12) <|
  nm (v_numbers (Int32.toNatClampNeg l4_3)) fun l5_5 =>
  ck (inb l4_3 12) <|
  ck (inb l4_3 12) <|
  nm (upd v_numbers (Int32.toNatClampNeg l4_3) ((v_numbers (Int32.toNatClampNeg l4_3)) + 1)) fun v_numbers_8 =>
  bd1 (f_PM_log2 N l5_5) fun r_9 =>
  ck (inb l3 64) <|
  nm (upd v_takes (Int32.toNatClampNeg l3) (i_order - r_9)) fun v_takes_12 =>
  ck (inb l3 64) <|
  ck (inb l3 64) <|
  nm (upd v_bases (Int32.toNatClampNeg l3) ((l5_5 <<< ((v_takes_12 (Int32.toNatClampNeg l3)) &&& 31)) - l2)) fun v_bases_15 =>
  ck (inb l4_3 12) <|
  bd1 (f_Share_massOf N v_points l4_3) fun r_17 =>
  ck (inb (((v_starts (Int32.toNatClampNeg l4_3)) + l5_5) - r_17) 64) <|
  nm (upd v_ranked (Int32.toNatClampNeg (((v_starts (Int32.toNatClampNeg l4_3)) + l5_5) - r_17)) l3) fun v_ranked_20 =>
  nm (l3 + 1) fun l3_21 =>
  f_Share_rank_b51 N i_order v_points v_owners  z l2 l3_21 v_takes_12 v_bases_15 v_ranked_20 v_starts v_numbers_8
def f_Share_rank_b42 (N : Nat) (i_order : Int32) (v_points : Nat → Int32) (v_owners : Nat → Int32)  (v_takes : Nat → Int32) (v_bases : Nat → Int32) (v_ranked : Nat → Int32) (v_starts : Nat → Int32) (v_numbers : Nat → Int32) : Option ((Nat → Int32) × (Nat → Int32) × (Nat → Int32) × (Nat → Int32) × (Nat → Int32)) :=
  nm (1 <<< (i_order &&& 31)) fun l2_1 =>
  f_Share_rank_b51 N i_order v_points v_owners  N l2_1 0 v_takes v_bases v_ranked v_starts v_numbers
def f_Share_rank_b4 (N : Nat) (i_order : Int32) (v_points : Nat → Int32) (v_owners : Nat → Int32)  : Nat → Int32 → Int32 → (Nat → Int32) → (Nat → Int32) → (Nat → Int32) → (Nat → Int32) → (Nat → Int32) → Option ((Nat → Int32) × (Nat → Int32) × (Nat → Int32) × (Nat → Int32) × (Nat → Int32))
  | 0, _, _, _, _, _, _, _ => none
  | z + 1, l1, l2, v_takes, v_bases, v_ranked, v_starts, v_numbers =>
  if 12 ≤ l2 then
  f_Share_rank_b42 N i_order v_points v_owners  v_takes v_bases v_ranked v_starts v_numbers
  else
  ck (inb l2 12) <|
  nm (upd v_starts (Int32.toNatClampNeg l2) l1) fun v_starts_3 =>
  bd1 (f_Share_massOf N v_points l2) fun r_4 =>
  ck (inb l2 12) <|
  nm (upd v_numbers (Int32.toNatClampNeg l2) r_4) fun v_numbers_7 =>
  bd1 (f_Share_massOf N v_points l2) fun r_8 =>
  nm (l1 + r_8) fun l1_10 =>
  nm (l2 + 1) fun l2_11 =>
  f_Share_rank_b4 N i_order v_points v_owners  z l1_10 l2_11 v_takes v_bases v_ranked v_starts_3 v_numbers_7
def f_Share_rank (N : Nat) (i_order : Int32) (v_points : Nat → Int32) (v_owners : Nat → Int32)  (v_takes : Nat → Int32) (v_bases : Nat → Int32) (v_ranked : Nat → Int32) (v_starts : Nat → Int32) (v_numbers : Nat → Int32) : Option ((Nat → Int32) × (Nat → Int32) × (Nat → Int32) × (Nat → Int32) × (Nat → Int32)) :=
  f_Share_rank_b4 N i_order v_points v_owners  N 0 0 v_takes v_bases v_ranked v_starts v_numbers
abbrev R_Share_rank : Room := ({ frames := 2, cells := 0, slots := 0, locals := 41 } : Room)
def E_Share_rank (p : Program) (l : Launch) (e : Env) (s : State) (m : MethodId) (args : Array Value) (below : List Frame) (meth : Method) (c : Code) (Q : State → Prop) (A : Nat → Prop) (D : va_G) (cI cL cZ : ClassId) (a_this : Nat) (a_points : Nat) (a_owners : Nat) (a_takes : Nat) (a_bases : Nat) (a_ranked : Nat) (a_starts : Nat) (a_numbers : Nat) (o_cuts : Nat) (o_queue : Nat) (o_walk : Nat) (i_order : Int32) (i_next : Int32) (v_points : Nat → Int32) (v_owners : Nat → Int32) (res : (Nat → Int32) × (Nat → Int32) × (Nat → Int32) × (Nat → Int32) × (Nat → Int32)) : Prop := ∀ (pc : Nat) (H : Heap) (locs : List Loc) (ls : Array Slot) (v_takes : Nat → Int32) (v_bases : Nat → Int32) (v_ranked : Nat → Int32) (v_starts : Nat → Int32) (v_numbers : Nat → Int32), some (v_takes, v_bases, v_ranked, v_starts, v_numbers) = some res → decode b_Share_rank pc = .ok (.return_, 1) → va_P D classes [(a_this, .inr (6, [.ref a_points, .ref o_cuts, .ref o_queue, .ref a_owners, .ref a_takes, .ref a_bases, .ref a_ranked, .ref a_starts, .ref a_numbers, .ref o_walk, .int i_order, .int i_next])), (a_points, .inl (cI, 12, .inl v_points)), (a_owners, .inl (cI, 64, .inl v_owners)), (a_takes, .inl (cI, 64, .inl v_takes)), (a_bases, .inl (cI, 64, .inl v_bases)), (a_ranked, .inl (cI, 64, .inl v_ranked)), (a_starts, .inl (cI, 12, .inl v_starts)), (a_numbers, .inl (cI, 12, .inl v_numbers))] H → va_D A [(a_this, .inr (6, [.ref a_points, .ref o_cuts, .ref o_queue, .ref a_owners, .ref a_takes, .ref a_bases, .ref a_ranked, .ref a_starts, .ref a_numbers, .ref o_walk, .int i_order, .int i_next])), (a_points, .inl (cI, 12, .inl v_points)), (a_owners, .inl (cI, 64, .inl v_owners)), (a_takes, .inl (cI, 64, .inl v_takes)), (a_bases, .inl (cI, 64, .inl v_bases)), (a_ranked, .inl (cI, 64, .inl v_ranked)), (a_starts, .inl (cI, 12, .inl v_starts)), (a_numbers, .inl (cI, 12, .inl v_numbers))] → va_S A s.heap H locs → W p l e R_Share_rank s m args below meth c H locs 0 0 Q (F0 m pc ls [])
def I_Share_rank_b51 (p : Program) (l : Launch) (e : Env) (s : State) (m : MethodId) (args : Array Value) (below : List Frame) (meth : Method) (c : Code) (Q : State → Prop) (A : Nat → Prop) (D : va_G) (cI cL cZ : ClassId) (a_this : Nat) (a_points : Nat) (a_owners : Nat) (a_takes : Nat) (a_bases : Nat) (a_ranked : Nat) (a_starts : Nat) (a_numbers : Nat) (o_cuts : Nat) (o_queue : Nat) (o_walk : Nat) (i_order : Int32) (i_next : Int32) (v_points : Nat → Int32) (v_owners : Nat → Int32) (res : (Nat → Int32) × (Nat → Int32) × (Nat → Int32) × (Nat → Int32) × (Nat → Int32)) (kf : Int32 → Int32 → (Nat → Int32) → (Nat → Int32) → (Nat → Int32) → (Nat → Int32) → (Nat → Int32) → Option ((Nat → Int32) × (Nat → Int32) × (Nat → Int32) × (Nat → Int32) × (Nat → Int32))) : Prop := ∀ (l2 : Int32) (l3 : Int32) (v_takes : Nat → Int32) (v_bases : Nat → Int32) (v_ranked : Nat → Int32) (v_starts : Nat → Int32) (v_numbers : Nat → Int32), kf l2 l3 v_takes v_bases v_ranked v_starts v_numbers = some res → ∀ (H : Heap) (locs : List Loc) (ls : Array Slot), lv_has ls 6 [(0, .ref a_this), (2, .int l2), (3, .int l3)] → va_P D classes [(a_this, .inr (6, [.ref a_points, .ref o_cuts, .ref o_queue, .ref a_owners, .ref a_takes, .ref a_bases, .ref a_ranked, .ref a_starts, .ref a_numbers, .ref o_walk, .int i_order, .int i_next])), (a_points, .inl (cI, 12, .inl v_points)), (a_owners, .inl (cI, 64, .inl v_owners)), (a_takes, .inl (cI, 64, .inl v_takes)), (a_bases, .inl (cI, 64, .inl v_bases)), (a_ranked, .inl (cI, 64, .inl v_ranked)), (a_starts, .inl (cI, 12, .inl v_starts)), (a_numbers, .inl (cI, 12, .inl v_numbers))] H → va_D A [(a_this, .inr (6, [.ref a_points, .ref o_cuts, .ref o_queue, .ref a_owners, .ref a_takes, .ref a_bases, .ref a_ranked, .ref a_starts, .ref a_numbers, .ref o_walk, .int i_order, .int i_next])), (a_points, .inl (cI, 12, .inl v_points)), (a_owners, .inl (cI, 64, .inl v_owners)), (a_takes, .inl (cI, 64, .inl v_takes)), (a_bases, .inl (cI, 64, .inl v_bases)), (a_ranked, .inl (cI, 64, .inl v_ranked)), (a_starts, .inl (cI, 12, .inl v_starts)), (a_numbers, .inl (cI, 12, .inl v_numbers))] → va_S A s.heap H locs → W p l e R_Share_rank s m args below meth c H locs 0 0 Q (F0 m 51 ls [])
def I_Share_rank_b42 (p : Program) (l : Launch) (e : Env) (s : State) (m : MethodId) (args : Array Value) (below : List Frame) (meth : Method) (c : Code) (Q : State → Prop) (A : Nat → Prop) (D : va_G) (cI cL cZ : ClassId) (a_this : Nat) (a_points : Nat) (a_owners : Nat) (a_takes : Nat) (a_bases : Nat) (a_ranked : Nat) (a_starts : Nat) (a_numbers : Nat) (o_cuts : Nat) (o_queue : Nat) (o_walk : Nat) (i_order : Int32) (i_next : Int32) (v_points : Nat → Int32) (v_owners : Nat → Int32) (res : (Nat → Int32) × (Nat → Int32) × (Nat → Int32) × (Nat → Int32) × (Nat → Int32)) (kf : (Nat → Int32) → (Nat → Int32) → (Nat → Int32) → (Nat → Int32) → (Nat → Int32) → Option ((Nat → Int32) × (Nat → Int32) × (Nat → Int32) × (Nat → Int32) × (Nat → Int32))) : Prop := ∀ (v_takes : Nat → Int32) (v_bases : Nat → Int32) (v_ranked : Nat → Int32) (v_starts : Nat → Int32) (v_numbers : Nat → Int32), kf v_takes v_bases v_ranked v_starts v_numbers = some res → ∀ (H : Heap) (locs : List Loc) (ls : Array Slot), lv_has ls 6 [(0, .ref a_this)] → va_P D classes [(a_this, .inr (6, [.ref a_points, .ref o_cuts, .ref o_queue, .ref a_owners, .ref a_takes, .ref a_bases, .ref a_ranked, .ref a_starts, .ref a_numbers, .ref o_walk, .int i_order, .int i_next])), (a_points, .inl (cI, 12, .inl v_points)), (a_owners, .inl (cI, 64, .inl v_owners)), (a_takes, .inl (cI, 64, .inl v_takes)), (a_bases, .inl (cI, 64, .inl v_bases)), (a_ranked, .inl (cI, 64, .inl v_ranked)), (a_starts, .inl (cI, 12, .inl v_starts)), (a_numbers, .inl (cI, 12, .inl v_numbers))] H → va_D A [(a_this, .inr (6, [.ref a_points, .ref o_cuts, .ref o_queue, .ref a_owners, .ref a_takes, .ref a_bases, .ref a_ranked, .ref a_starts, .ref a_numbers, .ref o_walk, .int i_order, .int i_next])), (a_points, .inl (cI, 12, .inl v_points)), (a_owners, .inl (cI, 64, .inl v_owners)), (a_takes, .inl (cI, 64, .inl v_takes)), (a_bases, .inl (cI, 64, .inl v_bases)), (a_ranked, .inl (cI, 64, .inl v_ranked)), (a_starts, .inl (cI, 12, .inl v_starts)), (a_numbers, .inl (cI, 12, .inl v_numbers))] → va_S A s.heap H locs → W p l e R_Share_rank s m args below meth c H locs 0 0 Q (F0 m 42 ls [])
def I_Share_rank_b4 (p : Program) (l : Launch) (e : Env) (s : State) (m : MethodId) (args : Array Value) (below : List Frame) (meth : Method) (c : Code) (Q : State → Prop) (A : Nat → Prop) (D : va_G) (cI cL cZ : ClassId) (a_this : Nat) (a_points : Nat) (a_owners : Nat) (a_takes : Nat) (a_bases : Nat) (a_ranked : Nat) (a_starts : Nat) (a_numbers : Nat) (o_cuts : Nat) (o_queue : Nat) (o_walk : Nat) (i_order : Int32) (i_next : Int32) (v_points : Nat → Int32) (v_owners : Nat → Int32) (res : (Nat → Int32) × (Nat → Int32) × (Nat → Int32) × (Nat → Int32) × (Nat → Int32)) (kf : Int32 → Int32 → (Nat → Int32) → (Nat → Int32) → (Nat → Int32) → (Nat → Int32) → (Nat → Int32) → Option ((Nat → Int32) × (Nat → Int32) × (Nat → Int32) × (Nat → Int32) × (Nat → Int32))) : Prop := ∀ (l1 : Int32) (l2 : Int32) (v_takes : Nat → Int32) (v_bases : Nat → Int32) (v_ranked : Nat → Int32) (v_starts : Nat → Int32) (v_numbers : Nat → Int32), kf l1 l2 v_takes v_bases v_ranked v_starts v_numbers = some res → ∀ (H : Heap) (locs : List Loc) (ls : Array Slot), lv_has ls 6 [(0, .ref a_this), (1, .int l1), (2, .int l2)] → va_P D classes [(a_this, .inr (6, [.ref a_points, .ref o_cuts, .ref o_queue, .ref a_owners, .ref a_takes, .ref a_bases, .ref a_ranked, .ref a_starts, .ref a_numbers, .ref o_walk, .int i_order, .int i_next])), (a_points, .inl (cI, 12, .inl v_points)), (a_owners, .inl (cI, 64, .inl v_owners)), (a_takes, .inl (cI, 64, .inl v_takes)), (a_bases, .inl (cI, 64, .inl v_bases)), (a_ranked, .inl (cI, 64, .inl v_ranked)), (a_starts, .inl (cI, 12, .inl v_starts)), (a_numbers, .inl (cI, 12, .inl v_numbers))] H → va_D A [(a_this, .inr (6, [.ref a_points, .ref o_cuts, .ref o_queue, .ref a_owners, .ref a_takes, .ref a_bases, .ref a_ranked, .ref a_starts, .ref a_numbers, .ref o_walk, .int i_order, .int i_next])), (a_points, .inl (cI, 12, .inl v_points)), (a_owners, .inl (cI, 64, .inl v_owners)), (a_takes, .inl (cI, 64, .inl v_takes)), (a_bases, .inl (cI, 64, .inl v_bases)), (a_ranked, .inl (cI, 64, .inl v_ranked)), (a_starts, .inl (cI, 12, .inl v_starts)), (a_numbers, .inl (cI, 12, .inl v_numbers))] → va_S A s.heap H locs → W p l e R_Share_rank s m args below meth c H locs 0 0 Q (F0 m 4 ls [])
def I_Share_rank_b0 (p : Program) (l : Launch) (e : Env) (s : State) (m : MethodId) (args : Array Value) (below : List Frame) (meth : Method) (c : Code) (Q : State → Prop) (A : Nat → Prop) (D : va_G) (cI cL cZ : ClassId) (a_this : Nat) (a_points : Nat) (a_owners : Nat) (a_takes : Nat) (a_bases : Nat) (a_ranked : Nat) (a_starts : Nat) (a_numbers : Nat) (o_cuts : Nat) (o_queue : Nat) (o_walk : Nat) (i_order : Int32) (i_next : Int32) (v_points : Nat → Int32) (v_owners : Nat → Int32) (res : (Nat → Int32) × (Nat → Int32) × (Nat → Int32) × (Nat → Int32) × (Nat → Int32)) (kf : (Nat → Int32) → (Nat → Int32) → (Nat → Int32) → (Nat → Int32) → (Nat → Int32) → Option ((Nat → Int32) × (Nat → Int32) × (Nat → Int32) × (Nat → Int32) × (Nat → Int32))) : Prop := ∀ (v_takes : Nat → Int32) (v_bases : Nat → Int32) (v_ranked : Nat → Int32) (v_starts : Nat → Int32) (v_numbers : Nat → Int32), kf v_takes v_bases v_ranked v_starts v_numbers = some res → ∀ (H : Heap) (locs : List Loc) (ls : Array Slot), lv_has ls 6 [(0, .ref a_this)] → va_P D classes [(a_this, .inr (6, [.ref a_points, .ref o_cuts, .ref o_queue, .ref a_owners, .ref a_takes, .ref a_bases, .ref a_ranked, .ref a_starts, .ref a_numbers, .ref o_walk, .int i_order, .int i_next])), (a_points, .inl (cI, 12, .inl v_points)), (a_owners, .inl (cI, 64, .inl v_owners)), (a_takes, .inl (cI, 64, .inl v_takes)), (a_bases, .inl (cI, 64, .inl v_bases)), (a_ranked, .inl (cI, 64, .inl v_ranked)), (a_starts, .inl (cI, 12, .inl v_starts)), (a_numbers, .inl (cI, 12, .inl v_numbers))] H → va_D A [(a_this, .inr (6, [.ref a_points, .ref o_cuts, .ref o_queue, .ref a_owners, .ref a_takes, .ref a_bases, .ref a_ranked, .ref a_starts, .ref a_numbers, .ref o_walk, .int i_order, .int i_next])), (a_points, .inl (cI, 12, .inl v_points)), (a_owners, .inl (cI, 64, .inl v_owners)), (a_takes, .inl (cI, 64, .inl v_takes)), (a_bases, .inl (cI, 64, .inl v_bases)), (a_ranked, .inl (cI, 64, .inl v_ranked)), (a_starts, .inl (cI, 12, .inl v_starts)), (a_numbers, .inl (cI, 12, .inl v_numbers))] → va_S A s.heap H locs → W p l e R_Share_rank s m args below meth c H locs 0 0 Q (F0 m 0 ls [])
set_option maxHeartbeats 4000000 in
set_option maxRecDepth 100000 in
theorem w_Share_rank_b51 {p : Program} {l : Launch} {e : Env} {s : State} {m : MethodId} {args : Array Value} {below : List Frame} {meth : Method} {c : Code} {Q : State → Prop} {A : Nat → Prop} {D : va_G} {cI cL cZ : ClassId} {a_this : Nat} {a_points : Nat} {a_owners : Nat} {a_takes : Nat} {a_bases : Nat} {a_ranked : Nat} {a_starts : Nat} {a_numbers : Nat} {o_cuts : Nat} {o_queue : Nat} {o_walk : Nat} {i_order : Int32} {i_next : Int32} {v_points : Nat → Int32} {v_owners : Nat → Int32} {N : Nat} {res : (Nat → Int32) × (Nat → Int32) × (Nat → Int32) × (Nat → Int32) × (Nat → Int32)}  (C : Cx p s m args c b_Share_rank 6 "PrefixMill$Share" D [(cI, .int), (cL, .long), (cZ, .boolean)] A) (hret : E_Share_rank p l e s m args below meth c Q A D cI cL cZ a_this a_points a_owners a_takes a_bases a_ranked a_starts a_numbers o_cuts o_queue o_walk i_order i_next v_points v_owners res)  : ∀ z : Nat, I_Share_rank_b51 p l e s m args below meth c Q A D cI cL cZ a_this a_points a_owners a_takes a_bases a_ranked a_starts a_numbers o_cuts o_queue o_walk i_order i_next v_points v_owners res (f_Share_rank_b51 N i_order v_points v_owners  z) := by
  obtain ⟨hx, hb, hml, hown, hts, hK, hA⟩ := C
  intro z
  induction z with
  | zero => intro l2 l3 v_takes v_bases v_ranked v_starts v_numbers h; cases h
  | succ z ih =>
    intro l2 l3 v_takes v_bases v_ranked v_starts v_numbers h H locs ls hl hP hD hS
    refine lv_iload_n hx hb d_Share_rank_51 rfl (lv_at hl 2 rfl) ?_
    refine lv_iload_n hx hb d_Share_rank_52 rfl (lv_at hl 1 rfl) ?_
    refine lv_icmp_ge (tgt := 146) hx hb d_Share_rank_53 (by decide) (fun c_1 => ?_) (fun c_1 => ?_)
    · replace h := if_t h c_1
      exact hret _ _ _ _ v_takes v_bases v_ranked v_starts v_numbers h d_Share_rank_146 hP hD hS
    · replace h := if_f h c_1
      refine lv_aload_n hx hb d_Share_rank_56 rfl (lv_at hl 0 rfl) ?_
      refine va_get hx hb hts in_Share hown hK hP 0 rfl rfl 3 (by decide) (hts _ m_214) (fun _ h9 => h9) rfl d_Share_rank_57 ?_
      refine lv_iload_n hx hb d_Share_rank_60 rfl (lv_at hl 2 rfl) ?_
      obtain ⟨g_2, h⟩ := ck_s h
      refine va_iald hx hb hK hP 2 0 rfl rfl (inb_s g_2) d_Share_rank_61 ?_
      refine lv_topi (fun l4_3 el4_3 => ?_)
      replace h := nm_s h el4_3
      refine lv_istore (lv' := [(4, .int l4_3), (0, .ref a_this), (2, .int l2), (3, .int l3)]) hx hb d_Share_rank_62 hl (by decide) rfl (fun ls hl => ?_)
      refine lv_aload_n hx hb d_Share_rank_64 rfl (lv_at hl 1 rfl) ?_
      refine va_get hx hb hts in_Share hown hK hP 0 rfl rfl 8 (by decide) (hts _ m_224) (fun _ h9 => h9) rfl d_Share_rank_65 ?_
      refine lv_iload hx hb d_Share_rank_68 (lv_at hl 0 rfl) ?_
      obtain ⟨g_4, h⟩ := ck_s h
      refine va_iald hx hb hK hP 7 0 rfl rfl (inb_s g_4) d_Share_rank_70 ?_
      refine lv_topi (fun l5_5 el5_5 => ?_)
      replace h := nm_s h el5_5
      refine lv_istore (lv' := [(5, .int l5_5), (4, .int l4_3), (0, .ref a_this), (2, .int l2), (3, .int l3)]) hx hb d_Share_rank_71 hl (by decide) rfl (fun ls hl => ?_)
      refine lv_aload_n hx hb d_Share_rank_73 rfl (lv_at hl 2 rfl) ?_
      refine va_get hx hb hts in_Share hown hK hP 0 rfl rfl 8 (by decide) (hts _ m_224) (fun _ h9 => h9) rfl d_Share_rank_74 ?_
      refine lv_iload hx hb d_Share_rank_77 (lv_at hl 1 rfl) ?_
      refine lv_dup2_11 hx hb d_Share_rank_79 rfl rfl ?_
      obtain ⟨g_6, h⟩ := ck_s h
      refine va_iald hx hb hK hP 7 0 rfl rfl (inb_s g_6) d_Share_rank_80 ?_
      refine lv_iconst (v := 1) hx hb d_Share_rank_81 (by decide) ?_
      refine lv_iadd hx hb d_Share_rank_82 ?_
      obtain ⟨g_7, h⟩ := ck_s h
      refine va_iast hx hb hK hP hD hS 7 0 rfl rfl (inb_s g_7) d_Share_rank_83 (fun H locs hP hD hS => ?_)
      obtain ⟨v_numbers_8, ev_numbers_8⟩ : ∃ y, y = (upd v_numbers (Int32.toNatClampNeg l4_3) ((v_numbers (Int32.toNatClampNeg l4_3)) + 1)) := ⟨_, rfl⟩
      replace h := nm_s h ev_numbers_8
      have hP : va_P D classes [(a_this, .inr (6, [.ref a_points, .ref o_cuts, .ref o_queue, .ref a_owners, .ref a_takes, .ref a_bases, .ref a_ranked, .ref a_starts, .ref a_numbers, .ref o_walk, .int i_order, .int i_next])), (a_points, .inl (cI, 12, .inl v_points)), (a_owners, .inl (cI, 64, .inl v_owners)), (a_takes, .inl (cI, 64, .inl v_takes)), (a_bases, .inl (cI, 64, .inl v_bases)), (a_ranked, .inl (cI, 64, .inl v_ranked)), (a_starts, .inl (cI, 12, .inl v_starts)), (a_numbers, .inl (cI, 12, .inl v_numbers_8))] H := by rw [ev_numbers_8]; exact hP
      have hD : va_D A [(a_this, .inr (6, [.ref a_points, .ref o_cuts, .ref o_queue, .ref a_owners, .ref a_takes, .ref a_bases, .ref a_ranked, .ref a_starts, .ref a_numbers, .ref o_walk, .int i_order, .int i_next])), (a_points, .inl (cI, 12, .inl v_points)), (a_owners, .inl (cI, 64, .inl v_owners)), (a_takes, .inl (cI, 64, .inl v_takes)), (a_bases, .inl (cI, 64, .inl v_bases)), (a_ranked, .inl (cI, 64, .inl v_ranked)), (a_starts, .inl (cI, 12, .inl v_starts)), (a_numbers, .inl (cI, 12, .inl v_numbers_8))] := by rw [ev_numbers_8]; exact hD
      refine lv_aload_n hx hb d_Share_rank_84 rfl (lv_at hl 2 rfl) ?_
      refine va_get hx hb hts in_Share hown hK hP 0 rfl rfl 4 (by decide) (hts _ m_216) (fun _ h9 => h9) rfl d_Share_rank_85 ?_
      refine lv_iload_n hx hb d_Share_rank_88 rfl (lv_at hl 4 rfl) ?_
      refine lv_aload_n hx hb d_Share_rank_89 rfl (lv_at hl 2 rfl) ?_
      refine va_get hx hb hts in_Share hown hK hP 0 rfl rfl 10 (by decide) (hts _ m_226) (fun _ h9 => h9) rfl d_Share_rank_90 ?_
      refine lv_iload hx hb d_Share_rank_93 (lv_at hl 0 rfl) ?_
      obtain ⟨r_9, hc_10, h⟩ := bd1_s h
      have hPc := hP.sub (ws' := []) [] rfl
      have hDc := hD.sub (ws' := []) [] (by decide) rfl
      have hFc := va_free (wc := []) hD hS hA [] rfl
      refine va_calli (va_runSN (As := [.int l5_5]) (rest := [.int i_order, .int l3, .ref a_takes]) ⟨hx, hb, hml, hown, hts⟩ (c_PM_log2 l D cI cL cZ H.size N l5_5 r_9 hc_10) ⟨(my_cn 1 hts m_568 rfl rfl (hts _ m_66) (hts _ m_566) (by decide +kernel) ⟨Nat.le_of_ble_eq_true rfl, Nat.le_of_ble_eq_true rfl⟩), hts _ m_567, trivial⟩ ⟨fun a U g mk q => by obtain ⟨q0, q1, qP, qK, qD⟩ := q; exact ⟨q0, q1, qP, va_K.moved (u := U) (U := U.calling g mk a) (Vm.Alike.refl U.vm) qK, qD⟩, fun U hU hW => ⟨rfl, by rw [hU], by rw [hU]; exact hPc, va_K.moved hW.alike hK, hDc.weaken (fun _ _ _ _ => trivial)⟩⟩ rfl rfl hl.1 rfl (lv_room (Nat.le_of_ble_eq_true rfl)) d_Share_rank_95 ⟨Nat.zero_le _, Nat.zero_le _⟩) hS (fun q _ h => hFc q h) hFc (fun rr u t H1 locs ht hvm hw hB hz1 hk1 hS => ?_)
      obtain ⟨hP1, hK1, hD1⟩ := hB
      rw [ht] at hP1
      subst hw
      obtain ⟨hP, hD⟩ := va_join (wr := [(a_this, .inr (6, [.ref a_points, .ref o_cuts, .ref o_queue, .ref a_owners, .ref a_takes, .ref a_bases, .ref a_ranked, .ref a_starts, .ref a_numbers, .ref o_walk, .int i_order, .int i_next])), (a_points, .inl (cI, 12, .inl v_points)), (a_owners, .inl (cI, 64, .inl v_owners)), (a_takes, .inl (cI, 64, .inl v_takes)), (a_bases, .inl (cI, 64, .inl v_bases)), (a_ranked, .inl (cI, 64, .inl v_ranked)), (a_starts, .inl (cI, 12, .inl v_starts)), (a_numbers, .inl (cI, 12, .inl v_numbers_8))]) (w1 := []) hP hD [] [0, 1, 2, 3, 4, 5, 6, 7] rfl rfl (by decide) (by decide) hk1 hFc hP1 hD1
      clear hPc hDc hFc hk1 hP1 hD1 hK1
      generalize H1 = H at hP hS ⊢
      have hP : va_P D classes [(a_this, .inr (6, [.ref a_points, .ref o_cuts, .ref o_queue, .ref a_owners, .ref a_takes, .ref a_bases, .ref a_ranked, .ref a_starts, .ref a_numbers, .ref o_walk, .int i_order, .int i_next])), (a_points, .inl (cI, 12, .inl v_points)), (a_owners, .inl (cI, 64, .inl v_owners)), (a_takes, .inl (cI, 64, .inl v_takes)), (a_bases, .inl (cI, 64, .inl v_bases)), (a_ranked, .inl (cI, 64, .inl v_ranked)), (a_starts, .inl (cI, 12, .inl v_starts)), (a_numbers, .inl (cI, 12, .inl v_numbers_8))] H := hP.sub [0, 1, 2, 3, 4, 5, 6, 7] rfl
      have hD : va_D A [(a_this, .inr (6, [.ref a_points, .ref o_cuts, .ref o_queue, .ref a_owners, .ref a_takes, .ref a_bases, .ref a_ranked, .ref a_starts, .ref a_numbers, .ref o_walk, .int i_order, .int i_next])), (a_points, .inl (cI, 12, .inl v_points)), (a_owners, .inl (cI, 64, .inl v_owners)), (a_takes, .inl (cI, 64, .inl v_takes)), (a_bases, .inl (cI, 64, .inl v_bases)), (a_ranked, .inl (cI, 64, .inl v_ranked)), (a_starts, .inl (cI, 12, .inl v_starts)), (a_numbers, .inl (cI, 12, .inl v_numbers_8))] := hD.sub [0, 1, 2, 3, 4, 5, 6, 7] (by decide) rfl
      refine lv_isub hx hb d_Share_rank_98 ?_
      obtain ⟨g_11, h⟩ := ck_s h
      refine va_iast hx hb hK hP hD hS 3 0 rfl rfl (inb_s g_11) d_Share_rank_99 (fun H locs hP hD hS => ?_)
      obtain ⟨v_takes_12, ev_takes_12⟩ : ∃ y, y = (upd v_takes (Int32.toNatClampNeg l3) (i_order - r_9)) := ⟨_, rfl⟩
      replace h := nm_s h ev_takes_12
      have hP : va_P D classes [(a_this, .inr (6, [.ref a_points, .ref o_cuts, .ref o_queue, .ref a_owners, .ref a_takes, .ref a_bases, .ref a_ranked, .ref a_starts, .ref a_numbers, .ref o_walk, .int i_order, .int i_next])), (a_points, .inl (cI, 12, .inl v_points)), (a_owners, .inl (cI, 64, .inl v_owners)), (a_takes, .inl (cI, 64, .inl v_takes_12)), (a_bases, .inl (cI, 64, .inl v_bases)), (a_ranked, .inl (cI, 64, .inl v_ranked)), (a_starts, .inl (cI, 12, .inl v_starts)), (a_numbers, .inl (cI, 12, .inl v_numbers_8))] H := by rw [ev_takes_12]; exact hP
      have hD : va_D A [(a_this, .inr (6, [.ref a_points, .ref o_cuts, .ref o_queue, .ref a_owners, .ref a_takes, .ref a_bases, .ref a_ranked, .ref a_starts, .ref a_numbers, .ref o_walk, .int i_order, .int i_next])), (a_points, .inl (cI, 12, .inl v_points)), (a_owners, .inl (cI, 64, .inl v_owners)), (a_takes, .inl (cI, 64, .inl v_takes_12)), (a_bases, .inl (cI, 64, .inl v_bases)), (a_ranked, .inl (cI, 64, .inl v_ranked)), (a_starts, .inl (cI, 12, .inl v_starts)), (a_numbers, .inl (cI, 12, .inl v_numbers_8))] := by rw [ev_takes_12]; exact hD
      refine lv_aload_n hx hb d_Share_rank_100 rfl (lv_at hl 2 rfl) ?_
      refine va_get hx hb hts in_Share hown hK hP 0 rfl rfl 5 (by decide) (hts _ m_219) (fun _ h9 => h9) rfl d_Share_rank_101 ?_
      refine lv_iload_n hx hb d_Share_rank_104 rfl (lv_at hl 4 rfl) ?_
      refine lv_iload hx hb d_Share_rank_105 (lv_at hl 0 rfl) ?_
      refine lv_aload_n hx hb d_Share_rank_107 rfl (lv_at hl 2 rfl) ?_
      refine va_get hx hb hts in_Share hown hK hP 0 rfl rfl 4 (by decide) (hts _ m_216) (fun _ h9 => h9) rfl d_Share_rank_108 ?_
      refine lv_iload_n hx hb d_Share_rank_111 rfl (lv_at hl 4 rfl) ?_
      obtain ⟨g_13, h⟩ := ck_s h
      refine va_iald hx hb hK hP 3 0 rfl rfl (inb_s g_13) d_Share_rank_112 ?_
      refine lv_ishl hx hb d_Share_rank_113 ?_
      refine lv_iload_n hx hb d_Share_rank_114 rfl (lv_at hl 3 rfl) ?_
      refine lv_isub hx hb d_Share_rank_115 ?_
      obtain ⟨g_14, h⟩ := ck_s h
      refine va_iast hx hb hK hP hD hS 4 0 rfl rfl (inb_s g_14) d_Share_rank_116 (fun H locs hP hD hS => ?_)
      obtain ⟨v_bases_15, ev_bases_15⟩ : ∃ y, y = (upd v_bases (Int32.toNatClampNeg l3) ((l5_5 <<< ((v_takes_12 (Int32.toNatClampNeg l3)) &&& 31)) - l2)) := ⟨_, rfl⟩
      replace h := nm_s h ev_bases_15
      have hP : va_P D classes [(a_this, .inr (6, [.ref a_points, .ref o_cuts, .ref o_queue, .ref a_owners, .ref a_takes, .ref a_bases, .ref a_ranked, .ref a_starts, .ref a_numbers, .ref o_walk, .int i_order, .int i_next])), (a_points, .inl (cI, 12, .inl v_points)), (a_owners, .inl (cI, 64, .inl v_owners)), (a_takes, .inl (cI, 64, .inl v_takes_12)), (a_bases, .inl (cI, 64, .inl v_bases_15)), (a_ranked, .inl (cI, 64, .inl v_ranked)), (a_starts, .inl (cI, 12, .inl v_starts)), (a_numbers, .inl (cI, 12, .inl v_numbers_8))] H := by rw [ev_bases_15]; exact hP
      have hD : va_D A [(a_this, .inr (6, [.ref a_points, .ref o_cuts, .ref o_queue, .ref a_owners, .ref a_takes, .ref a_bases, .ref a_ranked, .ref a_starts, .ref a_numbers, .ref o_walk, .int i_order, .int i_next])), (a_points, .inl (cI, 12, .inl v_points)), (a_owners, .inl (cI, 64, .inl v_owners)), (a_takes, .inl (cI, 64, .inl v_takes_12)), (a_bases, .inl (cI, 64, .inl v_bases_15)), (a_ranked, .inl (cI, 64, .inl v_ranked)), (a_starts, .inl (cI, 12, .inl v_starts)), (a_numbers, .inl (cI, 12, .inl v_numbers_8))] := by rw [ev_bases_15]; exact hD
      refine lv_aload_n hx hb d_Share_rank_117 rfl (lv_at hl 2 rfl) ?_
      refine va_get hx hb hts in_Share hown hK hP 0 rfl rfl 6 (by decide) (hts _ m_222) (fun _ h9 => h9) rfl d_Share_rank_118 ?_
      refine lv_aload_n hx hb d_Share_rank_121 rfl (lv_at hl 2 rfl) ?_
      refine va_get hx hb hts in_Share hown hK hP 0 rfl rfl 7 (by decide) (hts _ m_223) (fun _ h9 => h9) rfl d_Share_rank_122 ?_
      refine lv_iload hx hb d_Share_rank_125 (lv_at hl 1 rfl) ?_
      obtain ⟨g_16, h⟩ := ck_s h
      refine va_iald hx hb hK hP 6 0 rfl rfl (inb_s g_16) d_Share_rank_127 ?_
      refine lv_iload hx hb d_Share_rank_128 (lv_at hl 0 rfl) ?_
      refine lv_iadd hx hb d_Share_rank_130 ?_
      refine lv_aload_n hx hb d_Share_rank_131 rfl (lv_at hl 2 rfl) ?_
      refine lv_iload hx hb d_Share_rank_132 (lv_at hl 1 rfl) ?_
      obtain ⟨r_17, hc_18, h⟩ := bd1_s h
      have hPc := hP.sub (ws' := [(a_this, .inr (6, [.ref a_points, .ref o_cuts, .ref o_queue, .ref a_owners, .ref a_takes, .ref a_bases, .ref a_ranked, .ref a_starts, .ref a_numbers, .ref o_walk, .int i_order, .int i_next])), (a_points, .inl (cI, 12, .inl v_points))]) [0, 1] rfl
      have hDc := hD.sub (ws' := [(a_this, .inr (6, [.ref a_points, .ref o_cuts, .ref o_queue, .ref a_owners, .ref a_takes, .ref a_bases, .ref a_ranked, .ref a_starts, .ref a_numbers, .ref o_walk, .int i_order, .int i_next])), (a_points, .inl (cI, 12, .inl v_points))]) [0, 1] (by decide) rfl
      have hFc := va_free (wc := [(a_this, .inr (6, [.ref a_points, .ref o_cuts, .ref o_queue, .ref a_owners, .ref a_takes, .ref a_bases, .ref a_ranked, .ref a_starts, .ref a_numbers, .ref o_walk, .int i_order, .int i_next])), (a_points, .inl (cI, 12, .inl v_points))]) hD hS hA [0, 1] rfl
      refine va_calli (va_runV (As := [.int l4_3]) (rest := [.int ((v_starts (Int32.toNatClampNeg l4_3)) + l5_5), .ref a_ranked]) ⟨hx, hb, hml, hown, hts⟩ (c_Share_massOf l D cI cL cZ H.size N a_this a_points o_cuts o_queue a_owners a_takes a_bases a_ranked a_starts a_numbers o_walk i_order i_next v_points l4_3 r_17 hc_18) ⟨(my_cb 1 hts m_534 rfl rfl (hts _ m_72) (hts _ m_531) (by decide +kernel) ⟨Nat.le_of_ble_eq_true rfl, Nat.le_of_ble_eq_true rfl⟩), hts _ m_533, hts _ m_10⟩ ⟨fun a U g mk q => by obtain ⟨q0, q1, qP, qK, qD⟩ := q; exact ⟨q0, q1, qP, va_K.moved (u := U) (U := U.calling g mk a) (Vm.Alike.refl U.vm) qK, qD⟩, va_recv hK hPc (ci := 6) (q0 := 0) rfl rfl, fun U hU hW => ⟨rfl, by rw [hU], by rw [hU]; exact hPc, va_K.moved hW.alike hK, hDc.weaken (fun _ _ _ _ => trivial)⟩⟩ rfl rfl hl.1 rfl (lv_room (Nat.le_of_ble_eq_true rfl)) d_Share_rank_134 ⟨Nat.zero_le _, Nat.zero_le _⟩) hS (fun q _ h => hFc q h) hFc (fun rr u t H1 locs ht hvm hw hB hz1 hk1 hS => ?_)
      obtain ⟨hP1, hK1, hD1⟩ := hB
      rw [ht] at hP1
      subst hw
      obtain ⟨hP, hD⟩ := va_join (wr := [(a_owners, .inl (cI, 64, .inl v_owners)), (a_takes, .inl (cI, 64, .inl v_takes_12)), (a_bases, .inl (cI, 64, .inl v_bases_15)), (a_ranked, .inl (cI, 64, .inl v_ranked)), (a_starts, .inl (cI, 12, .inl v_starts)), (a_numbers, .inl (cI, 12, .inl v_numbers_8))]) (w1 := [(a_this, .inr (6, [.ref a_points, .ref o_cuts, .ref o_queue, .ref a_owners, .ref a_takes, .ref a_bases, .ref a_ranked, .ref a_starts, .ref a_numbers, .ref o_walk, .int i_order, .int i_next])), (a_points, .inl (cI, 12, .inl v_points))]) hP hD [0, 1] [2, 3, 4, 5, 6, 7] rfl rfl (by decide) (by decide) hk1 hFc hP1 hD1
      clear hPc hDc hFc hk1 hP1 hD1 hK1
      generalize H1 = H at hP hS ⊢
      have hP : va_P D classes [(a_this, .inr (6, [.ref a_points, .ref o_cuts, .ref o_queue, .ref a_owners, .ref a_takes, .ref a_bases, .ref a_ranked, .ref a_starts, .ref a_numbers, .ref o_walk, .int i_order, .int i_next])), (a_points, .inl (cI, 12, .inl v_points)), (a_owners, .inl (cI, 64, .inl v_owners)), (a_takes, .inl (cI, 64, .inl v_takes_12)), (a_bases, .inl (cI, 64, .inl v_bases_15)), (a_ranked, .inl (cI, 64, .inl v_ranked)), (a_starts, .inl (cI, 12, .inl v_starts)), (a_numbers, .inl (cI, 12, .inl v_numbers_8))] H := hP.sub [6, 7, 0, 1, 2, 3, 4, 5] rfl
      have hD : va_D A [(a_this, .inr (6, [.ref a_points, .ref o_cuts, .ref o_queue, .ref a_owners, .ref a_takes, .ref a_bases, .ref a_ranked, .ref a_starts, .ref a_numbers, .ref o_walk, .int i_order, .int i_next])), (a_points, .inl (cI, 12, .inl v_points)), (a_owners, .inl (cI, 64, .inl v_owners)), (a_takes, .inl (cI, 64, .inl v_takes_12)), (a_bases, .inl (cI, 64, .inl v_bases_15)), (a_ranked, .inl (cI, 64, .inl v_ranked)), (a_starts, .inl (cI, 12, .inl v_starts)), (a_numbers, .inl (cI, 12, .inl v_numbers_8))] := hD.sub [6, 7, 0, 1, 2, 3, 4, 5] (by decide) rfl
      refine lv_isub hx hb d_Share_rank_137 ?_
      refine lv_iload_n hx hb d_Share_rank_138 rfl (lv_at hl 4 rfl) ?_
      obtain ⟨g_19, h⟩ := ck_s h
      refine va_iast hx hb hK hP hD hS 5 0 rfl rfl (inb_s g_19) d_Share_rank_139 (fun H locs hP hD hS => ?_)
      obtain ⟨v_ranked_20, ev_ranked_20⟩ : ∃ y, y = (upd v_ranked (Int32.toNatClampNeg (((v_starts (Int32.toNatClampNeg l4_3)) + l5_5) - r_17)) l3) := ⟨_, rfl⟩
      replace h := nm_s h ev_ranked_20
      have hP : va_P D classes [(a_this, .inr (6, [.ref a_points, .ref o_cuts, .ref o_queue, .ref a_owners, .ref a_takes, .ref a_bases, .ref a_ranked, .ref a_starts, .ref a_numbers, .ref o_walk, .int i_order, .int i_next])), (a_points, .inl (cI, 12, .inl v_points)), (a_owners, .inl (cI, 64, .inl v_owners)), (a_takes, .inl (cI, 64, .inl v_takes_12)), (a_bases, .inl (cI, 64, .inl v_bases_15)), (a_ranked, .inl (cI, 64, .inl v_ranked_20)), (a_starts, .inl (cI, 12, .inl v_starts)), (a_numbers, .inl (cI, 12, .inl v_numbers_8))] H := by rw [ev_ranked_20]; exact hP
      have hD : va_D A [(a_this, .inr (6, [.ref a_points, .ref o_cuts, .ref o_queue, .ref a_owners, .ref a_takes, .ref a_bases, .ref a_ranked, .ref a_starts, .ref a_numbers, .ref o_walk, .int i_order, .int i_next])), (a_points, .inl (cI, 12, .inl v_points)), (a_owners, .inl (cI, 64, .inl v_owners)), (a_takes, .inl (cI, 64, .inl v_takes_12)), (a_bases, .inl (cI, 64, .inl v_bases_15)), (a_ranked, .inl (cI, 64, .inl v_ranked_20)), (a_starts, .inl (cI, 12, .inl v_starts)), (a_numbers, .inl (cI, 12, .inl v_numbers_8))] := by rw [ev_ranked_20]; exact hD
      obtain ⟨l3_21, el3_21⟩ : ∃ y : Int32, y = l3 + 1 := ⟨_, rfl⟩
      replace h := nm_s h el3_21
      refine lv_iinc (v := l3_21) (lv' := [(3, .int l3_21), (5, .int l5_5), (4, .int l4_3), (0, .ref a_this), (2, .int l2)]) hx hb d_Share_rank_140 hl (k := 4) rfl (by rw [el3_21]; rfl) (by decide) rfl (fun ls hl => ?_)
      refine lv_goto (tgt := 51) hx hb d_Share_rank_143 (by decide) ?_
      exact ih _ _ _ _ _ _ _ h H locs ls (lv_sub hl [3, 4, 0] rfl) hP hD hS
set_option maxHeartbeats 4000000 in
set_option maxRecDepth 100000 in
theorem w_Share_rank_b42 {p : Program} {l : Launch} {e : Env} {s : State} {m : MethodId} {args : Array Value} {below : List Frame} {meth : Method} {c : Code} {Q : State → Prop} {A : Nat → Prop} {D : va_G} {cI cL cZ : ClassId} {a_this : Nat} {a_points : Nat} {a_owners : Nat} {a_takes : Nat} {a_bases : Nat} {a_ranked : Nat} {a_starts : Nat} {a_numbers : Nat} {o_cuts : Nat} {o_queue : Nat} {o_walk : Nat} {i_order : Int32} {i_next : Int32} {v_points : Nat → Int32} {v_owners : Nat → Int32} {N : Nat} {res : (Nat → Int32) × (Nat → Int32) × (Nat → Int32) × (Nat → Int32) × (Nat → Int32)}  (C : Cx p s m args c b_Share_rank 6 "PrefixMill$Share" D [(cI, .int), (cL, .long), (cZ, .boolean)] A) (hret : E_Share_rank p l e s m args below meth c Q A D cI cL cZ a_this a_points a_owners a_takes a_bases a_ranked a_starts a_numbers o_cuts o_queue o_walk i_order i_next v_points v_owners res)  : I_Share_rank_b42 p l e s m args below meth c Q A D cI cL cZ a_this a_points a_owners a_takes a_bases a_ranked a_starts a_numbers o_cuts o_queue o_walk i_order i_next v_points v_owners res (f_Share_rank_b42 N i_order v_points v_owners ) := by
  obtain ⟨hx, hb, hml, hown, hts, hK, hA⟩ := C
  intro v_takes v_bases v_ranked v_starts v_numbers h H locs ls hl hP hD hS
  unfold f_Share_rank_b42 at h
  refine lv_iconst (v := 1) hx hb d_Share_rank_42 (by decide) ?_
  refine lv_aload_n hx hb d_Share_rank_43 rfl (lv_at hl 0 rfl) ?_
  refine va_get hx hb hts in_Share hown hK hP 0 rfl rfl 10 (by decide) (hts _ m_226) (fun _ h9 => h9) rfl d_Share_rank_44 ?_
  refine lv_ishl hx hb d_Share_rank_47 ?_
  refine lv_topi (fun l2_1 el2_1 => ?_)
  replace h := nm_s h el2_1
  refine lv_istore_n (lv' := [(2, .int l2_1), (0, .ref a_this)]) hx hb d_Share_rank_48 rfl hl (by decide) rfl (fun ls hl => ?_)
  refine lv_iconst (v := 0) hx hb d_Share_rank_49 (by decide) ?_
  refine lv_istore_n (lv' := [(3, .int 0), (2, .int l2_1), (0, .ref a_this)]) hx hb d_Share_rank_50 rfl hl (by decide) rfl (fun ls hl => ?_)
  exact w_Share_rank_b51 ⟨hx, hb, hml, hown, hts, hK, hA⟩ hret  N _ _ _ _ _ _ _ h H locs ls (lv_sub hl [2, 1, 0] rfl) hP hD hS
set_option maxHeartbeats 4000000 in
set_option maxRecDepth 100000 in
theorem w_Share_rank_b4 {p : Program} {l : Launch} {e : Env} {s : State} {m : MethodId} {args : Array Value} {below : List Frame} {meth : Method} {c : Code} {Q : State → Prop} {A : Nat → Prop} {D : va_G} {cI cL cZ : ClassId} {a_this : Nat} {a_points : Nat} {a_owners : Nat} {a_takes : Nat} {a_bases : Nat} {a_ranked : Nat} {a_starts : Nat} {a_numbers : Nat} {o_cuts : Nat} {o_queue : Nat} {o_walk : Nat} {i_order : Int32} {i_next : Int32} {v_points : Nat → Int32} {v_owners : Nat → Int32} {N : Nat} {res : (Nat → Int32) × (Nat → Int32) × (Nat → Int32) × (Nat → Int32) × (Nat → Int32)}  (C : Cx p s m args c b_Share_rank 6 "PrefixMill$Share" D [(cI, .int), (cL, .long), (cZ, .boolean)] A) (hret : E_Share_rank p l e s m args below meth c Q A D cI cL cZ a_this a_points a_owners a_takes a_bases a_ranked a_starts a_numbers o_cuts o_queue o_walk i_order i_next v_points v_owners res)  : ∀ z : Nat, I_Share_rank_b4 p l e s m args below meth c Q A D cI cL cZ a_this a_points a_owners a_takes a_bases a_ranked a_starts a_numbers o_cuts o_queue o_walk i_order i_next v_points v_owners res (f_Share_rank_b4 N i_order v_points v_owners  z) := by
  obtain ⟨hx, hb, hml, hown, hts, hK, hA⟩ := C
  intro z
  induction z with
  | zero => intro l1 l2 v_takes v_bases v_ranked v_starts v_numbers h; cases h
  | succ z ih =>
    intro l1 l2 v_takes v_bases v_ranked v_starts v_numbers h H locs ls hl hP hD hS
    refine lv_iload_n hx hb d_Share_rank_4 rfl (lv_at hl 2 rfl) ?_
    refine lv_bipush (v := 12) hx hb d_Share_rank_5 (by decide) ?_
    refine lv_icmp_ge (tgt := 42) hx hb d_Share_rank_7 (by decide) (fun c_1 => ?_) (fun c_1 => ?_)
    · replace h := if_t h c_1
      exact w_Share_rank_b42 ⟨hx, hb, hml, hown, hts, hK, hA⟩ hret  _ _ _ _ _ h H locs ls (lv_sub hl [0] rfl) hP hD hS
    · replace h := if_f h c_1
      refine lv_aload_n hx hb d_Share_rank_10 rfl (lv_at hl 0 rfl) ?_
      refine va_get hx hb hts in_Share hown hK hP 0 rfl rfl 7 (by decide) (hts _ m_223) (fun _ h9 => h9) rfl d_Share_rank_11 ?_
      refine lv_iload_n hx hb d_Share_rank_14 rfl (lv_at hl 2 rfl) ?_
      refine lv_iload_n hx hb d_Share_rank_15 rfl (lv_at hl 1 rfl) ?_
      obtain ⟨g_2, h⟩ := ck_s h
      refine va_iast hx hb hK hP hD hS 6 0 rfl rfl (inb_s g_2) d_Share_rank_16 (fun H locs hP hD hS => ?_)
      obtain ⟨v_starts_3, ev_starts_3⟩ : ∃ y, y = (upd v_starts (Int32.toNatClampNeg l2) l1) := ⟨_, rfl⟩
      replace h := nm_s h ev_starts_3
      have hP : va_P D classes [(a_this, .inr (6, [.ref a_points, .ref o_cuts, .ref o_queue, .ref a_owners, .ref a_takes, .ref a_bases, .ref a_ranked, .ref a_starts, .ref a_numbers, .ref o_walk, .int i_order, .int i_next])), (a_points, .inl (cI, 12, .inl v_points)), (a_owners, .inl (cI, 64, .inl v_owners)), (a_takes, .inl (cI, 64, .inl v_takes)), (a_bases, .inl (cI, 64, .inl v_bases)), (a_ranked, .inl (cI, 64, .inl v_ranked)), (a_starts, .inl (cI, 12, .inl v_starts_3)), (a_numbers, .inl (cI, 12, .inl v_numbers))] H := by rw [ev_starts_3]; exact hP
      have hD : va_D A [(a_this, .inr (6, [.ref a_points, .ref o_cuts, .ref o_queue, .ref a_owners, .ref a_takes, .ref a_bases, .ref a_ranked, .ref a_starts, .ref a_numbers, .ref o_walk, .int i_order, .int i_next])), (a_points, .inl (cI, 12, .inl v_points)), (a_owners, .inl (cI, 64, .inl v_owners)), (a_takes, .inl (cI, 64, .inl v_takes)), (a_bases, .inl (cI, 64, .inl v_bases)), (a_ranked, .inl (cI, 64, .inl v_ranked)), (a_starts, .inl (cI, 12, .inl v_starts_3)), (a_numbers, .inl (cI, 12, .inl v_numbers))] := by rw [ev_starts_3]; exact hD
      refine lv_aload_n hx hb d_Share_rank_17 rfl (lv_at hl 0 rfl) ?_
      refine va_get hx hb hts in_Share hown hK hP 0 rfl rfl 8 (by decide) (hts _ m_224) (fun _ h9 => h9) rfl d_Share_rank_18 ?_
      refine lv_iload_n hx hb d_Share_rank_21 rfl (lv_at hl 2 rfl) ?_
      refine lv_aload_n hx hb d_Share_rank_22 rfl (lv_at hl 0 rfl) ?_
      refine lv_iload_n hx hb d_Share_rank_23 rfl (lv_at hl 2 rfl) ?_
      obtain ⟨r_4, hc_5, h⟩ := bd1_s h
      have hPc := hP.sub (ws' := [(a_this, .inr (6, [.ref a_points, .ref o_cuts, .ref o_queue, .ref a_owners, .ref a_takes, .ref a_bases, .ref a_ranked, .ref a_starts, .ref a_numbers, .ref o_walk, .int i_order, .int i_next])), (a_points, .inl (cI, 12, .inl v_points))]) [0, 1] rfl
      have hDc := hD.sub (ws' := [(a_this, .inr (6, [.ref a_points, .ref o_cuts, .ref o_queue, .ref a_owners, .ref a_takes, .ref a_bases, .ref a_ranked, .ref a_starts, .ref a_numbers, .ref o_walk, .int i_order, .int i_next])), (a_points, .inl (cI, 12, .inl v_points))]) [0, 1] (by decide) rfl
      have hFc := va_free (wc := [(a_this, .inr (6, [.ref a_points, .ref o_cuts, .ref o_queue, .ref a_owners, .ref a_takes, .ref a_bases, .ref a_ranked, .ref a_starts, .ref a_numbers, .ref o_walk, .int i_order, .int i_next])), (a_points, .inl (cI, 12, .inl v_points))]) hD hS hA [0, 1] rfl
      refine va_calli (va_runV (As := [.int l2]) (rest := [.int l2, .ref a_numbers]) ⟨hx, hb, hml, hown, hts⟩ (c_Share_massOf l D cI cL cZ H.size N a_this a_points o_cuts o_queue a_owners a_takes a_bases a_ranked a_starts a_numbers o_walk i_order i_next v_points l2 r_4 hc_5) ⟨(my_cb 1 hts m_534 rfl rfl (hts _ m_72) (hts _ m_531) (by decide +kernel) ⟨Nat.le_of_ble_eq_true rfl, Nat.le_of_ble_eq_true rfl⟩), hts _ m_533, hts _ m_10⟩ ⟨fun a U g mk q => by obtain ⟨q0, q1, qP, qK, qD⟩ := q; exact ⟨q0, q1, qP, va_K.moved (u := U) (U := U.calling g mk a) (Vm.Alike.refl U.vm) qK, qD⟩, va_recv hK hPc (ci := 6) (q0 := 0) rfl rfl, fun U hU hW => ⟨rfl, by rw [hU], by rw [hU]; exact hPc, va_K.moved hW.alike hK, hDc.weaken (fun _ _ _ _ => trivial)⟩⟩ rfl rfl hl.1 rfl (lv_room (Nat.le_of_ble_eq_true rfl)) d_Share_rank_24 ⟨Nat.zero_le _, Nat.zero_le _⟩) hS (fun q _ h => hFc q h) hFc (fun rr u t H1 locs ht hvm hw hB hz1 hk1 hS => ?_)
      obtain ⟨hP1, hK1, hD1⟩ := hB
      rw [ht] at hP1
      subst hw
      obtain ⟨hP, hD⟩ := va_join (wr := [(a_owners, .inl (cI, 64, .inl v_owners)), (a_takes, .inl (cI, 64, .inl v_takes)), (a_bases, .inl (cI, 64, .inl v_bases)), (a_ranked, .inl (cI, 64, .inl v_ranked)), (a_starts, .inl (cI, 12, .inl v_starts_3)), (a_numbers, .inl (cI, 12, .inl v_numbers))]) (w1 := [(a_this, .inr (6, [.ref a_points, .ref o_cuts, .ref o_queue, .ref a_owners, .ref a_takes, .ref a_bases, .ref a_ranked, .ref a_starts, .ref a_numbers, .ref o_walk, .int i_order, .int i_next])), (a_points, .inl (cI, 12, .inl v_points))]) hP hD [0, 1] [2, 3, 4, 5, 6, 7] rfl rfl (by decide) (by decide) hk1 hFc hP1 hD1
      clear hPc hDc hFc hk1 hP1 hD1 hK1
      generalize H1 = H at hP hS ⊢
      have hP : va_P D classes [(a_this, .inr (6, [.ref a_points, .ref o_cuts, .ref o_queue, .ref a_owners, .ref a_takes, .ref a_bases, .ref a_ranked, .ref a_starts, .ref a_numbers, .ref o_walk, .int i_order, .int i_next])), (a_points, .inl (cI, 12, .inl v_points)), (a_owners, .inl (cI, 64, .inl v_owners)), (a_takes, .inl (cI, 64, .inl v_takes)), (a_bases, .inl (cI, 64, .inl v_bases)), (a_ranked, .inl (cI, 64, .inl v_ranked)), (a_starts, .inl (cI, 12, .inl v_starts_3)), (a_numbers, .inl (cI, 12, .inl v_numbers))] H := hP.sub [6, 7, 0, 1, 2, 3, 4, 5] rfl
      have hD : va_D A [(a_this, .inr (6, [.ref a_points, .ref o_cuts, .ref o_queue, .ref a_owners, .ref a_takes, .ref a_bases, .ref a_ranked, .ref a_starts, .ref a_numbers, .ref o_walk, .int i_order, .int i_next])), (a_points, .inl (cI, 12, .inl v_points)), (a_owners, .inl (cI, 64, .inl v_owners)), (a_takes, .inl (cI, 64, .inl v_takes)), (a_bases, .inl (cI, 64, .inl v_bases)), (a_ranked, .inl (cI, 64, .inl v_ranked)), (a_starts, .inl (cI, 12, .inl v_starts_3)), (a_numbers, .inl (cI, 12, .inl v_numbers))] := hD.sub [6, 7, 0, 1, 2, 3, 4, 5] (by decide) rfl
      obtain ⟨g_6, h⟩ := ck_s h
      refine va_iast hx hb hK hP hD hS 7 0 rfl rfl (inb_s g_6) d_Share_rank_27 (fun H locs hP hD hS => ?_)
      obtain ⟨v_numbers_7, ev_numbers_7⟩ : ∃ y, y = (upd v_numbers (Int32.toNatClampNeg l2) r_4) := ⟨_, rfl⟩
      replace h := nm_s h ev_numbers_7
      have hP : va_P D classes [(a_this, .inr (6, [.ref a_points, .ref o_cuts, .ref o_queue, .ref a_owners, .ref a_takes, .ref a_bases, .ref a_ranked, .ref a_starts, .ref a_numbers, .ref o_walk, .int i_order, .int i_next])), (a_points, .inl (cI, 12, .inl v_points)), (a_owners, .inl (cI, 64, .inl v_owners)), (a_takes, .inl (cI, 64, .inl v_takes)), (a_bases, .inl (cI, 64, .inl v_bases)), (a_ranked, .inl (cI, 64, .inl v_ranked)), (a_starts, .inl (cI, 12, .inl v_starts_3)), (a_numbers, .inl (cI, 12, .inl v_numbers_7))] H := by rw [ev_numbers_7]; exact hP
      have hD : va_D A [(a_this, .inr (6, [.ref a_points, .ref o_cuts, .ref o_queue, .ref a_owners, .ref a_takes, .ref a_bases, .ref a_ranked, .ref a_starts, .ref a_numbers, .ref o_walk, .int i_order, .int i_next])), (a_points, .inl (cI, 12, .inl v_points)), (a_owners, .inl (cI, 64, .inl v_owners)), (a_takes, .inl (cI, 64, .inl v_takes)), (a_bases, .inl (cI, 64, .inl v_bases)), (a_ranked, .inl (cI, 64, .inl v_ranked)), (a_starts, .inl (cI, 12, .inl v_starts_3)), (a_numbers, .inl (cI, 12, .inl v_numbers_7))] := by rw [ev_numbers_7]; exact hD
      refine lv_iload_n hx hb d_Share_rank_28 rfl (lv_at hl 1 rfl) ?_
      refine lv_aload_n hx hb d_Share_rank_29 rfl (lv_at hl 0 rfl) ?_
      refine lv_iload_n hx hb d_Share_rank_30 rfl (lv_at hl 2 rfl) ?_
      obtain ⟨r_8, hc_9, h⟩ := bd1_s h
      have hPc := hP.sub (ws' := [(a_this, .inr (6, [.ref a_points, .ref o_cuts, .ref o_queue, .ref a_owners, .ref a_takes, .ref a_bases, .ref a_ranked, .ref a_starts, .ref a_numbers, .ref o_walk, .int i_order, .int i_next])), (a_points, .inl (cI, 12, .inl v_points))]) [0, 1] rfl
      have hDc := hD.sub (ws' := [(a_this, .inr (6, [.ref a_points, .ref o_cuts, .ref o_queue, .ref a_owners, .ref a_takes, .ref a_bases, .ref a_ranked, .ref a_starts, .ref a_numbers, .ref o_walk, .int i_order, .int i_next])), (a_points, .inl (cI, 12, .inl v_points))]) [0, 1] (by decide) rfl
      have hFc := va_free (wc := [(a_this, .inr (6, [.ref a_points, .ref o_cuts, .ref o_queue, .ref a_owners, .ref a_takes, .ref a_bases, .ref a_ranked, .ref a_starts, .ref a_numbers, .ref o_walk, .int i_order, .int i_next])), (a_points, .inl (cI, 12, .inl v_points))]) hD hS hA [0, 1] rfl
      refine va_calli (va_runV (As := [.int l2]) (rest := [.int l1]) ⟨hx, hb, hml, hown, hts⟩ (c_Share_massOf l D cI cL cZ H.size N a_this a_points o_cuts o_queue a_owners a_takes a_bases a_ranked a_starts a_numbers o_walk i_order i_next v_points l2 r_8 hc_9) ⟨(my_cb 1 hts m_534 rfl rfl (hts _ m_72) (hts _ m_531) (by decide +kernel) ⟨Nat.le_of_ble_eq_true rfl, Nat.le_of_ble_eq_true rfl⟩), hts _ m_533, hts _ m_10⟩ ⟨fun a U g mk q => by obtain ⟨q0, q1, qP, qK, qD⟩ := q; exact ⟨q0, q1, qP, va_K.moved (u := U) (U := U.calling g mk a) (Vm.Alike.refl U.vm) qK, qD⟩, va_recv hK hPc (ci := 6) (q0 := 0) rfl rfl, fun U hU hW => ⟨rfl, by rw [hU], by rw [hU]; exact hPc, va_K.moved hW.alike hK, hDc.weaken (fun _ _ _ _ => trivial)⟩⟩ rfl rfl hl.1 rfl (lv_room (Nat.le_of_ble_eq_true rfl)) d_Share_rank_31 ⟨Nat.zero_le _, Nat.zero_le _⟩) hS (fun q _ h => hFc q h) hFc (fun rr u t H1 locs ht hvm hw hB hz1 hk1 hS => ?_)
      obtain ⟨hP1, hK1, hD1⟩ := hB
      rw [ht] at hP1
      subst hw
      obtain ⟨hP, hD⟩ := va_join (wr := [(a_owners, .inl (cI, 64, .inl v_owners)), (a_takes, .inl (cI, 64, .inl v_takes)), (a_bases, .inl (cI, 64, .inl v_bases)), (a_ranked, .inl (cI, 64, .inl v_ranked)), (a_starts, .inl (cI, 12, .inl v_starts_3)), (a_numbers, .inl (cI, 12, .inl v_numbers_7))]) (w1 := [(a_this, .inr (6, [.ref a_points, .ref o_cuts, .ref o_queue, .ref a_owners, .ref a_takes, .ref a_bases, .ref a_ranked, .ref a_starts, .ref a_numbers, .ref o_walk, .int i_order, .int i_next])), (a_points, .inl (cI, 12, .inl v_points))]) hP hD [0, 1] [2, 3, 4, 5, 6, 7] rfl rfl (by decide) (by decide) hk1 hFc hP1 hD1
      clear hPc hDc hFc hk1 hP1 hD1 hK1
      generalize H1 = H at hP hS ⊢
      have hP : va_P D classes [(a_this, .inr (6, [.ref a_points, .ref o_cuts, .ref o_queue, .ref a_owners, .ref a_takes, .ref a_bases, .ref a_ranked, .ref a_starts, .ref a_numbers, .ref o_walk, .int i_order, .int i_next])), (a_points, .inl (cI, 12, .inl v_points)), (a_owners, .inl (cI, 64, .inl v_owners)), (a_takes, .inl (cI, 64, .inl v_takes)), (a_bases, .inl (cI, 64, .inl v_bases)), (a_ranked, .inl (cI, 64, .inl v_ranked)), (a_starts, .inl (cI, 12, .inl v_starts_3)), (a_numbers, .inl (cI, 12, .inl v_numbers_7))] H := hP.sub [6, 7, 0, 1, 2, 3, 4, 5] rfl
      have hD : va_D A [(a_this, .inr (6, [.ref a_points, .ref o_cuts, .ref o_queue, .ref a_owners, .ref a_takes, .ref a_bases, .ref a_ranked, .ref a_starts, .ref a_numbers, .ref o_walk, .int i_order, .int i_next])), (a_points, .inl (cI, 12, .inl v_points)), (a_owners, .inl (cI, 64, .inl v_owners)), (a_takes, .inl (cI, 64, .inl v_takes)), (a_bases, .inl (cI, 64, .inl v_bases)), (a_ranked, .inl (cI, 64, .inl v_ranked)), (a_starts, .inl (cI, 12, .inl v_starts_3)), (a_numbers, .inl (cI, 12, .inl v_numbers_7))] := hD.sub [6, 7, 0, 1, 2, 3, 4, 5] (by decide) rfl
      refine lv_iadd hx hb d_Share_rank_34 ?_
      refine lv_topi (fun l1_10 el1_10 => ?_)
      replace h := nm_s h el1_10
      refine lv_istore_n (lv' := [(1, .int l1_10), (0, .ref a_this), (2, .int l2)]) hx hb d_Share_rank_35 rfl hl (by decide) rfl (fun ls hl => ?_)
      obtain ⟨l2_11, el2_11⟩ : ∃ y : Int32, y = l2 + 1 := ⟨_, rfl⟩
      replace h := nm_s h el2_11
      refine lv_iinc (v := l2_11) (lv' := [(2, .int l2_11), (1, .int l1_10), (0, .ref a_this)]) hx hb d_Share_rank_36 hl (k := 2) rfl (by rw [el2_11]; rfl) (by decide) rfl (fun ls hl => ?_)
      refine lv_goto (tgt := 4) hx hb d_Share_rank_39 (by decide) ?_
      exact ih _ _ _ _ _ _ _ h H locs ls (lv_sub hl [2, 1, 0] rfl) hP hD hS
set_option maxHeartbeats 4000000 in
set_option maxRecDepth 100000 in
theorem w_Share_rank_b0 {p : Program} {l : Launch} {e : Env} {s : State} {m : MethodId} {args : Array Value} {below : List Frame} {meth : Method} {c : Code} {Q : State → Prop} {A : Nat → Prop} {D : va_G} {cI cL cZ : ClassId} {a_this : Nat} {a_points : Nat} {a_owners : Nat} {a_takes : Nat} {a_bases : Nat} {a_ranked : Nat} {a_starts : Nat} {a_numbers : Nat} {o_cuts : Nat} {o_queue : Nat} {o_walk : Nat} {i_order : Int32} {i_next : Int32} {v_points : Nat → Int32} {v_owners : Nat → Int32} {N : Nat} {res : (Nat → Int32) × (Nat → Int32) × (Nat → Int32) × (Nat → Int32) × (Nat → Int32)}  (C : Cx p s m args c b_Share_rank 6 "PrefixMill$Share" D [(cI, .int), (cL, .long), (cZ, .boolean)] A) (hret : E_Share_rank p l e s m args below meth c Q A D cI cL cZ a_this a_points a_owners a_takes a_bases a_ranked a_starts a_numbers o_cuts o_queue o_walk i_order i_next v_points v_owners res)  : I_Share_rank_b0 p l e s m args below meth c Q A D cI cL cZ a_this a_points a_owners a_takes a_bases a_ranked a_starts a_numbers o_cuts o_queue o_walk i_order i_next v_points v_owners res (f_Share_rank N i_order v_points v_owners ) := by
  obtain ⟨hx, hb, hml, hown, hts, hK, hA⟩ := C
  intro v_takes v_bases v_ranked v_starts v_numbers h H locs ls hl hP hD hS
  unfold f_Share_rank at h
  refine lv_iconst (v := 0) hx hb d_Share_rank_0 (by decide) ?_
  refine lv_istore_n (lv' := [(1, .int 0), (0, .ref a_this)]) hx hb d_Share_rank_1 rfl hl (by decide) rfl (fun ls hl => ?_)
  refine lv_iconst (v := 0) hx hb d_Share_rank_2 (by decide) ?_
  refine lv_istore_n (lv' := [(2, .int 0), (1, .int 0), (0, .ref a_this)]) hx hb d_Share_rank_3 rfl hl (by decide) rfl (fun ls hl => ?_)
  exact w_Share_rank_b4 ⟨hx, hb, hml, hown, hts, hK, hA⟩ hret  N _ _ _ _ _ _ _ h H locs ls (lv_sub hl [2, 1, 0] rfl) hP hD hS
set_option maxHeartbeats 4000000 in
set_option maxRecDepth 100000 in
theorem c_Share_rank (l : Launch) (D : va_G) (cI cL cZ : ClassId) (sz N : Nat) (a_this : Nat) (a_points : Nat) (a_owners : Nat) (a_takes : Nat) (a_bases : Nat) (a_ranked : Nat) (a_starts : Nat) (a_numbers : Nat) (o_cuts : Nat) (o_queue : Nat) (o_walk : Nat) (i_order : Int32) (i_next : Int32) (v_points : Nat → Int32) (v_owners : Nat → Int32) (v_takes : Nat → Int32) (v_bases : Nat → Int32) (v_ranked : Nat → Int32) (v_starts : Nat → Int32) (v_numbers : Nat → Int32) (v_takes' : Nat → Int32) (v_bases' : Nat → Int32) (v_ranked' : Nat → Int32) (v_starts' : Nat → Int32) (v_numbers' : Nat → Int32) (h : f_Share_rank N i_order v_points v_owners v_takes v_bases v_ranked v_starts v_numbers = some (v_takes', v_bases', v_ranked', v_starts', v_numbers')) : Met l ({ cls := "PrefixMill$Share", name := "rank", desc := "()V" } : Jvm.MethodName) ws_Share_rank R_Share_rank (va_Pc [.ref a_this] (fun U => U.heap.size = sz ∧ va_P D classes [(a_this, .inr (6, [.ref a_points, .ref o_cuts, .ref o_queue, .ref a_owners, .ref a_takes, .ref a_bases, .ref a_ranked, .ref a_starts, .ref a_numbers, .ref o_walk, .int i_order, .int i_next])), (a_points, .inl (cI, 12, .inl v_points)), (a_owners, .inl (cI, 64, .inl v_owners)), (a_takes, .inl (cI, 64, .inl v_takes)), (a_bases, .inl (cI, 64, .inl v_bases)), (a_ranked, .inl (cI, 64, .inl v_ranked)), (a_starts, .inl (cI, 12, .inl v_starts)), (a_numbers, .inl (cI, 12, .inl v_numbers))] U.heap ∧ va_K D classes [(cI, .int), (cL, .long), (cZ, .boolean)] U ∧ va_D (fun _ => True) [(a_this, .inr (6, [.ref a_points, .ref o_cuts, .ref o_queue, .ref a_owners, .ref a_takes, .ref a_bases, .ref a_ranked, .ref a_starts, .ref a_numbers, .ref o_walk, .int i_order, .int i_next])), (a_points, .inl (cI, 12, .inl v_points)), (a_owners, .inl (cI, 64, .inl v_owners)), (a_takes, .inl (cI, 64, .inl v_takes)), (a_bases, .inl (cI, 64, .inl v_bases)), (a_ranked, .inl (cI, 64, .inl v_ranked)), (a_starts, .inl (cI, 12, .inl v_starts)), (a_numbers, .inl (cI, 12, .inl v_numbers))])) (va_Qv (fun _ : Unit => True) (fun _ t => va_P D classes [(a_this, .inr (6, [.ref a_points, .ref o_cuts, .ref o_queue, .ref a_owners, .ref a_takes, .ref a_bases, .ref a_ranked, .ref a_starts, .ref a_numbers, .ref o_walk, .int i_order, .int i_next])), (a_points, .inl (cI, 12, .inl v_points)), (a_owners, .inl (cI, 64, .inl v_owners)), (a_takes, .inl (cI, 64, .inl v_takes')), (a_bases, .inl (cI, 64, .inl v_bases')), (a_ranked, .inl (cI, 64, .inl v_ranked')), (a_starts, .inl (cI, 12, .inl v_starts')), (a_numbers, .inl (cI, 12, .inl v_numbers'))] t.heap ∧ va_K D classes [(cI, .int), (cL, .long), (cZ, .boolean)] t ∧ va_D (va_A [(a_this, .inr (6, [.ref a_points, .ref o_cuts, .ref o_queue, .ref a_owners, .ref a_takes, .ref a_bases, .ref a_ranked, .ref a_starts, .ref a_numbers, .ref o_walk, .int i_order, .int i_next])), (a_points, .inl (cI, 12, .inl v_points)), (a_owners, .inl (cI, 64, .inl v_owners)), (a_takes, .inl (cI, 64, .inl v_takes)), (a_bases, .inl (cI, 64, .inl v_bases)), (a_ranked, .inl (cI, 64, .inl v_ranked)), (a_starts, .inl (cI, 12, .inl v_starts)), (a_numbers, .inl (cI, 12, .inl v_numbers))] sz) [(a_this, .inr (6, [.ref a_points, .ref o_cuts, .ref o_queue, .ref a_owners, .ref a_takes, .ref a_bases, .ref a_ranked, .ref a_starts, .ref a_numbers, .ref o_walk, .int i_order, .int i_next])), (a_points, .inl (cI, 12, .inl v_points)), (a_owners, .inl (cI, 64, .inl v_owners)), (a_takes, .inl (cI, 64, .inl v_takes')), (a_bases, .inl (cI, 64, .inl v_bases')), (a_ranked, .inl (cI, 64, .inl v_ranked')), (a_starts, .inl (cI, 12, .inl v_starts')), (a_numbers, .inl (cI, 12, .inl v_numbers'))]) (va_A [(a_this, .inr (6, [.ref a_points, .ref o_cuts, .ref o_queue, .ref a_owners, .ref a_takes, .ref a_bases, .ref a_ranked, .ref a_starts, .ref a_numbers, .ref o_walk, .int i_order, .int i_next])), (a_points, .inl (cI, 12, .inl v_points)), (a_owners, .inl (cI, 64, .inl v_owners)), (a_takes, .inl (cI, 64, .inl v_takes)), (a_bases, .inl (cI, 64, .inl v_bases)), (a_ranked, .inl (cI, 64, .inl v_ranked)), (a_starts, .inl (cI, 12, .inl v_starts)), (a_numbers, .inl (cI, 12, .inl v_numbers))] sz)) 0 0 (va_A [(a_this, .inr (6, [.ref a_points, .ref o_cuts, .ref o_queue, .ref a_owners, .ref a_takes, .ref a_bases, .ref a_ranked, .ref a_starts, .ref a_numbers, .ref o_walk, .int i_order, .int i_next])), (a_points, .inl (cI, 12, .inl v_points)), (a_owners, .inl (cI, 64, .inl v_owners)), (a_takes, .inl (cI, 64, .inl v_takes)), (a_bases, .inl (cI, 64, .inl v_bases)), (a_ranked, .inl (cI, 64, .inl v_ranked)), (a_starts, .inl (cI, 12, .inl v_starts)), (a_numbers, .inl (cI, 12, .inl v_numbers))] sz) := by
  refine Met.ofW (cc := b_Share_rank) (maxL := 6) (ret := none) (by decide) rfl ?_
  intro p e s m args below meth c s₁ B hml hv
  obtain ⟨rfl, hsz, hP, hK, hD0⟩ := hv
  have hx := B.exec
  have hb := B.bytes
  have hr := B.returns
  have hts0 := atoms_spec (ws := ws_Share_rank) B.pre
  have hts := gd_tl hts0
  clear hts0
  have hown : s.vm.findClass "PrefixMill$Share" = some m.cls := findClass_of_methodNamed B.named
  have hlocks := B.notSynchronized
  subst hsz
  have hD := hD0.self (sz := s.heap.size)
  generalize hAe : va_A [(a_this, .inr (6, [.ref a_points, .ref o_cuts, .ref o_queue, .ref a_owners, .ref a_takes, .ref a_bases, .ref a_ranked, .ref a_starts, .ref a_numbers, .ref o_walk, .int i_order, .int i_next])), (a_points, .inl (cI, 12, .inl v_points)), (a_owners, .inl (cI, 64, .inl v_owners)), (a_takes, .inl (cI, 64, .inl v_takes)), (a_bases, .inl (cI, 64, .inl v_bases)), (a_ranked, .inl (cI, 64, .inl v_ranked)), (a_starts, .inl (cI, 12, .inl v_starts)), (a_numbers, .inl (cI, 12, .inl v_numbers))] s.heap.size = A at hD ⊢
  have hA : ∀ q : Nat, s.heap.size ≤ q → A q := fun q h => by rw [← hAe]; exact Or.inr h
  have hS : va_S A s.heap s.heap [] := va_S.rf
  have hP : va_P D classes [(a_this, .inr (6, [.ref a_points, .ref o_cuts, .ref o_queue, .ref a_owners, .ref a_takes, .ref a_bases, .ref a_ranked, .ref a_starts, .ref a_numbers, .ref o_walk, .int i_order, .int i_next])), (a_points, .inl (cI, 12, .inl v_points)), (a_owners, .inl (cI, 64, .inl v_owners)), (a_takes, .inl (cI, 64, .inl v_takes)), (a_bases, .inl (cI, 64, .inl v_bases)), (a_ranked, .inl (cI, 64, .inl v_ranked)), (a_starts, .inl (cI, 12, .inl v_starts)), (a_numbers, .inl (cI, 12, .inl v_numbers))] s.heap := hP
  have hl := lv_entry ([.ref a_this]) (n := 6) (Nat.le_of_ble_eq_true rfl)
  rw [lg_entry_eq]
  generalize (lg_sl ([.ref a_this]) ++ List.replicate (6 - (lg_sl ([.ref a_this])).length) Slot.unset).toArray = ls at hl ⊢
  have hl : lv_has ls 6 [(0, .ref a_this)] := hl
  have C : Cx p s m ([.ref a_this] : List Value).toArray c b_Share_rank 6 "PrefixMill$Share" D [(cI, .int), (cL, .long), (cZ, .boolean)] A := ⟨hx, hb, hml, hown, hts, hK, hA⟩
  refine w_Share_rank_b0 (res := (v_takes', v_bases', v_ranked', v_starts', v_numbers')) C ?_ _ _ _ _ _ h s.heap [] ls hl hP hD hS
  intro pc9 H9 locs9 ls9 v_takes9 v_bases9 v_ranked9 v_starts9 v_numbers9 e9 d9 hP9 hD9 hS9
  cases e9
  exact W.vret hx hb hr (fun t ht hW => ⟨⟨(), rfl, trivial, by rw [ht]; exact hP9, va_K.moved hW.alike hK, hD9⟩, hS9.F ht⟩) hS9.2.2 d9
abbrev b_Share_layOut : ByteArray := prog_6_method_8_code
def ws_Share_layOut : List Cond := .code ({ cls := "PrefixMill$Share", name := "layOut", desc := "()V" } : Jvm.MethodName) b_Share_layOut 2 none :: tt
theorem d_Share_layOut_0 : decode b_Share_layOut 0 = .ok (.aload_n 0, 1) := by decide +kernel
theorem d_Share_layOut_1 : decode b_Share_layOut 1 = .ok (.invokevirtual 76, 3) := by decide +kernel
theorem d_Share_layOut_4 : decode b_Share_layOut 4 = .ok (.istore_n 1, 1) := by decide +kernel
theorem d_Share_layOut_5 : decode b_Share_layOut 5 = .ok (.aload_n 0, 1) := by decide +kernel
theorem d_Share_layOut_6 : decode b_Share_layOut 6 = .ok (.iload_n 1, 1) := by decide +kernel
theorem d_Share_layOut_7 : decode b_Share_layOut 7 = .ok (.invokevirtual 79, 3) := by decide +kernel
theorem d_Share_layOut_10 : decode b_Share_layOut 10 = .ok (.aload_n 0, 1) := by decide +kernel
theorem d_Share_layOut_11 : decode b_Share_layOut 11 = .ok (.invokevirtual 82, 3) := by decide +kernel
theorem d_Share_layOut_14 : decode b_Share_layOut 14 = .ok (.return_, 1) := by decide +kernel
def f_Share_layOut (N : Nat) (i_order : Int32) (v_points : Nat → Int32)  (v_owners : Nat → Int32) (v_takes : Nat → Int32) (v_bases : Nat → Int32) (v_ranked : Nat → Int32) (v_starts : Nat → Int32) (v_numbers : Nat → Int32) (v_walk : Nat → Int32) : Option ((Nat → Int32) × (Nat → Int32) × (Nat → Int32) × (Nat → Int32) × (Nat → Int32) × (Nat → Int32) × (Nat → Int32)) :=
  bd2 (f_Share_giveHighest N i_order v_points v_owners) fun r_1 v_owners_2 =>
  bd2 (f_Share_giveByWalk N i_order v_points r_1 v_owners_2 v_walk) fun v_owners_4 v_walk_5 =>
  bd5 (f_Share_rank N i_order v_points v_owners_4 v_takes v_bases v_ranked v_starts v_numbers) fun v_takes_7 v_bases_8 v_ranked_9 v_starts_10 v_numbers_11 =>
  some (v_owners_4, v_takes_7, v_bases_8, v_ranked_9, v_starts_10, v_numbers_11, v_walk_5)
abbrev R_Share_layOut : Room := ({ frames := 3, cells := 0, slots := 0, locals := 66 } : Room)
def E_Share_layOut (p : Program) (l : Launch) (e : Env) (s : State) (m : MethodId) (args : Array Value) (below : List Frame) (meth : Method) (c : Code) (Q : State → Prop) (A : Nat → Prop) (D : va_G) (cI cL cZ : ClassId) (a_this : Nat) (a_points : Nat) (a_owners : Nat) (a_takes : Nat) (a_bases : Nat) (a_ranked : Nat) (a_starts : Nat) (a_numbers : Nat) (a_walk : Nat) (o_cuts : Nat) (o_queue : Nat) (i_order : Int32) (i_next : Int32) (v_points : Nat → Int32) (res : (Nat → Int32) × (Nat → Int32) × (Nat → Int32) × (Nat → Int32) × (Nat → Int32) × (Nat → Int32) × (Nat → Int32)) : Prop := ∀ (pc : Nat) (H : Heap) (locs : List Loc) (ls : Array Slot) (v_owners : Nat → Int32) (v_takes : Nat → Int32) (v_bases : Nat → Int32) (v_ranked : Nat → Int32) (v_starts : Nat → Int32) (v_numbers : Nat → Int32) (v_walk : Nat → Int32), some (v_owners, v_takes, v_bases, v_ranked, v_starts, v_numbers, v_walk) = some res → decode b_Share_layOut pc = .ok (.return_, 1) → va_P D classes [(a_this, .inr (6, [.ref a_points, .ref o_cuts, .ref o_queue, .ref a_owners, .ref a_takes, .ref a_bases, .ref a_ranked, .ref a_starts, .ref a_numbers, .ref a_walk, .int i_order, .int i_next])), (a_points, .inl (cI, 12, .inl v_points)), (a_owners, .inl (cI, 64, .inl v_owners)), (a_takes, .inl (cI, 64, .inl v_takes)), (a_bases, .inl (cI, 64, .inl v_bases)), (a_ranked, .inl (cI, 64, .inl v_ranked)), (a_starts, .inl (cI, 12, .inl v_starts)), (a_numbers, .inl (cI, 12, .inl v_numbers)), (a_walk, .inl (cI, 64, .inl v_walk))] H → va_D A [(a_this, .inr (6, [.ref a_points, .ref o_cuts, .ref o_queue, .ref a_owners, .ref a_takes, .ref a_bases, .ref a_ranked, .ref a_starts, .ref a_numbers, .ref a_walk, .int i_order, .int i_next])), (a_points, .inl (cI, 12, .inl v_points)), (a_owners, .inl (cI, 64, .inl v_owners)), (a_takes, .inl (cI, 64, .inl v_takes)), (a_bases, .inl (cI, 64, .inl v_bases)), (a_ranked, .inl (cI, 64, .inl v_ranked)), (a_starts, .inl (cI, 12, .inl v_starts)), (a_numbers, .inl (cI, 12, .inl v_numbers)), (a_walk, .inl (cI, 64, .inl v_walk))] → va_S A s.heap H locs → W p l e R_Share_layOut s m args below meth c H locs 0 0 Q (F0 m pc ls [])
def I_Share_layOut_b0 (p : Program) (l : Launch) (e : Env) (s : State) (m : MethodId) (args : Array Value) (below : List Frame) (meth : Method) (c : Code) (Q : State → Prop) (A : Nat → Prop) (D : va_G) (cI cL cZ : ClassId) (a_this : Nat) (a_points : Nat) (a_owners : Nat) (a_takes : Nat) (a_bases : Nat) (a_ranked : Nat) (a_starts : Nat) (a_numbers : Nat) (a_walk : Nat) (o_cuts : Nat) (o_queue : Nat) (i_order : Int32) (i_next : Int32) (v_points : Nat → Int32) (res : (Nat → Int32) × (Nat → Int32) × (Nat → Int32) × (Nat → Int32) × (Nat → Int32) × (Nat → Int32) × (Nat → Int32)) (kf : (Nat → Int32) → (Nat → Int32) → (Nat → Int32) → (Nat → Int32) → (Nat → Int32) → (Nat → Int32) → (Nat → Int32) → Option ((Nat → Int32) × (Nat → Int32) × (Nat → Int32) × (Nat → Int32) × (Nat → Int32) × (Nat → Int32) × (Nat → Int32))) : Prop := ∀ (v_owners : Nat → Int32) (v_takes : Nat → Int32) (v_bases : Nat → Int32) (v_ranked : Nat → Int32) (v_starts : Nat → Int32) (v_numbers : Nat → Int32) (v_walk : Nat → Int32), kf v_owners v_takes v_bases v_ranked v_starts v_numbers v_walk = some res → ∀ (H : Heap) (locs : List Loc) (ls : Array Slot), lv_has ls 2 [(0, .ref a_this)] → va_P D classes [(a_this, .inr (6, [.ref a_points, .ref o_cuts, .ref o_queue, .ref a_owners, .ref a_takes, .ref a_bases, .ref a_ranked, .ref a_starts, .ref a_numbers, .ref a_walk, .int i_order, .int i_next])), (a_points, .inl (cI, 12, .inl v_points)), (a_owners, .inl (cI, 64, .inl v_owners)), (a_takes, .inl (cI, 64, .inl v_takes)), (a_bases, .inl (cI, 64, .inl v_bases)), (a_ranked, .inl (cI, 64, .inl v_ranked)), (a_starts, .inl (cI, 12, .inl v_starts)), (a_numbers, .inl (cI, 12, .inl v_numbers)), (a_walk, .inl (cI, 64, .inl v_walk))] H → va_D A [(a_this, .inr (6, [.ref a_points, .ref o_cuts, .ref o_queue, .ref a_owners, .ref a_takes, .ref a_bases, .ref a_ranked, .ref a_starts, .ref a_numbers, .ref a_walk, .int i_order, .int i_next])), (a_points, .inl (cI, 12, .inl v_points)), (a_owners, .inl (cI, 64, .inl v_owners)), (a_takes, .inl (cI, 64, .inl v_takes)), (a_bases, .inl (cI, 64, .inl v_bases)), (a_ranked, .inl (cI, 64, .inl v_ranked)), (a_starts, .inl (cI, 12, .inl v_starts)), (a_numbers, .inl (cI, 12, .inl v_numbers)), (a_walk, .inl (cI, 64, .inl v_walk))] → va_S A s.heap H locs → W p l e R_Share_layOut s m args below meth c H locs 0 0 Q (F0 m 0 ls [])
set_option maxHeartbeats 4000000 in
set_option maxRecDepth 100000 in
theorem w_Share_layOut_b0 {p : Program} {l : Launch} {e : Env} {s : State} {m : MethodId} {args : Array Value} {below : List Frame} {meth : Method} {c : Code} {Q : State → Prop} {A : Nat → Prop} {D : va_G} {cI cL cZ : ClassId} {a_this : Nat} {a_points : Nat} {a_owners : Nat} {a_takes : Nat} {a_bases : Nat} {a_ranked : Nat} {a_starts : Nat} {a_numbers : Nat} {a_walk : Nat} {o_cuts : Nat} {o_queue : Nat} {i_order : Int32} {i_next : Int32} {v_points : Nat → Int32} {N : Nat} {res : (Nat → Int32) × (Nat → Int32) × (Nat → Int32) × (Nat → Int32) × (Nat → Int32) × (Nat → Int32) × (Nat → Int32)}  (C : Cx p s m args c b_Share_layOut 2 "PrefixMill$Share" D [(cI, .int), (cL, .long), (cZ, .boolean)] A) (hret : E_Share_layOut p l e s m args below meth c Q A D cI cL cZ a_this a_points a_owners a_takes a_bases a_ranked a_starts a_numbers a_walk o_cuts o_queue i_order i_next v_points res)  : I_Share_layOut_b0 p l e s m args below meth c Q A D cI cL cZ a_this a_points a_owners a_takes a_bases a_ranked a_starts a_numbers a_walk o_cuts o_queue i_order i_next v_points res (f_Share_layOut N i_order v_points ) := by
  obtain ⟨hx, hb, hml, hown, hts, hK, hA⟩ := C
  intro v_owners v_takes v_bases v_ranked v_starts v_numbers v_walk h H locs ls hl hP hD hS
  unfold f_Share_layOut at h
  refine lv_aload_n hx hb d_Share_layOut_0 rfl (lv_at hl 0 rfl) ?_
  obtain ⟨r_1, v_owners_2, hc_3, h⟩ := bd2_s h
  have hPc := hP.sub (ws' := [(a_this, .inr (6, [.ref a_points, .ref o_cuts, .ref o_queue, .ref a_owners, .ref a_takes, .ref a_bases, .ref a_ranked, .ref a_starts, .ref a_numbers, .ref a_walk, .int i_order, .int i_next])), (a_points, .inl (cI, 12, .inl v_points)), (a_owners, .inl (cI, 64, .inl v_owners))]) [0, 1, 2] rfl
  have hDc := hD.sub (ws' := [(a_this, .inr (6, [.ref a_points, .ref o_cuts, .ref o_queue, .ref a_owners, .ref a_takes, .ref a_bases, .ref a_ranked, .ref a_starts, .ref a_numbers, .ref a_walk, .int i_order, .int i_next])), (a_points, .inl (cI, 12, .inl v_points)), (a_owners, .inl (cI, 64, .inl v_owners))]) [0, 1, 2] (by decide) rfl
  have hFc := va_free (wc := [(a_this, .inr (6, [.ref a_points, .ref o_cuts, .ref o_queue, .ref a_owners, .ref a_takes, .ref a_bases, .ref a_ranked, .ref a_starts, .ref a_numbers, .ref a_walk, .int i_order, .int i_next])), (a_points, .inl (cI, 12, .inl v_points)), (a_owners, .inl (cI, 64, .inl v_owners))]) hD hS hA [0, 1, 2] rfl
  refine va_calli (va_runV (As := []) (rest := []) ⟨hx, hb, hml, hown, hts⟩ (c_Share_giveHighest l D cI cL cZ H.size N a_this a_points a_owners o_cuts o_queue a_takes a_bases a_ranked a_starts a_numbers a_walk i_order i_next v_points v_owners r_1 v_owners_2 hc_3) ⟨(my_cb 0 hts m_557 rfl rfl (hts _ m_72) (hts _ m_554) (by decide +kernel) ⟨Nat.le_of_ble_eq_true rfl, Nat.le_of_ble_eq_true rfl⟩), hts _ m_556, hts _ m_15⟩ ⟨fun a U g mk q => by obtain ⟨q0, q1, qP, qK, qD⟩ := q; exact ⟨q0, q1, qP, va_K.moved (u := U) (U := U.calling g mk a) (Vm.Alike.refl U.vm) qK, qD⟩, va_recv hK hPc (ci := 6) (q0 := 0) rfl rfl, fun U hU hW => ⟨rfl, by rw [hU], by rw [hU]; exact hPc, va_K.moved hW.alike hK, hDc.weaken (fun _ _ _ _ => trivial)⟩⟩ rfl rfl hl.1 rfl (lv_room (Nat.le_of_ble_eq_true rfl)) d_Share_layOut_1 ⟨Nat.zero_le _, Nat.zero_le _⟩) hS (fun q _ h => hFc q h) hFc (fun rr u t H1 locs ht hvm hw hB hz1 hk1 hS => ?_)
  obtain ⟨hP1, hK1, hD1⟩ := hB
  rw [ht] at hP1
  subst hw
  obtain ⟨hP, hD⟩ := va_join (wr := [(a_takes, .inl (cI, 64, .inl v_takes)), (a_bases, .inl (cI, 64, .inl v_bases)), (a_ranked, .inl (cI, 64, .inl v_ranked)), (a_starts, .inl (cI, 12, .inl v_starts)), (a_numbers, .inl (cI, 12, .inl v_numbers)), (a_walk, .inl (cI, 64, .inl v_walk))]) (w1 := [(a_this, .inr (6, [.ref a_points, .ref o_cuts, .ref o_queue, .ref a_owners, .ref a_takes, .ref a_bases, .ref a_ranked, .ref a_starts, .ref a_numbers, .ref a_walk, .int i_order, .int i_next])), (a_points, .inl (cI, 12, .inl v_points)), (a_owners, .inl (cI, 64, .inl v_owners_2))]) hP hD [0, 1, 2] [3, 4, 5, 6, 7, 8] rfl rfl (by decide) (by decide) hk1 hFc hP1 hD1
  clear hPc hDc hFc hk1 hP1 hD1 hK1
  generalize H1 = H at hP hS ⊢
  have hP : va_P D classes [(a_this, .inr (6, [.ref a_points, .ref o_cuts, .ref o_queue, .ref a_owners, .ref a_takes, .ref a_bases, .ref a_ranked, .ref a_starts, .ref a_numbers, .ref a_walk, .int i_order, .int i_next])), (a_points, .inl (cI, 12, .inl v_points)), (a_owners, .inl (cI, 64, .inl v_owners_2)), (a_takes, .inl (cI, 64, .inl v_takes)), (a_bases, .inl (cI, 64, .inl v_bases)), (a_ranked, .inl (cI, 64, .inl v_ranked)), (a_starts, .inl (cI, 12, .inl v_starts)), (a_numbers, .inl (cI, 12, .inl v_numbers)), (a_walk, .inl (cI, 64, .inl v_walk))] H := hP.sub [6, 7, 8, 0, 1, 2, 3, 4, 5] rfl
  have hD : va_D A [(a_this, .inr (6, [.ref a_points, .ref o_cuts, .ref o_queue, .ref a_owners, .ref a_takes, .ref a_bases, .ref a_ranked, .ref a_starts, .ref a_numbers, .ref a_walk, .int i_order, .int i_next])), (a_points, .inl (cI, 12, .inl v_points)), (a_owners, .inl (cI, 64, .inl v_owners_2)), (a_takes, .inl (cI, 64, .inl v_takes)), (a_bases, .inl (cI, 64, .inl v_bases)), (a_ranked, .inl (cI, 64, .inl v_ranked)), (a_starts, .inl (cI, 12, .inl v_starts)), (a_numbers, .inl (cI, 12, .inl v_numbers)), (a_walk, .inl (cI, 64, .inl v_walk))] := hD.sub [6, 7, 8, 0, 1, 2, 3, 4, 5] (by decide) rfl
  refine lv_istore_n (lv' := [(1, .int r_1), (0, .ref a_this)]) hx hb d_Share_layOut_4 rfl hl (by decide) rfl (fun ls hl => ?_)
  refine lv_aload_n hx hb d_Share_layOut_5 rfl (lv_at hl 1 rfl) ?_
  refine lv_iload_n hx hb d_Share_layOut_6 rfl (lv_at hl 0 rfl) ?_
  obtain ⟨v_owners_4, v_walk_5, hc_6, h⟩ := bd2_s h
  have hPc := hP.sub (ws' := [(a_this, .inr (6, [.ref a_points, .ref o_cuts, .ref o_queue, .ref a_owners, .ref a_takes, .ref a_bases, .ref a_ranked, .ref a_starts, .ref a_numbers, .ref a_walk, .int i_order, .int i_next])), (a_points, .inl (cI, 12, .inl v_points)), (a_owners, .inl (cI, 64, .inl v_owners_2)), (a_walk, .inl (cI, 64, .inl v_walk))]) [0, 1, 2, 8] rfl
  have hDc := hD.sub (ws' := [(a_this, .inr (6, [.ref a_points, .ref o_cuts, .ref o_queue, .ref a_owners, .ref a_takes, .ref a_bases, .ref a_ranked, .ref a_starts, .ref a_numbers, .ref a_walk, .int i_order, .int i_next])), (a_points, .inl (cI, 12, .inl v_points)), (a_owners, .inl (cI, 64, .inl v_owners_2)), (a_walk, .inl (cI, 64, .inl v_walk))]) [0, 1, 2, 8] (by decide) rfl
  have hFc := va_free (wc := [(a_this, .inr (6, [.ref a_points, .ref o_cuts, .ref o_queue, .ref a_owners, .ref a_takes, .ref a_bases, .ref a_ranked, .ref a_starts, .ref a_numbers, .ref a_walk, .int i_order, .int i_next])), (a_points, .inl (cI, 12, .inl v_points)), (a_owners, .inl (cI, 64, .inl v_owners_2)), (a_walk, .inl (cI, 64, .inl v_walk))]) hD hS hA [0, 1, 2, 8] rfl
  refine va_callv (va_runV (As := [.int r_1]) (rest := []) ⟨hx, hb, hml, hown, hts⟩ (c_Share_giveByWalk l D cI cL cZ H.size N a_this a_points a_owners a_walk o_cuts o_queue a_takes a_bases a_ranked a_starts a_numbers i_order i_next v_points v_owners_2 v_walk r_1 v_owners_4 v_walk_5 hc_6) ⟨(my_cb 1 hts m_561 rfl rfl (hts _ m_72) (hts _ m_558) (by decide +kernel) ⟨Nat.le_of_ble_eq_true rfl, Nat.le_of_ble_eq_true rfl⟩), hts _ m_560, hts _ m_16⟩ ⟨fun a U g mk q => by obtain ⟨q0, q1, qP, qK, qD⟩ := q; exact ⟨q0, q1, qP, va_K.moved (u := U) (U := U.calling g mk a) (Vm.Alike.refl U.vm) qK, qD⟩, va_recv hK hPc (ci := 6) (q0 := 0) rfl rfl, fun U hU hW => ⟨rfl, by rw [hU], by rw [hU]; exact hPc, va_K.moved hW.alike hK, hDc.weaken (fun _ _ _ _ => trivial)⟩⟩ rfl rfl hl.1 rfl (lv_room (Nat.le_of_ble_eq_true rfl)) d_Share_layOut_7 ⟨Nat.zero_le _, Nat.zero_le _⟩) hS (fun q _ h => hFc q h) hFc (fun u t H1 locs ht hvm hw hB hz1 hk1 hS => ?_)
  obtain ⟨hP1, hK1, hD1⟩ := hB
  rw [ht] at hP1
  obtain ⟨hP, hD⟩ := va_join (wr := [(a_takes, .inl (cI, 64, .inl v_takes)), (a_bases, .inl (cI, 64, .inl v_bases)), (a_ranked, .inl (cI, 64, .inl v_ranked)), (a_starts, .inl (cI, 12, .inl v_starts)), (a_numbers, .inl (cI, 12, .inl v_numbers))]) (w1 := [(a_this, .inr (6, [.ref a_points, .ref o_cuts, .ref o_queue, .ref a_owners, .ref a_takes, .ref a_bases, .ref a_ranked, .ref a_starts, .ref a_numbers, .ref a_walk, .int i_order, .int i_next])), (a_points, .inl (cI, 12, .inl v_points)), (a_owners, .inl (cI, 64, .inl v_owners_4)), (a_walk, .inl (cI, 64, .inl v_walk_5))]) hP hD [0, 1, 2, 8] [3, 4, 5, 6, 7] rfl rfl (by decide) (by decide) hk1 hFc hP1 hD1
  clear hPc hDc hFc hk1 hP1 hD1 hK1
  generalize H1 = H at hP hS ⊢
  have hP : va_P D classes [(a_this, .inr (6, [.ref a_points, .ref o_cuts, .ref o_queue, .ref a_owners, .ref a_takes, .ref a_bases, .ref a_ranked, .ref a_starts, .ref a_numbers, .ref a_walk, .int i_order, .int i_next])), (a_points, .inl (cI, 12, .inl v_points)), (a_owners, .inl (cI, 64, .inl v_owners_4)), (a_takes, .inl (cI, 64, .inl v_takes)), (a_bases, .inl (cI, 64, .inl v_bases)), (a_ranked, .inl (cI, 64, .inl v_ranked)), (a_starts, .inl (cI, 12, .inl v_starts)), (a_numbers, .inl (cI, 12, .inl v_numbers)), (a_walk, .inl (cI, 64, .inl v_walk_5))] H := hP.sub [5, 6, 7, 0, 1, 2, 3, 4, 8] rfl
  have hD : va_D A [(a_this, .inr (6, [.ref a_points, .ref o_cuts, .ref o_queue, .ref a_owners, .ref a_takes, .ref a_bases, .ref a_ranked, .ref a_starts, .ref a_numbers, .ref a_walk, .int i_order, .int i_next])), (a_points, .inl (cI, 12, .inl v_points)), (a_owners, .inl (cI, 64, .inl v_owners_4)), (a_takes, .inl (cI, 64, .inl v_takes)), (a_bases, .inl (cI, 64, .inl v_bases)), (a_ranked, .inl (cI, 64, .inl v_ranked)), (a_starts, .inl (cI, 12, .inl v_starts)), (a_numbers, .inl (cI, 12, .inl v_numbers)), (a_walk, .inl (cI, 64, .inl v_walk_5))] := hD.sub [5, 6, 7, 0, 1, 2, 3, 4, 8] (by decide) rfl
  refine lv_aload_n hx hb d_Share_layOut_10 rfl (lv_at hl 1 rfl) ?_
  obtain ⟨v_takes_7, v_bases_8, v_ranked_9, v_starts_10, v_numbers_11, hc_12, h⟩ := bd5_s h
  have hPc := hP.sub (ws' := [(a_this, .inr (6, [.ref a_points, .ref o_cuts, .ref o_queue, .ref a_owners, .ref a_takes, .ref a_bases, .ref a_ranked, .ref a_starts, .ref a_numbers, .ref a_walk, .int i_order, .int i_next])), (a_points, .inl (cI, 12, .inl v_points)), (a_owners, .inl (cI, 64, .inl v_owners_4)), (a_takes, .inl (cI, 64, .inl v_takes)), (a_bases, .inl (cI, 64, .inl v_bases)), (a_ranked, .inl (cI, 64, .inl v_ranked)), (a_starts, .inl (cI, 12, .inl v_starts)), (a_numbers, .inl (cI, 12, .inl v_numbers))]) [0, 1, 2, 3, 4, 5, 6, 7] rfl
  have hDc := hD.sub (ws' := [(a_this, .inr (6, [.ref a_points, .ref o_cuts, .ref o_queue, .ref a_owners, .ref a_takes, .ref a_bases, .ref a_ranked, .ref a_starts, .ref a_numbers, .ref a_walk, .int i_order, .int i_next])), (a_points, .inl (cI, 12, .inl v_points)), (a_owners, .inl (cI, 64, .inl v_owners_4)), (a_takes, .inl (cI, 64, .inl v_takes)), (a_bases, .inl (cI, 64, .inl v_bases)), (a_ranked, .inl (cI, 64, .inl v_ranked)), (a_starts, .inl (cI, 12, .inl v_starts)), (a_numbers, .inl (cI, 12, .inl v_numbers))]) [0, 1, 2, 3, 4, 5, 6, 7] (by decide) rfl
  have hFc := va_free (wc := [(a_this, .inr (6, [.ref a_points, .ref o_cuts, .ref o_queue, .ref a_owners, .ref a_takes, .ref a_bases, .ref a_ranked, .ref a_starts, .ref a_numbers, .ref a_walk, .int i_order, .int i_next])), (a_points, .inl (cI, 12, .inl v_points)), (a_owners, .inl (cI, 64, .inl v_owners_4)), (a_takes, .inl (cI, 64, .inl v_takes)), (a_bases, .inl (cI, 64, .inl v_bases)), (a_ranked, .inl (cI, 64, .inl v_ranked)), (a_starts, .inl (cI, 12, .inl v_starts)), (a_numbers, .inl (cI, 12, .inl v_numbers))]) hD hS hA [0, 1, 2, 3, 4, 5, 6, 7] rfl
  refine va_callv (va_runV (As := []) (rest := []) ⟨hx, hb, hml, hown, hts⟩ (c_Share_rank l D cI cL cZ H.size N a_this a_points a_owners a_takes a_bases a_ranked a_starts a_numbers o_cuts o_queue a_walk i_order i_next v_points v_owners_4 v_takes v_bases v_ranked v_starts v_numbers v_takes_7 v_bases_8 v_ranked_9 v_starts_10 v_numbers_11 hc_12) ⟨(my_cb 0 hts m_565 rfl rfl (hts _ m_72) (hts _ m_562) (by decide +kernel) ⟨Nat.le_of_ble_eq_true rfl, Nat.le_of_ble_eq_true rfl⟩), hts _ m_564, hts _ m_17⟩ ⟨fun a U g mk q => by obtain ⟨q0, q1, qP, qK, qD⟩ := q; exact ⟨q0, q1, qP, va_K.moved (u := U) (U := U.calling g mk a) (Vm.Alike.refl U.vm) qK, qD⟩, va_recv hK hPc (ci := 6) (q0 := 0) rfl rfl, fun U hU hW => ⟨rfl, by rw [hU], by rw [hU]; exact hPc, va_K.moved hW.alike hK, hDc.weaken (fun _ _ _ _ => trivial)⟩⟩ rfl rfl hl.1 rfl (lv_room (Nat.le_of_ble_eq_true rfl)) d_Share_layOut_11 ⟨Nat.zero_le _, Nat.zero_le _⟩) hS (fun q _ h => hFc q h) hFc (fun u t H1 locs ht hvm hw hB hz1 hk1 hS => ?_)
  obtain ⟨hP1, hK1, hD1⟩ := hB
  rw [ht] at hP1
  obtain ⟨hP, hD⟩ := va_join (wr := [(a_walk, .inl (cI, 64, .inl v_walk_5))]) (w1 := [(a_this, .inr (6, [.ref a_points, .ref o_cuts, .ref o_queue, .ref a_owners, .ref a_takes, .ref a_bases, .ref a_ranked, .ref a_starts, .ref a_numbers, .ref a_walk, .int i_order, .int i_next])), (a_points, .inl (cI, 12, .inl v_points)), (a_owners, .inl (cI, 64, .inl v_owners_4)), (a_takes, .inl (cI, 64, .inl v_takes_7)), (a_bases, .inl (cI, 64, .inl v_bases_8)), (a_ranked, .inl (cI, 64, .inl v_ranked_9)), (a_starts, .inl (cI, 12, .inl v_starts_10)), (a_numbers, .inl (cI, 12, .inl v_numbers_11))]) hP hD [0, 1, 2, 3, 4, 5, 6, 7] [8] rfl rfl (by decide) (by decide) hk1 hFc hP1 hD1
  clear hPc hDc hFc hk1 hP1 hD1 hK1
  generalize H1 = H at hP hS ⊢
  have hP : va_P D classes [(a_this, .inr (6, [.ref a_points, .ref o_cuts, .ref o_queue, .ref a_owners, .ref a_takes, .ref a_bases, .ref a_ranked, .ref a_starts, .ref a_numbers, .ref a_walk, .int i_order, .int i_next])), (a_points, .inl (cI, 12, .inl v_points)), (a_owners, .inl (cI, 64, .inl v_owners_4)), (a_takes, .inl (cI, 64, .inl v_takes_7)), (a_bases, .inl (cI, 64, .inl v_bases_8)), (a_ranked, .inl (cI, 64, .inl v_ranked_9)), (a_starts, .inl (cI, 12, .inl v_starts_10)), (a_numbers, .inl (cI, 12, .inl v_numbers_11)), (a_walk, .inl (cI, 64, .inl v_walk_5))] H := hP.sub [1, 2, 3, 4, 5, 6, 7, 8, 0] rfl
  have hD : va_D A [(a_this, .inr (6, [.ref a_points, .ref o_cuts, .ref o_queue, .ref a_owners, .ref a_takes, .ref a_bases, .ref a_ranked, .ref a_starts, .ref a_numbers, .ref a_walk, .int i_order, .int i_next])), (a_points, .inl (cI, 12, .inl v_points)), (a_owners, .inl (cI, 64, .inl v_owners_4)), (a_takes, .inl (cI, 64, .inl v_takes_7)), (a_bases, .inl (cI, 64, .inl v_bases_8)), (a_ranked, .inl (cI, 64, .inl v_ranked_9)), (a_starts, .inl (cI, 12, .inl v_starts_10)), (a_numbers, .inl (cI, 12, .inl v_numbers_11)), (a_walk, .inl (cI, 64, .inl v_walk_5))] := hD.sub [1, 2, 3, 4, 5, 6, 7, 8, 0] (by decide) rfl
  exact hret _ _ _ _ v_owners_4 v_takes_7 v_bases_8 v_ranked_9 v_starts_10 v_numbers_11 v_walk_5 h d_Share_layOut_14 hP hD hS
set_option maxHeartbeats 4000000 in
set_option maxRecDepth 100000 in
theorem c_Share_layOut (l : Launch) (D : va_G) (cI cL cZ : ClassId) (sz N : Nat) (a_this : Nat) (a_points : Nat) (a_owners : Nat) (a_takes : Nat) (a_bases : Nat) (a_ranked : Nat) (a_starts : Nat) (a_numbers : Nat) (a_walk : Nat) (o_cuts : Nat) (o_queue : Nat) (i_order : Int32) (i_next : Int32) (v_points : Nat → Int32) (v_owners : Nat → Int32) (v_takes : Nat → Int32) (v_bases : Nat → Int32) (v_ranked : Nat → Int32) (v_starts : Nat → Int32) (v_numbers : Nat → Int32) (v_walk : Nat → Int32) (v_owners' : Nat → Int32) (v_takes' : Nat → Int32) (v_bases' : Nat → Int32) (v_ranked' : Nat → Int32) (v_starts' : Nat → Int32) (v_numbers' : Nat → Int32) (v_walk' : Nat → Int32) (h : f_Share_layOut N i_order v_points v_owners v_takes v_bases v_ranked v_starts v_numbers v_walk = some (v_owners', v_takes', v_bases', v_ranked', v_starts', v_numbers', v_walk')) : Met l ({ cls := "PrefixMill$Share", name := "layOut", desc := "()V" } : Jvm.MethodName) ws_Share_layOut R_Share_layOut (va_Pc [.ref a_this] (fun U => U.heap.size = sz ∧ va_P D classes [(a_this, .inr (6, [.ref a_points, .ref o_cuts, .ref o_queue, .ref a_owners, .ref a_takes, .ref a_bases, .ref a_ranked, .ref a_starts, .ref a_numbers, .ref a_walk, .int i_order, .int i_next])), (a_points, .inl (cI, 12, .inl v_points)), (a_owners, .inl (cI, 64, .inl v_owners)), (a_takes, .inl (cI, 64, .inl v_takes)), (a_bases, .inl (cI, 64, .inl v_bases)), (a_ranked, .inl (cI, 64, .inl v_ranked)), (a_starts, .inl (cI, 12, .inl v_starts)), (a_numbers, .inl (cI, 12, .inl v_numbers)), (a_walk, .inl (cI, 64, .inl v_walk))] U.heap ∧ va_K D classes [(cI, .int), (cL, .long), (cZ, .boolean)] U ∧ va_D (fun _ => True) [(a_this, .inr (6, [.ref a_points, .ref o_cuts, .ref o_queue, .ref a_owners, .ref a_takes, .ref a_bases, .ref a_ranked, .ref a_starts, .ref a_numbers, .ref a_walk, .int i_order, .int i_next])), (a_points, .inl (cI, 12, .inl v_points)), (a_owners, .inl (cI, 64, .inl v_owners)), (a_takes, .inl (cI, 64, .inl v_takes)), (a_bases, .inl (cI, 64, .inl v_bases)), (a_ranked, .inl (cI, 64, .inl v_ranked)), (a_starts, .inl (cI, 12, .inl v_starts)), (a_numbers, .inl (cI, 12, .inl v_numbers)), (a_walk, .inl (cI, 64, .inl v_walk))])) (va_Qv (fun _ : Unit => True) (fun _ t => va_P D classes [(a_this, .inr (6, [.ref a_points, .ref o_cuts, .ref o_queue, .ref a_owners, .ref a_takes, .ref a_bases, .ref a_ranked, .ref a_starts, .ref a_numbers, .ref a_walk, .int i_order, .int i_next])), (a_points, .inl (cI, 12, .inl v_points)), (a_owners, .inl (cI, 64, .inl v_owners')), (a_takes, .inl (cI, 64, .inl v_takes')), (a_bases, .inl (cI, 64, .inl v_bases')), (a_ranked, .inl (cI, 64, .inl v_ranked')), (a_starts, .inl (cI, 12, .inl v_starts')), (a_numbers, .inl (cI, 12, .inl v_numbers')), (a_walk, .inl (cI, 64, .inl v_walk'))] t.heap ∧ va_K D classes [(cI, .int), (cL, .long), (cZ, .boolean)] t ∧ va_D (va_A [(a_this, .inr (6, [.ref a_points, .ref o_cuts, .ref o_queue, .ref a_owners, .ref a_takes, .ref a_bases, .ref a_ranked, .ref a_starts, .ref a_numbers, .ref a_walk, .int i_order, .int i_next])), (a_points, .inl (cI, 12, .inl v_points)), (a_owners, .inl (cI, 64, .inl v_owners)), (a_takes, .inl (cI, 64, .inl v_takes)), (a_bases, .inl (cI, 64, .inl v_bases)), (a_ranked, .inl (cI, 64, .inl v_ranked)), (a_starts, .inl (cI, 12, .inl v_starts)), (a_numbers, .inl (cI, 12, .inl v_numbers)), (a_walk, .inl (cI, 64, .inl v_walk))] sz) [(a_this, .inr (6, [.ref a_points, .ref o_cuts, .ref o_queue, .ref a_owners, .ref a_takes, .ref a_bases, .ref a_ranked, .ref a_starts, .ref a_numbers, .ref a_walk, .int i_order, .int i_next])), (a_points, .inl (cI, 12, .inl v_points)), (a_owners, .inl (cI, 64, .inl v_owners')), (a_takes, .inl (cI, 64, .inl v_takes')), (a_bases, .inl (cI, 64, .inl v_bases')), (a_ranked, .inl (cI, 64, .inl v_ranked')), (a_starts, .inl (cI, 12, .inl v_starts')), (a_numbers, .inl (cI, 12, .inl v_numbers')), (a_walk, .inl (cI, 64, .inl v_walk'))]) (va_A [(a_this, .inr (6, [.ref a_points, .ref o_cuts, .ref o_queue, .ref a_owners, .ref a_takes, .ref a_bases, .ref a_ranked, .ref a_starts, .ref a_numbers, .ref a_walk, .int i_order, .int i_next])), (a_points, .inl (cI, 12, .inl v_points)), (a_owners, .inl (cI, 64, .inl v_owners)), (a_takes, .inl (cI, 64, .inl v_takes)), (a_bases, .inl (cI, 64, .inl v_bases)), (a_ranked, .inl (cI, 64, .inl v_ranked)), (a_starts, .inl (cI, 12, .inl v_starts)), (a_numbers, .inl (cI, 12, .inl v_numbers)), (a_walk, .inl (cI, 64, .inl v_walk))] sz)) 0 0 (va_A [(a_this, .inr (6, [.ref a_points, .ref o_cuts, .ref o_queue, .ref a_owners, .ref a_takes, .ref a_bases, .ref a_ranked, .ref a_starts, .ref a_numbers, .ref a_walk, .int i_order, .int i_next])), (a_points, .inl (cI, 12, .inl v_points)), (a_owners, .inl (cI, 64, .inl v_owners)), (a_takes, .inl (cI, 64, .inl v_takes)), (a_bases, .inl (cI, 64, .inl v_bases)), (a_ranked, .inl (cI, 64, .inl v_ranked)), (a_starts, .inl (cI, 12, .inl v_starts)), (a_numbers, .inl (cI, 12, .inl v_numbers)), (a_walk, .inl (cI, 64, .inl v_walk))] sz) := by
  refine Met.ofW (cc := b_Share_layOut) (maxL := 2) (ret := none) (by decide) rfl ?_
  intro p e s m args below meth c s₁ B hml hv
  obtain ⟨rfl, hsz, hP, hK, hD0⟩ := hv
  have hx := B.exec
  have hb := B.bytes
  have hr := B.returns
  have hts0 := atoms_spec (ws := ws_Share_layOut) B.pre
  have hts := gd_tl hts0
  clear hts0
  have hown : s.vm.findClass "PrefixMill$Share" = some m.cls := findClass_of_methodNamed B.named
  have hlocks := B.notSynchronized
  subst hsz
  have hD := hD0.self (sz := s.heap.size)
  generalize hAe : va_A [(a_this, .inr (6, [.ref a_points, .ref o_cuts, .ref o_queue, .ref a_owners, .ref a_takes, .ref a_bases, .ref a_ranked, .ref a_starts, .ref a_numbers, .ref a_walk, .int i_order, .int i_next])), (a_points, .inl (cI, 12, .inl v_points)), (a_owners, .inl (cI, 64, .inl v_owners)), (a_takes, .inl (cI, 64, .inl v_takes)), (a_bases, .inl (cI, 64, .inl v_bases)), (a_ranked, .inl (cI, 64, .inl v_ranked)), (a_starts, .inl (cI, 12, .inl v_starts)), (a_numbers, .inl (cI, 12, .inl v_numbers)), (a_walk, .inl (cI, 64, .inl v_walk))] s.heap.size = A at hD ⊢
  have hA : ∀ q : Nat, s.heap.size ≤ q → A q := fun q h => by rw [← hAe]; exact Or.inr h
  have hS : va_S A s.heap s.heap [] := va_S.rf
  have hP : va_P D classes [(a_this, .inr (6, [.ref a_points, .ref o_cuts, .ref o_queue, .ref a_owners, .ref a_takes, .ref a_bases, .ref a_ranked, .ref a_starts, .ref a_numbers, .ref a_walk, .int i_order, .int i_next])), (a_points, .inl (cI, 12, .inl v_points)), (a_owners, .inl (cI, 64, .inl v_owners)), (a_takes, .inl (cI, 64, .inl v_takes)), (a_bases, .inl (cI, 64, .inl v_bases)), (a_ranked, .inl (cI, 64, .inl v_ranked)), (a_starts, .inl (cI, 12, .inl v_starts)), (a_numbers, .inl (cI, 12, .inl v_numbers)), (a_walk, .inl (cI, 64, .inl v_walk))] s.heap := hP
  have hl := lv_entry ([.ref a_this]) (n := 2) (Nat.le_of_ble_eq_true rfl)
  rw [lg_entry_eq]
  generalize (lg_sl ([.ref a_this]) ++ List.replicate (2 - (lg_sl ([.ref a_this])).length) Slot.unset).toArray = ls at hl ⊢
  have hl : lv_has ls 2 [(0, .ref a_this)] := hl
  have C : Cx p s m ([.ref a_this] : List Value).toArray c b_Share_layOut 2 "PrefixMill$Share" D [(cI, .int), (cL, .long), (cZ, .boolean)] A := ⟨hx, hb, hml, hown, hts, hK, hA⟩
  refine w_Share_layOut_b0 (res := (v_owners', v_takes', v_bases', v_ranked', v_starts', v_numbers', v_walk')) C ?_ _ _ _ _ _ _ _ h s.heap [] ls hl hP hD hS
  intro pc9 H9 locs9 ls9 v_owners9 v_takes9 v_bases9 v_ranked9 v_starts9 v_numbers9 v_walk9 e9 d9 hP9 hD9 hS9
  cases e9
  exact W.vret hx hb hr (fun t ht hW => ⟨⟨(), rfl, trivial, by rw [ht]; exact hP9, va_K.moved hW.alike hK, hD9⟩, hS9.F ht⟩) hS9.2.2 d9
