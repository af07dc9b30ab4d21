def gw2 : Cond → Bool
  | .fieldLinkNest .. => true
  | .methodLinkNest .. => true
  | w => goodWord w
theorem gw2_warm {w : Cond} (h : gw2 w = true) {args a' : Array Value} {s U : State} (hW : s.WarmedH U.vm) (hb : w.before args s = true) : w.before a' U = true := by
  by_cases h1 : goodWord w = true
  · exact word_at hW (good_of_word h1) hb
  · cases w with
    | fieldLinkNest a i b n d h => exact va_Nw.use rfl (va_Nw.warmF hW (va_Nw.of rfl hb))
    | methodLinkNest a i x h => exact va_Nw.use rfl (va_Nw.warmM hW (va_Nw.of rfl hb))
    | _ => exact absurd h h1
theorem tt_good : tt.all gw2 = true := by decide +kernel
theorem tt_pay {args : Array Value} {s : State} {z : Cond} (hts : ∀ w ∈ tt, w.before args s = true) (hz : z ∈ tt) : ∀ w ∈ z :: tt, ∀ (a' : Array Value) (U : State), s.WarmedH U.vm → w.before a' U = true := fun w hw a' U hW => by
  have hm : w ∈ tt := (List.mem_cons.mp hw).elim (fun e => e ▸ hz) id
  exact gw2_warm (List.all_eq_true.mp tt_good w hm) hW (hts w hm)
theorem my_cb {R : Room} {s : State} {args : Array Value} {own : String} {index : Nat} {y : MethodName} {bytes : ByteArray} {maxL mc ms : Nat} {ret : Option FieldType} {rm : Room} (n : Nat) (hts : ∀ w ∈ tt, w.before args s = true) (hz : Cond.code y bytes maxL ret ∈ tt) (hrc : rm.cells = mc) (hrs : rm.slots = ms) (hini : (Cond.initialized y.cls).before args s = true) (hl : (Cond.methodLink own index y).before args s = true) (hd : y.cls ≠ "java/lang/invoke/MethodHandle" ∧ y.cls ≠ "java/lang/invoke/VarHandle" ∧ (parseMethodDescriptor y.desc).map (fun d => d.parameters.length) = some n) (hR : rm.frames + 1 ≤ R.frames ∧ 8 + (maxL + 11) + rm.locals ≤ R.locals) : CallB R s args own index y bytes maxL ret (Cond.code y bytes maxL ret :: tt) rm mc ms n := by
  refine ⟨hrc, hrs, hR.1, hR.2, tt_pay hts hz, List.mem_cons_self, hts _ hz, hini, ⟨hd.1, hd.2.1⟩, fun sig h => ?_, hl⟩
  have h2 := hd.2.2
  rw [h] at h2
  exact (Option.some.inj h2).symm
theorem my_cn {R : Room} {s : State} {args : Array Value} {own host : String} {index : Nat} {y : MethodName} {bytes : ByteArray} {maxL mc ms : Nat} {ret : Option FieldType} {rm : Room} (n : Nat) (hts : ∀ w ∈ tt, w.before args s = true) (hz : Cond.code y bytes maxL ret ∈ tt) (hrc : rm.cells = mc) (hrs : rm.slots = ms) (hini : (Cond.initialized y.cls).before args s = true) (hl : (Cond.methodLinkNest own index y host).before args s = true) (hd : y.cls ≠ "java/lang/invoke/MethodHandle" ∧ y.cls ≠ "java/lang/invoke/VarHandle" ∧ (parseMethodDescriptor y.desc).map (fun d => d.parameters.length) = some n) (hR : rm.frames + 1 ≤ R.frames ∧ 8 + (maxL + 11) + rm.locals ≤ R.locals) : va_CN R s args own index y host bytes maxL ret (Cond.code y bytes maxL ret :: tt) rm mc ms n := by
  refine ⟨⟨hrc, hrs, hR.1, hR.2, tt_pay hts hz, List.mem_cons_self⟩, hts _ hz, hini, ⟨hd.1, hd.2.1⟩, fun sig h => ?_, hl⟩
  have h2 := hd.2.2
  rw [h] at h2
  exact (Option.some.inj h2).symm
theorem gd_tl {z : Cond} {args : Array Value} {s : State} (h : ∀ w ∈ z :: tt, w.before args s = true) : ∀ w ∈ tt, w.before args s = true := fun w hw => h w (List.mem_cons_of_mem _ hw)
def Cx (p : Program) (s : State) (m : MethodId) (args : Array Value) (c : Code) (cc : ByteArray) (nL : Nat) (own : String) (D : va_G) (T : List (ClassId × FieldType)) (A : Nat → Prop) : Prop :=
  p.tables.exec = Jvm.exec ∧ c.code = cc ∧ c.maxLocals = nL ∧ s.vm.findClass own = some m.cls ∧ (∀ w ∈ tt, w.before args s = true) ∧ va_K D classes T s ∧ (∀ q : Nat, s.heap.size ≤ q → A q)
