/-! CALLS, RETURNS, THE START OF A CONTRACT (my own) -/
theorem gS_moved {G : GG} {base : Nat} {u U : State} {H : Heap} (hvm : u.vm.Alike U.vm) (h : gS G base u H) : gS G base U H := ⟨h.1.moved hvm, h.2.1.moved hvm, h.2.2.moved hvm⟩
theorem gR_warm {G : GG} {s U : State} (hW : s.WarmedH U.vm) (h : gR G s) : gR G U := ⟨h.1.warm hW, h.2.1.warm hW, fun q hq => (h.2.2.1 q hq).warmM hW, fun C hC => (h.2.2.2.1 C hC).moved hW.alike, h.2.2.2.2.warmC hW⟩
theorem PU_blind {G : GG} {base : Nat} {h : Hp} {av : List Value} : FrameBlind (va_Pc av (PU G base h)) := by
  intro a U g mk q
  obtain ⟨q0, q1, q2, q3, q4, q5⟩ := q
  exact ⟨q0, q1, q2, va_K.moved (u := U) (U := U.calling g mk a) (Vm.Alike.refl U.vm) q3, gS_moved (u := U) (U := U.calling g mk a) (Vm.Alike.refl U.vm) q4, ⟨vk_R.same (u := U) rfl q5.1, vk_R.same (u := U) rfl q5.2.1, fun q hq => (q5.2.2.1 q hq).same rfl rfl, fun C hC => va_AO.moved (u := U) (U := U.calling g mk a) (Vm.Alike.refl U.vm) (q5.2.2.2.1 C hC), q5.2.2.2.2.same rfl rfl⟩⟩
theorem PU_of {G : GG} {base : Nat} {h : Hp} {s : State} {H : Heap} {locs : List Loc} (hg : va_K G.1 classes (tysG G) s) (hs : gS G base s s.heap ∧ gR G s) (hC : Cx G base h s.heap H locs) (U : State) (hU : U.heap = H) (hW : s.WarmedH U.vm) : PU G base h U := by
  obtain ⟨hb, hP, hS⟩ := hC
  refine ⟨by rw [hU]; exact Nat.le_trans hb hS.1, by rw [hU]; exact hP, va_K.moved hW.alike hg, ?_, gR_warm hW hs.2⟩
  rw [hU]
  exact gS_moved hW.alike (gS_kept hs.1 (fun a h1 h2 => hS.2.1 a h1 h2))
/-- what a walk of a method has: the machine, its code, the tables, the texts -/
def Mx (G : GG) (base : Nat) (p : Program) (s : State) (m : MethodId) (args : Array Value) (meth : Method) (c : Code) (cc : ByteArray) (maxL : Nat) (ret : Option FieldType) (own nm : String) : Prop :=
  p.tables.exec = Jvm.exec ∧ c.code = cc ∧ meth.sig.returnType = ret ∧ c.maxLocals = maxL ∧ s.vm.findClass own = some m.cls ∧ (∀ w ∈ lw_ok, w.before args s = true) ∧ va_K G.1 classes (tysG G) s ∧ (gS G base s s.heap ∧ gR G s) ∧ meth.locks = false ∧ meth.name = nm
theorem met_of {l : Launch} {y : MethodName} {cc : ByteArray} {maxL mc ms : Nat} {ret : Option FieldType} {rm : Room} {av : List Value} {lv : List (Nat × Value)} {Qc : Array Value → State → Outcome → State → Prop} {G : GG} {base : Nat} {h : Hp} {own nm : String} (hy : plainName y.cls = true) (ho : y.cls = own) (hnm : y.name = nm) (hcat : ∀ v ∈ av, v.category = 1) (hlen : av.length ≤ maxL) (hlv : av.zipIdx.map (fun q => (q.2, q.1)) = lv)
    (body : ∀ (p : Program) (e : Env) (s : State) (m : MethodId) (below : List Frame) (meth : Method) (c : Code) (ls : Array Slot), Mx G base p s m av.toArray meth c cc maxL ret own nm → Cx G base h s.heap s.heap [] → lo_has ls maxL lv → W p l e rm s m av.toArray below meth c s.heap [] 0 0 (MQ below Qc av.toArray s mc ms (fun q => base ≤ q)) (F0 m 0 ls [])) :
    Met l y (ww y cc maxL ret) rm (va_Pc av (PU G base h)) Qc mc ms (fun q => base ≤ q) := by
  refine Met.ofW (cc := cc) (maxL := maxL) (ret := ret) hy rfl ?_
  intro p e s m args below meth c s₁ B hml hv
  obtain ⟨rfl, q1, q2, q3, q4, q5⟩ := hv
  have hts := atoms_spec (ws := ww y cc maxL ret) B.pre
  have hown : s.vm.findClass y.cls = some m.cls := findClass_of_methodNamed B.named
  have hgen : ∀ (vs : List Value) (i : Nat), (∀ v ∈ vs, v.category = 1) → lv_args i vs = (vs.zipIdx i).map (fun q => (q.2, q.1)) ∧ (lg_sl vs).length = vs.length := by
    intro vs
    induction vs with
    | nil => intro i _; exact ⟨rfl, rfl⟩
    | cons v vs ih =>
      intro i hc
      have hv1 : v.category = 1 := hc v List.mem_cons_self
      obtain ⟨e1, e2⟩ := ih (i + 1) (fun w hw => hc w (List.mem_cons_of_mem _ hw))
      constructor
      · simp [lv_args, hv1, e1]
      · have : lg_sl (v :: vs) = [.val v] ++ lg_sl vs := by simp [lg_sl, hv1]
        rw [this]; simp [e2]
  obtain ⟨e1, e2⟩ := hgen av 0 hcat
  have hl := lv_entry av (n := maxL) (by rw [e2]; exact hlen)
  rw [e1, hlv] at hl
  rw [lg_entry_eq]
  refine body p e s m below meth c _ ⟨B.exec, B.bytes, B.returns, hml, by rw [← ho]; exact hown, fun w hw => hts w (List.mem_cons_of_mem _ hw), q3, ⟨q4, q5⟩, B.notSynchronized, by rw [← hnm]; exact (name_of_methodNamed B.named B.method).1⟩ ⟨q1, q2, va_S.rf⟩ ⟨hl, fun q hq => ?_⟩
  subst hlv
  obtain ⟨x, hx, rfl⟩ := List.mem_map.mp hq
  exact hcat _ (List.fst_mem_of_mem_zipIdx hx)
theorem lw_good {w : Cond} (hw : w ∈ lw_ok) : goodWord w = true := (List.mem_filter.mp hw).2
theorem ok_of {w : Cond} (hw : w ∈ lw_tbl) (hg : goodWord w = true) : w ∈ lw_ok := List.mem_filter.mpr ⟨hw, hg⟩
theorem gw_all {extra : List Cond} {y : MethodName} {b : ByteArray} {n : Nat} {r : Option FieldType} (hin : ∀ w ∈ extra, w ∈ lw_ok) (hc : Cond.code y b n r ∈ lw_ok) : GoodIn lw_ok (extra ++ ww y b n r) := by
  have hall : ∀ w ∈ lw_ok, w ∈ lw_ok ∧ ((w.onTables && w.keeps) = true ∨ ∃ ty, w = .arrayClass ty) := fun w hw => ⟨hw, good_of_word (lw_good hw)⟩
  intro w hw
  rcases List.mem_append.mp hw with h | h
  · exact hall w (hin w h)
  · rcases List.mem_cons.mp h with rfl | h
    · exact hall _ hc
    · exact hall w h
theorem gw_V {own C : String} {idx : Nat} {y : MethodName} {b : ByteArray} {n : Nat} {r : Option FieldType} (h1 : Cond.methodLink own idx y ∈ lw_ok) (h2 : Cond.instanceMethod y ∈ lw_ok) (h3 : Cond.selects C y y ∈ lw_ok) (h4 : Cond.initialized C ∈ lw_ok) (hc : Cond.code y b n r ∈ lw_ok) : GoodIn lw_ok (wsV own idx C y (ww y b n r)) := by
  refine gw_all (fun w hw => ?_) hc
  simp only [List.mem_cons, List.not_mem_nil, or_false] at hw
  rcases hw with rfl | rfl | rfl | rfl
  · exact h1
  · exact h2
  · exact h3
  · exact h4
theorem gw_0 {y : MethodName} {b : ByteArray} {n : Nat} {r : Option FieldType} (hc : Cond.code y b n r ∈ lw_ok) : GoodIn lw_ok (ww y b n r) := gw_all (extra := []) (fun w hw => by cases hw) hc
section HC
variable {p : Program} {l : Launch} {e : Env} {R : Room} {s : State} {m : MethodId} {args : Array Value} {below : List Frame} {meth : Method} {c : Code} {H : Heap} {locs : List Loc} {cells slots : Nat} {Q : State → Prop}
variable {cc : ByteArray} {pc : Nat} {ls : Array Slot} {rest : List Value} {G : GG} {base : Nat} {h : Hp}
/-- what a called method's words are, by the call's place -/
def KV (own C : String) (index : Nat) (y : MethodName) (b : ByteArray) (mL : Nat) (rt : Option FieldType) (n : Nat) : Prop := GoodIn lw_ok (wsV own index C y (ww y b mL rt)) ∧ y.cls = C ∧ y.cls ≠ "java/lang/invoke/MethodHandle" ∧ y.cls ≠ "java/lang/invoke/VarHandle" ∧ (parseMethodDescriptor y.desc).map (fun d => d.parameters.length) = some n
def KS (own : String) (index : Nat) (y : MethodName) (b : ByteArray) (mL : Nat) (rt : Option FieldType) (n : Nat) : Prop := GoodIn lw_ok (ww y b mL rt) ∧ Cond.methodLink own index y ∈ lw_ok ∧ Cond.static y ∈ lw_ok ∧ Cond.initialized y.cls ∈ lw_ok ∧ y.cls ≠ "java/lang/invoke/MethodHandle" ∧ y.cls ≠ "java/lang/invoke/VarHandle" ∧ (parseMethodDescriptor y.desc).map (fun d => d.parameters.length) = some n
def KI (own : String) (index : Nat) (y : MethodName) (b : ByteArray) (mL n : Nat) : Prop := GoodIn lw_ok (ww y b mL none) ∧ Cond.methodLink own index y ∈ lw_ok ∧ Cond.instanceMethod y ∈ lw_ok ∧ Cond.initialized y.cls ∈ lw_ok ∧ y.name = "<init>" ∧ y.cls ≠ "java/lang/invoke/MethodHandle" ∧ y.cls ≠ "java/lang/invoke/VarHandle" ∧ (parseMethodDescriptor y.desc).map (fun d => d.parameters.length) = some n
def KIN (own : String) (index : Nat) (y : MethodName) (host : String) (b : ByteArray) (mL n : Nat) : Prop := GoodIn lw_ok (ww y b mL none) ∧ (own, index, y, host) ∈ nwL ∧ Cond.instanceMethod y ∈ lw_ok ∧ Cond.initialized y.cls ∈ lw_ok ∧ y.name = "<init>" ∧ y.cls ≠ "java/lang/invoke/MethodHandle" ∧ y.cls ≠ "java/lang/invoke/VarHandle" ∧ (parseMethodDescriptor y.desc).map (fun d => d.parameters.length) = some n
theorem run_V {own C nm : String} {index nL mL n mc ms ci N : Nat} {T : u_T} {y : MethodName} {bytes : ByteArray} {rt rt0 : Option FieldType} {rm : Room} {As : List Value} {b : Nat} {Qc : Array Value → State → Outcome → State → Prop} (hM : Mx G base p s m args meth c cc nL rt0 own nm) (hC : Cx G base h s.heap H locs) (hls : ls.size = nL) (kv : KV own C index y bytes mL rt n) (hmet : Met l y (ww y bytes mL rt) rm (va_Pc (.ref b :: As) (PU G base h)) Qc mc ms (fun q => base ≤ q)) (hci : classes[ci]? = some (C, T, N)) (hk : (hpK h b).1 = 20 + ci) (hn : As.length = n) (hrc : rm.cells = mc) (hrs : rm.slots = ms) (hR : rm.frames + 1 ≤ R.frames ∧ 8 + (mL + 11) + rm.locals ≤ R.locals) (hrest : (rest.map fun v => v.category).sum ≤ 8) (hf : cells + mc ≤ R.cells ∧ slots + ms ≤ R.slots) (hdg : decode cc pc = .ok (.invokevirtual index, 3)) :
    va_Run p l e R s m args below meth c H locs cells slots mc ms (F0 m pc ls (As.reverse ++ .ref b :: rest)) rest (Qc (Value.ref b :: As).toArray) (fun q => base ≤ q) := by
  obtain ⟨hx, hb, hr, hml, hown, hts, hg, hs, hlk, hnm⟩ := hM
  obtain ⟨k1, k2, k3⟩ := kv
  obtain ⟨L, hL, hP, hD, haL, k0, hk0⟩ := PH_at hC.2.1 (a := b) (by omega)
  rw [eOf_o hk] at hk0
  exact va_runV (As := As) (rest := rest) (nL := nL) ⟨hx, hb, hml, hown, hts⟩ hmet (cwV n hts k1 rfl hrc hrs ⟨k2, k3⟩ hR) ⟨PU_blind, va_recv hg hP hci hk0, fun U hU hW => ⟨rfl, PU_of hg hs hC U hU hW⟩⟩ rfl hn hls rfl (lv_room hrest) hdg hf
theorem run_S {own nm : String} {index nL mL n mc ms : Nat} {y : MethodName} {bytes : ByteArray} {rt rt0 : Option FieldType} {rm : Room} {As : List Value} {Qc : Array Value → State → Outcome → State → Prop} (hM : Mx G base p s m args meth c cc nL rt0 own nm) (hC : Cx G base h s.heap H locs) (hls : ls.size = nL) (ks : KS own index y bytes mL rt n) (hmet : Met l y (ww y bytes mL rt) rm (va_Pc As (PU G base h)) Qc mc ms (fun q => base ≤ q)) (hn : As.length = n) (hrc : rm.cells = mc) (hrs : rm.slots = ms) (hR : rm.frames + 1 ≤ R.frames ∧ 8 + (mL + 11) + rm.locals ≤ R.locals) (hrest : (rest.map fun v => v.category).sum ≤ 8) (hf : cells + mc ≤ R.cells ∧ slots + ms ≤ R.slots) (hdg : decode cc pc = .ok (.invokestatic index, 3)) :
    va_Run p l e R s m args below meth c H locs cells slots mc ms (F0 m pc ls (As.reverse ++ rest)) rest (Qc As.toArray) (fun q => base ≤ q) := by
  obtain ⟨hx, hb, hr, hml, hown, hts, hg, hs, hlk, hnm⟩ := hM
  obtain ⟨k1, k2, k3, k4, k5⟩ := ks
  exact va_runS (As := As) (rest := rest) (nL := nL) ⟨hx, hb, hml, hown, hts⟩ hmet ⟨callB_of n hts k1 rfl hrc hrs (hts _ k4) (hts _ k2) k5 hR, hts _ k3⟩ ⟨PU_blind, fun U hU hW => ⟨rfl, PU_of hg hs hC U hU hW⟩⟩ rfl hn hls rfl (lv_room hrest) hdg hf
theorem run_I {own nm : String} {index nL mL n mc ms : Nat} {y : MethodName} {bytes : ByteArray} {rt0 : Option FieldType} {rm : Room} {As : List Value} {b : Nat} {Qc : Array Value → State → Outcome → State → Prop} (hM : Mx G base p s m args meth c cc nL rt0 own nm) (hC : Cx G base h s.heap H locs) (hls : ls.size = nL) (ks : KI own index y bytes mL n) (hmet : Met l y (ww y bytes mL none) rm (va_Pc (.ref b :: As) (PU G base h)) Qc mc ms (fun q => base ≤ q)) (hn : As.length = n) (hrc : rm.cells = mc) (hrs : rm.slots = ms) (hR : rm.frames + 1 ≤ R.frames ∧ 8 + (mL + 11) + rm.locals ≤ R.locals) (hrest : (rest.map fun v => v.category).sum ≤ 8) (hf : cells + mc ≤ R.cells ∧ slots + ms ≤ R.slots) (hdg : decode cc pc = .ok (.invokespecial index, 3)) :
    va_Run p l e R s m args below meth c H locs cells slots mc ms (F0 m pc ls (As.reverse ++ .ref b :: rest)) rest (Qc (Value.ref b :: As).toArray) (fun q => base ≤ q) := by
  obtain ⟨hx, hb, hr, hml, hown, hts, hg, hs, hlk, hnm⟩ := hM
  obtain ⟨k1, k2, k3, k4, k5, k6⟩ := ks
  exact va_runI (As := As) (rest := rest) (nL := nL) ⟨hx, hb, hml, hown, hts⟩ hmet (cwI n hts k1 rfl hrc hrs (hts _ k4) (hts _ k2) (hts _ k3) k5 k6 hR) ⟨PU_blind, fun U hU hW => ⟨rfl, PU_of hg hs hC U hU hW⟩⟩ rfl hn hls rfl (lv_room hrest) hdg hf
theorem run_IN {own nm host : String} {index nL mL n mc ms : Nat} {y : MethodName} {bytes : ByteArray} {rt0 : Option FieldType} {rm : Room} {As : List Value} {b : Nat} {Qc : Array Value → State → Outcome → State → Prop} (hM : Mx G base p s m args meth c cc nL rt0 own nm) (hC : Cx G base h s.heap H locs) (hls : ls.size = nL) (ks : KIN own index y host bytes mL n) (hmet : Met l y (ww y bytes mL none) rm (va_Pc (.ref b :: As) (PU G base h)) Qc mc ms (fun q => base ≤ q)) (hn : As.length = n) (hrc : rm.cells = mc) (hrs : rm.slots = ms) (hR : rm.frames + 1 ≤ R.frames ∧ 8 + (mL + 11) + rm.locals ≤ R.locals) (hrest : (rest.map fun v => v.category).sum ≤ 8) (hf : cells + mc ≤ R.cells ∧ slots + ms ≤ R.slots) (hdg : decode cc pc = .ok (.invokespecial index, 3)) :
    va_Run p l e R s m args below meth c H locs cells slots mc ms (F0 m pc ls (As.reverse ++ .ref b :: rest)) rest (Qc (Value.ref b :: As).toArray) (fun q => base ≤ q) := by
  obtain ⟨hx, hb, hr, hml, hown, hts, hg, hs, hlk, hnm⟩ := hM
  obtain ⟨k1, k2, k3, k4, k5, k6⟩ := ks
  have hnest : va_Nw (.methodLinkNest own index y host) s := hs.2.2.2.1 (own, index, y, host) k2
  exact va_runIN (As := As) (rest := rest) (nL := nL) ⟨hx, hb, hml, hown, hts⟩ hmet ⟨va_cnB n hts k1 rfl hrc hrs hnest (hts _ k4) k6 hR, k5, hts _ k3⟩ ⟨PU_blind, fun U hU hW => ⟨rfl, PU_of hg hs hC U hU hW⟩⟩ rfl hn hls rfl (lv_room hrest) hdg hf
theorem Cx_back {h1 : Hp} {t : State} {H1 : Heap} {locs1 : List Loc} (hC : Cx G base h s.heap H locs) (ht : t.heap = H1) (hB : PU G base h1 t) (hS : va_S (fun q => base ≤ q) s.heap H1 locs1) : Cx G base h1 s.heap H1 locs1 := ⟨hC.1, by rw [← ht]; exact hB.2.1, hS⟩
theorem res_i {mc ms : Nat} {st0 : List Value} {a : Array Value} {Q' : Int32 → Hp → Prop} (hC : Cx G base h s.heap H locs) (hr : va_Run p l e R s m args below meth c H locs cells slots mc ms (F0 m pc ls st0) rest (va_Qi Q' (PU G base) (fun q => base ≤ q) a) (fun q => base ≤ q))
    (kk : ∀ (r : Int32) (h1 : Hp) (H1 : Heap) (locs1 : List Loc), Q' r h1 → Cx G base h1 s.heap H1 locs1 → W p l e R s m args below meth c H1 locs1 (cells + mc) (slots + ms) Q (F0 m (pc + 3) ls (.int r :: rest))) : W p l e R s m args below meth c H locs cells slots Q (F0 m pc ls st0) :=
  va_calli hr hC.2.2 (fun _ _ h => h) (fun _ h => h) (fun r u t H1 locs1 ht _ hq hB _ _ hS => kk r u H1 locs1 hq (Cx_back hC ht hB hS))
theorem res_q {mc ms : Nat} {st0 : List Value} {a : Array Value} {Q' : Option Nat → Hp → Prop} (hC : Cx G base h s.heap H locs) (hr : va_Run p l e R s m args below meth c H locs cells slots mc ms (F0 m pc ls st0) rest (va_Qq Q' (PU G base) (fun q => base ≤ q) a) (fun q => base ≤ q))
    (kk : ∀ (r : Option Nat) (h1 : Hp) (H1 : Heap) (locs1 : List Loc), Q' r h1 → Cx G base h1 s.heap H1 locs1 → W p l e R s m args below meth c H1 locs1 (cells + mc) (slots + ms) Q (F0 m (pc + 3) ls (va_rf r :: rest))) : W p l e R s m args below meth c H locs cells slots Q (F0 m pc ls st0) :=
  va_callq hr hC.2.2 (fun _ _ h => h) (fun _ h => h) (fun r u t H1 locs1 ht _ hq hB _ _ hS => kk r u H1 locs1 hq (Cx_back hC ht hB hS))
theorem res_v {mc ms : Nat} {st0 : List Value} {a : Array Value} {Q' : Hp → Prop} (hC : Cx G base h s.heap H locs) (hr : va_Run p l e R s m args below meth c H locs cells slots mc ms (F0 m pc ls st0) rest (va_Qv Q' (PU G base) (fun q => base ≤ q) a) (fun q => base ≤ q))
    (kk : ∀ (h1 : Hp) (H1 : Heap) (locs1 : List Loc), Q' h1 → Cx G base h1 s.heap H1 locs1 → W p l e R s m args below meth c H1 locs1 (cells + mc) (slots + ms) Q (F0 m (pc + 3) ls rest)) : W p l e R s m args below meth c H locs cells slots Q (F0 m pc ls st0) :=
  va_callv hr hC.2.2 (fun _ _ h => h) (fun _ h => h) (fun u t H1 locs1 ht _ hq hB _ _ hS => kk u H1 locs1 hq (Cx_back hC ht hB hS))
theorem ret_i {maxL : Nat} {own nm : String} {Q' : Int32 → Hp → Prop} {v : Int32} (hM : Mx G base p s m args meth c cc maxL (some .int) own nm) (hC : Cx G base h s.heap H locs) (hw : Q' v h) (hdg : decode cc pc = .ok (.ireturn, 1)) : W p l e R s m args below meth c H locs cells slots (MQ below (va_Qi Q' (PU G base) (fun q => base ≤ q)) args s cells slots (fun q => base ≤ q)) (F0 m pc ls [.int v]) := by
  obtain ⟨hx, hb, hr, hml, hown, hts, hg, hs, hlk, hnm⟩ := hM
  exact W.iret hx hb hr (fun t ht hW => ⟨⟨v, h, rfl, hw, PU_of hg hs hC t ht hW⟩, hC.2.2.F ht⟩) hC.2.2.2.2 hdg hlk
theorem ret_z {maxL : Nat} {own nm : String} {Q' : Int32 → Hp → Prop} {v : Int32} (hM : Mx G base p s m args meth c cc maxL (some .boolean) own nm) (hC : Cx G base h s.heap H locs) (hn : narrow .boolean (.int v) = .int v) (hw : Q' v h) (hdg : decode cc pc = .ok (.ireturn, 1)) : W p l e R s m args below meth c H locs cells slots (MQ below (va_Qi Q' (PU G base) (fun q => base ≤ q)) args s cells slots (fun q => base ≤ q)) (F0 m pc ls [.int v]) := by
  obtain ⟨hx, hb, hr, hml, hown, hts, hg, hs, hlk, hnm⟩ := hM
  exact W.zret hx hb hr hn (fun t ht hW => ⟨⟨v, h, rfl, hw, PU_of hg hs hC t ht hW⟩, hC.2.2.F ht⟩) hC.2.2.2.2 hdg hlk
theorem ret_v {maxL : Nat} {own nm : String} {Q' : Hp → Prop} (hM : Mx G base p s m args meth c cc maxL none own nm) (hC : Cx G base h s.heap H locs) (hw : Q' h) (hdg : decode cc pc = .ok (.return_, 1)) : W p l e R s m args below meth c H locs cells slots (MQ below (va_Qv Q' (PU G base) (fun q => base ≤ q)) args s cells slots (fun q => base ≤ q)) (F0 m pc ls []) := by
  obtain ⟨hx, hb, hr, hml, hown, hts, hg, hs, hlk, hnm⟩ := hM
  exact W.vret hx hb hr (fun t ht hW => ⟨⟨h, rfl, hw, PU_of hg hs hC t ht hW⟩, hC.2.2.F ht⟩) hC.2.2.2.2 hdg hlk
theorem ret_q {maxL : Nat} {own nm : String} {rt : FieldType} {Q' : Option Nat → Hp → Prop} {r : Option Nat} (hrt : (∃ n, rt = .object n) ∨ ∃ t, rt = .array t) (hM : Mx G base p s m args meth c cc maxL (some rt) own nm) (hC : Cx G base h s.heap H locs) (hw : Q' r h) (hdg : decode cc pc = .ok (.areturn, 1)) : W p l e R s m args below meth c H locs cells slots (MQ below (va_Qq Q' (PU G base) (fun q => base ≤ q)) args s cells slots (fun q => base ≤ q)) (F0 m pc ls [va_rf r]) := by
  obtain ⟨hx, hb, hr, hml, hown, hts, hg, hs, hlk, hnm⟩ := hM
  exact W.aret hx hb hr hrt (by cases r with | none => exact Or.inl rfl | some a => exact Or.inr ⟨a, rfl⟩) (fun t ht hW => ⟨⟨r, h, rfl, hw, PU_of hg hs hC t ht hW⟩, hC.2.2.F ht⟩) hC.2.2.2.2 hdg hlk
end HC
