/-! clone, arraycopy, casts, switches, fuel (my own) -/
def fuel : Nat := 100000
abbrev rm_claim (d : Nat) : Room := { frames := 10 * d + 40, cells := 0, slots := 0, locals := 200 * d + 1000 }
abbrev rm_X5_readBoth (d : Nat) : Room := { frames := 10 * d + 42, cells := 0, slots := 0, locals := 200 * d + 1040 }
abbrev rm_X5_readEither (d : Nat) : Room := { frames := 10 * d + 44, cells := 0, slots := 0, locals := 200 * d + 1080 }
abbrev rm_X5_readClaim (d : Nat) : Room := rm_claim (d + 1)
theorem nv_o {C : String} : ∀ r : Option Nat, narrow (.object C) (va_rf r) = va_rf r := by intro r; cases r <;> rfl
theorem fv_o {C : String} : ∀ r : Option Nat, fits (.object C) (va_rf r) = true := by intro r; cases r <;> rfl
theorem nv_a {t : FieldType} : ∀ r : Option Nat, narrow (.array t) (va_rf r) = va_rf r := by intro r; cases r <;> rfl
theorem fv_a {t : FieldType} : ∀ r : Option Nat, fits (.array t) (va_rf r) = true := by intro r; cases r <;> rfl
def okC (h : Hp) (rx : Option Nat) (sp : Int32) (ry : Option Nat) (dp n : Int32) : Prop := rx = some (ad rx) ∧ (hpK h (ad rx)).1 = 1 ∧ ry = some (ad ry) ∧ (hpK h (ad ry)).1 = 1 ∧ ¬ sp < 0 ∧ ¬ dp < 0 ∧ ¬ n < 0 ∧ sp.toNatClampNeg + n.toNatClampNeg ≤ (hpK h (ad rx)).2 ∧ dp.toNatClampNeg + n.toNatClampNeg ≤ (hpK h (ad ry)).2
theorem i_ne {x y : Int32} {k : Int} (h : ¬ x = y) (hk : y.toInt = k) : x.toInt ≠ k := fun e => h (Int32.toInt_inj.mp (e.trans hk.symm))
theorem sw_out {x : Int32} (lo n : Nat) (hn : lo + n < 1000) (h : ∀ k, k < n → x ≠ nI (lo + k)) : x.toInt < (lo : Int) ∨ (lo : Int) + (n : Int) - 1 < x.toInt := by
  by_cases h1 : x.toInt < (lo : Int)
  · exact Or.inl h1
  · by_cases h2 : (lo : Int) + (n : Int) - 1 < x.toInt
    · exact Or.inr h2
    · exfalso
      have hx : (x.toInt - lo).toNat < n := by omega
      refine h _ hx (Int32.toInt_inj.mp ?_)
      rw [nI_toInt (by omega)]
      omega
theorem nw_same : Cond.sameMethod "[I" "java/lang/Object" "clone" "()Ljava/lang/Object;" ∈ lw_ok := ok_of (List.mem_append_right _ (List.mem_of_getElem? (i := 268) (by decide +kernel))) (by decide +kernel)
theorem nw_cnat : Cond.native ⟨"java/lang/Object", "clone", "()Ljava/lang/Object;"⟩ ∈ lw_ok := ok_of (List.mem_append_right _ (List.mem_of_getElem? (i := 269) (by decide +kernel))) (by decide +kernel)
theorem nw_cins : Cond.instanceMethod ⟨"java/lang/Object", "clone", "()Ljava/lang/Object;"⟩ ∈ lw_ok := ok_of (List.mem_append_right _ (List.mem_of_getElem? (i := 270) (by decide +kernel))) (by decide +kernel)
theorem nw_csel : Cond.selects "[I" ⟨"[I", "clone", "()Ljava/lang/Object;"⟩ ⟨"java/lang/Object", "clone", "()Ljava/lang/Object;"⟩ ∈ lw_ok := ok_of (List.mem_append_right _ (List.mem_of_getElem? (i := 271) (by decide +kernel))) (by decide +kernel)
theorem nw_asta : Cond.static arraycopyName ∈ lw_ok := ok_of (List.mem_append_right _ (List.mem_of_getElem? (i := 312) (by decide +kernel))) (by decide +kernel)
theorem nw_anat : Cond.native arraycopyName ∈ lw_ok := ok_of (List.mem_append_right _ (List.mem_of_getElem? (i := 313) (by decide +kernel))) (by decide +kernel)
theorem nw_asys : Cond.initialized "java/lang/System" ∈ lw_ok := ok_of (List.mem_append_right _ (List.mem_of_getElem? (i := 10) (by decide +kernel))) (by decide +kernel)
theorem rest_sum {vs : List Value} (h : ∀ v ∈ vs, v.category = 1) : (vs.map fun v => v.category).sum = vs.length := by
  induction vs with
  | nil => rfl
  | cons v vs ih =>
    have h1 := h v List.mem_cons_self
    simp only [List.map_cons, List.sum_cons, List.length_cons, h1, ih (fun w hw => h w (List.mem_cons_of_mem _ hw))]
    omega
theorem rest_le {vs : List Value} (h : ∀ v ∈ vs, v.category = 1) (hn : vs.length ≤ 8) : (vs.map fun v => v.category).sum ≤ 8 := by rw [rest_sum h]; exact hn
theorem rest_le2 {vs : List Value} {a b : Nat} (h : ∀ v ∈ vs, v.category = 1) (hn : vs.length + a ≤ b) : (vs.map fun v => v.category).sum + a ≤ b := by rw [rest_sum h]; exact hn
section HN
variable {p : Program} {l : Launch} {e : Env} {R : Room} {s : State} {m : MethodId} {args : Array Value} {below : List Frame} {meth : Method} {c : Code} {H : Heap} {locs : List Loc} {cells slots : Nat} {Q : State → Prop}
variable {cc : ByteArray} {pc : Nat} {ls : Array Slot} {rest : List Value} {G : GG} {base : Nat} {h : Hp}
theorem r_oi {own : String} {idx a : Nat} (hx : p.tables.exec = Jvm.exec) (hb : c.code = cc) (hown : s.vm.findClass own = some m.cls) (hlink : (Cond.methodLink own idx Lib.objectInit).before args s = true) (hinst : (Cond.instanceMethod Lib.objectInit).before args s = true) (hcode : (Cond.code Lib.objectInit ⟨#[0xb1]⟩ 1 none).before args s = true) (hsize : ls.size = c.maxLocals) (hd : decode cc pc = .ok (.invokespecial idx, 3)) (hframes : 1 ≤ R.frames) (hlocals : (rest.map fun v => v.category).sum + 12 ≤ R.locals)
    (kk : W p l e R s m args below meth c H locs cells slots Q (F0 m (pc + 3) ls rest)) : W p l e R s m args below meth c H locs cells slots Q (F0 m pc ls (.ref a :: rest)) :=
  W.objInit hx hb hown hlink hinst hcode rfl hsize rfl hd hframes (by show 2 * 0 + _ + 12 ≤ _; omega) kk
theorem r_cast {own : String} {index a : Nat} (hx : p.tables.exec = Jvm.exec) (hb : c.code = cc) (hown : s.vm.findClass own = some m.cls) (hlink : (Cond.classLink own index "[I").before args s = true) (hg : va_K G.1 classes (tysG G) s) (hC : Cx G base h s.heap H locs) (hk : (hpK h a).1 = 1) (hdg : decode cc pc = .ok (.checkcast index, 3))
    (kk : W p l e R s m args below meth c H locs cells slots Q (F0 m (pc + 3) ls (.ref a :: rest))) : W p l e R s m args below meth c H locs cells slots Q (F0 m pc ls (.ref a :: rest)) := by
  obtain ⟨-, hP, -⟩ := hC
  obtain ⟨L, hL, hP, hD, haL, k0, hk0⟩ := PH_at hP (a := a) (by omega)
  rw [eOf_1 hk] at hk0
  exact va_castA hx hb hown hlink hP k0 hk0 (va_nm_int (hg.2 0 (G.2.1 1, .int) rfl).2) hdg kk
theorem eOf_clI {ca : Nat → ClassId} {a b x : Nat} (hb : b ≠ a) : eOf ca (clI h a x) b = eOf ca h b := eOf_cg (by simp [hpK, clI, hb]) (by funext j; simp [hpI, clI, hb]) (by funext j; simp [hpL, clI, hb]) (by funext j; simp [hpR, clI, hb])
theorem r_clone {own nm : String} {index nL a : Nat} {rt0 : Option FieldType} (hM : Mx G base p s m args meth c cc nL rt0 own nm) (hC : Cx G base h s.heap H locs) (hsz : c.maxLocals = ls.size) (hw : Cond.methodLink own index ⟨"[I", "clone", "()Ljava/lang/Object;"⟩ ∈ lw_ok) (hk : (hpK h a).1 = 1) (h32 : (hpK h a).2 = 32) (hfr : 1 ≤ R.frames) (hlo : (rest.map fun v => v.category).sum + 14 ≤ R.locals) (hcells : cells + 1 ≤ R.cells) (hslots : slots + 32 ≤ R.slots) (hdg : decode cc pc = .ok (.invokevirtual index, 3))
    (kk : ∀ (q : Nat) (h1 : Hp) (H1 : Heap), (hpK h q).1 = 0 → h1 = clI h q a → Cx G base h1 s.heap H1 locs → W p l e R s m args below meth c H1 locs (cells + 1) (slots + 32) Q (F0 m (pc + 3) ls (.ref q :: rest))) : W p l e R s m args below meth c H locs cells slots Q (F0 m pc ls (.ref a :: rest)) := by
  have hA := Cx_A hC
  obtain ⟨hx, hb, hr, hml, hown, hts, hg, hs, hlk, hnm⟩ := hM
  obtain ⟨hbs, ⟨L, hL, hP, hD⟩, hS⟩ := hC
  have haL : a ∈ L := (hL a).mpr (by omega)
  obtain ⟨k0, hk1⟩ := va_pl_get (X := []) (f := eOf G.2.1 h) haL
  simp only [List.nil_append] at hk1
  rw [eOf_1 hk] at hk1
  have hv : ∀ (i : Nat) (v : Value), (vp_cell (G.2.1 1) ((hpK h a).2, .inl (hpI h a))).slots[i]? = some v → fits .int v = true := by
    intro i v hv
    rw [vp_cell_i] at hv
    have hi : i < (hpK h a).2 := by
      have := (Array.getElem?_eq_some_iff.mp hv).1
      rwa [arrV_size] at this
    rw [arrV_read _ _ hi] at hv
    cases hv; rfl
  refine va_clone hx hb hsz hown (hts _ hw) (hts _ nw_same) (hts _ nw_cnat) (hts _ nw_cins) (hts _ nw_csel) hs.2.2.2.2.2 hg hP hD hS hA k0 0 hk1 rfl (va_nm_int (hg.2 0 (G.2.1 1, .int) rfl).2) hv hfr hlo hcells (by rw [h32]; exact hslots) hdg (fun q H1 hK1 P1 D1 S1 => ?_)
  have ho := new_out D1
  have h0 : (hpK h q).1 = 0 := by
    by_cases h0 : (hpK h q).1 = 0
    · exact h0
    · exact absurd ((hL q).mpr h0) ho
  have hkq : hpK (clI h q a) q = (1, (hpK h a).2) := by simp [hpK, clI]
  have hC1 : Cx G base (clI h q a) s.heap H1 locs := by
    refine ⟨hbs, PH_new hL ho (fun b hb => by simp [hpK, clI, hb]) (by rw [hkq]; exact Nat.succ_ne_zero _) ?_ (fun b hb => eOf_clI hb) P1 D1, S1⟩
    rw [eOf_1 (by rw [hkq]), hkq]
    congr 4
    funext j; simp [hpI, clI]
  have := kk q _ H1 h0 rfl hC1
  rw [← h32] at this
  exact this
theorem eOf_cpI {ca : Nat → ClassId} {x y b sp dp n : Nat} (hb : b ≠ y) : eOf ca (cpI h x y sp dp n) b = eOf ca h b := eOf_cg rfl (by funext j; simp [hpI, cpI, hb]) (by funext j; simp [hpL, cpI]) (by funext j; simp [hpR, cpI])
theorem r_copy {own nm : String} {index nL : Nat} {rt0 : Option FieldType} {rx ry : Option Nat} {sp dp n : Int32} (hM : Mx G base p s m args meth c cc nL rt0 own nm) (hC : Cx G base h s.heap H locs) (hsz : c.maxLocals = ls.size) (hw : Cond.methodLink own index arraycopyName ∈ lw_ok) (hok : okC h rx sp ry dp n) (hfr : 1 ≤ R.frames) (hlo : (rest.map fun v => v.category).sum + (nativeFrameWords "java/lang/System" "arraycopy" 5 + 11) ≤ R.locals) (hdg : decode cc pc = .ok (.invokestatic index, 3))
    (kk : ∀ (h1 : Hp) (H1 : Heap) (locs1 : List Loc), h1 = cpI h (ad rx) (ad ry) sp.toNatClampNeg dp.toNatClampNeg n.toNatClampNeg → Cx G base h1 s.heap H1 locs1 → W p l e R s m args below meth c H1 locs1 cells slots Q (F0 m (pc + 3) ls rest)) : W p l e R s m args below meth c H locs cells slots Q (F0 m pc ls (.int n :: .int dp :: .ref (ad ry) :: .int sp :: .ref (ad rx) :: rest)) := by
  obtain ⟨hx, hb, hr, hml, hown, hts, hg, hs, hlk, hnm⟩ := hM
  obtain ⟨hbs, ⟨L, hL, hP, hD⟩, hS⟩ := hC
  obtain ⟨o1, o2, o3, o4, o5, o6, o7, o8, o9⟩ := hok
  have hxL : ad rx ∈ L := (hL _).mpr (by omega)
  have hyL : ad ry ∈ L := (hL _).mpr (by omega)
  obtain ⟨kx, hkx⟩ := va_pl_get (X := []) (f := eOf G.2.1 h) hxL
  obtain ⟨ky, hky⟩ := va_pl_get (X := []) (f := eOf G.2.1 h) hyL
  simp only [List.nil_append] at hkx hky
  have hky1 := hky
  rw [eOf_1 o2] at hkx
  rw [eOf_1 o4] at hky
  refine va_copyi hx hb hsz hown (hts _ hw) (hts _ nw_anat) (hts _ nw_asta) (hts _ nw_asys) hg hP hD hS kx ky 0 0 hkx hky rfl rfl rfl o5 o6 o7 o8 o9 (fun _ _ => rfl) hfr hlo hdg (fun H1 locs1 P1 D1 S1 => kk _ H1 locs1 rfl ⟨hbs, PH_set hL hD hyL hky1 (fun _ => rfl) ?_ (fun b hb => eOf_cpI hb) P1 D1, S1⟩)
  have ej : hpI (cpI h (ad rx) (ad ry) sp.toNatClampNeg dp.toNatClampNeg n.toNatClampNeg) (ad ry) = va_cpy (hpI h (ad rx)) (hpI h (ad ry)) sp.toNatClampNeg dp.toNatClampNeg n.toNatClampNeg := by
    funext j
    show (if ad ry = ad ry then _ else _) = _
    rw [if_pos rfl]; rfl
  rw [eOf_1 (h := cpI h (ad rx) (ad ry) sp.toNatClampNeg dp.toNatClampNeg n.toNatClampNeg) o4, ej]
  rfl
theorem r_gsq {C n d own ref : String} {index : Nat} (hx : p.tables.exec = Jvm.exec) (hb : c.code = cc) (hZ : va_Zq C n d (fun q => base ≤ q) s s.heap) (hS : va_S (fun q => base ≤ q) s.heap H locs) (hown : s.vm.findClass own = some m.cls) (hlink : (Cond.fieldLink own index ref n d).before args s = true) (hsame : ∀ x, s.fieldFound? C n d = some x → s.fieldFound? ref n d = some x) (hdg : decode cc pc = .ok (.getstatic index, 3))
    (kk : ∀ r : Option Nat, W p l e R s m args below meth c H locs cells slots Q (F0 m (pc + 3) ls (va_rf r :: rest))) : W p l e R s m args below meth c H locs cells slots Q (F0 m pc ls rest) := by
  rcases hZ with hZ | ⟨t, hZ⟩
  · exact va_gets hx hb hZ hS hown hlink hsame hdg (kk none)
  · exact va_gets hx hb hZ hS hown hlink hsame hdg (kk (some t))
theorem ret_t {maxL : Nat} {own nm : String} {t : FieldType} {Q' : Int32 → Hp → Prop} {v : Int32} (hM : Mx G base p s m args meth c cc maxL (some t) own nm) (hC : Cx G base h s.heap H locs) (hn : narrow t (.int v) = .int v) (hw : Q' v h) (hdg : decode cc pc = .ok (.ireturn, 1)) : W p l e R s m args below meth c H locs cells slots (MQ below (va_Qi Q' (PU G base) (fun q => base ≤ q)) args s cells slots (fun q => base ≤ q)) (F0 m pc ls [.int v]) := by
  obtain ⟨hx, hb, hr, hml, hown, hts, hg, hs, hlk, hnm⟩ := hM
  exact W.zret hx hb hr hn (fun t ht hW => ⟨⟨v, h, rfl, hw, PU_of hg hs hC t ht hW⟩, hC.2.2.F ht⟩) hC.2.2.2.2 hdg hlk
theorem run_VS {own nm : String} {index nL mL n mc ms i : Nat} {y : MethodName} {bytes : ByteArray} {rt rt0 : Option FieldType} {rm : Room} {As : List Value} {Qc : Array Value → State → Outcome → State → Prop} (hM : Mx G base p s m args meth c cc nL rt0 own nm) (hC : Cx G base h s.heap H locs) (hls : ls.size = nL) (kv : KV own "java/lang/String" index y bytes mL rt n) (hmet : Met l y (ww y bytes mL rt) rm (va_Pc (.ref (G.2.2.1 i) :: As) (PU G base h)) Qc mc ms (fun q => base ≤ q)) (hi : i < 2) (hn : As.length = n) (hrc : rm.cells = mc) (hrs : rm.slots = ms) (hR : rm.frames + 1 ≤ R.frames ∧ 8 + (mL + 11) + rm.locals ≤ R.locals) (hrest : (rest.map fun v => v.category).sum ≤ 8) (hf : cells + mc ≤ R.cells ∧ slots + ms ≤ R.slots) (hdg : decode cc pc = .ok (.invokevirtual index, 3)) :
    va_Run p l e R s m args below meth c H locs cells slots mc ms (F0 m pc ls (As.reverse ++ .ref (G.2.2.1 i) :: rest)) rest (Qc (Value.ref (G.2.2.1 i) :: As).toArray) (fun q => base ≤ q) := by
  obtain ⟨hx, hb, hr, hml, hown, hts, hg, hs, hlk, hnm⟩ := hM
  obtain ⟨k1, k2, k3⟩ := kv
  exact va_runV (As := As) (rest := rest) (nL := nL) ⟨hx, hb, hml, hown, hts⟩ hmet (cwV n hts k1 rfl hrc hrs ⟨k2, k3⟩ hR) ⟨PU_blind, vk_recv hs.1.1 hi hC.2.2, fun U hU hW => ⟨rfl, PU_of hg hs hC U hU hW⟩⟩ rfl hn hls rfl (lv_room hrest) hdg hf
end HN
