/-! ROWS over the abstract heap (my own) -/
section HK
variable {p : Program} {l : Launch} {e : Env} {R : Room} {s : State} {m : MethodId} {args : Array Value} {below : List Frame} {meth : Method} {c : Code} {H : Heap} {locs : List Loc} {cells slots : Nat} {Q : State → Prop}
variable {cc : ByteArray} {pc : Nat} {ls : Array Slot} {rest : List Value} {G : GG} {base : Nat} {h : Hp} {H0 : Heap}
theorem rf_1 {r : Option Nat} (hr : r = some (ad r)) (k : W p l e R s m args below meth c H locs cells slots Q (F0 m pc ls (.ref (ad r) :: rest))) : W p l e R s m args below meth c H locs cells slots Q (F0 m pc ls (va_rf r :: rest)) := by
  have e : va_rf r = .ref (ad r) := by rw [hr]; rfl
  rw [e]; exact k
theorem rf_2 {r : Option Nat} {v : Value} (hr : r = some (ad r)) (k : W p l e R s m args below meth c H locs cells slots Q (F0 m pc ls (v :: .ref (ad r) :: rest))) : W p l e R s m args below meth c H locs cells slots Q (F0 m pc ls (v :: va_rf r :: rest)) := by
  have e : va_rf r = .ref (ad r) := by rw [hr]; rfl
  rw [e]; exact k
theorem rf_3 {r : Option Nat} {v w : Value} (hr : r = some (ad r)) (k : W p l e R s m args below meth c H locs cells slots Q (F0 m pc ls (v :: w :: .ref (ad r) :: rest))) : W p l e R s m args below meth c H locs cells slots Q (F0 m pc ls (v :: w :: va_rf r :: rest)) := by
  have e : va_rf r = .ref (ad r) := by rw [hr]; rfl
  rw [e]; exact k
theorem rf_4 {r : Option Nat} {v w x : Value} (hr : r = some (ad r)) (k : W p l e R s m args below meth c H locs cells slots Q (F0 m pc ls (v :: w :: x :: .ref (ad r) :: rest))) : W p l e R s m args below meth c H locs cells slots Q (F0 m pc ls (v :: w :: x :: va_rf r :: rest)) := by
  have e : va_rf r = .ref (ad r) := by rw [hr]; rfl
  rw [e]; exact k
theorem rf_5 {r : Option Nat} {v w x y : Value} (hr : r = some (ad r)) (k : W p l e R s m args below meth c H locs cells slots Q (F0 m pc ls (v :: w :: x :: y :: .ref (ad r) :: rest))) : W p l e R s m args below meth c H locs cells slots Q (F0 m pc ls (v :: w :: x :: y :: va_rf r :: rest)) := by
  have e : va_rf r = .ref (ad r) := by rw [hr]; rfl
  rw [e]; exact k
theorem rf_6 {r : Option Nat} {v w x y z : Value} (hr : r = some (ad r)) (k : W p l e R s m args below meth c H locs cells slots Q (F0 m pc ls (v :: w :: x :: y :: z :: .ref (ad r) :: rest))) : W p l e R s m args below meth c H locs cells slots Q (F0 m pc ls (v :: w :: x :: y :: z :: va_rf r :: rest)) := by
  have e : va_rf r = .ref (ad r) := by rw [hr]; rfl
  rw [e]; exact k
/-- locals: no long among them -/
def lo_has (ls : Array Slot) (nL : Nat) (lv : List (Nat × Value)) : Prop := lv_has ls nL lv ∧ ∀ q ∈ lv, q.2.category = 1
theorem lo_at {nL : Nat} {lv : List (Nat × Value)} (h : lo_has ls nL lv) (k : Nat) {i : Nat} {v : Value} (hk : lv[k]? = some (i, v)) : ls[i]? = some (.val v) := lv_at h.1 k hk
theorem lo_sub {nL : Nat} {lv lv' : List (Nat × Value)} (h : lo_has ls nL lv) (ks : List Nat) (hl : lv_pick lv ks = lv') : lo_has ls nL lv' := by
  refine ⟨lv_sub h.1 ks hl, fun q hq => ?_⟩
  subst hl
  obtain ⟨i, -, hi⟩ := List.mem_filterMap.mp hq
  exact h.2 q (List.mem_of_getElem? hi)
theorem lo_flt {lv : List (Nat × Value)} {i : Nat} (h : ∀ q ∈ lv, q.2.category = 1) : lv.filter (fun q => !(q.1 == i) && !(q.1 + 1 == i && q.2.category == 2)) = lv.filter (fun q => !(q.1 == i)) := by
  apply List.filter_congr
  intro q hq
  simp [h q hq]
theorem lo_cons {nL i : Nat} {v : Value} {lv lv' : List (Nat × Value)} (h : lo_has ls nL lv) {ls' : Array Slot} (hv : v.category = 1) (h2 : lv_has ls' nL ((i, v) :: lv.filter (fun q => !(q.1 == i) && !(q.1 + 1 == i && q.2.category == 2)))) (hl : (i, v) :: lv.filter (fun q => !(q.1 == i)) = lv') : lo_has ls' nL lv' := by
  rw [lo_flt h.2, hl] at h2
  refine ⟨h2, fun q hq => ?_⟩
  subst hl
  rcases List.mem_cons.mp hq with rfl | h3
  · exact hv
  · exact h.2 q (List.mem_filter.mp h3).1
theorem va_rf_cat (r : Option Nat) : (va_rf r).category = 1 := by cases r <;> rfl
theorem lo_istore_n (hx : p.tables.exec = Jvm.exec) (hb : c.code = cc) {k : Fin 4} {i nL : Nat} {x : Int32} {lv lv' : List (Nat × Value)} (hdg : decode cc pc = .ok (.istore_n k, 1)) (hi : (k : Nat) = i) (h : lo_has ls nL lv) (hn : i < nL) (hl : (i, Value.int x) :: lv.filter (fun q => !(q.1 == i)) = lv')
    (kk : ∀ ls : Array Slot, lo_has ls nL lv' → W p l e R s m args below meth c H locs cells slots Q (F0 m (pc + 1) ls rest)) : W p l e R s m args below meth c H locs cells slots Q (F0 m pc ls (.int x :: rest)) :=
  lv_istore_n hx hb hdg hi h.1 hn rfl (fun ls' h2 => kk ls' (lo_cons h rfl h2 hl))
theorem lo_istore (hx : p.tables.exec = Jvm.exec) (hb : c.code = cc) {i nL : Nat} {x : Int32} {lv lv' : List (Nat × Value)} (hdg : decode cc pc = .ok (.istore i, 2)) (h : lo_has ls nL lv) (hn : i < nL) (hl : (i, Value.int x) :: lv.filter (fun q => !(q.1 == i)) = lv')
    (kk : ∀ ls : Array Slot, lo_has ls nL lv' → W p l e R s m args below meth c H locs cells slots Q (F0 m (pc + 2) ls rest)) : W p l e R s m args below meth c H locs cells slots Q (F0 m pc ls (.int x :: rest)) :=
  lv_istore hx hb hdg h.1 hn rfl (fun ls' h2 => kk ls' (lo_cons h rfl h2 hl))
theorem lo_iinc (hx : p.tables.exec = Jvm.exec) (hb : c.code = cc) {i nL k : Nat} {n : Int} {x v : Int32} {lv lv' : List (Nat × Value)} (hdg : decode cc pc = .ok (.iinc i n, 3)) (h : lo_has ls nL lv) (hk : lv[k]? = some (i, .int x)) (hv : x + Int32.ofInt n = v) (hn : i < nL) (hl : (i, Value.int v) :: lv.filter (fun q => !(q.1 == i)) = lv')
    (kk : ∀ ls : Array Slot, lo_has ls nL lv' → W p l e R s m args below meth c H locs cells slots Q (F0 m (pc + 3) ls rest)) : W p l e R s m args below meth c H locs cells slots Q (F0 m pc ls rest) :=
  lv_iinc hx hb hdg h.1 hk hv hn rfl (fun ls' h2 => kk ls' (lo_cons h rfl h2 hl))
theorem lo_astore_n (hx : p.tables.exec = Jvm.exec) (hb : c.code = cc) {k : Fin 4} {i nL : Nat} {r : Option Nat} {lv lv' : List (Nat × Value)} (hdg : decode cc pc = .ok (.astore_n k, 1)) (hi : (k : Nat) = i) (h : lo_has ls nL lv) (hn : i < nL) (hl : (i, va_rf r) :: lv.filter (fun q => !(q.1 == i)) = lv')
    (kk : ∀ ls : Array Slot, lo_has ls nL lv' → W p l e R s m args below meth c H locs cells slots Q (F0 m (pc + 1) ls rest)) : W p l e R s m args below meth c H locs cells slots Q (F0 m pc ls (va_rf r :: rest)) := by
  cases r with
  | none => exact lv_astore_nN hx hb hdg hi h.1 hn rfl (fun ls' h2 => kk ls' (lo_cons h rfl h2 hl))
  | some a => exact lv_astore_n hx hb hdg hi h.1 hn rfl (fun ls' h2 => kk ls' (lo_cons h rfl h2 hl))
theorem lo_astore (hx : p.tables.exec = Jvm.exec) (hb : c.code = cc) {i nL : Nat} {r : Option Nat} {lv lv' : List (Nat × Value)} (hdg : decode cc pc = .ok (.astore i, 2)) (h : lo_has ls nL lv) (hn : i < nL) (hl : (i, va_rf r) :: lv.filter (fun q => !(q.1 == i)) = lv')
    (kk : ∀ ls : Array Slot, lo_has ls nL lv' → W p l e R s m args below meth c H locs cells slots Q (F0 m (pc + 2) ls rest)) : W p l e R s m args below meth c H locs cells slots Q (F0 m pc ls (va_rf r :: rest)) := by
  cases r with
  | none => exact lv_astoreN hx hb hdg h.1 hn rfl (fun ls' h2 => kk ls' (lo_cons h rfl h2 hl))
  | some a => exact lv_astore hx hb hdg h.1 hn rfl (fun ls' h2 => kk ls' (lo_cons h rfl h2 hl))
theorem lo_aload_n (hx : p.tables.exec = Jvm.exec) (hb : c.code = cc) {k : Fin 4} {i : Nat} {r : Option Nat} (hdg : decode cc pc = .ok (.aload_n k, 1)) (hi : (k : Nat) = i) (hl : ls[i]? = some (.val (va_rf r)))
    (kk : W p l e R s m args below meth c H locs cells slots Q (F0 m (pc + 1) ls (va_rf r :: rest))) : W p l e R s m args below meth c H locs cells slots Q (F0 m pc ls rest) := by
  cases r with
  | none => exact lv_aload_nN hx hb hdg hi hl kk
  | some a => exact lv_aload_n hx hb hdg hi hl kk
theorem lo_aload (hx : p.tables.exec = Jvm.exec) (hb : c.code = cc) {i : Nat} {r : Option Nat} (hdg : decode cc pc = .ok (.aload i, 2)) (hl : ls[i]? = some (.val (va_rf r)))
    (kk : W p l e R s m args below meth c H locs cells slots Q (F0 m (pc + 2) ls (va_rf r :: rest))) : W p l e R s m args below meth c H locs cells slots Q (F0 m pc ls rest) := by
  cases r with
  | none => exact lv_aloadN hx hb hdg hl kk
  | some a => exact lv_aload hx hb hdg hl kk
theorem lo_ifnull (hx : p.tables.exec = Jvm.exec) (hb : c.code = cc) {r : Option Nat} {off : Int} {tgt : Nat} (hdg : decode cc pc = .ok (.ifnull off, 3)) (ht : (pc : Int) + off = (tgt : Int))
    (kt : r = none → W p l e R s m args below meth c H locs cells slots Q (F0 m tgt ls rest)) (kf : ¬ r = none → W p l e R s m args below meth c H locs cells slots Q (F0 m (pc + 3) ls rest)) : W p l e R s m args below meth c H locs cells slots Q (F0 m pc ls (va_rf r :: rest)) := by
  cases r with
  | none => exact lv_ifnullN hx hb hdg ht (kt rfl)
  | some a => exact lv_ifnull hx hb hdg (kf (fun h => by cases h))
theorem lo_ifnonnull (hx : p.tables.exec = Jvm.exec) (hb : c.code = cc) {r : Option Nat} {off : Int} {tgt : Nat} (hdg : decode cc pc = .ok (.ifnonnull off, 3)) (ht : (pc : Int) + off = (tgt : Int))
    (kt : ¬ r = none → W p l e R s m args below meth c H locs cells slots Q (F0 m tgt ls rest)) (kf : r = none → W p l e R s m args below meth c H locs cells slots Q (F0 m (pc + 3) ls rest)) : W p l e R s m args below meth c H locs cells slots Q (F0 m pc ls (va_rf r :: rest)) := by
  cases r with
  | none => exact lv_ifnonnullN hx hb hdg (kf rfl)
  | some a => exact lv_ifnonnull hx hb hdg ht (kt (fun h => by cases h))
/-! fields -/
theorem r_getI {own C : String} {T : u_T} {N ci index k : Nat} {ty : Nat → FieldType} {nm ds : String} {fin : Bool} {t : FieldType} (hx : p.tables.exec = Jvm.exec) (hb : c.code = cc) (hts : ∀ w ∈ lw_ok, w.before args s = true) (hown : s.vm.findClass own = some m.cls) (hg : va_K G.1 classes (tysG G) s) (hC : Cx G base h H0 H locs) (fb : FB ci C T N ty k false nm ds fin t) {a : Nat} (hk : (hpK h a).1 = 20 + ci) (hw : Cond.fieldLink own index C nm ds ∈ lw_ok) (hdg : decode cc pc = .ok (.getfield index, 3))
    (kk : W p l e R s m args below meth c H locs cells slots Q (F0 m (pc + 3) ls (.int (hpI h a k) :: rest))) : W p l e R s m args below meth c H locs cells slots Q (F0 m pc ls (.ref a :: rest)) := by
  obtain ⟨-, hP, -⟩ := hC
  obtain ⟨⟨c1, c2, c3, c4, c5⟩, f1, f2, f3, f4⟩ := fb
  obtain ⟨L, hL, hP, hD, haL, k0, hk0⟩ := PH_at hP (a := a) (by omega)
  rw [eOf_o hk] at hk0
  exact va_get hx hb hts c2 hown hg hP k0 hk0 c1 k f1 (ref := C) (by rw [f3]; exact hts _ hw) (by rw [f3]; exact fun _ h => h) (flds_I f2) hdg kk
theorem r_getR {own C : String} {T : u_T} {N ci index k : Nat} {ty : Nat → FieldType} {nm ds : String} {fin : Bool} {t : FieldType} (hx : p.tables.exec = Jvm.exec) (hb : c.code = cc) (hts : ∀ w ∈ lw_ok, w.before args s = true) (hown : s.vm.findClass own = some m.cls) (hg : va_K G.1 classes (tysG G) s) (hC : Cx G base h H0 H locs) (fb : FB ci C T N ty k true nm ds fin t) {a : Nat} (hk : (hpK h a).1 = 20 + ci) (hw : Cond.fieldLink own index C nm ds ∈ lw_ok) (hdg : decode cc pc = .ok (.getfield index, 3))
    (kk : W p l e R s m args below meth c H locs cells slots Q (F0 m (pc + 3) ls (va_rf (hpR h a k) :: rest))) : W p l e R s m args below meth c H locs cells slots Q (F0 m pc ls (.ref a :: rest)) := by
  obtain ⟨-, hP, -⟩ := hC
  obtain ⟨⟨c1, c2, c3, c4, c5⟩, f1, f2, f3, f4⟩ := fb
  obtain ⟨L, hL, hP, hD, haL, k0, hk0⟩ := PH_at hP (a := a) (by omega)
  rw [eOf_o hk] at hk0
  exact va_get hx hb hts c2 hown hg hP k0 hk0 c1 k f1 (ref := C) (by rw [f3]; exact hts _ hw) (by rw [f3]; exact fun _ h => h) (flds_R f2) hdg kk
theorem eOf_cg {ca : Nat → ClassId} {h' : Hp} {b : Nat} (h1 : hpK h' b = hpK h b) (h2 : hpI h' b = hpI h b) (h3 : hpL h' b = hpL h b) (h4 : hpR h' b = hpR h b) : eOf ca h' b = eOf ca h b := by
  unfold eOf; rw [h1, h2, h3, h4]
theorem eOf_stI {ca : Nat → ClassId} {a k b : Nat} {v : Int32} (hb : b ≠ a) : eOf ca (stI h a k v) b = eOf ca h b := eOf_cg rfl (by funext j; simp [hpI, stI, hb]) (by funext j; simp [hpL, stI, hb]) (by funext j; simp [hpR, stI, hb])
theorem eOf_stR {ca : Nat → ClassId} {a k b : Nat} {v : Option Nat} (hb : b ≠ a) : eOf ca (stR h a k v) b = eOf ca h b := eOf_cg rfl (by funext j; simp [hpI, stR, hb]) (by funext j; simp [hpL, stR, hb]) (by funext j; simp [hpR, stR, hb])
theorem eOf_stL {ca : Nat → ClassId} {a k b : Nat} {v : Int64} (hb : b ≠ a) : eOf ca (stL h a k v) b = eOf ca h b := eOf_cg rfl (by funext j; simp [hpI, stL, hb]) (by funext j; simp [hpL, stL, hb]) (by funext j; simp [hpR, stL, hb])
theorem hpI_stI_self {a k : Nat} {v : Int32} : hpI (stI h a k v) a = fun j => if j = k then v else hpI h a j := by
  funext j; simp [hpI, stI]
theorem hpR_stR_self {a k : Nat} {v : Option Nat} : hpR (stR h a k v) a = fun j => if j = k then v else hpR h a j := by
  funext j; simp [hpR, stR]
theorem hpL_stL_self {a k : Nat} {v : Int64} : hpL (stL h a k v) a = fun j => if j = k then v else hpL h a j := by
  funext j; simp [hpL, stL]
theorem r_putI {own C : String} {T : u_T} {N ci index k : Nat} {ty : Nat → FieldType} {nm ds : String} {t : FieldType} (hx : p.tables.exec = Jvm.exec) (hb : c.code = cc) (hts : ∀ w ∈ lw_ok, w.before args s = true) (hown : s.vm.findClass own = some m.cls) (hg : va_K G.1 classes (tysG G) s) (hC : Cx G base h H0 H locs) (fb : FB ci C T N ty k false nm ds false t) {a : Nat} {v : Int32} (hk : (hpK h a).1 = 20 + ci) (hn : narrow t (.int v) = .int v) (hfit : fits t (.int v) = true) (hw : Cond.fieldLink own index C nm ds ∈ lw_ok) (hdg : decode cc pc = .ok (.putfield index, 3))
    (kk : ∀ (h1 : Hp) (H1 : Heap) (locs1 : List Loc), h1 = stI h a k v → Cx G base h1 H0 H1 locs1 → W p l e R s m args below meth c H1 locs1 cells slots Q (F0 m (pc + 3) ls rest)) : W p l e R s m args below meth c H locs cells slots Q (F0 m pc ls (.int v :: .ref a :: rest)) := by
  obtain ⟨hbs, hP, hS⟩ := hC
  obtain ⟨⟨c1, c2, c3, c4, c5⟩, f1, f2, f3, f4⟩ := fb
  obtain ⟨L, hL, hP, hD, haL, k0, hk1⟩ := PH_at hP (a := a) (by omega)
  have hk0 := hk1
  rw [eOf_o hk] at hk0
  refine va_put hx hb hts c2 ty c3 c4 hown hg hP hD hS k0 hk0 c1 k f1 (ref := C) (by rw [f3]; exact hts _ hw) (by rw [f3]; exact fun _ h => h) (by rw [f3]) (c3 k f1) (by rw [f4]; exact hn) (by rw [f4]; exact hfit) (by rw [flds_len, c5]; exact f1) hdg (fun H1 locs1 P1 D1 S1 => kk _ H1 locs1 rfl ⟨hbs, PH_set hL hD haL hk1 (fun _ => rfl) ?_ (fun b hb => eOf_stI hb) P1 D1, S1⟩)
  rw [eOf_o (h := stI h a k v) hk, hpI_stI_self, flds_setI f2]
  rfl
theorem r_putR {own C : String} {T : u_T} {N ci index k : Nat} {ty : Nat → FieldType} {nm ds : String} {t : FieldType} (hx : p.tables.exec = Jvm.exec) (hb : c.code = cc) (hts : ∀ w ∈ lw_ok, w.before args s = true) (hown : s.vm.findClass own = some m.cls) (hg : va_K G.1 classes (tysG G) s) (hC : Cx G base h H0 H locs) (fb : FB ci C T N ty k true nm ds false t) {a : Nat} {v : Option Nat} (hk : (hpK h a).1 = 20 + ci) (hn : ∀ r, narrow t (va_rf r) = va_rf r) (hfit : ∀ r, fits t (va_rf r) = true) (hw : Cond.fieldLink own index C nm ds ∈ lw_ok) (hdg : decode cc pc = .ok (.putfield index, 3))
    (kk : ∀ (h1 : Hp) (H1 : Heap) (locs1 : List Loc), h1 = stR h a k v → Cx G base h1 H0 H1 locs1 → W p l e R s m args below meth c H1 locs1 cells slots Q (F0 m (pc + 3) ls rest)) : W p l e R s m args below meth c H locs cells slots Q (F0 m pc ls (va_rf v :: .ref a :: rest)) := by
  obtain ⟨hbs, hP, hS⟩ := hC
  obtain ⟨⟨c1, c2, c3, c4, c5⟩, f1, f2, f3, f4⟩ := fb
  obtain ⟨L, hL, hP, hD, haL, k0, hk1⟩ := PH_at hP (a := a) (by omega)
  have hk0 := hk1
  rw [eOf_o hk] at hk0
  refine va_put hx hb hts c2 ty c3 c4 hown hg hP hD hS k0 hk0 c1 k f1 (ref := C) (by rw [f3]; exact hts _ hw) (by rw [f3]; exact fun _ h => h) (by rw [f3]) (c3 k f1) (by rw [f4]; exact hn v) (by rw [f4]; exact hfit v) (by rw [flds_len, c5]; exact f1) hdg (fun H1 locs1 P1 D1 S1 => kk _ H1 locs1 rfl ⟨hbs, PH_set hL hD haL hk1 (fun _ => rfl) ?_ (fun b hb => eOf_stR hb) P1 D1, S1⟩)
  rw [eOf_o (h := stR h a k v) hk, hpR_stR_self, flds_setR f2]
  rfl
theorem r_putFI {own : String} {T : u_T} {N ci index k : Nat} {ty : Nat → FieldType} {nm ds : String} {t : FieldType} (hx : p.tables.exec = Jvm.exec) (hb : c.code = cc) (hts : ∀ w ∈ lw_ok, w.before args s = true) (hown : s.vm.findClass own = some m.cls) (hin2 : meth.name = "<init>") (hg : va_K G.1 classes (tysG G) s) (hC : Cx G base h H0 H locs) (fb : FB ci own T N ty k false nm ds true t) {a : Nat} {v : Int32} (hk : (hpK h a).1 = 20 + ci) (hn : narrow t (.int v) = .int v) (hfit : fits t (.int v) = true) (hw : Cond.fieldLink own index own nm ds ∈ lw_ok) (hdg : decode cc pc = .ok (.putfield index, 3))
    (kk : ∀ (h1 : Hp) (H1 : Heap) (locs1 : List Loc), h1 = stI h a k v → Cx G base h1 H0 H1 locs1 → W p l e R s m args below meth c H1 locs1 cells slots Q (F0 m (pc + 3) ls rest)) : W p l e R s m args below meth c H locs cells slots Q (F0 m pc ls (.int v :: .ref a :: rest)) := by
  obtain ⟨hbs, hP, hS⟩ := hC
  obtain ⟨⟨c1, c2, c3, c4, c5⟩, f1, f2, f3, f4⟩ := fb
  obtain ⟨L, hL, hP, hD, haL, k0, hk1⟩ := PH_at hP (a := a) (by omega)
  have hk0 := hk1
  rw [eOf_o hk] at hk0
  refine va_putF hx hb hts c2 ty c3 c4 hown hg hP hD hS k0 hk0 c1 k f1 (ref := own) (by rw [f3]; exact hts _ hw) (by rw [f3]; exact fun _ h => h) (by rw [f3]) hin2 (by rw [f3]) (c3 k f1) (by rw [f4]; exact hn) (by rw [f4]; exact hfit) (by rw [flds_len, c5]; exact f1) hdg (fun H1 locs1 P1 D1 S1 => kk _ H1 locs1 rfl ⟨hbs, PH_set hL hD haL hk1 (fun _ => rfl) ?_ (fun b hb => eOf_stI hb) P1 D1, S1⟩)
  rw [eOf_o (h := stI h a k v) hk, hpI_stI_self, flds_setI f2]
  rfl
theorem r_putFR {own : String} {T : u_T} {N ci index k : Nat} {ty : Nat → FieldType} {nm ds : String} {t : FieldType} (hx : p.tables.exec = Jvm.exec) (hb : c.code = cc) (hts : ∀ w ∈ lw_ok, w.before args s = true) (hown : s.vm.findClass own = some m.cls) (hin2 : meth.name = "<init>") (hg : va_K G.1 classes (tysG G) s) (hC : Cx G base h H0 H locs) (fb : FB ci own T N ty k true nm ds true t) {a : Nat} {v : Option Nat} (hk : (hpK h a).1 = 20 + ci) (hn : ∀ r, narrow t (va_rf r) = va_rf r) (hfit : ∀ r, fits t (va_rf r) = true) (hw : Cond.fieldLink own index own nm ds ∈ lw_ok) (hdg : decode cc pc = .ok (.putfield index, 3))
    (kk : ∀ (h1 : Hp) (H1 : Heap) (locs1 : List Loc), h1 = stR h a k v → Cx G base h1 H0 H1 locs1 → W p l e R s m args below meth c H1 locs1 cells slots Q (F0 m (pc + 3) ls rest)) : W p l e R s m args below meth c H locs cells slots Q (F0 m pc ls (va_rf v :: .ref a :: rest)) := by
  obtain ⟨hbs, hP, hS⟩ := hC
  obtain ⟨⟨c1, c2, c3, c4, c5⟩, f1, f2, f3, f4⟩ := fb
  obtain ⟨L, hL, hP, hD, haL, k0, hk1⟩ := PH_at hP (a := a) (by omega)
  have hk0 := hk1
  rw [eOf_o hk] at hk0
  refine va_putF hx hb hts c2 ty c3 c4 hown hg hP hD hS k0 hk0 c1 k f1 (ref := own) (by rw [f3]; exact hts _ hw) (by rw [f3]; exact fun _ h => h) (by rw [f3]) hin2 (by rw [f3]) (c3 k f1) (by rw [f4]; exact hn v) (by rw [f4]; exact hfit v) (by rw [flds_len, c5]; exact f1) hdg (fun H1 locs1 P1 D1 S1 => kk _ H1 locs1 rfl ⟨hbs, PH_set hL hD haL hk1 (fun _ => rfl) ?_ (fun b hb => eOf_stR hb) P1 D1, S1⟩)
  rw [eOf_o (h := stR h a k v) hk, hpR_stR_self, flds_setR f2]
  rfl
/-! arrays -/
theorem r_iald (hx : p.tables.exec = Jvm.exec) (hb : c.code = cc) (hg : va_K G.1 classes (tysG G) s) (hC : Cx G base h H0 H locs) {a : Nat} {i : Int32} (hk : (hpK h a).1 = 1) (hin : vp_in i (hpK h a).2) (hdg : decode cc pc = .ok (.iaload, 1))
    (kk : W p l e R s m args below meth c H locs cells slots Q (F0 m (pc + 1) ls (.int (hpI h a i.toNatClampNeg) :: rest))) : W p l e R s m args below meth c H locs cells slots Q (F0 m pc ls (.int i :: .ref a :: rest)) := by
  obtain ⟨-, hP, -⟩ := hC
  obtain ⟨L, hL, hP, hD, haL, k0, hk0⟩ := PH_at hP (a := a) (by omega)
  rw [eOf_1 hk] at hk0
  exact va_iald hx hb hg hP k0 0 hk0 rfl hin hdg kk
theorem r_lald (hx : p.tables.exec = Jvm.exec) (hb : c.code = cc) (hg : va_K G.1 classes (tysG G) s) (hC : Cx G base h H0 H locs) {a : Nat} {i : Int32} (hk : (hpK h a).1 = 2) (hin : vp_in i (hpK h a).2) (hdg : decode cc pc = .ok (.laload, 1))
    (kk : W p l e R s m args below meth c H locs cells slots Q (F0 m (pc + 1) ls (.long (hpL h a i.toNatClampNeg) :: rest))) : W p l e R s m args below meth c H locs cells slots Q (F0 m pc ls (.int i :: .ref a :: rest)) := by
  obtain ⟨-, hP, -⟩ := hC
  obtain ⟨L, hL, hP, hD, haL, k0, hk0⟩ := PH_at hP (a := a) (by omega)
  rw [eOf_2 hk] at hk0
  exact va_lald hx hb hg hP k0 1 hk0 rfl hin hdg kk
theorem r_aald (hx : p.tables.exec = Jvm.exec) (hb : c.code = cc) (hg : va_K G.1 classes (tysG G) s) (hC : Cx G base h H0 H locs) {a kd t0 : Nat} {C : String} {i : Int32} (hk : (hpK h a).1 = kd) (h2 : 2 < kd ∧ kd < 20) (ht : (tysG G)[t0]? = some (G.2.1 kd, .object C)) (hin : vp_in i (hpK h a).2) (hdg : decode cc pc = .ok (.aaload, 1))
    (kk : W p l e R s m args below meth c H locs cells slots Q (F0 m (pc + 1) ls (va_rf (hpR h a i.toNatClampNeg) :: rest))) : W p l e R s m args below meth c H locs cells slots Q (F0 m pc ls (.int i :: .ref a :: rest)) := by
  obtain ⟨-, hP, -⟩ := hC
  obtain ⟨L, hL, hP, hD, haL, k0, hk0⟩ := PH_at hP (a := a) (by omega)
  rw [eOf_r hk h2.1 h2.2] at hk0
  exact va_aldq hx hb hg hP k0 t0 hk0 ht hin hdg kk
theorem r_iast (hx : p.tables.exec = Jvm.exec) (hb : c.code = cc) (hg : va_K G.1 classes (tysG G) s) (hC : Cx G base h H0 H locs) {a : Nat} {i v : Int32} (hk : (hpK h a).1 = 1) (hin : vp_in i (hpK h a).2) (hdg : decode cc pc = .ok (.iastore, 1))
    (kk : ∀ (h1 : Hp) (H1 : Heap) (locs1 : List Loc), h1 = stI h a i.toNatClampNeg v → Cx G base h1 H0 H1 locs1 → W p l e R s m args below meth c H1 locs1 cells slots Q (F0 m (pc + 1) ls rest)) : W p l e R s m args below meth c H locs cells slots Q (F0 m pc ls (.int v :: .int i :: .ref a :: rest)) := by
  obtain ⟨hbs, hP, hS⟩ := hC
  obtain ⟨L, hL, hP, hD, haL, k0, hk1⟩ := PH_at hP (a := a) (by omega)
  have hk0 := hk1
  rw [eOf_1 hk] at hk0
  refine va_iast hx hb hg hP hD hS k0 0 hk0 rfl hin hdg (fun H1 locs1 P1 D1 S1 => kk _ H1 locs1 rfl ⟨hbs, PH_set hL hD haL hk1 (fun _ => rfl) ?_ (fun b hb => eOf_stI hb) P1 D1, S1⟩)
  rw [eOf_1 (h := stI h a i.toNatClampNeg v) hk, hpI_stI_self]
  rfl
theorem r_last (hx : p.tables.exec = Jvm.exec) (hb : c.code = cc) (hg : va_K G.1 classes (tysG G) s) (hC : Cx G base h H0 H locs) {a : Nat} {i : Int32} {v : Int64} (hk : (hpK h a).1 = 2) (hin : vp_in i (hpK h a).2) (hdg : decode cc pc = .ok (.lastore, 1))
    (kk : ∀ (h1 : Hp) (H1 : Heap) (locs1 : List Loc), h1 = stL h a i.toNatClampNeg v → Cx G base h1 H0 H1 locs1 → W p l e R s m args below meth c H1 locs1 cells slots Q (F0 m (pc + 1) ls rest)) : W p l e R s m args below meth c H locs cells slots Q (F0 m pc ls (.long v :: .int i :: .ref a :: rest)) := by
  obtain ⟨hbs, hP, hS⟩ := hC
  obtain ⟨L, hL, hP, hD, haL, k0, hk1⟩ := PH_at hP (a := a) (by omega)
  have hk0 := hk1
  rw [eOf_2 hk] at hk0
  refine va_last hx hb hg hP hD hS k0 1 hk0 rfl hin hdg (fun H1 locs1 P1 D1 S1 => kk _ H1 locs1 rfl ⟨hbs, PH_set hL hD haL hk1 (fun _ => rfl) ?_ (fun b hb => eOf_stL hb) P1 D1, S1⟩)
  rw [eOf_2 (h := stL h a i.toNatClampNeg v) hk, hpL_stL_self]
  rfl
theorem r_aast (hx : p.tables.exec = Jvm.exec) (hb : c.code = cc) (hg : va_K G.1 classes (tysG G) s) (hC : Cx G base h H0 H locs) {a v kd t0 ci : Nat} {q : vw_C} {i : Int32} (hk : (hpK h a).1 = kd) (h2 : 2 < kd ∧ kd < 20) (ht : (tysG G)[t0]? = some (G.2.1 kd, .object q.1)) (hc : classes[ci]? = some q) (hv : (hpK h v).1 = 20 + ci) (hin : vp_in i (hpK h a).2) (hdg : decode cc pc = .ok (.aastore, 1))
    (kk : ∀ (h1 : Hp) (H1 : Heap) (locs1 : List Loc), h1 = stR h a i.toNatClampNeg (some v) → Cx G base h1 H0 H1 locs1 → W p l e R s m args below meth c H1 locs1 cells slots Q (F0 m (pc + 1) ls rest)) : W p l e R s m args below meth c H locs cells slots Q (F0 m pc ls (.ref v :: .int i :: .ref a :: rest)) := by
  obtain ⟨hbs, ⟨L, hL, hP, hD⟩, hS⟩ := hC
  have haL : a ∈ L := (hL a).mpr (by omega)
  have hvL : v ∈ L := (hL v).mpr (by omega)
  obtain ⟨k0, hk1⟩ := va_pl_get (X := []) (f := eOf G.2.1 h) haL
  obtain ⟨kv, hkv⟩ := va_pl_get (X := []) (f := eOf G.2.1 h) hvL
  simp only [List.nil_append] at hk1 hkv
  have hk0 := hk1
  rw [eOf_r hk h2.1 h2.2] at hk0
  rw [eOf_o hv] at hkv
  refine va_astq hx hb hg hP hD hS k0 t0 kv ci hk0 ht hkv hc hin hdg (fun H1 locs1 P1 D1 S1 => kk _ H1 locs1 rfl ⟨hbs, PH_set hL hD haL hk1 (fun _ => rfl) ?_ (fun b hb => eOf_stR hb) P1 D1, S1⟩)
  rw [eOf_r (h := stR h a i.toNatClampNeg (some v)) hk h2.1 h2.2, hpR_stR_self]
  rfl
theorem r_alen (hx : p.tables.exec = Jvm.exec) (hb : c.code = cc) (hg : va_K G.1 classes (tysG G) s) (hC : Cx G base h H0 H locs) {a : Nat} (hk : (hpK h a).1 = 1) (hdg : decode cc pc = .ok (.arraylength, 1))
    (kk : W p l e R s m args below meth c H locs cells slots Q (F0 m (pc + 1) ls (.int (nI (hpK h a).2) :: rest))) : W p l e R s m args below meth c H locs cells slots Q (F0 m pc ls (.ref a :: rest)) := by
  obtain ⟨-, hP, -⟩ := hC
  obtain ⟨L, hL, hP, hD, haL, k0, hk0⟩ := PH_at hP (a := a) (by omega)
  rw [eOf_1 hk] at hk0
  exact va_alen hx hb hg hP k0 0 hk0 rfl (v := nI (hpK h a).2) rfl hdg kk
/-! new cells -/
theorem eOf_alc {ca : Nat → ClassId} {a b kd n : Nat} (hb : b ≠ a) : eOf ca (alc h a kd n) b = eOf ca h b := eOf_cg (by simp [hpK, alc, hb]) (by funext j; simp [hpI, alc, hb]) (by funext j; simp [hpL, alc, hb]) (by funext j; simp [hpR, alc, hb])
theorem hpK_alc {a b kd n : Nat} : hpK (alc h a kd n) b = if b = a then (kd, n) else hpK h b := rfl
theorem Cx_A (hC : Cx G base h H0 H locs) : ∀ q, H0.size ≤ q → (fun q => base ≤ q) q := fun q hq => Nat.le_trans hC.1 hq
theorem ra_int {s : State} {c1 c2 : ClassId} (h1 : va_RA s c1 .int) (h2 : va_RA s c2 .int) : c1 = c2 := Option.some.inj (h1.symm.trans h2)
theorem ra_long {s : State} {c1 c2 : ClassId} (h1 : va_RA s c1 .long) (h2 : va_RA s c2 .long) : c1 = c2 := Option.some.inj (h1.symm.trans h2)
theorem ra_obj {s : State} {C : String} {c1 c2 : ClassId} (h1 : va_RA s c1 (.object C)) (h2 : va_RA s c2 (.object C)) : c1 = c2 := by
  obtain ⟨_, _, _, _, _, q1⟩ := h1
  obtain ⟨_, _, _, _, _, q2⟩ := h2
  exact Option.some.inj (q1.symm.trans q2)
theorem r_newI (hx : p.tables.exec = Jvm.exec) (hb : c.code = cc) (hts : ∀ w ∈ lw_ok, w.before args s = true) (hw : Cond.arrayClass .int ∈ lw_ok) (hg : va_K G.1 classes (tysG G) s) (hC : Cx G base h H0 H locs) {n : Int32} {N : Nat} (hn : ¬ n < 0) (hN : n.toNatClampNeg = N) (hby : N ≤ 100000) (hcells : cells + 1 ≤ R.cells) (hslots : slots + N ≤ R.slots) (hdg : decode cc pc = .ok (.newarray .int, 2))
    (kk : ∀ (a : Nat) (h1 : Hp) (H1 : Heap), (hpK h a).1 = 0 → h1 = alc h a 1 N → Cx G base h1 H0 H1 locs → W p l e R s m args below meth c H1 locs (cells + 1) (slots + N) Q (F0 m (pc + 2) ls (.ref a :: rest))) : W p l e R s m args below meth c H locs cells slots Q (F0 m pc ls (.int n :: rest)) := by
  have hA := Cx_A hC
  obtain ⟨hbs, ⟨L, hL, hP, hD⟩, hS⟩ := hC
  refine va_newa hx hb (atype := .int) (ty := .int) (a0 := (N, .inl (fun _ => 0))) (hts _ hw) rfl hg hP hD hS hA (fun cA => rfl) hn hN (by show N * 4 ≤ _; omega) hcells hslots hdg (fun q cA H1 hK1 P1 D1 S1 => ?_)
  have ho := new_out D1
  have h0 : (hpK h q).1 = 0 := by
    by_cases h0 : (hpK h q).1 = 0
    · exact h0
    · exact absurd ((hL q).mpr h0) ho
  have hcA : cA = G.2.1 1 := ra_int (hK1.2 7 (cA, .int) rfl).2 (hg.2 0 (G.2.1 1, .int) rfl).2
  subst hcA
  refine kk q _ H1 h0 rfl ⟨hbs, PH_new hL ho (fun b hb => by rw [hpK_alc, if_neg hb]) (by rw [hpK_alc, if_pos rfl]; exact Nat.succ_ne_zero _) ?_ (fun b hb => eOf_alc hb) P1 D1, S1⟩
  rw [eOf_1 (by rw [hpK_alc, if_pos rfl]), hpK_alc, if_pos rfl]
  congr 4
  funext j; simp [hpI, alc]
theorem r_newL (hx : p.tables.exec = Jvm.exec) (hb : c.code = cc) (hts : ∀ w ∈ lw_ok, w.before args s = true) (hw : Cond.arrayClass .long ∈ lw_ok) (hg : va_K G.1 classes (tysG G) s) (hC : Cx G base h H0 H locs) {n : Int32} {N : Nat} (hn : ¬ n < 0) (hN : n.toNatClampNeg = N) (hby : N ≤ 100000) (hcells : cells + 1 ≤ R.cells) (hslots : slots + N ≤ R.slots) (hdg : decode cc pc = .ok (.newarray .long, 2))
    (kk : ∀ (a : Nat) (h1 : Hp) (H1 : Heap), (hpK h a).1 = 0 → h1 = alc h a 2 N → Cx G base h1 H0 H1 locs → W p l e R s m args below meth c H1 locs (cells + 1) (slots + N) Q (F0 m (pc + 2) ls (.ref a :: rest))) : W p l e R s m args below meth c H locs cells slots Q (F0 m pc ls (.int n :: rest)) := by
  have hA := Cx_A hC
  obtain ⟨hbs, ⟨L, hL, hP, hD⟩, hS⟩ := hC
  refine va_newa hx hb (atype := .long) (ty := .long) (a0 := (N, .inr (.inl (fun _ => 0)))) (hts _ hw) rfl hg hP hD hS hA (fun cA => rfl) hn hN (by show N * 8 ≤ _; omega) hcells hslots hdg (fun q cA H1 hK1 P1 D1 S1 => ?_)
  have ho := new_out D1
  have h0 : (hpK h q).1 = 0 := by
    by_cases h0 : (hpK h q).1 = 0
    · exact h0
    · exact absurd ((hL q).mpr h0) ho
  have hcA : cA = G.2.1 2 := ra_long (hK1.2 7 (cA, .long) rfl).2 (hg.2 1 (G.2.1 2, .long) rfl).2
  subst hcA
  refine kk q _ H1 h0 rfl ⟨hbs, PH_new hL ho (fun b hb => by rw [hpK_alc, if_neg hb]) (by rw [hpK_alc, if_pos rfl]; exact Nat.succ_ne_zero _) ?_ (fun b hb => eOf_alc hb) P1 D1, S1⟩
  rw [eOf_2 (by rw [hpK_alc, if_pos rfl]), hpK_alc, if_pos rfl]
  congr 5
  funext j; simp [hpL, alc]
theorem r_newA {own C : String} {index kd t0 : Nat} (hx : p.tables.exec = Jvm.exec) (hb : c.code = cc) (hts : ∀ w ∈ lw_ok, w.before args s = true) (hown : s.vm.findClass own = some m.cls) (hw : Cond.classLink own index C ∈ lw_ok) (hov : va_AO C s) (hg : va_K G.1 classes (tysG G) s) (hC : Cx G base h H0 H locs) (h2 : 2 < kd ∧ kd < 20) (ht : (tysG G)[t0]? = some (G.2.1 kd, .object C)) {n : Int32} {N : Nat} (hn : ¬ n < 0) (hN : n.toNatClampNeg = N) (hby : N ≤ 100000) (hcells : cells + 1 ≤ R.cells) (hslots : slots + N ≤ R.slots) (hdg : decode cc pc = .ok (.anewarray index, 3))
    (kk : ∀ (a : Nat) (h1 : Hp) (H1 : Heap), (hpK h a).1 = 0 → h1 = alc h a kd N → Cx G base h1 H0 H1 locs → W p l e R s m args below meth c H1 locs (cells + 1) (slots + N) Q (F0 m (pc + 3) ls (.ref a :: rest))) : W p l e R s m args below meth c H locs cells slots Q (F0 m pc ls (.int n :: rest)) := by
  have hA := Cx_A hC
  obtain ⟨hbs, ⟨L, hL, hP, hD⟩, hS⟩ := hC
  refine va_newq hx hb hown (hts _ hw) hov hg hP hD hS hA hn hN (by omega) hcells hslots hdg (fun q cA H1 hK1 P1 D1 S1 => ?_)
  have ho := new_out D1
  have h0 : (hpK h q).1 = 0 := by
    by_cases h0 : (hpK h q).1 = 0
    · exact h0
    · exact absurd ((hL q).mpr h0) ho
  have hcA : cA = G.2.1 kd := ra_obj (hK1.2 7 (cA, .object C) rfl).2 (hg.2 t0 (G.2.1 kd, .object C) ht).2
  subst hcA
  have hkd : hpK (alc h q kd N) q = (kd, N) := by rw [hpK_alc, if_pos rfl]
  refine kk q _ H1 h0 rfl ⟨hbs, PH_new hL ho (fun b hb => by rw [hpK_alc, if_neg hb]) (by rw [hkd]; show kd ≠ 0; omega) ?_ (fun b hb => eOf_alc hb) P1 D1, S1⟩
  rw [eOf_r (kd := kd) (by rw [hkd]) h2.1 h2.2, hkd]
  congr 8
  funext j; simp [hpR, alc]
theorem flds_0 {ci : Nat} {T : u_T} {C : String} {N : Nat} {ty : Nat → FieldType} (hc : CBn ci C T N ty) (hr : ∀ j, j < N → (rtab.getD ci [])[j]? = some false → defaultValue (ty j) = .int 0) (hr2 : ∀ j, j < N → (rtab.getD ci [])[j]? = some true → defaultValue (ty j) = .null) : ∀ j, j < N → defaultValue (ty j) = vp_V (flds ci (fun _ => 0) (fun _ => none)) j := by
  intro j hj
  have hl : j < (rtab.getD ci []).length := by rw [hc.2.2.2.2]; exact hj
  have hb := List.getElem?_eq_getElem hl
  unfold vp_V
  rw [List.getD_eq_getElem?_getD, flds_at]
  cases hv : (rtab.getD ci [])[j] with
  | false => rw [hv] at hb; rw [hb, hr j hj hb]; rfl
  | true => rw [hv] at hb; rw [hb, hr2 j hj hb]; rfl
theorem r_new {own C : String} {T : u_T} {N ci index : Nat} {ty : Nat → FieldType} (hx : p.tables.exec = Jvm.exec) (hb : c.code = cc) (hts : ∀ w ∈ lw_ok, w.before args s = true) (hown : s.vm.findClass own = some m.cls) (hg : va_K G.1 classes (tysG G) s) (hC : Cx G base h H0 H locs) (cb : CBn ci C T N ty) (hdf : ∀ j, j < N → defaultValue (ty j) = vp_V (flds ci (fun _ => 0) (fun _ => none)) j) (hw : Cond.classLink own index C ∈ lw_ok) (hw2 : Cond.instantiable C N ∈ lw_ok) (hw3 : Cond.initialized C ∈ lw_ok) (hcells : cells + 1 ≤ R.cells) (hslots : slots + N ≤ R.slots) (hdg : decode cc pc = .ok (.new index, 3))
    (kk : ∀ (a : Nat) (h1 : Hp) (H1 : Heap), (hpK h a).1 = 0 → h1 = alc h a (20 + ci) 0 → Cx G base h1 H0 H1 locs → W p l e R s m args below meth c H1 locs (cells + 1) (slots + N) Q (F0 m (pc + 3) ls (.ref a :: rest))) : W p l e R s m args below meth c H locs cells slots Q (F0 m pc ls rest) := by
  have hA := Cx_A hC
  obtain ⟨hbs, ⟨L, hL, hP, hD⟩, hS⟩ := hC
  obtain ⟨c1, c2, c3, c4, c5⟩ := cb
  refine va_new hx hb hts c2 ty c3 hown (hts _ hw) (hts _ hw2) (hts _ hw3) hg hP hD hS hA c1 hdf hcells hslots hdg (fun q H1 P1 D1 S1 => ?_)
  have ho := new_out D1
  have h0 : (hpK h q).1 = 0 := by
    by_cases h0 : (hpK h q).1 = 0
    · exact h0
    · exact absurd ((hL q).mpr h0) ho
  have hkd : hpK (alc h q (20 + ci) 0) q = (20 + ci, 0) := by rw [hpK_alc, if_pos rfl]
  refine kk q _ H1 h0 rfl ⟨hbs, PH_new hL ho (fun b hb => by rw [hpK_alc, if_neg hb]) (by rw [hkd]; show 20 + ci ≠ 0; omega) ?_ (fun b hb => eOf_alc hb) P1 D1, S1⟩
  rw [eOf_o (ci := ci) (by rw [hkd])]
  have e1 : hpI (alc h q (20 + ci) 0) q = fun _ => 0 := by funext j; simp [hpI, alc]
  have e2 : hpR (alc h q (20 + ci) 0) q = fun _ => none := by funext j; simp [hpR, alc]
  rw [e1, e2]
end HK
