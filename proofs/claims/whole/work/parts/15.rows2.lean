/-! ROWS AND CALLS by names (my own) -/
def Cx2 (G : GG) (base : Nat) (A0 : Nat → Nat) (g0 : Hp) (A : Nat → Nat) (g : Hp) (H0 H : Heap) (locs : List Loc) : Prop := Cx G base (mv A g) H0 H locs ∧ Inj A g ∧ Cl g ∧ EM A0 g0 A g
def PU2 (G : GG) (base : Nat) (A0 : Nat → Nat) (g0 : Hp) (A : Nat → Nat) (g : Hp) (U : State) : Prop := PU G base (mv A g) U ∧ Inj A g ∧ Cl g ∧ EM A0 g0 A g
theorem EM.rf {A : Nat → Nat} {g : Hp} : EM A g A g := fun _ _ => ⟨rfl, rfl⟩
theorem EM.tr {A0 A1 A2 : Nat → Nat} {g0 g1 g2 : Hp} (h1 : EM A0 g0 A1 g1) (h2 : EM A1 g1 A2 g2) : EM A0 g0 A2 g2 := by
  intro a ha
  obtain ⟨e1, e2⟩ := h1 a ha
  obtain ⟨e3, e4⟩ := h2 a (by rw [e1]; exact ha)
  exact ⟨e3.trans e1, e4.trans e2⟩
theorem EM.map {A A1 : Nat → Nat} {g g1 : Hp} (h : EM A g A1 g1) {r : Option Nat} (hr : okP g r) : Option.map A r = Option.map A1 r := by
  cases r with
  | none => rfl
  | some b => simp [(h b (hr b rfl)).2]
theorem okP_some {g : Hp} {a : Nat} (h : (hpK g a).1 ≠ 0) : okP g (some a) := fun b e => by cases e; exact h
theorem Cl_stR {g : Hp} (hc : Cl g) {a k : Nat} {v : Option Nat} (hv : okP g v) : Cl (stR g a k v) := by
  intro c j b hcn hb
  show (hpK g b).1 ≠ 0
  have hcn : (hpK g c).1 ≠ 0 := hcn
  by_cases hx : c = a ∧ j = k
  · have : hpR (stR g a k v) c j = v := by simp [hpR, stR, hx]
    rw [this] at hb
    exact hv b hb
  · have : hpR (stR g a k v) c j = hpR g c j := by simp only [hpR, stR, if_neg hx]
    rw [this] at hb
    exact hc c j b hcn hb
theorem Cl_alc {g : Hp} (hc : Cl g) {r kd n : Nat} (hk : kd ≠ 0) : Cl (alc g r kd n) := by
  intro c j b hcn hb
  by_cases hcr : c = r
  · have : hpR (alc g r kd n) c j = none := by simp [hpR, alc, hcr]
    rw [this] at hb; cases hb
  · have e1 : hpR (alc g r kd n) c j = hpR g c j := by simp [hpR, alc, hcr]
    have e2 : hpK (alc g r kd n) c = hpK g c := by rw [hpK_alc, if_neg hcr]
    rw [e1] at hb; rw [e2] at hcn
    have h1 := hc c j b hcn hb
    rw [hpK_alc]
    by_cases hbr : b = r
    · rw [if_pos hbr]; exact hk
    · rw [if_neg hbr]; exact h1
theorem Cl_clI {g : Hp} (hc : Cl g) {r x : Nat} : Cl (clI g r x) := by
  intro c j b hcn hb
  by_cases hcr : c = r
  · have : hpR (clI g r x) c j = none := by simp [hpR, clI, hcr]
    rw [this] at hb; cases hb
  · have e1 : hpR (clI g r x) c j = hpR g c j := by simp [hpR, clI, hcr]
    have e2 : hpK (clI g r x) c = hpK g c := by simp [hpK, clI, hcr]
    rw [e1] at hb; rw [e2] at hcn
    have h1 := hc c j b hcn hb
    by_cases hbr : b = r
    · have : hpK (clI g r x) b = (1, (hpK g x).2) := by simp [hpK, clI, hbr]
      rw [this]; exact Nat.succ_ne_zero _
    · have : hpK (clI g r x) b = hpK g b := by simp [hpK, clI, hbr]
      rw [this]; exact h1
theorem Inj_up {A : Nat → Nat} {g g1 : Hp} {r q : Nat} (hi : Inj A g) (hq : nmA A (hpK g) q = none) (hK : ∀ b, b ≠ r → hpK g1 b = hpK g b) : Inj (va_up A r q) g1 := by
  intro a b ha hb e
  by_cases har : a = r
  · by_cases hbr : b = r
    · rw [har, hbr]
    · rw [har, va_up_self, va_up_ne _ _ hbr] at e
      rw [hK b hbr] at hb
      exact absurd e.symm (nmA_none hq b hb)
  · by_cases hbr : b = r
    · rw [hbr, va_up_self, va_up_ne _ _ har] at e
      rw [hK a har] at ha
      exact absurd e (nmA_none hq a ha)
    · rw [va_up_ne _ _ har, va_up_ne _ _ hbr] at e
      rw [hK a har] at ha; rw [hK b hbr] at hb
      exact hi a b ha hb e
theorem EM_up {A : Nat → Nat} {g g1 : Hp} {r q : Nat} (hr : (hpK g r).1 = 0) (hK : ∀ b, b ≠ r → hpK g1 b = hpK g b) : EM A g (va_up A r q) g1 := by
  intro a ha
  have : a ≠ r := fun e => by rw [e] at ha; exact ha hr
  exact ⟨hK a this, va_up_ne _ _ this⟩
section H2
variable {p : Program} {l : Launch} {e : Env} {R : Room} {s : State} {m : MethodId} {args : Array Value} {below : List Frame} {meth : Method} {c : Code} {H : Heap} {locs : List Loc} {cells slots : Nat} {Q : State → Prop}
variable {cc : ByteArray} {pc : Nat} {ls : Array Slot} {rest : List Value} {G : GG} {base : Nat} {A0 A : Nat → Nat} {g0 g : Hp} {H0 : Heap}

theorem sf_1 {r : Option Nat} (hr : r = some (ad r)) (k : W p l e R s m args below meth c H locs cells slots Q (F0 m pc ls (.ref (A (ad r)) :: rest))) : W p l e R s m args below meth c H locs cells slots Q (F0 m pc ls (va_rf (Option.map A r) :: rest)) := by
  have e : va_rf (Option.map A r) = .ref (A (ad r)) := by rw [hr]; rfl
  rw [e]; exact k
theorem sf_2 {r : Option Nat} {v1 : Value} (hr : r = some (ad r)) (k : W p l e R s m args below meth c H locs cells slots Q (F0 m pc ls (v1 :: .ref (A (ad r)) :: rest))) : W p l e R s m args below meth c H locs cells slots Q (F0 m pc ls (v1 :: va_rf (Option.map A r) :: rest)) := by
  have e : va_rf (Option.map A r) = .ref (A (ad r)) := by rw [hr]; rfl
  rw [e]; exact k
theorem sf_3 {r : Option Nat} {v1 v2 : Value} (hr : r = some (ad r)) (k : W p l e R s m args below meth c H locs cells slots Q (F0 m pc ls (v1 :: v2 :: .ref (A (ad r)) :: rest))) : W p l e R s m args below meth c H locs cells slots Q (F0 m pc ls (v1 :: v2 :: va_rf (Option.map A r) :: rest)) := by
  have e : va_rf (Option.map A r) = .ref (A (ad r)) := by rw [hr]; rfl
  rw [e]; exact k
theorem sf_4 {r : Option Nat} {v1 v2 v3 : Value} (hr : r = some (ad r)) (k : W p l e R s m args below meth c H locs cells slots Q (F0 m pc ls (v1 :: v2 :: v3 :: .ref (A (ad r)) :: rest))) : W p l e R s m args below meth c H locs cells slots Q (F0 m pc ls (v1 :: v2 :: v3 :: va_rf (Option.map A r) :: rest)) := by
  have e : va_rf (Option.map A r) = .ref (A (ad r)) := by rw [hr]; rfl
  rw [e]; exact k
theorem sf_5 {r : Option Nat} {v1 v2 v3 v4 : Value} (hr : r = some (ad r)) (k : W p l e R s m args below meth c H locs cells slots Q (F0 m pc ls (v1 :: v2 :: v3 :: v4 :: .ref (A (ad r)) :: rest))) : W p l e R s m args below meth c H locs cells slots Q (F0 m pc ls (v1 :: v2 :: v3 :: v4 :: va_rf (Option.map A r) :: rest)) := by
  have e : va_rf (Option.map A r) = .ref (A (ad r)) := by rw [hr]; rfl
  rw [e]; exact k
theorem sf_6 {r : Option Nat} {v1 v2 v3 v4 v5 : Value} (hr : r = some (ad r)) (k : W p l e R s m args below meth c H locs cells slots Q (F0 m pc ls (v1 :: v2 :: v3 :: v4 :: v5 :: .ref (A (ad r)) :: rest))) : W p l e R s m args below meth c H locs cells slots Q (F0 m pc ls (v1 :: v2 :: v3 :: v4 :: v5 :: va_rf (Option.map A r) :: rest)) := by
  have e : va_rf (Option.map A r) = .ref (A (ad r)) := by rw [hr]; rfl
  rw [e]; exact k
theorem mapn {r : Option Nat} : Option.map A r = none ↔ r = none := by cases r <;> simp
theorem s_ifnull (hx : p.tables.exec = Jvm.exec) (hb : c.code = cc) {r : Option Nat} {off : Int} {tgt : Nat} (hdg : decode cc pc = .ok (.ifnull off, 3)) (ht : (pc : Int) + off = (tgt : Int)) (kt : r = none → W p l e R s m args below meth c H locs cells slots Q (F0 m tgt ls rest)) (kf : ¬ r = none → W p l e R s m args below meth c H locs cells slots Q (F0 m (pc + 3) ls rest)) : W p l e R s m args below meth c H locs cells slots Q (F0 m pc ls (va_rf (Option.map A r) :: rest)) :=
  lo_ifnull hx hb hdg ht (fun h => kt (mapn.mp h)) (fun h => kf (fun h2 => h (mapn.mpr h2)))
theorem s_ifnonnull (hx : p.tables.exec = Jvm.exec) (hb : c.code = cc) {r : Option Nat} {off : Int} {tgt : Nat} (hdg : decode cc pc = .ok (.ifnonnull off, 3)) (ht : (pc : Int) + off = (tgt : Int)) (kt : ¬ r = none → W p l e R s m args below meth c H locs cells slots Q (F0 m tgt ls rest)) (kf : r = none → W p l e R s m args below meth c H locs cells slots Q (F0 m (pc + 3) ls rest)) : W p l e R s m args below meth c H locs cells slots Q (F0 m pc ls (va_rf (Option.map A r) :: rest)) :=
  lo_ifnonnull hx hb hdg ht (fun h => kt (fun h2 => h (mapn.mpr h2))) (fun h => kf (mapn.mp h))
theorem s_getI {own C : String} {T : u_T} {N ci index k : Nat} {ty : Nat → FieldType} {nm ds : String} {fin : Bool} {t : FieldType} (hx : p.tables.exec = Jvm.exec) (hb : c.code = cc) (hts : ∀ w ∈ lw_ok, w.before args s = true) (hown : s.vm.findClass own = some m.cls) (hg : va_K G.1 classes (tysG G) s) (hC : Cx2 G base A0 g0 A g H0 H locs) (fb : FB ci C T N ty k false nm ds fin t) {a : Nat} (hk : (hpK g a).1 = 20 + ci) (hw : Cond.fieldLink own index C nm ds ∈ lw_ok) (hdg : decode cc pc = .ok (.getfield index, 3)) (kk : W p l e R s m args below meth c H locs cells slots Q (F0 m (pc + 3) ls (.int (hpI g a k) :: rest))) : W p l e R s m args below meth c H locs cells slots Q (F0 m pc ls (.ref (A a) :: rest)) := by
  have hne : (hpK g a).1 ≠ 0 := by omega
  refine r_getI hx hb hts hown hg hC.1 fb (by rw [mvK hC.2.1 hne]; exact hk) hw hdg ?_
  rw [mvI hC.2.1 hne]; exact kk
theorem s_getR {own C : String} {T : u_T} {N ci index k : Nat} {ty : Nat → FieldType} {nm ds : String} {fin : Bool} {t : FieldType} (hx : p.tables.exec = Jvm.exec) (hb : c.code = cc) (hts : ∀ w ∈ lw_ok, w.before args s = true) (hown : s.vm.findClass own = some m.cls) (hg : va_K G.1 classes (tysG G) s) (hC : Cx2 G base A0 g0 A g H0 H locs) (fb : FB ci C T N ty k true nm ds fin t) {a : Nat} (hk : (hpK g a).1 = 20 + ci) (hw : Cond.fieldLink own index C nm ds ∈ lw_ok) (hdg : decode cc pc = .ok (.getfield index, 3)) (kk : W p l e R s m args below meth c H locs cells slots Q (F0 m (pc + 3) ls (va_rf (Option.map A (hpR g a k)) :: rest))) : W p l e R s m args below meth c H locs cells slots Q (F0 m pc ls (.ref (A a) :: rest)) := by
  have hne : (hpK g a).1 ≠ 0 := by omega
  refine r_getR hx hb hts hown hg hC.1 fb (by rw [mvK hC.2.1 hne]; exact hk) hw hdg ?_
  rw [mvR hC.2.1 hne]; exact kk
theorem s_putI {own C : String} {T : u_T} {N ci index k : Nat} {ty : Nat → FieldType} {nm ds : String} {t : FieldType} (hx : p.tables.exec = Jvm.exec) (hb : c.code = cc) (hts : ∀ w ∈ lw_ok, w.before args s = true) (hown : s.vm.findClass own = some m.cls) (hg : va_K G.1 classes (tysG G) s) (hC : Cx2 G base A0 g0 A g H0 H locs) (fb : FB ci C T N ty k false nm ds false t) {a : Nat} {v : Int32} (hk : (hpK g a).1 = 20 + ci) (hn : narrow t (.int v) = .int v) (hfit : fits t (.int v) = true) (hw : Cond.fieldLink own index C nm ds ∈ lw_ok) (hdg : decode cc pc = .ok (.putfield index, 3)) (kk : ∀ (h1 : Hp) (H1 : Heap) (locs1 : List Loc), h1 = stI g a k v → Cx2 G base A0 g0 A h1 H0 H1 locs1 → W p l e R s m args below meth c H1 locs1 cells slots Q (F0 m (pc + 3) ls rest)) : W p l e R s m args below meth c H locs cells slots Q (F0 m pc ls (.int v :: .ref (A a) :: rest)) := by
  have hne : (hpK g a).1 ≠ 0 := by omega
  refine r_putI hx hb hts hown hg hC.1 fb (by rw [mvK hC.2.1 hne]; exact hk) hn hfit hw hdg (fun h1 H1 locs1 e1 hC1 => kk _ H1 locs1 rfl ⟨?_, hC.2.1, hC.2.2.1, hC.2.2.2⟩)
  rw [e1, mv_stI hC.2.1 hne] at hC1; exact hC1
theorem s_putR {own C : String} {T : u_T} {N ci index k : Nat} {ty : Nat → FieldType} {nm ds : String} {t : FieldType} (hx : p.tables.exec = Jvm.exec) (hb : c.code = cc) (hts : ∀ w ∈ lw_ok, w.before args s = true) (hown : s.vm.findClass own = some m.cls) (hg : va_K G.1 classes (tysG G) s) (hC : Cx2 G base A0 g0 A g H0 H locs) (fb : FB ci C T N ty k true nm ds false t) {a : Nat} {v : Option Nat} (hk : (hpK g a).1 = 20 + ci) (hv : okP g v) (hn : ∀ r, narrow t (va_rf r) = va_rf r) (hfit : ∀ r, fits t (va_rf r) = true) (hw : Cond.fieldLink own index C nm ds ∈ lw_ok) (hdg : decode cc pc = .ok (.putfield index, 3)) (kk : ∀ (h1 : Hp) (H1 : Heap) (locs1 : List Loc), h1 = stR g a k v → Cx2 G base A0 g0 A h1 H0 H1 locs1 → W p l e R s m args below meth c H1 locs1 cells slots Q (F0 m (pc + 3) ls rest)) : W p l e R s m args below meth c H locs cells slots Q (F0 m pc ls (va_rf (Option.map A v) :: .ref (A a) :: rest)) := by
  have hne : (hpK g a).1 ≠ 0 := by omega
  refine r_putR hx hb hts hown hg hC.1 fb (by rw [mvK hC.2.1 hne]; exact hk) hn hfit hw hdg (fun h1 H1 locs1 e1 hC1 => kk _ H1 locs1 rfl ⟨?_, hC.2.1, Cl_stR hC.2.2.1 hv, hC.2.2.2⟩)
  rw [e1, mv_stR hC.2.1 hne] at hC1; exact hC1
theorem s_putFI {own : String} {T : u_T} {N ci index k : Nat} {ty : Nat → FieldType} {nm ds : String} {t : FieldType} (hx : p.tables.exec = Jvm.exec) (hb : c.code = cc) (hts : ∀ w ∈ lw_ok, w.before args s = true) (hown : s.vm.findClass own = some m.cls) (hin2 : meth.name = "<init>") (hg : va_K G.1 classes (tysG G) s) (hC : Cx2 G base A0 g0 A g H0 H locs) (fb : FB ci own T N ty k false nm ds true t) {a : Nat} {v : Int32} (hk : (hpK g a).1 = 20 + ci) (hn : narrow t (.int v) = .int v) (hfit : fits t (.int v) = true) (hw : Cond.fieldLink own index own nm ds ∈ lw_ok) (hdg : decode cc pc = .ok (.putfield index, 3)) (kk : ∀ (h1 : Hp) (H1 : Heap) (locs1 : List Loc), h1 = stI g a k v → Cx2 G base A0 g0 A h1 H0 H1 locs1 → W p l e R s m args below meth c H1 locs1 cells slots Q (F0 m (pc + 3) ls rest)) : W p l e R s m args below meth c H locs cells slots Q (F0 m pc ls (.int v :: .ref (A a) :: rest)) := by
  have hne : (hpK g a).1 ≠ 0 := by omega
  refine r_putFI hx hb hts hown hin2 hg hC.1 fb (by rw [mvK hC.2.1 hne]; exact hk) hn hfit hw hdg (fun h1 H1 locs1 e1 hC1 => kk _ H1 locs1 rfl ⟨?_, hC.2.1, hC.2.2.1, hC.2.2.2⟩)
  rw [e1, mv_stI hC.2.1 hne] at hC1; exact hC1
theorem s_putFR {own : String} {T : u_T} {N ci index k : Nat} {ty : Nat → FieldType} {nm ds : String} {t : FieldType} (hx : p.tables.exec = Jvm.exec) (hb : c.code = cc) (hts : ∀ w ∈ lw_ok, w.before args s = true) (hown : s.vm.findClass own = some m.cls) (hin2 : meth.name = "<init>") (hg : va_K G.1 classes (tysG G) s) (hC : Cx2 G base A0 g0 A g H0 H locs) (fb : FB ci own T N ty k true nm ds true t) {a : Nat} {v : Option Nat} (hk : (hpK g a).1 = 20 + ci) (hv : okP g v) (hn : ∀ r, narrow t (va_rf r) = va_rf r) (hfit : ∀ r, fits t (va_rf r) = true) (hw : Cond.fieldLink own index own nm ds ∈ lw_ok) (hdg : decode cc pc = .ok (.putfield index, 3)) (kk : ∀ (h1 : Hp) (H1 : Heap) (locs1 : List Loc), h1 = stR g a k v → Cx2 G base A0 g0 A h1 H0 H1 locs1 → W p l e R s m args below meth c H1 locs1 cells slots Q (F0 m (pc + 3) ls rest)) : W p l e R s m args below meth c H locs cells slots Q (F0 m pc ls (va_rf (Option.map A v) :: .ref (A a) :: rest)) := by
  have hne : (hpK g a).1 ≠ 0 := by omega
  refine r_putFR hx hb hts hown hin2 hg hC.1 fb (by rw [mvK hC.2.1 hne]; exact hk) hn hfit hw hdg (fun h1 H1 locs1 e1 hC1 => kk _ H1 locs1 rfl ⟨?_, hC.2.1, Cl_stR hC.2.2.1 hv, hC.2.2.2⟩)
  rw [e1, mv_stR hC.2.1 hne] at hC1; exact hC1
theorem s_iald (hx : p.tables.exec = Jvm.exec) (hb : c.code = cc) (hg : va_K G.1 classes (tysG G) s) (hC : Cx2 G base A0 g0 A g H0 H locs) {a : Nat} {i : Int32} (hk : (hpK g a).1 = 1) (hin : vp_in i (hpK g a).2) (hdg : decode cc pc = .ok (.iaload, 1)) (kk : W p l e R s m args below meth c H locs cells slots Q (F0 m (pc + 1) ls (.int (hpI g a i.toNatClampNeg) :: rest))) : W p l e R s m args below meth c H locs cells slots Q (F0 m pc ls (.int i :: .ref (A a) :: rest)) := by
  have hne : (hpK g a).1 ≠ 0 := by omega
  refine r_iald hx hb hg hC.1 (by rw [mvK hC.2.1 hne]; exact hk) (by rw [mvK hC.2.1 hne]; exact hin) hdg ?_
  rw [mvI hC.2.1 hne]; exact kk
theorem s_lald (hx : p.tables.exec = Jvm.exec) (hb : c.code = cc) (hg : va_K G.1 classes (tysG G) s) (hC : Cx2 G base A0 g0 A g H0 H locs) {a : Nat} {i : Int32} (hk : (hpK g a).1 = 2) (hin : vp_in i (hpK g a).2) (hdg : decode cc pc = .ok (.laload, 1)) (kk : W p l e R s m args below meth c H locs cells slots Q (F0 m (pc + 1) ls (.long (hpL g a i.toNatClampNeg) :: rest))) : W p l e R s m args below meth c H locs cells slots Q (F0 m pc ls (.int i :: .ref (A a) :: rest)) := by
  have hne : (hpK g a).1 ≠ 0 := by omega
  refine r_lald hx hb hg hC.1 (by rw [mvK hC.2.1 hne]; exact hk) (by rw [mvK hC.2.1 hne]; exact hin) hdg ?_
  rw [mvL hC.2.1 hne]; exact kk
theorem s_aald (hx : p.tables.exec = Jvm.exec) (hb : c.code = cc) (hg : va_K G.1 classes (tysG G) s) (hC : Cx2 G base A0 g0 A g H0 H locs) {a kd t0 : Nat} {C : String} {i : Int32} (hk : (hpK g a).1 = kd) (h2 : 2 < kd ∧ kd < 20) (ht : (tysG G)[t0]? = some (G.2.1 kd, .object C)) (hin : vp_in i (hpK g a).2) (hdg : decode cc pc = .ok (.aaload, 1)) (kk : W p l e R s m args below meth c H locs cells slots Q (F0 m (pc + 1) ls (va_rf (Option.map A (hpR g a i.toNatClampNeg)) :: rest))) : W p l e R s m args below meth c H locs cells slots Q (F0 m pc ls (.int i :: .ref (A a) :: rest)) := by
  have hne : (hpK g a).1 ≠ 0 := by omega
  refine r_aald hx hb hg hC.1 (by rw [mvK hC.2.1 hne]; exact hk) h2 ht (by rw [mvK hC.2.1 hne]; exact hin) hdg ?_
  rw [mvR hC.2.1 hne]; exact kk
theorem s_iast (hx : p.tables.exec = Jvm.exec) (hb : c.code = cc) (hg : va_K G.1 classes (tysG G) s) (hC : Cx2 G base A0 g0 A g H0 H locs) {a : Nat} {i : Int32} (hk : (hpK g a).1 = 1) (hin : vp_in i (hpK g a).2) {v : Int32} (hdg : decode cc pc = .ok (.iastore, 1)) (kk : ∀ (h1 : Hp) (H1 : Heap) (locs1 : List Loc), h1 = stI g a i.toNatClampNeg v → Cx2 G base A0 g0 A h1 H0 H1 locs1 → W p l e R s m args below meth c H1 locs1 cells slots Q (F0 m (pc + 1) ls rest)) : W p l e R s m args below meth c H locs cells slots Q (F0 m pc ls (.int v :: .int i :: .ref (A a) :: rest)) := by
  have hne : (hpK g a).1 ≠ 0 := by omega
  refine r_iast hx hb hg hC.1 (by rw [mvK hC.2.1 hne]; exact hk) (by rw [mvK hC.2.1 hne]; exact hin) hdg (fun h1 H1 locs1 e1 hC1 => kk _ H1 locs1 rfl ⟨?_, hC.2.1, hC.2.2.1, hC.2.2.2⟩)
  rw [e1, mv_stI hC.2.1 hne] at hC1; exact hC1
theorem s_last (hx : p.tables.exec = Jvm.exec) (hb : c.code = cc) (hg : va_K G.1 classes (tysG G) s) (hC : Cx2 G base A0 g0 A g H0 H locs) {a : Nat} {i : Int32} (hk : (hpK g a).1 = 2) (hin : vp_in i (hpK g a).2) {v : Int64} (hdg : decode cc pc = .ok (.lastore, 1)) (kk : ∀ (h1 : Hp) (H1 : Heap) (locs1 : List Loc), h1 = stL g a i.toNatClampNeg v → Cx2 G base A0 g0 A h1 H0 H1 locs1 → W p l e R s m args below meth c H1 locs1 cells slots Q (F0 m (pc + 1) ls rest)) : W p l e R s m args below meth c H locs cells slots Q (F0 m pc ls (.long v :: .int i :: .ref (A a) :: rest)) := by
  have hne : (hpK g a).1 ≠ 0 := by omega
  refine r_last hx hb hg hC.1 (by rw [mvK hC.2.1 hne]; exact hk) (by rw [mvK hC.2.1 hne]; exact hin) hdg (fun h1 H1 locs1 e1 hC1 => kk _ H1 locs1 rfl ⟨?_, hC.2.1, hC.2.2.1, hC.2.2.2⟩)
  rw [e1, mv_stL hC.2.1 hne] at hC1; exact hC1
theorem s_aast (hx : p.tables.exec = Jvm.exec) (hb : c.code = cc) (hg : va_K G.1 classes (tysG G) s) (hC : Cx2 G base A0 g0 A g H0 H locs) {a v kd t0 ci : Nat} {q : vw_C} {i : Int32} (hk : (hpK g a).1 = kd) (h2 : 2 < kd ∧ kd < 20) (ht : (tysG G)[t0]? = some (G.2.1 kd, .object q.1)) (hc : classes[ci]? = some q) (hv : (hpK g v).1 = 20 + ci) (hin : vp_in i (hpK g a).2) (hdg : decode cc pc = .ok (.aastore, 1)) (kk : ∀ (h1 : Hp) (H1 : Heap) (locs1 : List Loc), h1 = stR g a i.toNatClampNeg (some v) → Cx2 G base A0 g0 A h1 H0 H1 locs1 → W p l e R s m args below meth c H1 locs1 cells slots Q (F0 m (pc + 1) ls rest)) : W p l e R s m args below meth c H locs cells slots Q (F0 m pc ls (.ref (A v) :: .int i :: .ref (A a) :: rest)) := by
  have hne : (hpK g a).1 ≠ 0 := by omega
  have hnv : (hpK g v).1 ≠ 0 := by omega
  refine r_aast hx hb hg hC.1 (by rw [mvK hC.2.1 hne]; exact hk) h2 ht hc (by rw [mvK hC.2.1 hnv]; exact hv) (by rw [mvK hC.2.1 hne]; exact hin) hdg (fun h1 H1 locs1 e1 hC1 => kk _ H1 locs1 rfl ⟨?_, hC.2.1, Cl_stR hC.2.2.1 (okP_some hnv), hC.2.2.2⟩)
  rw [e1, show some (A v) = Option.map A (some v) from rfl, mv_stR hC.2.1 hne] at hC1; exact hC1
theorem s_alen (hx : p.tables.exec = Jvm.exec) (hb : c.code = cc) (hg : va_K G.1 classes (tysG G) s) (hC : Cx2 G base A0 g0 A g H0 H locs) {a : Nat} (hk : (hpK g a).1 = 1) (hdg : decode cc pc = .ok (.arraylength, 1)) (kk : W p l e R s m args below meth c H locs cells slots Q (F0 m (pc + 1) ls (.int (nI (hpK g a).2) :: rest))) : W p l e R s m args below meth c H locs cells slots Q (F0 m pc ls (.ref (A a) :: rest)) := by
  have hne : (hpK g a).1 ≠ 0 := by omega
  refine r_alen hx hb hg hC.1 (by rw [mvK hC.2.1 hne]; exact hk) hdg ?_
  rw [mvK hC.2.1 hne]; exact kk
theorem s_newI (hx : p.tables.exec = Jvm.exec) (hb : c.code = cc) (hts : ∀ w ∈ lw_ok, w.before args s = true) (hw : Cond.arrayClass .int ∈ lw_ok) (hg : va_K G.1 classes (tysG G) s) (hC : Cx2 G base A0 g0 A g H0 H locs) (r : Nat) (hr : (hpK g r).1 = 0) {n : Int32} {N : Nat} (hn : ¬ n < 0) (hN : n.toNatClampNeg = N) (hby : N ≤ 100000) (hcells : cells + 1 ≤ R.cells) (hslots : slots + N ≤ R.slots) (hdg : decode cc pc = .ok (.newarray .int, 2)) (kk : ∀ (A1 : Nat → Nat) (h1 : Hp) (H1 : Heap), h1 = alc g r 1 N → EM A g A1 h1 → Cx2 G base A0 g0 A1 h1 H0 H1 locs → W p l e R s m args below meth c H1 locs (cells + 1) (slots + N) Q (F0 m (pc + 2) ls (.ref (A1 r) :: rest))) : W p l e R s m args below meth c H locs cells slots Q (F0 m pc ls (.int n :: rest)) := by
  refine r_newI hx hb hts hw hg hC.1 hn hN hby hcells hslots hdg (fun q h1 H1 k0 e1 hC1 => ?_)
  have hn0 := mv_0 k0
  rw [e1, mv_new hC.2.1 hC.2.2.1 hr k0 (r := r) (by decide)] at hC1
  have hK1 : ∀ b, b ≠ r → hpK (alc g r 1 N) b = hpK g b := fun b hb => by rw [hpK_alc, if_neg hb]
  have hE : EM A g (va_up A r q) (alc g r 1 N) := EM_up hr hK1
  have := kk (va_up A r q) _ H1 rfl hE ⟨hC1, Inj_up hC.2.1 hn0 hK1, Cl_alc hC.2.2.1 (by decide), hC.2.2.2.tr hE⟩
  rw [va_up_self] at this
  exact this
theorem s_newL (hx : p.tables.exec = Jvm.exec) (hb : c.code = cc) (hts : ∀ w ∈ lw_ok, w.before args s = true) (hw : Cond.arrayClass .long ∈ lw_ok) (hg : va_K G.1 classes (tysG G) s) (hC : Cx2 G base A0 g0 A g H0 H locs) (r : Nat) (hr : (hpK g r).1 = 0) {n : Int32} {N : Nat} (hn : ¬ n < 0) (hN : n.toNatClampNeg = N) (hby : N ≤ 100000) (hcells : cells + 1 ≤ R.cells) (hslots : slots + N ≤ R.slots) (hdg : decode cc pc = .ok (.newarray .long, 2)) (kk : ∀ (A1 : Nat → Nat) (h1 : Hp) (H1 : Heap), h1 = alc g r 2 N → EM A g A1 h1 → Cx2 G base A0 g0 A1 h1 H0 H1 locs → W p l e R s m args below meth c H1 locs (cells + 1) (slots + N) Q (F0 m (pc + 2) ls (.ref (A1 r) :: rest))) : W p l e R s m args below meth c H locs cells slots Q (F0 m pc ls (.int n :: rest)) := by
  refine r_newL hx hb hts hw hg hC.1 hn hN hby hcells hslots hdg (fun q h1 H1 k0 e1 hC1 => ?_)
  have hn0 := mv_0 k0
  rw [e1, mv_new hC.2.1 hC.2.2.1 hr k0 (r := r) (by decide)] at hC1
  have hK1 : ∀ b, b ≠ r → hpK (alc g r 2 N) b = hpK g b := fun b hb => by rw [hpK_alc, if_neg hb]
  have hE : EM A g (va_up A r q) (alc g r 2 N) := EM_up hr hK1
  have := kk (va_up A r q) _ H1 rfl hE ⟨hC1, Inj_up hC.2.1 hn0 hK1, Cl_alc hC.2.2.1 (by decide), hC.2.2.2.tr hE⟩
  rw [va_up_self] at this
  exact this
theorem s_newA {own C : String} {index kd t0 : Nat} (hx : p.tables.exec = Jvm.exec) (hb : c.code = cc) (hts : ∀ w ∈ lw_ok, w.before args s = true) (hown : s.vm.findClass own = some m.cls) (hw : Cond.classLink own index C ∈ lw_ok) (hov : va_AO C s) (hg : va_K G.1 classes (tysG G) s) (hC : Cx2 G base A0 g0 A g H0 H locs) (r : Nat) (hr : (hpK g r).1 = 0) (h2 : 2 < kd ∧ kd < 20) (ht : (tysG G)[t0]? = some (G.2.1 kd, .object C)) {n : Int32} {N : Nat} (hn : ¬ n < 0) (hN : n.toNatClampNeg = N) (hby : N ≤ 100000) (hcells : cells + 1 ≤ R.cells) (hslots : slots + N ≤ R.slots) (hdg : decode cc pc = .ok (.anewarray index, 3)) (kk : ∀ (A1 : Nat → Nat) (h1 : Hp) (H1 : Heap), h1 = alc g r kd N → EM A g A1 h1 → Cx2 G base A0 g0 A1 h1 H0 H1 locs → W p l e R s m args below meth c H1 locs (cells + 1) (slots + N) Q (F0 m (pc + 3) ls (.ref (A1 r) :: rest))) : W p l e R s m args below meth c H locs cells slots Q (F0 m pc ls (.int n :: rest)) := by
  refine r_newA hx hb hts hown hw hov hg hC.1 h2 ht hn hN hby hcells hslots hdg (fun q h1 H1 k0 e1 hC1 => ?_)
  have hn0 := mv_0 k0
  rw [e1, mv_new hC.2.1 hC.2.2.1 hr k0 (r := r) (by omega)] at hC1
  have hK1 : ∀ b, b ≠ r → hpK (alc g r kd N) b = hpK g b := fun b hb => by rw [hpK_alc, if_neg hb]
  have hE : EM A g (va_up A r q) (alc g r kd N) := EM_up hr hK1
  have := kk (va_up A r q) _ H1 rfl hE ⟨hC1, Inj_up hC.2.1 hn0 hK1, Cl_alc hC.2.2.1 (by omega), hC.2.2.2.tr hE⟩
  rw [va_up_self] at this
  exact this
theorem s_new {own C : String} {T : u_T} {N ci index : Nat} {ty : Nat → FieldType} (hx : p.tables.exec = Jvm.exec) (hb : c.code = cc) (hts : ∀ w ∈ lw_ok, w.before args s = true) (hown : s.vm.findClass own = some m.cls) (hg : va_K G.1 classes (tysG G) s) (hC : Cx2 G base A0 g0 A g H0 H locs) (cb : CBn ci C T N ty) (hdf : ∀ j, j < N → defaultValue (ty j) = vp_V (flds ci (fun _ => 0) (fun _ => none)) j) (hw : Cond.classLink own index C ∈ lw_ok) (hw2 : Cond.instantiable C N ∈ lw_ok) (hw3 : Cond.initialized C ∈ lw_ok) (r : Nat) (hr : (hpK g r).1 = 0) (hcells : cells + 1 ≤ R.cells) (hslots : slots + N ≤ R.slots) (hdg : decode cc pc = .ok (.new index, 3)) (kk : ∀ (A1 : Nat → Nat) (h1 : Hp) (H1 : Heap), h1 = alc g r (20 + ci) 0 → EM A g A1 h1 → Cx2 G base A0 g0 A1 h1 H0 H1 locs → W p l e R s m args below meth c H1 locs (cells + 1) (slots + N) Q (F0 m (pc + 3) ls (.ref (A1 r) :: rest))) : W p l e R s m args below meth c H locs cells slots Q (F0 m pc ls rest) := by
  refine r_new hx hb hts hown hg hC.1 cb hdf hw hw2 hw3 hcells hslots hdg (fun q h1 H1 k0 e1 hC1 => ?_)
  have hn0 := mv_0 k0
  rw [e1, mv_new hC.2.1 hC.2.2.1 hr k0 (r := r) (by omega)] at hC1
  have hK1 : ∀ b, b ≠ r → hpK (alc g r (20 + ci) 0) b = hpK g b := fun b hb => by rw [hpK_alc, if_neg hb]
  have hE : EM A g (va_up A r q) (alc g r (20 + ci) 0) := EM_up hr hK1
  have := kk (va_up A r q) _ H1 rfl hE ⟨hC1, Inj_up hC.2.1 hn0 hK1, Cl_alc hC.2.2.1 (by omega), hC.2.2.2.tr hE⟩
  rw [va_up_self] at this
  exact this
theorem s_cast {own : String} {index a : Nat} (hx : p.tables.exec = Jvm.exec) (hb : c.code = cc) (hown : s.vm.findClass own = some m.cls) (hlink : (Cond.classLink own index "[I").before args s = true) (hg : va_K G.1 classes (tysG G) s) (hC : Cx2 G base A0 g0 A g s.heap H locs) (hk : (hpK g a).1 = 1) (hdg : decode cc pc = .ok (.checkcast index, 3)) (kk : W p l e R s m args below meth c H locs cells slots Q (F0 m (pc + 3) ls (.ref (A a) :: rest))) : W p l e R s m args below meth c H locs cells slots Q (F0 m pc ls (.ref (A a) :: rest)) := by
  have hne : (hpK g a).1 ≠ 0 := by omega
  exact r_cast hx hb hown hlink hg hC.1 (by rw [mvK hC.2.1 hne]; exact hk) hdg kk
theorem s_clone {own nm : String} {index nL a : Nat} {rt0 : Option FieldType} (hM : Mx G base p s m args meth c cc nL rt0 own nm) (hC : Cx2 G base A0 g0 A g s.heap H locs) (hsz : c.maxLocals = ls.size) (hw : Cond.methodLink own index ⟨"[I", "clone", "()Ljava/lang/Object;"⟩ ∈ lw_ok) (r : Nat) (hr : (hpK g r).1 = 0) (hk : (hpK g a).1 = 1) (h32 : (hpK g a).2 = 32) (hfr : 1 ≤ R.frames) (hlo : (rest.map fun v => v.category).sum + 14 ≤ R.locals) (hcells : cells + 1 ≤ R.cells) (hslots : slots + 32 ≤ R.slots) (hdg : decode cc pc = .ok (.invokevirtual index, 3))
    (kk : ∀ (A1 : Nat → Nat) (h1 : Hp) (H1 : Heap), h1 = clI g r a → EM A g A1 h1 → Cx2 G base A0 g0 A1 h1 s.heap H1 locs → W p l e R s m args below meth c H1 locs (cells + 1) (slots + 32) Q (F0 m (pc + 3) ls (.ref (A1 r) :: rest))) : W p l e R s m args below meth c H locs cells slots Q (F0 m pc ls (.ref (A a) :: rest)) := by
  have hne : (hpK g a).1 ≠ 0 := by omega
  refine r_clone hM hC.1 hsz hw (by rw [mvK hC.2.1 hne]; exact hk) (by rw [mvK hC.2.1 hne]; exact h32) hfr hlo hcells hslots hdg (fun q h1 H1 k0 e1 hC1 => ?_)
  have hn0 := mv_0 k0
  rw [e1, mv_cl hC.2.1 hC.2.2.1 hr k0 (r := r) hne] at hC1
  have hK1 : ∀ b, b ≠ r → hpK (clI g r a) b = hpK g b := fun b hb => by simp [hpK, clI, hb]
  have hE : EM A g (va_up A r q) (clI g r a) := EM_up hr hK1
  have := kk (va_up A r q) _ H1 rfl hE ⟨hC1, Inj_up hC.2.1 hn0 hK1, Cl_clI hC.2.2.1, hC.2.2.2.tr hE⟩
  rw [va_up_self] at this
  exact this
theorem s_copy {own nm : String} {index nL : Nat} {rt0 : Option FieldType} {rx ry : Option Nat} {sp dp n : Int32} (hM : Mx G base p s m args meth c cc nL rt0 own nm) (hC : Cx2 G base A0 g0 A g s.heap H locs) (hsz : c.maxLocals = ls.size) (hw : Cond.methodLink own index arraycopyName ∈ lw_ok) (hok : okC g rx sp ry dp n) (hfr : 1 ≤ R.frames) (hlo : (rest.map fun v => v.category).sum + (nativeFrameWords "java/lang/System" "arraycopy" 5 + 11) ≤ R.locals) (hdg : decode cc pc = .ok (.invokestatic index, 3))
    (kk : ∀ (h1 : Hp) (H1 : Heap) (locs1 : List Loc), h1 = cpI g (ad rx) (ad ry) sp.toNatClampNeg dp.toNatClampNeg n.toNatClampNeg → Cx2 G base A0 g0 A h1 s.heap H1 locs1 → W p l e R s m args below meth c H1 locs1 cells slots Q (F0 m (pc + 3) ls rest)) : W p l e R s m args below meth c H locs cells slots Q (F0 m pc ls (.int n :: .int dp :: .ref (A (ad ry)) :: .int sp :: .ref (A (ad rx)) :: rest)) := by
  obtain ⟨o1, o2, o3, o4, o5, o6, o7, o8, o9⟩ := hok
  have hnx : (hpK g (ad rx)).1 ≠ 0 := by omega
  have hny : (hpK g (ad ry)).1 ≠ 0 := by omega
  refine r_copy (rx := some (A (ad rx))) (ry := some (A (ad ry))) hM hC.1 hsz hw ⟨rfl, ?_, rfl, ?_, o5, o6, o7, ?_, ?_⟩ hfr hlo hdg (fun h1 H1 locs1 e1 hC1 => kk _ H1 locs1 rfl ⟨?_, hC.2.1, hC.2.2.1, hC.2.2.2⟩)
  · show (hpK (mv A g) (A (ad rx))).1 = 1
    rw [mvK hC.2.1 hnx]; exact o2
  · show (hpK (mv A g) (A (ad ry))).1 = 1
    rw [mvK hC.2.1 hny]; exact o4
  · show _ ≤ (hpK (mv A g) (A (ad rx))).2
    rw [mvK hC.2.1 hnx]; exact o8
  · show _ ≤ (hpK (mv A g) (A (ad ry))).2
    rw [mvK hC.2.1 hny]; exact o9
  · rw [e1] at hC1
    have e2 := mv_cpI hC.2.1 hnx hny sp.toNatClampNeg dp.toNatClampNeg n.toNatClampNeg
    have hC1 : Cx G base (cpI (mv A g) (A (ad rx)) (A (ad ry)) sp.toNatClampNeg dp.toNatClampNeg n.toNatClampNeg) s.heap H1 locs1 := hC1
    rw [e2] at hC1
    exact hC1
theorem PU2_blind {av : List Value} : FrameBlind (va_Pc av (PU2 G base A0 g0 A g)) := by
  intro a U f mk q
  obtain ⟨q0, q1, q2⟩ := q
  exact ⟨q0, (PU_blind (av := av) a U f mk ⟨q0, q1⟩).2, q2⟩
theorem PU2_of (hg : va_K G.1 classes (tysG G) s) (hs : gS G base s s.heap ∧ gR G s) (hC : Cx2 G base A0 g0 A g s.heap H locs) (U : State) (hU : U.heap = H) (hW : s.WarmedH U.vm) : PU2 G base A g A g U := ⟨PU_of hg hs hC.1 U hU hW, hC.2.1, hC.2.2.1, EM.rf⟩
theorem PU2_end (hg : va_K G.1 classes (tysG G) s) (hs : gS G base s s.heap ∧ gR G s) (hC : Cx2 G base A0 g0 A g s.heap H locs) (U : State) (hU : U.heap = H) (hW : s.WarmedH U.vm) : PU2 G base A0 g0 A g U := ⟨PU_of hg hs hC.1 U hU hW, hC.2.1, hC.2.2.1, hC.2.2.2⟩
theorem run2_V {own C nm : String} {ci N : Nat} {T : u_T} {b : Nat} {index nL mL n mc ms : Nat} {y : MethodName} {bytes : ByteArray} {rt rt0 : Option FieldType} {rm : Room} {As : List Value} {Qc : Array Value → State → Outcome → State → Prop} (hM : Mx G base p s m args meth c cc nL rt0 own nm) (hC : Cx2 G base A0 g0 A g s.heap H locs) (hls : ls.size = nL) (kv : KV own C index y bytes mL rt n) (hmet : Met l y (ww y bytes mL rt) rm (va_Pc (.ref (A b) :: As) (PU2 G base A g A g)) Qc mc ms (fun q => base ≤ q)) (hci : classes[ci]? = some (C, T, N)) (hk : (hpK g b).1 = 20 + ci) (hn : As.length = n) (hrc : rm.cells = mc) (hrs : rm.slots = ms) (hR : rm.frames + 1 ≤ R.frames ∧ 8 + (mL + 11) + rm.locals ≤ R.locals) (hrest : (rest.map fun v => v.category).sum ≤ 8) (hf : cells + mc ≤ R.cells ∧ slots + ms ≤ R.slots) (hdg : decode cc pc = .ok (.invokevirtual index, 3)) : va_Run p l e R s m args below meth c H locs cells slots mc ms (F0 m pc ls (As.reverse ++ .ref (A b) :: rest)) rest (Qc (Value.ref (A b) :: As).toArray) (fun q => base ≤ q) := by
  obtain ⟨hx, hb, hr, hml, hown, hts, hg, hs, hlk, hnm⟩ := hM
  obtain ⟨k1, k2, k3⟩ := kv
  have hne : (hpK g b).1 ≠ 0 := by omega
  have hkb : (hpK (mv A g) (A b)).1 = 20 + ci := by rw [mvK hC.2.1 hne]; exact hk
  obtain ⟨L, hL, hP, hD, haL, k0, hk0⟩ := PH_at hC.1.2.1 (a := A b) (by omega)
  rw [eOf_o hkb] at hk0
  exact va_runV (As := As) (rest := rest) (nL := nL) ⟨hx, hb, hml, hown, hts⟩ hmet (cwV n hts k1 rfl hrc hrs ⟨k2, k3⟩ hR) ⟨PU2_blind, va_recv hg hP hci hk0, fun U hU hW => ⟨rfl, PU2_of hg hs hC U hU hW⟩⟩ rfl hn hls rfl (lv_room hrest) hdg hf
theorem run2_VS {own nm : String} {i : Nat} {index nL mL n mc ms : Nat} {y : MethodName} {bytes : ByteArray} {rt rt0 : Option FieldType} {rm : Room} {As : List Value} {Qc : Array Value → State → Outcome → State → Prop} (hM : Mx G base p s m args meth c cc nL rt0 own nm) (hC : Cx2 G base A0 g0 A g s.heap H locs) (hls : ls.size = nL) (kv : KV own "java/lang/String" index y bytes mL rt n) (hmet : Met l y (ww y bytes mL rt) rm (va_Pc (.ref (G.2.2.1 i) :: As) (PU2 G base A g A g)) Qc mc ms (fun q => base ≤ q)) (hi : i < 2) (hn : As.length = n) (hrc : rm.cells = mc) (hrs : rm.slots = ms) (hR : rm.frames + 1 ≤ R.frames ∧ 8 + (mL + 11) + rm.locals ≤ R.locals) (hrest : (rest.map fun v => v.category).sum ≤ 8) (hf : cells + mc ≤ R.cells ∧ slots + ms ≤ R.slots) (hdg : decode cc pc = .ok (.invokevirtual index, 3)) : va_Run p l e R s m args below meth c H locs cells slots mc ms (F0 m pc ls (As.reverse ++ .ref (G.2.2.1 i) :: rest)) rest (Qc (Value.ref (G.2.2.1 i) :: As).toArray) (fun q => base ≤ q) := by
  obtain ⟨hx, hb, hr, hml, hown, hts, hg, hs, hlk, hnm⟩ := hM
  obtain ⟨k1, k2, k3⟩ := kv
  exact va_runV (As := As) (rest := rest) (nL := nL) ⟨hx, hb, hml, hown, hts⟩ hmet (cwV n hts k1 rfl hrc hrs ⟨k2, k3⟩ hR) ⟨PU2_blind, vk_recv hs.1.1 hi hC.1.2.2, fun U hU hW => ⟨rfl, PU2_of hg hs hC U hU hW⟩⟩ rfl hn hls rfl (lv_room hrest) hdg hf
theorem run2_S {own nm : String} {index nL mL n mc ms : Nat} {y : MethodName} {bytes : ByteArray} {rt rt0 : Option FieldType} {rm : Room} {As : List Value} {Qc : Array Value → State → Outcome → State → Prop} (hM : Mx G base p s m args meth c cc nL rt0 own nm) (hC : Cx2 G base A0 g0 A g s.heap H locs) (hls : ls.size = nL) (ks : KS own index y bytes mL rt n) (hmet : Met l y (ww y bytes mL rt) rm (va_Pc As (PU2 G base A g A g)) Qc mc ms (fun q => base ≤ q)) (hn : As.length = n) (hrc : rm.cells = mc) (hrs : rm.slots = ms) (hR : rm.frames + 1 ≤ R.frames ∧ 8 + (mL + 11) + rm.locals ≤ R.locals) (hrest : (rest.map fun v => v.category).sum ≤ 8) (hf : cells + mc ≤ R.cells ∧ slots + ms ≤ R.slots) (hdg : decode cc pc = .ok (.invokestatic index, 3)) : va_Run p l e R s m args below meth c H locs cells slots mc ms (F0 m pc ls (As.reverse ++ rest)) rest (Qc As.toArray) (fun q => base ≤ q) := by
  obtain ⟨hx, hb, hr, hml, hown, hts, hg, hs, hlk, hnm⟩ := hM
  obtain ⟨k1, k2, k3, k4, k5⟩ := ks
  exact va_runS (As := As) (rest := rest) (nL := nL) ⟨hx, hb, hml, hown, hts⟩ hmet ⟨callB_of n hts k1 rfl hrc hrs (hts _ k4) (hts _ k2) k5 hR, hts _ k3⟩ ⟨PU2_blind, fun U hU hW => ⟨rfl, PU2_of hg hs hC U hU hW⟩⟩ rfl hn hls rfl (lv_room hrest) hdg hf
theorem run2_I {own nm : String} {b : Nat} {index nL mL n mc ms : Nat} {y : MethodName} {bytes : ByteArray} {rt0 : Option FieldType} {rm : Room} {As : List Value} {Qc : Array Value → State → Outcome → State → Prop} (hM : Mx G base p s m args meth c cc nL rt0 own nm) (hC : Cx2 G base A0 g0 A g s.heap H locs) (hls : ls.size = nL) (ks : KI own index y bytes mL n) (hmet : Met l y (ww y bytes mL none) rm (va_Pc (.ref (A b) :: As) (PU2 G base A g A g)) Qc mc ms (fun q => base ≤ q)) (hn : As.length = n) (hrc : rm.cells = mc) (hrs : rm.slots = ms) (hR : rm.frames + 1 ≤ R.frames ∧ 8 + (mL + 11) + rm.locals ≤ R.locals) (hrest : (rest.map fun v => v.category).sum ≤ 8) (hf : cells + mc ≤ R.cells ∧ slots + ms ≤ R.slots) (hdg : decode cc pc = .ok (.invokespecial index, 3)) : va_Run p l e R s m args below meth c H locs cells slots mc ms (F0 m pc ls (As.reverse ++ .ref (A b) :: rest)) rest (Qc (Value.ref (A b) :: As).toArray) (fun q => base ≤ q) := by
  obtain ⟨hx, hb, hr, hml, hown, hts, hg, hs, hlk, hnm⟩ := hM
  obtain ⟨k1, k2, k3, k4, k5, k6⟩ := ks
  exact va_runI (As := As) (rest := rest) (nL := nL) ⟨hx, hb, hml, hown, hts⟩ hmet (cwI n hts k1 rfl hrc hrs (hts _ k4) (hts _ k2) (hts _ k3) k5 k6 hR) ⟨PU2_blind, fun U hU hW => ⟨rfl, PU2_of hg hs hC U hU hW⟩⟩ rfl hn hls rfl (lv_room hrest) hdg hf
theorem run2_IN {own nm host : String} {b : Nat} {index nL mL n mc ms : Nat} {y : MethodName} {bytes : ByteArray} {rt0 : Option FieldType} {rm : Room} {As : List Value} {Qc : Array Value → State → Outcome → State → Prop} (hM : Mx G base p s m args meth c cc nL rt0 own nm) (hC : Cx2 G base A0 g0 A g s.heap H locs) (hls : ls.size = nL) (ks : KIN own index y host bytes mL n) (hmet : Met l y (ww y bytes mL none) rm (va_Pc (.ref (A b) :: As) (PU2 G base A g A g)) Qc mc ms (fun q => base ≤ q)) (hn : As.length = n) (hrc : rm.cells = mc) (hrs : rm.slots = ms) (hR : rm.frames + 1 ≤ R.frames ∧ 8 + (mL + 11) + rm.locals ≤ R.locals) (hrest : (rest.map fun v => v.category).sum ≤ 8) (hf : cells + mc ≤ R.cells ∧ slots + ms ≤ R.slots) (hdg : decode cc pc = .ok (.invokespecial index, 3)) : va_Run p l e R s m args below meth c H locs cells slots mc ms (F0 m pc ls (As.reverse ++ .ref (A b) :: rest)) rest (Qc (Value.ref (A b) :: As).toArray) (fun q => base ≤ q) := by
  obtain ⟨hx, hb, hr, hml, hown, hts, hg, hs, hlk, hnm⟩ := hM
  obtain ⟨k1, k2, k3, k4, k5, k6⟩ := ks
  have hnest : va_Nw (.methodLinkNest own index y host) s := hs.2.2.2.1 (own, index, y, host) k2
  exact va_runIN (As := As) (rest := rest) (nL := nL) ⟨hx, hb, hml, hown, hts⟩ hmet ⟨va_cnB n hts k1 rfl hrc hrs hnest (hts _ k4) k6 hR, k5, hts _ k3⟩ ⟨PU2_blind, fun U hU hW => ⟨rfl, PU2_of hg hs hC U hU hW⟩⟩ rfl hn hls rfl (lv_room hrest) hdg hf
theorem Cx2_back {A1 : Nat → Nat} {h1 : Hp} {t : State} {H1 : Heap} {locs1 : List Loc} (hC : Cx2 G base A0 g0 A g s.heap H locs) (ht : t.heap = H1) (hB : PU2 G base A g A1 h1 t) (hS : va_S (fun q => base ≤ q) s.heap H1 locs1) : Cx2 G base A0 g0 A1 h1 s.heap H1 locs1 := ⟨Cx_back hC.1 ht hB.1 hS, hB.2.1, hB.2.2.1, hC.2.2.2.tr hB.2.2.2⟩
theorem res2_i {mc ms : Nat} {st0 : List Value} {a : Array Value} {Q' : Int32 → Hp → Prop} (hC : Cx2 G base A0 g0 A g s.heap H locs) (hr : va_Run p l e R s m args below meth c H locs cells slots mc ms (F0 m pc ls st0) rest (va_Qi Q' (PU2 G base A g A) (fun q => base ≤ q) a) (fun q => base ≤ q)) (kk : ∀ (r : Int32) (h1 : Hp) (H1 : Heap) (locs1 : List Loc), Q' r h1 → Cx2 G base A0 g0 A h1 s.heap H1 locs1 → W p l e R s m args below meth c H1 locs1 (cells + mc) (slots + ms) Q (F0 m (pc + 3) ls (.int r :: rest))) : W p l e R s m args below meth c H locs cells slots Q (F0 m pc ls st0) :=
  va_calli hr hC.1.2.2 (fun _ _ h => h) (fun _ h => h) (fun r u t H1 locs1 ht _ hq hB _ _ hS => kk r u H1 locs1 hq (Cx2_back hC ht hB hS))
theorem res2_q {mc ms : Nat} {st0 : List Value} {a : Array Value} {Q' : Option Nat → Hp → Prop} (hC : Cx2 G base A0 g0 A g s.heap H locs) (hr : va_Run p l e R s m args below meth c H locs cells slots mc ms (F0 m pc ls st0) rest (va_Qq (fun ra u => ∃ r, ra = Option.map A r ∧ Q' r u) (PU2 G base A g A) (fun q => base ≤ q) a) (fun q => base ≤ q)) (kk : ∀ (r : Option Nat) (h1 : Hp) (H1 : Heap) (locs1 : List Loc), Q' r h1 → Cx2 G base A0 g0 A h1 s.heap H1 locs1 → W p l e R s m args below meth c H1 locs1 (cells + mc) (slots + ms) Q (F0 m (pc + 3) ls (va_rf (Option.map A r) :: rest))) : W p l e R s m args below meth c H locs cells slots Q (F0 m pc ls st0) := by
  refine va_callq hr hC.1.2.2 (fun _ _ h => h) (fun _ h => h) (fun r u t H1 locs1 ht _ hq hB _ _ hS => ?_)
  obtain ⟨r1, rfl, hq⟩ := hq
  exact kk r1 u H1 locs1 hq (Cx2_back hC ht hB hS)
theorem res2_v {mc ms : Nat} {st0 : List Value} {a : Array Value} {Q' : Hp → Prop} (hC : Cx2 G base A0 g0 A g s.heap H locs) (hr : va_Run p l e R s m args below meth c H locs cells slots mc ms (F0 m pc ls st0) rest (va_Qv Q' (PU2 G base A g A) (fun q => base ≤ q) a) (fun q => base ≤ q)) (kk : ∀ (h1 : Hp) (H1 : Heap) (locs1 : List Loc), Q' h1 → Cx2 G base A0 g0 A h1 s.heap H1 locs1 → W p l e R s m args below meth c H1 locs1 (cells + mc) (slots + ms) Q (F0 m (pc + 3) ls rest)) : W p l e R s m args below meth c H locs cells slots Q (F0 m pc ls st0) :=
  va_callv hr hC.1.2.2 (fun _ _ h => h) (fun _ h => h) (fun u t H1 locs1 ht _ hq hB _ _ hS => kk u H1 locs1 hq (Cx2_back hC ht hB hS))
theorem res2_ia {mc ms : Nat} {st0 : List Value} {a : Array Value} {Q' : Int32 → Hp → Prop} (hC : Cx2 G base A0 g0 A g s.heap H locs) (hr : va_Run p l e R s m args below meth c H locs cells slots mc ms (F0 m pc ls st0) rest (va_Qi (fun r (u : (Nat → Nat) × Hp) => Q' r u.2) (fun u t => PU2 G base A g u.1 u.2 t) (fun q => base ≤ q) a) (fun q => base ≤ q)) (kk : ∀ (r : Int32) (A1 : Nat → Nat) (h1 : Hp) (H1 : Heap) (locs1 : List Loc), Q' r h1 → EM A g A1 h1 → Cx2 G base A0 g0 A1 h1 s.heap H1 locs1 → W p l e R s m args below meth c H1 locs1 (cells + mc) (slots + ms) Q (F0 m (pc + 3) ls (.int r :: rest))) : W p l e R s m args below meth c H locs cells slots Q (F0 m pc ls st0) :=
  va_calli hr hC.1.2.2 (fun _ _ h => h) (fun _ h => h) (fun r u t H1 locs1 ht _ hq hB _ _ hS => kk r u.1 u.2 H1 locs1 hq hB.2.2.2 (Cx2_back hC ht hB hS))
theorem res2_va {mc ms : Nat} {st0 : List Value} {a : Array Value} {Q' : Hp → Prop} (hC : Cx2 G base A0 g0 A g s.heap H locs) (hr : va_Run p l e R s m args below meth c H locs cells slots mc ms (F0 m pc ls st0) rest (va_Qv (fun (u : (Nat → Nat) × Hp) => Q' u.2) (fun u t => PU2 G base A g u.1 u.2 t) (fun q => base ≤ q) a) (fun q => base ≤ q)) (kk : ∀ (A1 : Nat → Nat) (h1 : Hp) (H1 : Heap) (locs1 : List Loc), Q' h1 → EM A g A1 h1 → Cx2 G base A0 g0 A1 h1 s.heap H1 locs1 → W p l e R s m args below meth c H1 locs1 (cells + mc) (slots + ms) Q (F0 m (pc + 3) ls rest)) : W p l e R s m args below meth c H locs cells slots Q (F0 m pc ls st0) :=
  va_callv hr hC.1.2.2 (fun _ _ h => h) (fun _ h => h) (fun u t H1 locs1 ht _ hq hB _ _ hS => kk u.1 u.2 H1 locs1 hq hB.2.2.2 (Cx2_back hC ht hB hS))
theorem ret2_i {maxL : Nat} {own nm : String} {Q' : Int32 → Hp → Prop} {v : Int32} (hM : Mx G base p s m args meth c cc maxL (some .int) own nm) (hC : Cx2 G base A0 g0 A g s.heap H locs) (hw : Q' v g) (hdg : decode cc pc = .ok (.ireturn, 1)) : W p l e R s m args below meth c H locs cells slots (MQ below (va_Qi Q' (PU2 G base A0 g0 A) (fun q => base ≤ q)) args s cells slots (fun q => base ≤ q)) (F0 m pc ls [.int v]) := by
  obtain ⟨hx, hb, hr, hml, hown, hts, hg, hs, hlk, hnm⟩ := hM
  exact W.iret hx hb hr (fun t ht hW => ⟨⟨v, g, rfl, hw, PU2_end hg hs hC t ht hW⟩, hC.1.2.2.F ht⟩) hC.1.2.2.2.2 hdg hlk
theorem ret2_v {maxL : Nat} {own nm : String} {Q' : Hp → Prop} (hM : Mx G base p s m args meth c cc maxL none own nm) (hC : Cx2 G base A0 g0 A g s.heap H locs) (hw : Q' g) (hdg : decode cc pc = .ok (.return_, 1)) : W p l e R s m args below meth c H locs cells slots (MQ below (va_Qv Q' (PU2 G base A0 g0 A) (fun q => base ≤ q)) args s cells slots (fun q => base ≤ q)) (F0 m pc ls []) := by
  obtain ⟨hx, hb, hr, hml, hown, hts, hg, hs, hlk, hnm⟩ := hM
  exact W.vret hx hb hr (fun t ht hW => ⟨⟨g, rfl, hw, PU2_end hg hs hC t ht hW⟩, hC.1.2.2.F ht⟩) hC.1.2.2.2.2 hdg hlk
theorem ret2_ia {maxL : Nat} {own nm : String} {Q' : Int32 → Hp → Prop} {v : Int32} (hM : Mx G base p s m args meth c cc maxL (some .int) own nm) (hC : Cx2 G base A0 g0 A g s.heap H locs) (hw : Q' v g) (hdg : decode cc pc = .ok (.ireturn, 1)) : W p l e R s m args below meth c H locs cells slots (MQ below (va_Qi (fun r (u : (Nat → Nat) × Hp) => Q' r u.2) (fun u t => PU2 G base A0 g0 u.1 u.2 t) (fun q => base ≤ q)) args s cells slots (fun q => base ≤ q)) (F0 m pc ls [.int v]) := by
  obtain ⟨hx, hb, hr, hml, hown, hts, hg, hs, hlk, hnm⟩ := hM
  exact W.iret hx hb hr (fun t ht hW => ⟨⟨v, (A, g), rfl, hw, PU2_end hg hs hC t ht hW⟩, hC.1.2.2.F ht⟩) hC.1.2.2.2.2 hdg hlk
theorem ret2_va {maxL : Nat} {own nm : String} {Q' : Hp → Prop} (hM : Mx G base p s m args meth c cc maxL none own nm) (hC : Cx2 G base A0 g0 A g s.heap H locs) (hw : Q' g) (hdg : decode cc pc = .ok (.return_, 1)) : W p l e R s m args below meth c H locs cells slots (MQ below (va_Qv (fun (u : (Nat → Nat) × Hp) => Q' u.2) (fun u t => PU2 G base A0 g0 u.1 u.2 t) (fun q => base ≤ q)) args s cells slots (fun q => base ≤ q)) (F0 m pc ls []) := by
  obtain ⟨hx, hb, hr, hml, hown, hts, hg, hs, hlk, hnm⟩ := hM
  exact W.vret hx hb hr (fun t ht hW => ⟨⟨(A, g), rfl, hw, PU2_end hg hs hC t ht hW⟩, hC.1.2.2.F ht⟩) hC.1.2.2.2.2 hdg hlk
theorem ret2_t {maxL : Nat} {own nm : String} {t : FieldType} {Q' : Int32 → Hp → Prop} {v : Int32} (hM : Mx G base p s m args meth c cc maxL (some t) own nm) (hC : Cx2 G base A0 g0 A g s.heap H locs) (hn : narrow t (.int v) = .int v) (hw : Q' v g) (hdg : decode cc pc = .ok (.ireturn, 1)) : W p l e R s m args below meth c H locs cells slots (MQ below (va_Qi Q' (PU2 G base A0 g0 A) (fun q => base ≤ q)) args s cells slots (fun q => base ≤ q)) (F0 m pc ls [.int v]) := by
  obtain ⟨hx, hb, hr, hml, hown, hts, hg, hs, hlk, hnm⟩ := hM
  exact W.zret hx hb hr hn (fun t ht hW => ⟨⟨v, g, rfl, hw, PU2_end hg hs hC t ht hW⟩, hC.1.2.2.F ht⟩) hC.1.2.2.2.2 hdg hlk
theorem ret2_q {maxL : Nat} {own nm : String} {rt : FieldType} {Q' : Option Nat → Hp → Prop} {r : Option Nat} (hrt : (∃ n, rt = .object n) ∨ ∃ t, rt = .array t) (hM : Mx G base p s m args meth c cc maxL (some rt) own nm) (hC : Cx2 G base A0 g0 A g s.heap H locs) (hw : Q' r g) (hdg : decode cc pc = .ok (.areturn, 1)) : W p l e R s m args below meth c H locs cells slots (MQ below (va_Qq (fun ra u => ∃ r, ra = Option.map A r ∧ Q' r u) (PU2 G base A0 g0 A) (fun q => base ≤ q)) args s cells slots (fun q => base ≤ q)) (F0 m pc ls [va_rf (Option.map A r)]) := by
  obtain ⟨hx, hb, hr, hml, hown, hts, hg, hs, hlk, hnm⟩ := hM
  exact W.aret hx hb hr hrt (by cases r with | none => exact Or.inl rfl | some a => exact Or.inr ⟨_, rfl⟩) (fun t ht hW => ⟨⟨_, g, rfl, ⟨r, rfl, hw⟩, PU2_end hg hs hC t ht hW⟩, hC.1.2.2.F ht⟩) hC.1.2.2.2.2 hdg hlk
end H2
theorem met2_of {l : Launch} {y : MethodName} {cc : ByteArray} {maxL mc ms : Nat} {ret : Option FieldType} {rm : Room} {av : List Value} {lv : List (Nat × Value)} {Qc : Array Value → State → Outcome → State → Prop} {G : GG} {base : Nat} {A : Nat → Nat} {g : Hp} {own nm : String} (hy : plainName y.cls = true) (ho : y.cls = own) (hnm : y.name = nm) (hcat : ∀ v ∈ av, v.category = 1) (hlen : av.length ≤ maxL) (hlv : av.zipIdx.map (fun q => (q.2, q.1)) = lv)
    (body : ∀ (p : Program) (e : Env) (s : State) (m : MethodId) (args : Array Value) (below : List Frame) (meth : Method) (c : Code) (H : Heap) (locs : List Loc) (ls : Array Slot), Mx G base p s m args meth c cc maxL ret own nm → Cx2 G base A g A g s.heap H locs → lo_has ls maxL lv → W p l e rm s m args below meth c H locs 0 0 (MQ below Qc args s mc ms (fun q => base ≤ q)) (F0 m 0 ls [])) :
    Met l y (ww y cc maxL ret) rm (va_Pc av (PU2 G base A g A g)) Qc mc ms (fun q => base ≤ q) := by
  have key : Inj A g → Cl g → Met l y (ww y cc maxL ret) rm (va_Pc av (PU G base (mv A g))) Qc mc ms (fun q => base ≤ q) := fun h1 h2 => met_of hy ho hnm hcat hlen hlv (fun p e s m below meth c ls hM hC hl => body p e s m av.toArray below meth c s.heap [] ls hM ⟨hC, h1, h2, EM.rf⟩ hl)
  by_cases hi : Inj A g
  · by_cases hc : Cl g
    · intro p e ha hcc hk s m args below hf happ hP
      exact key hi hc p e ha hcc hk s m args below hf happ ⟨hP.1, hP.2.1⟩
    · intro p e ha hcc hk s m args below hf happ hP
      exact absurd hP.2.2.2.1 hc
  · intro p e ha hcc hk s m args below hf happ hP
    exact absurd hP.2.2.1 hi
