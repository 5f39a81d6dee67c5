/-! THE ABSTRACT HEAP: ints, longs, references of each cell, its kind and length (my own) -/
abbrev classes : List vw_C := [(RX0, TX0, 5), (RX1, TX1, 7), (RX3, TX3, 3), (RX4, TX4, 3), (RX5, TX5, 6), (RX7, TX7, 9), (RX8, TX8, 5), (RX9, TX9, 3), (RX10, TX10, 6), (RX11, TX11, 16), (RX12, TX12, 62)]
abbrev Hp : Type := (Nat → Nat → Int32) × (Nat → Nat → Int64) × (Nat → Nat → Option Nat) × (Nat → Nat × Nat)
def hpI (h : Hp) (a k : Nat) : Int32 := h.1 a k
def hpL (h : Hp) (a k : Nat) : Int64 := h.2.1 a k
def hpR (h : Hp) (a k : Nat) : Option Nat := h.2.2.1 a k
def hpK (h : Hp) (a : Nat) : Nat × Nat := h.2.2.2 a
def stI (h : Hp) (a k : Nat) (v : Int32) : Hp := (fun b j => if b = a ∧ j = k then v else h.1 b j, h.2)
def stL (h : Hp) (a k : Nat) (v : Int64) : Hp := (h.1, fun b j => if b = a ∧ j = k then v else h.2.1 b j, h.2.2)
def stR (h : Hp) (a k : Nat) (v : Option Nat) : Hp := (h.1, h.2.1, fun b j => if b = a ∧ j = k then v else h.2.2.1 b j, h.2.2.2)
def alc (h : Hp) (a kd n : Nat) : Hp := (fun b j => if b = a then 0 else h.1 b j, fun b j => if b = a then 0 else h.2.1 b j, fun b j => if b = a then none else h.2.2.1 b j, fun b => if b = a then (kd, n) else h.2.2.2 b)
def cpI (h : Hp) (x y sp dp n : Nat) : Hp := (fun b j => if b = y then va_cpy (h.1 x) (h.1 y) sp dp n j else h.1 b j, h.2)
def clI (h : Hp) (a x : Nat) : Hp := (fun b j => if b = a then h.1 x j else h.1 b j, fun b j => if b = a then 0 else h.2.1 b j, fun b j => if b = a then none else h.2.2.1 b j, fun b => if b = a then (1, (h.2.2.2 x).2) else h.2.2.2 b)
def ad (r : Option Nat) : Nat := r.getD 0
def okO (h : Hp) (r : Option Nat) (ci : Nat) : Prop := r = some (ad r) ∧ (hpK h (ad r)).1 = 20 + ci
def okA (h : Hp) (r : Option Nat) (kd : Nat) (i : Int32) : Prop := r = some (ad r) ∧ (hpK h (ad r)).1 = kd ∧ vp_in i (hpK h (ad r)).2
def okN (h : Hp) (r : Option Nat) (kd : Nat) : Prop := r = some (ad r) ∧ (hpK h (ad r)).1 = kd
def okZ (v : Int32) : Prop := narrow .boolean (.int v) = .int v ∧ fits .boolean (.int v) = true
def rtab : List (List Bool) := [[false, true, false, false, true], [false, false, false, true, false, false, false], [false, true, true], [true, true, false], [false, false, true, true, false, false], [true, true, true, true, true, true, false, false, false], [true, false, true, true, false], [true, false, false], [true, true, true, true, true, true], [true, false, true, false, true, false, false, true, false, true, false, true, true, true, true, true], [false, false, true, true, true, false, true, true, true, true, true, true, false, true, true, true, true, false, true, false, false, false, false, false, true, true, true, true, true, true, true, true, false, false, false, true, false, false, false, false, false, true, true, false, true, false, true, true, true, false, true, true, true, false, true, true, true, true, true, true, false, false]]
def flds (ci : Nat) (f : Nat → Int32) (r : Nat → Option Nat) : List Value := ((rtab.getD ci []).zipIdx).map (fun b => if b.1 then va_rf (r b.2) else .int (f b.2))
def eK (ca : Nat → ClassId) (kd : Nat × Nat) (f : Nat → Int32) (g : Nat → Int64) (r : Nat → Option Nat) : va_E := if kd.1 = 1 then .inl (ca 1, kd.2, .inl f) else if kd.1 = 2 then .inl (ca 2, kd.2, .inr (.inl g)) else if kd.1 < 20 then .inl (ca kd.1, kd.2, .inr (.inr (.inr (.inr r)))) else .inr (kd.1 - 20, flds (kd.1 - 20) f r)
def eOf (ca : Nat → ClassId) (h : Hp) (a : Nat) : va_E := eK ca (hpK h a) (hpI h a) (hpL h a) (hpR h a)
/-- the tables' numbers, the array classes, the addresses of the two texts and of their bytes -/
abbrev GG : Type := va_G × (Nat → ClassId) × (Nat → Nat) × (Nat → Nat)
def tysG (G : GG) : List (ClassId × FieldType) := [(G.2.1 1, .int), (G.2.1 2, .long), (G.2.1 3, .object RX0), (G.2.1 4, .object RX1), (G.2.1 5, .object RX3), (G.2.1 6, .object RX4), (G.2.1 10, .object RX9)]
def PH (G : GG) (base : Nat) (h : Hp) (H : Heap) : Prop := ∃ L : List Nat, (∀ a, a ∈ L ↔ (hpK h a).1 ≠ 0) ∧ va_P G.1 classes (va_pl L (eOf G.2.1 h)) H ∧ va_D (fun q => base ≤ q) (va_pl L (eOf G.2.1 h))
def Cx (G : GG) (base : Nat) (h : Hp) (H0 H : Heap) (locs : List Loc) : Prop := base ≤ H0.size ∧ PH G base h H ∧ va_S (fun q => base ≤ q) H0 H locs
/-- the two texts, and what is read of String's statics -/
def txJ : Nat → String := fun i => match i with
  | 0 => "or and no when cut wear take same not at high left right draw shots rust soft best longest slide pieces lack told "
  | _ => ";+-*/()<=>"
def byJ : List (List Int32) := [[111, 114, 32, 97, 110, 100, 32, 110, 111, 32, 119, 104, 101, 110, 32, 99, 117, 116, 32, 119, 101, 97, 114, 32, 116, 97, 107, 101, 32, 115, 97, 109, 101, 32, 110, 111, 116, 32, 97, 116, 32, 104, 105, 103, 104, 32, 108, 101, 102, 116, 32, 114, 105, 103, 104, 116, 32, 100, 114, 97, 119, 32, 115, 104, 111, 116, 115, 32, 114, 117, 115, 116, 32, 115, 111, 102, 116, 32, 98, 101, 115, 116, 32, 108, 111, 110, 103, 101, 115, 116, 32, 115, 108, 105, 100, 101, 32, 112, 105, 101, 99, 101, 115, 32, 108, 97, 99, 107, 32, 116, 111, 108, 100, 32], [59, 43, 45, 42, 47, 40, 41, 60, 61, 62]]
def lnJ : List Nat := [114, 10]
def gS (G : GG) (base : Nat) (U : State) (H : Heap) : Prop := vk_S 2 lnJ byJ G.2.2.1 G.2.2.2 (fun q => base ≤ q) U H ∧ va_Z "java/lang/String" "COMPACT_STRINGS" "Z" (.int 1) (fun q => base ≤ q) U H ∧ va_Zq "jdk/internal/util/Preconditions" "SIOOBE_FORMATTER" "Ljava/util/function/BiFunction;" (fun q => base ≤ q) U H
def nwL : List (String × Nat × MethodName × String) := [("OneBarrel", 45, ⟨"OneBarrel$Tokens", "<init>", "()V"⟩, "OneBarrel"), ("OneBarrel$Reader", 17, ⟨"OneBarrel$Text", "<init>", "()V"⟩, "OneBarrel"), ("OneBarrel", 61, ⟨"OneBarrel$Text", "<init>", "()V"⟩, "OneBarrel"), ("OneBarrel", 68, ⟨"OneBarrel$Work", "<init>", "()V"⟩, "OneBarrel"), ("OneBarrel$Looker", 11, ⟨"OneBarrel$Text", "<init>", "()V"⟩, "OneBarrel")]
def gN (U : State) : Prop := (∀ q ∈ nwL, va_Nw (.methodLinkNest q.1 q.2.1 q.2.2.1 q.2.2.2) U) ∧ (∀ C ∈ ([RX9, RX1, RX0, RX3, RX4] : List String), va_AO C U) ∧ va_Nw (.castable "[I" "java/lang/Cloneable") U
def gR (G : GG) (U : State) : Prop := vk_R RX8 56 (txJ 0) (G.2.2.1 0) U ∧ vk_R RX8 49 (txJ 1) (G.2.2.1 1) U ∧ gN U
def PU (G : GG) (base : Nat) (h : Hp) (U : State) : Prop := base ≤ U.heap.size ∧ PH G base h U.heap ∧ va_K G.1 classes (tysG G) U ∧ gS G base U U.heap ∧ gR G U
theorem gS_kept {G : GG} {base : Nat} {U : State} {H H1 : Heap} (h : gS G base U H) (hq : ∀ a : Nat, a < H.size → ¬ base ≤ a → H1[a]? = H[a]?) : gS G base U H1 := ⟨h.1.kept hq, h.2.1.kept hq, h.2.2.kept hq⟩
theorem flds_at {ci k : Nat} {f : Nat → Int32} {r : Nat → Option Nat} : (flds ci f r)[k]? = ((rtab.getD ci [])[k]?).map (fun b => if b then va_rf (r k) else .int (f k)) := by
  simp only [flds, List.getElem?_map, List.getElem?_zipIdx]
  cases (rtab.getD ci [])[k]? <;> simp
theorem flds_I {ci k : Nat} {f : Nat → Int32} {r : Nat → Option Nat} (h : (rtab.getD ci [])[k]? = some false) : (flds ci f r)[k]? = some (.int (f k)) := by
  rw [flds_at, h]; rfl
theorem flds_R {ci k : Nat} {f : Nat → Int32} {r : Nat → Option Nat} (h : (rtab.getD ci [])[k]? = some true) : (flds ci f r)[k]? = some (va_rf (r k)) := by
  rw [flds_at, h]; rfl
theorem flds_len {ci : Nat} {f : Nat → Int32} {r : Nat → Option Nat} : (flds ci f r).length = (rtab.getD ci []).length := by
  simp [flds]
theorem flds_setI {ci k : Nat} {f : Nat → Int32} {r : Nat → Option Nat} {v : Int32} (h : (rtab.getD ci [])[k]? = some false) : (flds ci f r).set k (.int v) = flds ci (fun j => if j = k then v else f j) r := by
  apply List.ext_getElem?
  intro j
  have hl : k < (flds ci f r).length := by rw [flds_len]; exact (List.getElem?_eq_some_iff.mp h).1
  by_cases hj : j = k
  · subst hj
    rw [List.getElem?_set_self hl, flds_I h]
    simp
  · rw [List.getElem?_set_ne (Ne.symm hj), flds_at, flds_at]
    simp [hj]
theorem flds_setR {ci k : Nat} {f : Nat → Int32} {r : Nat → Option Nat} {v : Option Nat} (h : (rtab.getD ci [])[k]? = some true) : (flds ci f r).set k (va_rf v) = flds ci f (fun j => if j = k then v else r j) := by
  apply List.ext_getElem?
  intro j
  have hl : k < (flds ci f r).length := by rw [flds_len]; exact (List.getElem?_eq_some_iff.mp h).1
  by_cases hj : j = k
  · subst hj
    rw [List.getElem?_set_self hl, flds_R h]
    simp
  · rw [List.getElem?_set_ne (Ne.symm hj), flds_at, flds_at]
    simp [hj]
theorem eOf_1 {ca : Nat → ClassId} {h : Hp} {a : Nat} (hk : (hpK h a).1 = 1) : eOf ca h a = .inl (ca 1, (hpK h a).2, .inl (hpI h a)) := by
  simp [eOf, eK, hk]
theorem eOf_2 {ca : Nat → ClassId} {h : Hp} {a : Nat} (hk : (hpK h a).1 = 2) : eOf ca h a = .inl (ca 2, (hpK h a).2, .inr (.inl (hpL h a))) := by
  simp [eOf, eK, hk]
theorem eOf_r {ca : Nat → ClassId} {h : Hp} {a kd : Nat} (hk : (hpK h a).1 = kd) (h2 : 2 < kd) (h20 : kd < 20) : eOf ca h a = .inl (ca kd, (hpK h a).2, .inr (.inr (.inr (.inr (hpR h a))))) := by
  simp [eOf, eK, hk, h20, show ¬ kd = 1 by omega, show ¬ kd = 2 by omega]
theorem eOf_o {ca : Nat → ClassId} {h : Hp} {a ci : Nat} (hk : (hpK h a).1 = 20 + ci) : eOf ca h a = .inr (ci, flds ci (hpI h a) (hpR h a)) := by
  have e1 : 20 + ci - 20 = ci := by omega
  simp only [eOf, eK, hk, e1, if_neg (show ¬ 20 + ci = 1 by omega), if_neg (show ¬ 20 + ci = 2 by omega), if_neg (show ¬ 20 + ci < 20 by omega)]
/-- a change at one address: the others as they were -/
theorem PH_set {G : GG} {base : Nat} {h h' : Hp} {H1 : Heap} {L : List Nat} {a k0 : Nat} {e : va_E} (hL : ∀ a, a ∈ L ↔ (hpK h a).1 ≠ 0) (hD : va_D (fun q => base ≤ q) (va_pl L (eOf G.2.1 h))) (ha : a ∈ L) (hk : (va_pl L (eOf G.2.1 h))[k0]? = some (a, eOf G.2.1 h a)) (hK : ∀ b, hpK h' b = hpK h b) (he : eOf G.2.1 h' a = e) (ho : ∀ b, b ≠ a → eOf G.2.1 h' b = eOf G.2.1 h b) (hP1 : va_P G.1 classes ((va_pl L (eOf G.2.1 h)).set k0 (a, e)) H1) (hD1 : va_D (fun q => base ≤ q) ((va_pl L (eOf G.2.1 h)).set k0 (a, e))) : PH G base h' H1 := by
  have hs : (va_pl L (eOf G.2.1 h)).set k0 (a, e) = va_pl L (eOf G.2.1 h') := by
    have h1 := va_pl_set (X := []) (e := e) hD ha hk
    simp only [List.nil_append] at h1
    rw [h1]
    apply va_pl_congr
    intro b
    by_cases hb : b = a
    · subst hb; rw [va_up_self, he]
    · rw [va_up_ne _ _ hb, ho b hb]
  rw [hs] at hP1 hD1
  exact ⟨L, fun b => by rw [hK]; exact hL b, hP1, hD1⟩
/-- a new cell -/
theorem PH_new {G : GG} {base : Nat} {h h' : Hp} {H1 : Heap} {L : List Nat} {a : Nat} {e : va_E} (hL : ∀ a, a ∈ L ↔ (hpK h a).1 ≠ 0) (ha : a ∉ L) (hK : ∀ b, b ≠ a → hpK h' b = hpK h b) (hKa : (hpK h' a).1 ≠ 0) (he : eOf G.2.1 h' a = e) (ho : ∀ b, b ≠ a → eOf G.2.1 h' b = eOf G.2.1 h b) (hP1 : va_P G.1 classes (va_pl L (eOf G.2.1 h) ++ [(a, e)]) H1) (hD1 : va_D (fun q => base ≤ q) (va_pl L (eOf G.2.1 h) ++ [(a, e)])) : PH G base h' H1 := by
  have hs : va_pl L (eOf G.2.1 h) ++ [(a, e)] = va_pl (L ++ [a]) (eOf G.2.1 h') := by
    rw [va_pl_push ha]
    apply va_pl_congr
    intro b
    by_cases hb : b = a
    · subst hb; rw [va_up_self, he]
    · rw [va_up_ne _ _ hb, ho b hb]
  rw [hs] at hP1 hD1
  refine ⟨L ++ [a], fun b => ?_, hP1, hD1⟩
  by_cases hb : b = a
  · subst hb; simp [hKa]
  · simp [hb, hK b hb, hL b]
theorem new_out {base : Nat} {L : List Nat} {f : Nat → va_E} {a : Nat} {e : va_E} (hD1 : va_D (fun q => base ≤ q) (va_pl L f ++ [(a, e)])) : a ∉ L := by
  intro hm
  obtain ⟨k, hk⟩ := va_pl_get (X := []) (f := f) hm
  simp only [List.nil_append] at hk
  have hlt := (List.getElem?_eq_some_iff.mp hk).1
  have h1 : (va_pl L f ++ [(a, e)])[k]? = some (a, f a) := by rw [List.getElem?_append_left hlt]; exact hk
  have h2 : (va_pl L f ++ [(a, e)])[(va_pl L f).length]? = some (a, e) := by simp
  have := hD1.1 k _ _ _ h1 h2 rfl
  omega
theorem PH_at {G : GG} {base : Nat} {h : Hp} {H : Heap} (hP : PH G base h H) {a : Nat} (hk : (hpK h a).1 ≠ 0) : ∃ L, (∀ a, a ∈ L ↔ (hpK h a).1 ≠ 0) ∧ va_P G.1 classes (va_pl L (eOf G.2.1 h)) H ∧ va_D (fun q => base ≤ q) (va_pl L (eOf G.2.1 h)) ∧ a ∈ L ∧ ∃ k0 : Nat, (va_pl L (eOf G.2.1 h))[k0]? = some (a, eOf G.2.1 h a) := by
  obtain ⟨L, hL, h1, h2⟩ := hP
  obtain ⟨k, hk'⟩ := va_pl_get (X := []) (f := eOf G.2.1 h) ((hL a).mpr hk)
  exact ⟨L, hL, h1, h2, (hL a).mpr hk, k, hk'⟩
/-- what is known of a class: its fields' names and types, its words -/
def lw_ok : List Cond := lw_tbl.filter goodWord
def ww (y : MethodName) (b : ByteArray) (n : Nat) (r : Option FieldType) : List Cond := .code y b n r :: lw_ok
def CBn (ci : Nat) (C : String) (T : u_T) (N : Nat) (ty : Nat → FieldType) : Prop := classes[ci]? = some (C, T, N) ∧ (∀ w ∈ u_ws C T N, w ∈ lw_ok) ∧ (∀ k, k < N → parseFieldDescriptor (T k).2.2.1 = some (ty k)) ∧ (∀ a, a < N → ∀ b, b < N → a ≠ b → (T a).2.1 ≠ (T b).2.1) ∧ (rtab.getD ci []).length = N
def FB (ci : Nat) (C : String) (T : u_T) (N : Nat) (ty : Nat → FieldType) (k : Nat) (isR : Bool) (nm ds : String) (fin : Bool) (t : FieldType) : Prop := CBn ci C T N ty ∧ k < N ∧ (rtab.getD ci [])[k]? = some isR ∧ T k = (C, nm, ds, fin) ∧ ty k = t
