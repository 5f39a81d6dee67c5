/-! WHAT WAS READ CAN BE WORKED OUT (my own) -/
def ckL (lo hi : Nat) : CD → List Nat → Option (List Nat)
  | [], st => some st
  | e :: r, st => (ckS lo hi e.1 e.2 st).bind (ckL lo hi r)
theorem ckL_app {lo hi : Nat} : ∀ (A B : CD) (st : List Nat), ckL lo hi (A ++ B) st = (ckL lo hi A st).bind (ckL lo hi B) := by
  intro A
  induction A with
  | nil => intro B st; rfl
  | cons e r ih =>
    intro B st
    show (ckS lo hi e.1 e.2 st).bind (ckL lo hi (r ++ B)) = ((ckS lo hi e.1 e.2 st).bind (ckL lo hi r)).bind (ckL lo hi B)
    cases h : ckS lo hi e.1 e.2 st with
    | none => rfl
    | some s => exact ih B s
theorem ck_ckL {lo hi : Nat} {op ar : Nat → Int32} : ∀ (A : CD) (k : Nat) (st : List Nat), (∀ (j : Nat) (e : Int32 × Int32), A[j]? = some e → op (k + j) = e.1 ∧ ar (k + j) = e.2) → ck lo hi op ar k A.length st = ckL lo hi A st := by
  intro A
  induction A with
  | nil => intro k st _; rfl
  | cons e r ih =>
    intro k st h
    obtain ⟨h1, h2⟩ := h 0 e rfl
    show (ckS lo hi (op k) (ar k) st).bind (ck lo hi op ar (k + 1) r.length) = (ckS lo hi e.1 e.2 st).bind (ckL lo hi r)
    rw [Nat.add_zero] at h1 h2
    rw [h1, h2]
    cases ckS lo hi e.1 e.2 st with
    | none => rfl
    | some s =>
      refine ih (k + 1) s (fun j e' he => ?_)
      have := h (j + 1) e' (by rw [List.getElem?_cons_succ]; exact he)
      rw [show k + 1 + j = k + (j + 1) by omega]
      exact this
def Gd (lo hi d : Nat) (ok : Nat → Prop) (E : CD) : Prop := 0 < E.length ∧ ∀ st : List Nat, st.length + d ≤ 32 → ∃ y, ok y ∧ ckL lo hi E st = some (y :: st)
theorem Gd.mono {lo hi d d' : Nat} {ok : Nat → Prop} {E : CD} (h : Gd lo hi d ok E) (hd : d ≤ d') : Gd lo hi d' ok E := ⟨h.1, fun st hs => h.2 st (by omega)⟩
theorem Gd_two {lo hi d : Nat} {okA okB okC : Nat → Prop} {E0 E1 : CD} {o : Int32} (h0 : Gd lo hi (d + 1) okA E0) (h1 : Gd lo hi d okB E1) (ho : ∀ x y st, okA x → okB y → ∃ z, okC z ∧ ckS lo hi o 0 (y :: x :: st) = some (z :: st)) : Gd lo hi (d + 1) okC (E0 ++ (E1 ++ [(o, 0)])) := by
  refine ⟨by simp only [List.length_append, List.length_cons]; omega, fun st hs => ?_⟩
  obtain ⟨x, hx, e0⟩ := h0.2 st hs
  obtain ⟨y, hy, e1⟩ := h1.2 (x :: st) (by simp only [List.length_cons]; omega)
  obtain ⟨z, hz, e2⟩ := ho x y st hx hy
  refine ⟨z, hz, ?_⟩
  rw [ckL_app, e0]
  show ckL lo hi (E1 ++ [(o, 0)]) (x :: st) = _
  rw [ckL_app, e1]
  show (ckS lo hi o 0 (y :: x :: st)).bind (ckL lo hi []) = _
  rw [e2]
  rfl
def num (y : Nat) : Prop := y ≠ 1
def yes (y : Nat) : Prop := y = 1
theorem op_num {lo hi : Nat} {o : Int32} (h : o = 2 ∨ o = 3 ∨ o = 4) (x y : Nat) (st : List Nat) (hx : num x) (hy : num y) : ∃ z, num z ∧ ckS lo hi o 0 (y :: x :: st) = some (z :: st) := by
  refine ⟨0, by unfold num; decide, ?_⟩
  unfold ckS
  rcases h with rfl | rfl | rfl
  · rw [if_neg (by decide), if_neg (by decide), if_neg (by decide), if_neg (by decide), if_pos (by decide)]; exact if_pos ⟨hx, hy⟩
  · rw [if_neg (by decide), if_neg (by decide), if_neg (by decide), if_neg (by decide), if_pos (by decide)]; exact if_pos ⟨hx, hy⟩
  · rw [if_neg (by decide), if_neg (by decide), if_neg (by decide), if_neg (by decide), if_pos (by decide)]; exact if_pos ⟨hx, hy⟩
theorem op_cmp {lo hi : Nat} {o : Int32} (h : o = 6 ∨ o = 7 ∨ o = 8) (x y : Nat) (st : List Nat) (hx : num x) (hy : num y) : ∃ z, yes z ∧ ckS lo hi o 0 (y :: x :: st) = some (z :: st) := by
  refine ⟨1, rfl, ?_⟩
  unfold ckS
  rcases h with rfl | rfl | rfl
  · rw [if_neg (by decide), if_neg (by decide), if_neg (by decide), if_neg (by decide), if_neg (by decide), if_pos (by decide)]; exact if_pos ⟨hx, hy⟩
  · rw [if_neg (by decide), if_neg (by decide), if_neg (by decide), if_neg (by decide), if_neg (by decide), if_pos (by decide)]; exact if_pos ⟨hx, hy⟩
  · rw [if_neg (by decide), if_neg (by decide), if_neg (by decide), if_neg (by decide), if_neg (by decide), if_pos (by decide)]; exact if_pos ⟨hx, hy⟩
theorem op_div {lo hi : Nat} (x y : Nat) (st : List Nat) (hx : num x) (hy : y = 2) : ∃ z, num z ∧ ckS lo hi 5 0 (y :: x :: st) = some (z :: st) := by
  refine ⟨0, by unfold num; decide, ?_⟩
  subst hy
  unfold ckS
  rw [if_neg (by decide), if_neg (by decide), if_neg (by decide), if_pos (by decide)]
  exact if_pos hx
theorem op_log {lo hi : Nat} {o : Int32} (h : o = 10 ∨ o = 11) (x y : Nat) (st : List Nat) (hx : yes x) (hy : yes y) : ∃ z, yes z ∧ ckS lo hi o 0 (y :: x :: st) = some (z :: st) := by
  refine ⟨1, rfl, ?_⟩
  unfold yes at hx hy
  subst hx
  subst hy
  unfold ckS
  rcases h with rfl | rfl
  · rw [if_neg (by decide), if_neg (by decide), if_neg (by decide), if_neg (by decide), if_neg (by decide), if_neg (by decide), if_pos (by decide)]; rfl
  · rw [if_neg (by decide), if_neg (by decide), if_neg (by decide), if_neg (by decide), if_neg (by decide), if_neg (by decide), if_pos (by decide)]; rfl
def Ty (lo hi d : Nat) (ok : Nat → Prop) (p : Nat → CD → PR) : Prop := ∀ i C j D, p i C = .inr (j, D) → ∃ E, D = C ++ E ∧ Gd lo hi d ok E
def Lp (lo hi d : Nat) (ok : Nat → Prop) (p : Nat → CD → PR) : Prop := ∀ i C E0 j D, Gd lo hi d ok E0 → p i (C ++ E0) = .inr (j, D) → ∃ E, D = C ++ E ∧ Gd lo hi d ok E
theorem Ty.mono {lo hi d d' : Nat} {ok : Nat → Prop} {p : Nat → CD → PR} (h : Ty lo hi d ok p) (hd : d ≤ d') : Ty lo hi d' ok p := fun i C j D e => by
  obtain ⟨E, h1, h2⟩ := h i C j D e
  exact ⟨E, h1, h2.mono hd⟩
theorem Ty_bd {lo hi d : Nat} {ok : Nat → Prop} {p f : Nat → CD → PR} (hp : Ty lo hi d ok p) (hf : Lp lo hi d ok f) : Ty lo hi d ok (fun i C => bd (p i C) f) := by
  intro i C j D h
  have h : bd (p i C) f = .inr (j, D) := h
  cases e : p i C with
  | inl q => rw [e] at h; cases h
  | inr q =>
    obtain ⟨j1, D1⟩ := q
    rw [e] at h
    obtain ⟨E, h1, h2⟩ := hp i C j1 D1 e
    have h : f j1 D1 = .inr (j, D) := h
    rw [h1] at h
    exact hf j1 C E j D h2 h
theorem Lp_step {lo hi d : Nat} {ok okB : Nat → Prop} {p g : Nat → CD → PR} {o : Int32} {i : Nat} (hp : ∀ C j D, p i C = .inr (j, D) → ∃ E, D = C ++ E ∧ Gd lo hi d okB E) (hg : Lp lo hi (d + 1) ok g) (ho : ∀ x y st, ok x → okB y → ∃ z, ok z ∧ ckS lo hi o 0 (y :: x :: st) = some (z :: st)) {C E0 : CD} {j : Nat} {D : CD} (h0 : Gd lo hi (d + 1) ok E0) (h : bd (p i (C ++ E0)) (fun j D => g j (D ++ [(o, 0)])) = .inr (j, D)) : ∃ E, D = C ++ E ∧ Gd lo hi (d + 1) ok E := by
  cases e : p i (C ++ E0) with
  | inl q => rw [e] at h; cases h
  | inr q =>
    obtain ⟨j1, D1⟩ := q
    rw [e] at h
    obtain ⟨E, h1, h2⟩ := hp _ j1 D1 e
    have h : g j1 (D1 ++ [(o, 0)]) = .inr (j, D) := h
    rw [h1, List.append_assoc, List.append_assoc] at h
    exact hg j1 C _ j D (Gd_two h0 h2 ho) h
def lwL (lw : Bool) : Nat := if lw = true then 0 else 8
def lwH (lw : Bool) : Nat := if lw = true then 8 else 14
theorem neg_a {k : Int32} (h : k < 0) : (0 : Int32) ≤ -1 - k ∧ ((-1 - k : Int32) = 0 ↔ k = -1) := by
  have e : (-1 - k : Int32) = ~~~ k := by
    have := Int32.not_eq_neg_sub k
    rw [this, Int32.sub_eq_add_neg, Int32.sub_eq_add_neg, Int32.add_comm]
  have i : (-1 - k : Int32).toInt = -1 - k.toInt := by
    have h' : k.toInt < 0 := Int32.lt_iff_toInt_lt.mp h
    have l := Int32.le_toInt k
    rw [e, Int32.toInt_not]
    rw [show (-k.toInt - 1).bmod (2 ^ 32) = -k.toInt - 1 from Int.bmod_eq_of_le (by omega) (by omega)]
    omega
  constructor
  · apply Int32.le_iff_toInt_le.mpr
    rw [i]
    have h' : k.toInt < 0 := Int32.lt_iff_toInt_lt.mp h
    have : (0 : Int32).toInt = 0 := rfl
    omega
  · constructor
    · intro z
      have z : (-1 - k : Int32).toInt = (0 : Int32).toInt := by rw [z]
      rw [i] at z
      apply Int32.toInt_inj.mp
      have : (0 : Int32).toInt = 0 := rfl
      have : (-1 : Int32).toInt = -1 := rfl
      omega
    · intro z; rw [z]; decide
theorem Ty_unit (lw : Bool) (KS : Nat → Int32) : Ty (lwL lw) (lwH lw) 1 num (pUnit lw KS) := by
  intro i C j D h
  unfold pUnit at h
  cases e : uF lw (KS i) with
  | none => rw [e] at h; cases h
  | some q =>
    rw [e] at h
    cases h
    refine ⟨[q], rfl, by simp, fun st hs => ?_⟩
    unfold uF at e
    by_cases c : KS i < 0
    · rw [if_pos c] at e
      cases e
      refine ⟨if -1 - KS i = 0 then 0 else 2, by unfold num; split <;> decide, ?_⟩
      show (ckS _ _ 0 (-1 - KS i) st).bind (ckL _ _ []) = _
      unfold ckS
      rw [if_pos rfl, if_pos ⟨by omega, (neg_a c).1⟩]
      rfl
    · rw [if_neg c] at e
      by_cases f : fct lw (KS i)
      · rw [if_pos f] at e
        cases e
        refine ⟨0, by unfold num; decide, ?_⟩
        show (ckS _ _ 1 (KS i - 265) st).bind (ckL _ _ []) = _
        unfold ckS
        rw [if_neg (by decide), if_pos rfl]
        have key : 0 ≤ KS i - 265 ∧ nI (lwL lw) ≤ KS i - 265 ∧ KS i - 265 < nI (lwH lw) := by
          unfold fct at f
          have d : ∀ a b : Nat, 265 ≤ a → a ≤ b → b < 300 → nI a ≤ KS i → KS i < nI b → ∃ w, KS i = nI w ∧ a ≤ w ∧ w < b := by
            intro a b h1 h2 h3 h4 h5
            have u1 := Int32.le_iff_toInt_le.mp h4
            have u2 := Int32.lt_iff_toInt_lt.mp h5
            have ta : (nI a).toInt = a := nI_toInt (by omega)
            have tb : (nI b).toInt = b := nI_toInt (by omega)
            refine ⟨(KS i).toInt.toNat, ?_, by omega, by omega⟩
            apply Int32.toInt_inj.mp
            rw [nI_toInt (by omega)]
            omega
          have fin : ∀ w : Nat, 265 ≤ w → w < 300 → lwL lw ≤ w - 265 → w - 265 < lwH lw → KS i = nI w → 0 ≤ KS i - 265 ∧ nI (lwL lw) ≤ KS i - 265 ∧ KS i - 265 < nI (lwH lw) := by
            intro w w1 w2 w3 w4 e
            have e2 : KS i - 265 = nI (w - 265) := by rw [e, show (265 : Int32) = nI 265 from rfl, nI_sb w1]
            rw [e2]
            have hb : lwH lw < 100 := by unfold lwH; split <;> decide
            exact ⟨nI_le (a := 0) (by omega) (by omega), nI_le w3 (by omega), nI_lt w4 (by omega)⟩
          rcases f with ⟨l, f1, f2⟩ | ⟨l, f1, f2⟩
          · obtain ⟨w, w1, w2, w3⟩ := d 265 273 (by decide) (by decide) (by decide) f1 f2
            refine fin w (by omega) (by omega) ?_ ?_ w1
            · unfold lwL; rw [if_pos l]; omega
            · unfold lwH; rw [if_pos l]; omega
          · obtain ⟨w, w1, w2, w3⟩ := d 273 279 (by decide) (by decide) (by decide) f1 f2
            have l : ¬ lw = true := by rw [l]; decide
            refine fin w (by omega) (by omega) ?_ ?_ w1
            · unfold lwL; rw [if_neg l]; omega
            · unfold lwH; rw [if_neg l]; omega
        rw [if_pos ⟨by omega, key⟩]
        rfl
      · rw [if_neg f] at e; cases e
theorem Ty_lit {lw : Bool} {KS : Nat → Int32} {i : Nat} (h1 : KS i < 0) (h2 : ¬ KS i = -1) : ∀ C j D, pUnit lw KS i C = .inr (j, D) → ∃ E, D = C ++ E ∧ Gd (lwL lw) (lwH lw) 1 (fun y => y = 2) E := by
  intro C j D h
  unfold pUnit uF at h
  rw [if_pos h1] at h
  cases h
  refine ⟨_, rfl, by simp, fun st hs => ⟨2, rfl, ?_⟩⟩
  show (ckS _ _ 0 (-1 - KS i) st).bind (ckL _ _ []) = _
  unfold ckS
  rw [if_pos rfl, if_pos ⟨by omega, (neg_a h1).1⟩, if_neg (fun z => h2 ((neg_a h1).2.mp z))]
  rfl
