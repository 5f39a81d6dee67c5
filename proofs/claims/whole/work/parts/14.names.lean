/-! CELLS BY NAMES: the heap g speaks of names, A tells the address of each (my own) -/
def Inj (A : Nat → Nat) (g : Hp) : Prop := ∀ a b, (hpK g a).1 ≠ 0 → (hpK g b).1 ≠ 0 → A a = A b → a = b
def Cl (g : Hp) : Prop := ∀ a k b, (hpK g a).1 ≠ 0 → hpR g a k = some b → (hpK g b).1 ≠ 0
def EM (A0 : Nat → Nat) (g0 : Hp) (A : Nat → Nat) (g : Hp) : Prop := ∀ a, (hpK g0 a).1 ≠ 0 → hpK g a = hpK g0 a ∧ A a = A0 a
def okP (g : Hp) (r : Option Nat) : Prop := ∀ b, r = some b → (hpK g b).1 ≠ 0
noncomputable def nmA (A : Nat → Nat) (K : Nat → Nat × Nat) (a : Nat) : Option Nat := @dite _ (∃ b, (K b).1 ≠ 0 ∧ A b = a) (Classical.propDecidable _) (fun h => some h.choose) (fun _ => none)
noncomputable def mv (A : Nat → Nat) (g : Hp) : Hp := (fun a k => match nmA A (hpK g) a with | some b => hpI g b k | none => 0, fun a k => match nmA A (hpK g) a with | some b => hpL g b k | none => 0, fun a k => match nmA A (hpK g) a with | some b => (hpR g b k).map A | none => none, fun a => match nmA A (hpK g) a with | some b => hpK g b | none => (0, 0))
theorem nmA_at {A : Nat → Nat} {g : Hp} (hi : Inj A g) {a : Nat} (ha : (hpK g a).1 ≠ 0) : nmA A (hpK g) (A a) = some a := by
  have h : ∃ b, (hpK g b).1 ≠ 0 ∧ A b = A a := ⟨a, ha, rfl⟩
  unfold nmA
  rw [dif_pos h]
  exact congrArg some (hi _ _ h.choose_spec.1 ha h.choose_spec.2)
theorem nmA_some {A : Nat → Nat} {K : Nat → Nat × Nat} {a b : Nat} (h : nmA A K a = some b) : (K b).1 ≠ 0 ∧ A b = a := by
  unfold nmA at h
  by_cases hx : ∃ b, (K b).1 ≠ 0 ∧ A b = a
  · rw [dif_pos hx] at h
    cases h
    exact hx.choose_spec
  · rw [dif_neg hx] at h; cases h
theorem nmA_none {A : Nat → Nat} {K : Nat → Nat × Nat} {a : Nat} (h : nmA A K a = none) : ∀ b, (K b).1 ≠ 0 → A b ≠ a := by
  intro b hb e
  unfold nmA at h
  rw [dif_pos ⟨b, hb, e⟩] at h
  cases h
theorem mvI {A : Nat → Nat} {g : Hp} (hi : Inj A g) {a : Nat} (ha : (hpK g a).1 ≠ 0) (k : Nat) : hpI (mv A g) (A a) k = hpI g a k := by
  show (match nmA A (hpK g) (A a) with | some b => hpI g b k | none => 0) = _
  rw [nmA_at hi ha]
theorem mvL {A : Nat → Nat} {g : Hp} (hi : Inj A g) {a : Nat} (ha : (hpK g a).1 ≠ 0) (k : Nat) : hpL (mv A g) (A a) k = hpL g a k := by
  show (match nmA A (hpK g) (A a) with | some b => hpL g b k | none => 0) = _
  rw [nmA_at hi ha]
theorem mvR {A : Nat → Nat} {g : Hp} (hi : Inj A g) {a : Nat} (ha : (hpK g a).1 ≠ 0) (k : Nat) : hpR (mv A g) (A a) k = (hpR g a k).map A := by
  show (match nmA A (hpK g) (A a) with | some b => (hpR g b k).map A | none => none) = _
  rw [nmA_at hi ha]
theorem mvK {A : Nat → Nat} {g : Hp} (hi : Inj A g) {a : Nat} (ha : (hpK g a).1 ≠ 0) : hpK (mv A g) (A a) = hpK g a := by
  show (match nmA A (hpK g) (A a) with | some b => hpK g b | none => (0, 0)) = _
  rw [nmA_at hi ha]
theorem hp_ext {g h : Hp} (h1 : ∀ a k, hpI g a k = hpI h a k) (h2 : ∀ a k, hpL g a k = hpL h a k) (h3 : ∀ a k, hpR g a k = hpR h a k) (h4 : ∀ a, hpK g a = hpK h a) : g = h := by
  obtain ⟨g1, g2, g3, g4⟩ := g
  obtain ⟨e1, e2, e3, e4⟩ := h
  have a1 : g1 = e1 := funext fun a => funext fun k => h1 a k
  have a2 : g2 = e2 := funext fun a => funext fun k => h2 a k
  have a3 : g3 = e3 := funext fun a => funext fun k => h3 a k
  have a4 : g4 = e4 := funext fun a => h4 a
  subst a1; subst a2; subst a3; subst a4; rfl
theorem mv_stI {A : Nat → Nat} {g : Hp} (hi : Inj A g) {a : Nat} (ha : (hpK g a).1 ≠ 0) (k : Nat) (v : Int32) : stI (mv A g) (A a) k v = mv A (stI g a k v) := by
  refine hp_ext (fun b j => ?_) (fun b j => rfl) (fun b j => rfl) (fun b => rfl)
  show (if b = A a ∧ j = k then v else (match nmA A (hpK g) b with | some c => hpI g c j | none => 0)) = (match nmA A (hpK g) b with | some c => (if c = a ∧ j = k then v else hpI g c j) | none => 0)
  cases hn : nmA A (hpK g) b with
  | none => rw [if_neg (fun h => nmA_none hn a ha h.1.symm)]
  | some c =>
    obtain ⟨hc, rfl⟩ := nmA_some hn
    by_cases hca : c = a
    · subst hca; simp
    · have : ¬ A c = A a := fun e => hca (hi _ _ hc ha e)
      simp [this, hca]
theorem mv_stL {A : Nat → Nat} {g : Hp} (hi : Inj A g) {a : Nat} (ha : (hpK g a).1 ≠ 0) (k : Nat) (v : Int64) : stL (mv A g) (A a) k v = mv A (stL g a k v) := by
  refine hp_ext (fun b j => rfl) (fun b j => ?_) (fun b j => rfl) (fun b => rfl)
  show (if b = A a ∧ j = k then v else (match nmA A (hpK g) b with | some c => hpL g c j | none => 0)) = (match nmA A (hpK g) b with | some c => (if c = a ∧ j = k then v else hpL g c j) | none => 0)
  cases hn : nmA A (hpK g) b with
  | none => rw [if_neg (fun h => nmA_none hn a ha h.1.symm)]
  | some c =>
    obtain ⟨hc, rfl⟩ := nmA_some hn
    by_cases hca : c = a
    · subst hca; simp
    · have : ¬ A c = A a := fun e => hca (hi _ _ hc ha e)
      simp [this, hca]
theorem mv_stR {A : Nat → Nat} {g : Hp} (hi : Inj A g) {a : Nat} (ha : (hpK g a).1 ≠ 0) (k : Nat) (v : Option Nat) : stR (mv A g) (A a) k (v.map A) = mv A (stR g a k v) := by
  refine hp_ext (fun b j => rfl) (fun b j => rfl) (fun b j => ?_) (fun b => rfl)
  show (if b = A a ∧ j = k then v.map A else (match nmA A (hpK g) b with | some c => (hpR g c j).map A | none => none)) = (match nmA A (hpK g) b with | some c => (if c = a ∧ j = k then v else hpR g c j).map A | none => none)
  cases hn : nmA A (hpK g) b with
  | none => rw [if_neg (fun h => nmA_none hn a ha h.1.symm)]
  | some c =>
    obtain ⟨hc, rfl⟩ := nmA_some hn
    by_cases hca : c = a
    · subst hca
      by_cases hj : j = k <;> simp [hj]
    · have : ¬ A c = A a := fun e => hca (hi _ _ hc ha e)
      simp [this, hca]
theorem mv_cpI {A : Nat → Nat} {g : Hp} (hi : Inj A g) {x y : Nat} (hx : (hpK g x).1 ≠ 0) (hy : (hpK g y).1 ≠ 0) (sp dp n : Nat) : cpI (mv A g) (A x) (A y) sp dp n = mv A (cpI g x y sp dp n) := by
  refine hp_ext (fun b j => ?_) (fun b j => rfl) (fun b j => rfl) (fun b => rfl)
  have ex : hpI (mv A g) (A x) = hpI g x := funext fun k => mvI hi hx k
  have ey : hpI (mv A g) (A y) = hpI g y := funext fun k => mvI hi hy k
  show (if b = A y then va_cpy (hpI (mv A g) (A x)) (hpI (mv A g) (A y)) sp dp n j else (match nmA A (hpK g) b with | some c => hpI g c j | none => 0)) = (match nmA A (hpK g) b with | some c => (if c = y then va_cpy (hpI g x) (hpI g y) sp dp n j else hpI g c j) | none => 0)
  rw [ex, ey]
  cases hn : nmA A (hpK g) b with
  | none => rw [if_neg (fun h => nmA_none hn y hy h.symm)]
  | some c =>
    obtain ⟨hc, rfl⟩ := nmA_some hn
    by_cases hca : c = y
    · subst hca; simp
    · have : ¬ A c = A y := fun e => hca (hi _ _ hc hy e)
      simp [this, hca]
theorem nmA_up {A : Nat → Nat} {K K' : Nat → Nat × Nat} {q r : Nat} (hr : (K r).1 = 0) (hq : nmA A K q = none) (hi : ∀ a b, (K a).1 ≠ 0 → (K b).1 ≠ 0 → A a = A b → a = b) (hK : ∀ b, b ≠ r → K' b = K b) (hKr : (K' r).1 ≠ 0) (b : Nat) : nmA (va_up A r q) K' b = if b = q then some r else nmA A K b := by
  have key : ∀ c, (K' c).1 ≠ 0 → va_up A r q c = b → (c = r ∧ b = q) ∨ (c ≠ r ∧ (K c).1 ≠ 0 ∧ A c = b) := by
    intro c hc e
    by_cases hcr : c = r
    · subst hcr; rw [va_up_self] at e; exact Or.inl ⟨rfl, e.symm⟩
    · rw [va_up_ne _ _ hcr] at e; rw [hK c hcr] at hc; exact Or.inr ⟨hcr, hc, e⟩
  by_cases hb : b = q
  · subst hb
    rw [if_pos rfl]
    have hx : ∃ c, (K' c).1 ≠ 0 ∧ va_up A r b c = b := ⟨r, hKr, va_up_self _ _ _⟩
    unfold nmA
    rw [dif_pos hx]
    rcases key _ hx.choose_spec.1 hx.choose_spec.2 with h | h
    · exact congrArg some h.1
    · exact absurd h.2.2 (nmA_none hq _ h.2.1)
  · rw [if_neg hb]
    cases hn : nmA A K b with
    | none =>
      unfold nmA
      rw [dif_neg]
      rintro ⟨c, hc, e⟩
      rcases key c hc e with h | h
      · exact hb h.2
      · exact nmA_none hn c h.2.1 h.2.2
    | some d =>
      obtain ⟨hd, e⟩ := nmA_some hn
      have hdr : d ≠ r := fun h => by rw [h] at hd; exact hd hr
      have hx : ∃ c, (K' c).1 ≠ 0 ∧ va_up A r q c = b := ⟨d, by rw [hK d hdr]; exact hd, by rw [va_up_ne _ _ hdr]; exact e⟩
      unfold nmA
      rw [dif_pos hx]
      rcases key _ hx.choose_spec.1 hx.choose_spec.2 with h | h
      · exact absurd h.2 hb
      · exact congrArg some (hi _ _ h.2.1 hd (h.2.2.trans e.symm))
theorem map_up {A : Nat → Nat} {g : Hp} (hc : Cl g) {r q b k : Nat} (hr : (hpK g r).1 = 0) (hb : (hpK g b).1 ≠ 0) : (hpR g b k).map (va_up A r q) = (hpR g b k).map A := by
  cases h : hpR g b k with
  | none => rfl
  | some d =>
    have hd := hc b k d hb h
    have : d ≠ r := fun e => by rw [e] at hd; exact hd hr
    simp [va_up, this]
theorem mv_0 {A : Nat → Nat} {g : Hp} {q : Nat} (h : (hpK (mv A g) q).1 = 0) : nmA A (hpK g) q = none := by
  cases hn : nmA A (hpK g) q with
  | none => rfl
  | some b =>
    exfalso
    obtain ⟨hb, rfl⟩ := nmA_some hn
    have : (hpK (mv A g) (A b)) = hpK g b := by
      show (match nmA A (hpK g) (A b) with | some b => hpK g b | none => (0, 0)) = _
      rw [hn]
    rw [this] at h
    exact hb h
theorem mv_new {A : Nat → Nat} {g : Hp} {q r kd n : Nat} (hi : Inj A g) (hc : Cl g) (hr : (hpK g r).1 = 0) (hq : (hpK (mv A g) q).1 = 0) (hk : kd ≠ 0) : alc (mv A g) q kd n = mv (va_up A r q) (alc g r kd n) := by
  have hn0 := mv_0 hq
  have hup := nmA_up (K' := hpK (alc g r kd n)) hr hn0 hi (fun b hb => by rw [hpK_alc, if_neg hb]) (by rw [hpK_alc, if_pos rfl]; exact hk)
  refine hp_ext (fun b j => ?_) (fun b j => ?_) (fun b j => ?_) (fun b => ?_)
  · show (if b = q then 0 else (match nmA A (hpK g) b with | some c => hpI g c j | none => 0)) = (match nmA (va_up A r q) (hpK (alc g r kd n)) b with | some c => (if c = r then 0 else hpI g c j) | none => 0)
    rw [hup b]
    by_cases hb : b = q
    · simp [hb]
    · rw [if_neg hb, if_neg hb]
      cases hn : nmA A (hpK g) b with
      | none => rfl
      | some c =>
        have : c ≠ r := fun h => by have := (nmA_some hn).1; rw [h] at this; exact this hr
        simp [this]
  · show (if b = q then 0 else (match nmA A (hpK g) b with | some c => hpL g c j | none => 0)) = (match nmA (va_up A r q) (hpK (alc g r kd n)) b with | some c => (if c = r then 0 else hpL g c j) | none => 0)
    rw [hup b]
    by_cases hb : b = q
    · simp [hb]
    · rw [if_neg hb, if_neg hb]
      cases hn : nmA A (hpK g) b with
      | none => rfl
      | some c =>
        have : c ≠ r := fun h => by have := (nmA_some hn).1; rw [h] at this; exact this hr
        simp [this]
  · show (if b = q then none else (match nmA A (hpK g) b with | some c => (hpR g c j).map A | none => none)) = (match nmA (va_up A r q) (hpK (alc g r kd n)) b with | some c => (if c = r then none else hpR g c j).map (va_up A r q) | none => none)
    rw [hup b]
    by_cases hb : b = q
    · simp [hb]
    · rw [if_neg hb, if_neg hb]
      cases hn : nmA A (hpK g) b with
      | none => rfl
      | some c =>
        have hcn := (nmA_some hn).1
        have : c ≠ r := fun h => by rw [h] at hcn; exact hcn hr
        simp only [if_neg this]
        exact (map_up hc hr hcn).symm
  · show (if b = q then (kd, n) else (match nmA A (hpK g) b with | some c => hpK g c | none => (0, 0))) = (match nmA (va_up A r q) (hpK (alc g r kd n)) b with | some c => (if c = r then (kd, n) else hpK g c) | none => (0, 0))
    rw [hup b]
    by_cases hb : b = q
    · simp [hb]
    · rw [if_neg hb, if_neg hb]
      cases hn : nmA A (hpK g) b with
      | none => rfl
      | some c =>
        have : c ≠ r := fun h => by have := (nmA_some hn).1; rw [h] at this; exact this hr
        simp [this]
theorem mv_cl {A : Nat → Nat} {g : Hp} {q r x : Nat} (hi : Inj A g) (hc : Cl g) (hr : (hpK g r).1 = 0) (hq : (hpK (mv A g) q).1 = 0) (hx : (hpK g x).1 ≠ 0) : clI (mv A g) q (A x) = mv (va_up A r q) (clI g r x) := by
  have hn0 := mv_0 hq
  have hKr : hpK (clI g r x) r = (1, (hpK g x).2) := by simp [hpK, clI]
  have hup := nmA_up (K' := hpK (clI g r x)) hr hn0 hi (fun b hb => by simp [hpK, clI, hb]) (by rw [hKr]; exact Nat.succ_ne_zero _)
  have ex : hpI (mv A g) (A x) = hpI g x := funext fun k => mvI hi hx k
  have ek : hpK (mv A g) (A x) = hpK g x := mvK hi hx
  refine hp_ext (fun b j => ?_) (fun b j => ?_) (fun b j => ?_) (fun b => ?_)
  · show (if b = q then hpI (mv A g) (A x) j else (match nmA A (hpK g) b with | some c => hpI g c j | none => 0)) = (match nmA (va_up A r q) (hpK (clI g r x)) b with | some c => (if c = r then hpI g x j else hpI g c j) | none => 0)
    rw [hup b, ex]
    by_cases hb : b = q
    · simp [hb]
    · rw [if_neg hb, if_neg hb]
      cases hn : nmA A (hpK g) b with
      | none => rfl
      | some c =>
        have : c ≠ r := fun h => by have := (nmA_some hn).1; rw [h] at this; exact this hr
        simp [this]
  · show (if b = q then 0 else (match nmA A (hpK g) b with | some c => hpL g c j | none => 0)) = (match nmA (va_up A r q) (hpK (clI g r x)) b with | some c => (if c = r then 0 else hpL g c j) | none => 0)
    rw [hup b]
    by_cases hb : b = q
    · simp [hb]
    · rw [if_neg hb, if_neg hb]
      cases hn : nmA A (hpK g) b with
      | none => rfl
      | some c =>
        have : c ≠ r := fun h => by have := (nmA_some hn).1; rw [h] at this; exact this hr
        simp [this]
  · show (if b = q then none else (match nmA A (hpK g) b with | some c => (hpR g c j).map A | none => none)) = (match nmA (va_up A r q) (hpK (clI g r x)) b with | some c => (if c = r then none else hpR g c j).map (va_up A r q) | none => none)
    rw [hup b]
    by_cases hb : b = q
    · simp [hb]
    · rw [if_neg hb, if_neg hb]
      cases hn : nmA A (hpK g) b with
      | none => rfl
      | some c =>
        have hcn := (nmA_some hn).1
        have : c ≠ r := fun h => by rw [h] at hcn; exact hcn hr
        simp only [if_neg this]
        exact (map_up hc hr hcn).symm
  · show (if b = q then (1, (hpK (mv A g) (A x)).2) else (match nmA A (hpK g) b with | some c => hpK g c | none => (0, 0))) = (match nmA (va_up A r q) (hpK (clI g r x)) b with | some c => (if c = r then (1, (hpK g x).2) else hpK g c) | none => (0, 0))
    rw [hup b, ek]
    by_cases hb : b = q
    · simp [hb]
    · rw [if_neg hb, if_neg hb]
      cases hn : nmA A (hpK g) b with
      | none => rfl
      | some c =>
        have : c ≠ r := fun h => by have := (nmA_some hn).1; rw [h] at this; exact this hr
        simp [this]
