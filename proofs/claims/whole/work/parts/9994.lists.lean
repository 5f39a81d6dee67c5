/-! THE CONSTRUCTORS: heaps that are lists (my own) -/
def kOf : List (Nat × Nat × Nat) → Nat → Nat × Nat
  | [], _ => (0, 0)
  | e :: r, a => if a = e.1 then e.2 else kOf r a
def rOf : List (Nat × Nat × Nat) → Nat → Nat → Option Nat
  | [], _, _ => none
  | e :: r, a, k => if a = e.1 ∧ k = e.2.1 then some e.2.2 else rOf r a k
def iOf : List (Nat × Nat × Int32) → Nat → Nat → Int32
  | [], _, _ => 0
  | e :: r, a, k => if a = e.1 ∧ k = e.2.1 then e.2.2 else iOf r a k
def bh (is : List (Nat × Nat × Int32)) (rs ks : List (Nat × Nat × Nat)) : Hp := (iOf is, fun _ _ => 0, rOf rs, kOf ks)
section BH
variable {is : List (Nat × Nat × Int32)} {rs ks : List (Nat × Nat × Nat)} {o q c f kd n a : Nat}
theorem bK : hpK (bh is rs ks) a = kOf ks a := rfl
theorem bR {k : Nat} : hpR (bh is rs ks) a k = rOf rs a k := rfl
theorem b_stI {k : Nat} {v : Int32} : stI (bh is rs ks) a k v = bh ((a, k, v) :: is) rs ks := rfl
theorem b_stR {k b : Nat} : stR (bh is rs ks) a k (some b) = bh is ((a, k, b) :: rs) ks := by
  refine hp_ext (fun _ _ => rfl) (fun _ _ => rfl) (fun x j => ?_) (fun _ => rfl)
  show (if x = a ∧ j = k then some b else rOf rs x j) = (if x = a ∧ j = k then some b else rOf rs x j)
  rfl
theorem iOf_no (k : Nat) : ∀ is : List (Nat × Nat × Int32), (is.all (fun e => e.1 != a)) = true → iOf is a k = 0
  | [], _ => rfl
  | e :: r, h => by
    rw [List.all_cons, Bool.and_eq_true] at h
    have h1 : a ≠ e.1 := fun z => by have := h.1; rw [z] at this; simp at this
    show (if a = e.1 ∧ k = e.2.1 then e.2.2 else iOf r a k) = 0
    rw [if_neg (fun z => h1 z.1)]
    exact iOf_no k r h.2
theorem rOf_no (k : Nat) : ∀ rs : List (Nat × Nat × Nat), (rs.all (fun e => e.1 != a)) = true → rOf rs a k = none
  | [], _ => rfl
  | e :: r, h => by
    rw [List.all_cons, Bool.and_eq_true] at h
    have h1 : a ≠ e.1 := fun z => by have := h.1; rw [z] at this; simp at this
    show (if a = e.1 ∧ k = e.2.1 then some e.2.2 else rOf r a k) = none
    rw [if_neg (fun z => h1 z.1)]
    exact rOf_no k r h.2
theorem kOf_no : ∀ ks : List (Nat × Nat × Nat), (ks.all (fun e => e.1 != a)) = true → kOf ks a = (0, 0)
  | [], _ => rfl
  | e :: r, h => by
    rw [List.all_cons, Bool.and_eq_true] at h
    have h1 : a ≠ e.1 := fun z => by have := h.1; rw [z] at this; simp at this
    show (if a = e.1 then e.2 else kOf r a) = (0, 0)
    rw [if_neg h1]
    exact kOf_no r h.2
theorem b_al (h1 : (is.all (fun e => e.1 != a)) = true) (h2 : (rs.all (fun e => e.1 != a)) = true) : alc (bh is rs ks) a kd n = bh is rs ((a, kd, n) :: ks) := by
  refine hp_ext (fun x j => ?_) (fun x j => ?_) (fun x j => ?_) (fun x => ?_)
  · show (if x = a then 0 else iOf is x j) = iOf is x j
    by_cases e : x = a
    · rw [if_pos e, e, iOf_no j is h1]
    · rw [if_neg e]
  · show (if x = a then (0 : Int64) else 0) = 0
    by_cases e : x = a
    · rw [if_pos e]
    · rw [if_neg e]
  · show (if x = a then none else rOf rs x j) = rOf rs x j
    by_cases e : x = a
    · rw [if_pos e, e, rOf_no j rs h2]
    · rw [if_neg e]
  · show (if x = a then (kd, n) else kOf ks x) = (if x = a then (kd, n) else kOf ks x)
    rfl
theorem b_ok (h : (kOf ks a).1 ≠ 0) : okP (bh is rs ks) (some a) := okP_some h
theorem kOf_s {e : Nat × Nat} : kOf ((a, e) :: ks) a = e := by
  show (if a = a then e else kOf ks a) = e
  rw [if_pos rfl]
theorem kOf_o {e : Nat × Nat} (h : o ≠ a) : kOf ((a, e) :: ks) o = kOf ks o := by
  show (if o = a then e else kOf ks o) = kOf ks o
  rw [if_neg h]
theorem b_new {P : Nat → Hp → Prop} (q : Nat) (h1 : (kOf ks o).1 = 20 + c) (h2 : (kOf ks q).1 = 0) (h0 : kd ≠ 0) (h3 : (is.all (fun e => e.1 != q)) = true) (h4 : (rs.all (fun e => e.1 != q)) = true) (hP : P q (bh is ((o, f, q) :: rs) ((q, kd, n) :: ks))) : okP (bh is rs ks) (some o) ∧ (∃ q1 : Nat, (hpK (bh is rs ks) q1).1 = 0 ∧ (∀ h2 : Hp, h2 = alc (bh is rs ks) q1 kd n → (((hpK h2 o).1 = 20 + c) ∧ (okP h2 (some q1) ∧ (∀ h8 : Hp, h8 = stR h2 o f (some q1) → P q1 h8))))) := by
  have no : o ≠ q := fun z => by rw [z, h2] at h1; omega
  refine ⟨b_ok (by rw [h1]; omega), q, h2, fun h2' e2 => ?_⟩
  subst e2
  rw [b_al h3 h4]
  refine ⟨by rw [bK, kOf_o no]; exact h1, b_ok (by rw [kOf_s]; exact h0), fun h8 e8 => ?_⟩
  subst e8
  rw [b_stR]
  exact hP
theorem b_alc {P : Nat → Hp → Prop} (q : Nat) (h1 : (kOf ks o).1 ≠ 0) (h2 : (kOf ks q).1 = 0) (h0 : kd ≠ 0) (h3 : (is.all (fun e => e.1 != q)) = true) (h4 : (rs.all (fun e => e.1 != q)) = true) (hP : P q (bh is rs ((q, kd, n) :: ks))) : okP (bh is rs ks) (some o) ∧ (∃ q1 : Nat, (hpK (bh is rs ks) q1).1 = 0 ∧ (∀ h2 : Hp, h2 = alc (bh is rs ks) q1 kd n → P q1 h2)) := by
  refine ⟨b_ok h1, q, h2, fun h2' e2 => ?_⟩
  subst e2
  rw [b_al h3 h4]
  exact hP
theorem b_set {P : Hp → Prop} {i v : Int32} (j m : Nat) (hi : i = nI j) (hk : kOf ks a = (kd, m)) (hj : j < m) (hm : m < 2 ^ 31) (hP : P (bh ((a, j, v) :: is) rs ks)) : okA (bh is rs ks) (some a) kd i ∧ (∀ h' : Hp, h' = stI (bh is rs ks) a i.toNatClampNeg v → P h') := by
  refine ⟨okA_s.mpr ⟨by rw [bK, hk], by rw [bK, hk, hi]; exact vp_in_nI hj hm⟩, fun h' e => ?_⟩
  subst e
  rw [hi, nI_clamp (by omega), b_stI]
  exact hP
theorem b_fld {P : Hp → Prop} {v : Int32} {k : Nat} (h1 : (kOf ks o).1 = 20 + c) (hP : P (bh ((o, k, v) :: is) rs ks)) : ((hpK (bh is rs ks) o).1 = 20 + c) ∧ (∀ h' : Hp, h' = stI (bh is rs ks) o k v → P h') := ⟨h1, fun h' e => by subst e; exact hP⟩
theorem b_ref {P : Hp → Prop} {k b : Nat} (h1 : (kOf ks o).1 = 20 + c) (h2 : (kOf ks b).1 ≠ 0) (hP : P (bh is ((o, k, b) :: rs) ks)) : ((hpK (bh is rs ks) o).1 = 20 + c) ∧ (okP (bh is rs ks) (some b) ∧ (∀ h' : Hp, h' = stR (bh is rs ks) o k (some b) → P h')) := ⟨h1, b_ok h2, fun h' e => by subst e; rw [b_stR]; exact hP⟩
end BH
