/-! READING A TEXT, as plain functions over the tokens' kinds (my own) -/
abbrev CD : Type := List (Int32 × Int32)
abbrev PR : Type := (Nat × Nat) ⊕ (Nat × CD)
def bd (r : PR) (f : Nat → CD → PR) : PR := match r with
  | .inl e => .inl e
  | .inr q => f q.1 q.2
theorem bd_l {e : Nat × Nat} {f : Nat → CD → PR} : bd (.inl e) f = .inl e := rfl
theorem bd_r {i : Nat} {C : CD} {f : Nat → CD → PR} : bd (.inr (i, C)) f = f i C := rfl
theorem bd_bd (r : PR) (f g : Nat → CD → PR) : bd (bd r f) g = bd r (fun i C => bd (f i C) g) := by
  cases r <;> rfl
def fct (lw : Bool) (k : Int32) : Prop := (lw = true ∧ 265 ≤ k ∧ k < 273) ∨ (lw = false ∧ 273 ≤ k ∧ k < 279)
noncomputable def uF (lw : Bool) (k : Int32) : Option (Int32 × Int32) := if k < 0 then some (0, -1 - k) else @ite _ (fct lw k) (Classical.propDecidable _) (some (1, k - 265)) none
noncomputable def pUnit (lw : Bool) (KS : Nat → Int32) (i : Nat) (C : CD) : PR := match uF lw (KS i) with
  | some e => .inr (i + 1, C ++ [e])
  | none => .inl (1, i)
noncomputable def pProdL (lw : Bool) (KS : Nat → Int32) : Nat → Nat → CD → PR
  | 0, i, C => .inr (i, C)
  | F + 1, i, C => if KS i = 42 then bd (pUnit lw KS (i + 1) C) (fun j D => pProdL lw KS F j (D ++ [(4, 0)])) else if KS i = 47 then (if KS (i + 1) = -1 then .inl (2, i + 1) else if KS (i + 1) < 0 then bd (pUnit lw KS (i + 1) C) (fun j D => pProdL lw KS F j (D ++ [(5, 0)])) else .inl (1, i + 1)) else .inr (i, C)
noncomputable def pProd (lw : Bool) (KS : Nat → Int32) (i : Nat) (C : CD) : PR := bd (pUnit lw KS i C) (pProdL lw KS 601)
noncomputable def pSumL (lw : Bool) (KS : Nat → Int32) : Nat → Nat → CD → PR
  | 0, i, C => .inr (i, C)
  | F + 1, i, C => if KS i = 43 then bd (pProd lw KS (i + 1) C) (fun j D => pSumL lw KS F j (D ++ [(2, 0)])) else if KS i = 45 then bd (pProd lw KS (i + 1) C) (fun j D => pSumL lw KS F j (D ++ [(3, 0)])) else .inr (i, C)
noncomputable def pSum (lw : Bool) (KS : Nat → Int32) (i : Nat) (C : CD) : PR := bd (pProd lw KS i C) (pSumL lw KS 601)
noncomputable def pCmpR (lw : Bool) (KS : Nat → Int32) (o : Int32) (i : Nat) (C : CD) : PR := bd (pSum lw KS (i + 1) C) (fun j D => .inr (j, D ++ [(o, 0)]))
noncomputable def pCmp2 (lw : Bool) (KS : Nat → Int32) (i : Nat) (C : CD) : PR := if KS i = 60 then pCmpR lw KS 6 i C else if KS i = 61 then pCmpR lw KS 7 i C else if KS i = 62 then pCmpR lw KS 8 i C else .inl (1, i)
noncomputable def pCmp (lw : Bool) (KS : Nat → Int32) (i : Nat) (C : CD) : PR := bd (pSum lw KS i C) (pCmp2 lw KS)
def pBothL (KS : Nat → Int32) (cl : Nat → CD → PR) : Nat → Nat → CD → PR
  | 0, i, C => .inr (i, C)
  | F + 1, i, C => if KS i = 257 then bd (cl (i + 1) C) (fun j D => pBothL KS cl F j (D ++ [(10, 0)])) else .inr (i, C)
def pBoth (KS : Nat → Int32) (cl : Nat → CD → PR) (i : Nat) (C : CD) : PR := bd (cl i C) (pBothL KS cl 601)
def pEithL (KS : Nat → Int32) (cl : Nat → CD → PR) : Nat → Nat → CD → PR
  | 0, i, C => .inr (i, C)
  | F + 1, i, C => if KS i = 256 then bd (pBoth KS cl (i + 1) C) (fun j D => pEithL KS cl F j (D ++ [(11, 0)])) else .inr (i, C)
def pEith (KS : Nat → Int32) (cl : Nat → CD → PR) (i : Nat) (C : CD) : PR := bd (pBoth KS cl i C) (pEithL KS cl 601)
def pEnd (KS : Nat → Int32) (x : Int32) (i : Nat) (C : CD) : PR := if KS i = x then .inr (i + 1, C) else .inl (1, i)
noncomputable def pClaim (lw : Bool) (KS : Nat → Int32) : Nat → Nat → CD → PR
  | 0, i, C => if KS i = 258 then .inl (3, i) else if KS i = 40 then .inl (3, i) else pCmp lw KS i C
  | r + 1, i, C => if KS i = 258 then bd (pClaim lw KS r (i + 1) C) (fun j D => .inr (j, D ++ [(9, 0)])) else if KS i = 40 then bd (pEith KS (pClaim lw KS r) (i + 1) C) (pEnd KS 41) else pCmp lw KS i C
/-! what they keep: on they go, no more codes than tokens -/
def Inc (c : Nat) (p : Nat → CD → PR) : Prop := ∀ i C, i ≤ c → (∀ j D, p i C = .inr (j, D) → i < j ∧ j ≤ c ∧ D.length + i ≤ C.length + j) ∧ ∀ k j, p i C = .inl (k, j) → j ≤ c ∧ 0 < k ∧ k < 4
/-- the same, of what may stand still -/
def Inz (c : Nat) (p : Nat → CD → PR) : Prop := ∀ i C, i ≤ c → (∀ j D, p i C = .inr (j, D) → i ≤ j ∧ j ≤ c ∧ D.length + i ≤ C.length + j) ∧ ∀ k j, p i C = .inl (k, j) → j ≤ c ∧ 0 < k ∧ k < 4
section PU
variable {lw : Bool} {KS : Nat → Int32} {c : Nat}
theorem k_lt (hc : KS c = 0) {i : Nat} (hi : i ≤ c) {x : Int32} (h : KS i = x) (hx : x ≠ 0) : i < c := by
  rcases Nat.lt_or_ge i c with q | q
  · exact q
  · have : i = c := by omega
    subst this
    exact absurd (hc.symm.trans h).symm hx
theorem Inc_unit (hc : KS c = 0) : Inc c (pUnit lw KS) := by
  intro i C hi
  unfold pUnit
  cases h : uF lw (KS i) with
  | none =>
    refine ⟨fun j D e => by simp at e, fun k j e => ?_⟩
    simp at e
    omega
  | some e =>
    refine ⟨fun j D q => ?_, fun k j q => by simp at q⟩
    have hl : i < c := by
      rcases Nat.lt_or_ge i c with q | q
      · exact q
      · have : i = c := by omega
        subst this
        rw [hc] at h
        unfold uF fct at h
        rw [if_neg (by decide)] at h
        have : ¬ ((lw = true ∧ (265 : Int32) ≤ 0 ∧ (0 : Int32) < 273) ∨ (lw = false ∧ (273 : Int32) ≤ 0 ∧ (0 : Int32) < 279)) := by
          rintro (⟨-, z, -⟩ | ⟨-, z, -⟩) <;> exact absurd z (by decide)
        rw [if_neg this] at h
        cases h
    simp at q
    obtain ⟨q1, q2⟩ := q
    subst q1
    subst q2
    simp
    omega
theorem Inc_bd {p : Nat → CD → PR} {f : Nat → CD → PR} (hp : Inc c p) (hf : Inz c f) : Inc c (fun i C => bd (p i C) f) := by
  intro i C hi
  obtain ⟨h1, h2⟩ := hp i C hi
  cases h : p i C with
  | inl e =>
    obtain ⟨k, j⟩ := e
    refine ⟨fun j' D q => by simp [h, bd] at q, fun k' j' q => ?_⟩
    simp [h, bd] at q
    obtain ⟨q1, q2⟩ := q
    subst q1
    subst q2
    exact h2 k j h
  | inr e =>
    obtain ⟨j, D⟩ := e
    obtain ⟨a1, a2, a3⟩ := h1 j D h
    obtain ⟨b1, b2⟩ := hf j D a2
    refine ⟨fun j' D' q => ?_, fun k' j' q => ?_⟩
    · have q : f j D = .inr (j', D') := by simpa [h, bd] using q
      obtain ⟨d1, d2, d3⟩ := b1 j' D' q
      omega
    · have q : f j D = .inl (k', j') := by simpa [h, bd] using q
      exact b2 k' j' q
/-- a sign that is passed gives room for a code -/
theorem Inz_op {p g : Nat → CD → PR} (hp : Inc c p) (hg : Inz c g) {i : Nat} {C : CD} (hi : i < c) (o : Int32) : (∀ j D, bd (p (i + 1) C) (fun j D => g j (D ++ [(o, 0)])) = .inr (j, D) → i < j ∧ j ≤ c ∧ D.length + i ≤ C.length + j) ∧ ∀ k j, bd (p (i + 1) C) (fun j D => g j (D ++ [(o, 0)])) = .inl (k, j) → j ≤ c ∧ 0 < k ∧ k < 4 := by
  obtain ⟨h1, h2⟩ := hp (i + 1) C (by omega)
  cases h : p (i + 1) C with
  | inl e =>
    obtain ⟨k, j⟩ := e
    refine ⟨fun j' D q => by simp [bd] at q, fun k' j' q => ?_⟩
    simp [bd] at q
    obtain ⟨q1, q2⟩ := q
    subst q1
    subst q2
    exact h2 k j h
  | inr e =>
    obtain ⟨j, D⟩ := e
    obtain ⟨a1, a2, a3⟩ := h1 j D h
    obtain ⟨b1, b2⟩ := hg j (D ++ [(o, 0)]) a2
    refine ⟨fun j' D' q => ?_, fun k' j' q => ?_⟩
    · have q : g j (D ++ [(o, 0)]) = .inr (j', D') := q
      obtain ⟨d1, d2, d3⟩ := b1 j' D' q
      simp at d3
      omega
    · exact b2 k' j' q
theorem Inz_stay {i : Nat} {C : CD} (hi : i ≤ c) : (∀ j D, (Sum.inr (i, C) : PR) = .inr (j, D) → i ≤ j ∧ j ≤ c ∧ D.length + i ≤ C.length + j) ∧ ∀ k j, (Sum.inr (i, C) : PR) = .inl (k, j) → j ≤ c ∧ 0 < k ∧ k < 4 := by
  refine ⟨fun j D q => ?_, fun k j q => by cases q⟩
  cases q
  omega
theorem Inz_bad {i m k0 : Nat} {C : CD} (hm : m ≤ c) (h0 : 0 < k0) (h4 : k0 < 4) : (∀ j D, (Sum.inl (k0, m) : PR) = .inr (j, D) → i ≤ j ∧ j ≤ c ∧ D.length + i ≤ C.length + j) ∧ ∀ k j, (Sum.inl (k0, m) : PR) = .inl (k, j) → j ≤ c ∧ 0 < k ∧ k < 4 := by
  refine ⟨fun j D q => (by cases q), fun k j q => ?_⟩
  cases q
  exact ⟨hm, h0, h4⟩
theorem Inz_prodL (hc : KS c = 0) : ∀ F, Inz c (pProdL lw KS F) := by
  intro F
  induction F with
  | zero => intro i C hi; exact Inz_stay hi
  | succ F ih =>
    intro i C hi
    unfold pProdL
    by_cases e1 : KS i = 42
    · rw [if_pos e1]
      have := Inz_op (Inc_unit hc (lw := lw)) ih (k_lt hc hi e1 (by decide)) 4 (C := C)
      exact ⟨fun j D q => by have := this.1 j D q; omega, this.2⟩
    · rw [if_neg e1]
      by_cases e2 : KS i = 47
      · rw [if_pos e2]
        have hl := k_lt hc hi e2 (by decide)
        by_cases e3 : KS (i + 1) = -1
        · rw [if_pos e3]; exact Inz_bad hl (by decide) (by decide)
        · rw [if_neg e3]
          by_cases e4 : KS (i + 1) < 0
          · rw [if_pos e4]
            have := Inz_op (Inc_unit hc (lw := lw)) ih hl 5 (C := C)
            exact ⟨fun j D q => by have := this.1 j D q; omega, this.2⟩
          · rw [if_neg e4]; exact Inz_bad hl (by decide) (by decide)
      · rw [if_neg e2]; exact Inz_stay hi
theorem Inc_prod (hc : KS c = 0) : Inc c (pProd lw KS) := Inc_bd (Inc_unit hc) (Inz_prodL hc 601)
theorem Inz_sumL (hc : KS c = 0) : ∀ F, Inz c (pSumL lw KS F) := by
  intro F
  induction F with
  | zero => intro i C hi; exact Inz_stay hi
  | succ F ih =>
    intro i C hi
    unfold pSumL
    by_cases e1 : KS i = 43
    · rw [if_pos e1]
      have := Inz_op (Inc_prod hc (lw := lw)) ih (k_lt hc hi e1 (by decide)) 2 (C := C)
      exact ⟨fun j D q => by have := this.1 j D q; omega, this.2⟩
    · rw [if_neg e1]
      by_cases e2 : KS i = 45
      · rw [if_pos e2]
        have := Inz_op (Inc_prod hc (lw := lw)) ih (k_lt hc hi e2 (by decide)) 3 (C := C)
        exact ⟨fun j D q => by have := this.1 j D q; omega, this.2⟩
      · rw [if_neg e2]; exact Inz_stay hi
theorem Inc_sum (hc : KS c = 0) : Inc c (pSum lw KS) := Inc_bd (Inc_prod hc) (Inz_sumL hc 601)
theorem Inz_id : Inz c (fun i C => .inr (i, C)) := fun i C hi => Inz_stay hi
theorem Inz_cmp2 (hc : KS c = 0) : Inz c (pCmp2 lw KS) := by
  intro i C hi
  unfold pCmp2 pCmpR
  have go : ∀ o x : Int32, KS i = x → x ≠ 0 → (∀ j D, bd (pSum lw KS (i + 1) C) (fun j D => .inr (j, D ++ [(o, 0)])) = .inr (j, D) → i ≤ j ∧ j ≤ c ∧ D.length + i ≤ C.length + j) ∧ ∀ k j, bd (pSum lw KS (i + 1) C) (fun j D => .inr (j, D ++ [(o, 0)])) = .inl (k, j) → j ≤ c ∧ 0 < k ∧ k < 4 := by
    intro o x e hx
    have := Inz_op (Inc_sum hc (lw := lw)) Inz_id (k_lt hc hi e hx) o (C := C)
    exact ⟨fun j D q => by have := this.1 j D q; omega, this.2⟩
  by_cases e1 : KS i = 60
  · rw [if_pos e1]; exact go 6 _ e1 (by decide)
  · rw [if_neg e1]
    by_cases e2 : KS i = 61
    · rw [if_pos e2]; exact go 7 _ e2 (by decide)
    · rw [if_neg e2]
      by_cases e3 : KS i = 62
      · rw [if_pos e3]; exact go 8 _ e3 (by decide)
      · rw [if_neg e3]; exact Inz_bad hi (by decide) (by decide)
theorem Inc_cmp (hc : KS c = 0) : Inc c (pCmp lw KS) := Inc_bd (Inc_sum hc) (Inz_cmp2 hc)
theorem Inz_bothL (hc : KS c = 0) {cl : Nat → CD → PR} (hl : Inc c cl) : ∀ F, Inz c (pBothL KS cl F) := by
  intro F
  induction F with
  | zero => intro i C hi; exact Inz_stay hi
  | succ F ih =>
    intro i C hi
    unfold pBothL
    by_cases e1 : KS i = 257
    · rw [if_pos e1]
      have := Inz_op hl ih (k_lt hc hi e1 (by decide)) 10 (C := C)
      exact ⟨fun j D q => by have := this.1 j D q; omega, this.2⟩
    · rw [if_neg e1]; exact Inz_stay hi
theorem Inc_both (hc : KS c = 0) {cl : Nat → CD → PR} (hl : Inc c cl) : Inc c (pBoth KS cl) := Inc_bd hl (Inz_bothL hc hl 601)
theorem Inz_eithL (hc : KS c = 0) {cl : Nat → CD → PR} (hl : Inc c cl) : ∀ F, Inz c (pEithL KS cl F) := by
  intro F
  induction F with
  | zero => intro i C hi; exact Inz_stay hi
  | succ F ih =>
    intro i C hi
    unfold pEithL
    by_cases e1 : KS i = 256
    · rw [if_pos e1]
      have := Inz_op (Inc_both hc hl) ih (k_lt hc hi e1 (by decide)) 11 (C := C)
      exact ⟨fun j D q => by have := this.1 j D q; omega, this.2⟩
    · rw [if_neg e1]; exact Inz_stay hi
theorem Inc_eith (hc : KS c = 0) {cl : Nat → CD → PR} (hl : Inc c cl) : Inc c (pEith KS cl) := Inc_bd (Inc_both hc hl) (Inz_eithL hc hl 601)
theorem Inz_end (hc : KS c = 0) {x : Int32} (hx : x ≠ 0) : Inz c (pEnd KS x) := by
  intro i C hi
  unfold pEnd
  by_cases e : KS i = x
  · rw [if_pos e]
    have := k_lt hc hi e hx
    refine ⟨fun j D q => ?_, fun k j q => by cases q⟩
    cases q
    omega
  · rw [if_neg e]; exact Inz_bad hi (by decide) (by decide)
theorem Inc_claim (hc : KS c = 0) : ∀ r, Inc c (pClaim lw KS r) := by
  intro r
  induction r with
  | zero =>
    intro i C hi
    unfold pClaim
    by_cases e1 : KS i = 258
    · rw [if_pos e1]
      have := Inz_bad (c := c) (i := i) (C := C) hi (show 0 < 3 by decide) (by decide)
      exact ⟨fun j D q => (by cases q), this.2⟩
    · rw [if_neg e1]
      by_cases e2 : KS i = 40
      · rw [if_pos e2]
        have := Inz_bad (c := c) (i := i) (C := C) hi (show 0 < 3 by decide) (by decide)
        exact ⟨fun j D q => (by cases q), this.2⟩
      · rw [if_neg e2]; exact Inc_cmp hc i C hi
  | succ r ih =>
    intro i C hi
    unfold pClaim
    by_cases e1 : KS i = 258
    · rw [if_pos e1]
      exact Inz_op ih Inz_id (k_lt hc hi e1 (by decide)) 9
    · rw [if_neg e1]
      by_cases e2 : KS i = 40
      · rw [if_pos e2]
        have hl := k_lt hc hi e2 (by decide)
        obtain ⟨a1, a2⟩ := Inc_bd (Inc_eith hc ih) (Inz_end hc (x := 41) (by decide)) (i + 1) C hl
        exact ⟨fun j D q => by have := a1 j D q; omega, a2⟩
      · rw [if_neg e2]; exact Inc_cmp hc i C hi
end PU
