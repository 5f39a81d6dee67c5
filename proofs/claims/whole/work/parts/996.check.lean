/-! WHAT WAS READ CAN BE WORKED OUT: sums, claims, lines (my own) -/
section TC
variable {lw : Bool} {KS : Nat → Int32}
theorem Lp_prod : ∀ F, Lp (lwL lw) (lwH lw) 2 num (pProdL lw KS F) := by
  intro F
  induction F with
  | zero => intro i C E0 j D h0 h; cases h; exact ⟨E0, rfl, h0⟩
  | succ F ih =>
    intro i C E0 j D h0 h
    unfold pProdL at h
    by_cases c1 : KS i = 42
    · rw [if_pos c1] at h
      exact Lp_step (p := pUnit lw KS) (i := i + 1) (fun C j D e => Ty_unit lw KS _ C j D e) ih (op_num (by decide)) h0 h
    · rw [if_neg c1] at h
      by_cases c2 : KS i = 47
      · rw [if_pos c2] at h
        by_cases c3 : KS (i + 1) = -1
        · rw [if_pos c3] at h; cases h
        · rw [if_neg c3] at h
          by_cases c4 : KS (i + 1) < 0
          · rw [if_pos c4] at h
            exact Lp_step (p := pUnit lw KS) (i := i + 1) (Ty_lit c4 c3) ih op_div h0 h
          · rw [if_neg c4] at h; cases h
      · rw [if_neg c2] at h
        cases h
        exact ⟨E0, rfl, h0⟩
theorem Ty_prod : Ty (lwL lw) (lwH lw) 2 num (pProd lw KS) := Ty_bd ((Ty_unit lw KS).mono (by decide)) (Lp_prod 601)
theorem Lp_sum : ∀ F, Lp (lwL lw) (lwH lw) 3 num (pSumL lw KS F) := by
  intro F
  induction F with
  | zero => intro i C E0 j D h0 h; cases h; exact ⟨E0, rfl, h0⟩
  | succ F ih =>
    intro i C E0 j D h0 h
    unfold pSumL at h
    by_cases c1 : KS i = 43
    · rw [if_pos c1] at h
      exact Lp_step (p := pProd lw KS) (i := i + 1) (fun C j D e => Ty_prod _ C j D e) ih (op_num (by decide)) h0 h
    · rw [if_neg c1] at h
      by_cases c2 : KS i = 45
      · rw [if_pos c2] at h
        exact Lp_step (p := pProd lw KS) (i := i + 1) (fun C j D e => Ty_prod _ C j D e) ih (op_num (by decide)) h0 h
      · rw [if_neg c2] at h
        cases h
        exact ⟨E0, rfl, h0⟩
theorem Ty_sum : Ty (lwL lw) (lwH lw) 3 num (pSum lw KS) := Ty_bd (Ty_prod.mono (by decide)) (Lp_sum 601)
theorem Ty_cmp : Ty (lwL lw) (lwH lw) 4 yes (pCmp lw KS) := by
  intro i C j D h
  unfold pCmp at h
  cases e : pSum lw KS i C with
  | inl q => rw [e] at h; cases h
  | inr q =>
    obtain ⟨j1, D1⟩ := q
    rw [e] at h
    obtain ⟨E1, h1, g1⟩ := Ty_sum i C j1 D1 e
    have h : pCmp2 lw KS j1 D1 = .inr (j, D) := h
    have R : ∀ o : Int32, (o = 6 ∨ o = 7 ∨ o = 8) → pCmpR lw KS o j1 D1 = .inr (j, D) → ∃ E, D = C ++ E ∧ Gd (lwL lw) (lwH lw) 4 yes E := by
      intro o ho hr
      unfold pCmpR at hr
      cases e2 : pSum lw KS (j1 + 1) D1 with
      | inl q => rw [e2] at hr; cases hr
      | inr q =>
        obtain ⟨j2, D2⟩ := q
        rw [e2] at hr
        obtain ⟨E2, h2, g2⟩ := Ty_sum _ D1 j2 D2 e2
        have hr : (.inr (j2, D2 ++ [(o, 0)]) : PR) = .inr (j, D) := hr
        cases hr
        refine ⟨E1 ++ (E2 ++ [(o, 0)]), ?_, Gd_two (d := 3) (g1.mono (by decide)) g2 (op_cmp ho)⟩
        rw [h2, h1, List.append_assoc, List.append_assoc]
    unfold pCmp2 at h
    by_cases c1 : KS j1 = 60
    · rw [if_pos c1] at h; exact R 6 (by decide) h
    · rw [if_neg c1] at h
      by_cases c2 : KS j1 = 61
      · rw [if_pos c2] at h; exact R 7 (by decide) h
      · rw [if_neg c2] at h
        by_cases c3 : KS j1 = 62
        · rw [if_pos c3] at h; exact R 8 (by decide) h
        · rw [if_neg c3] at h; cases h
theorem Lp_both {lo hi d : Nat} {cl : Nat → CD → PR} (hc : Ty lo hi d yes cl) : ∀ F, Lp lo hi (d + 1) yes (pBothL KS cl F) := by
  intro F
  induction F with
  | zero => intro i C E0 j D h0 h; cases h; exact ⟨E0, rfl, h0⟩
  | succ F ih =>
    intro i C E0 j D h0 h
    unfold pBothL at h
    by_cases c1 : KS i = 257
    · rw [if_pos c1] at h
      exact Lp_step (p := cl) (i := i + 1) (fun C j D e => hc _ C j D e) ih (op_log (by decide)) h0 h
    · rw [if_neg c1] at h
      cases h
      exact ⟨E0, rfl, h0⟩
theorem Ty_both {lo hi d : Nat} {cl : Nat → CD → PR} (hc : Ty lo hi d yes cl) : Ty lo hi (d + 1) yes (pBoth KS cl) := Ty_bd (hc.mono (by omega)) (Lp_both hc 601)
theorem Lp_eith {lo hi d : Nat} {cl : Nat → CD → PR} (hc : Ty lo hi d yes cl) : ∀ F, Lp lo hi (d + 2) yes (pEithL KS cl F) := by
  intro F
  induction F with
  | zero => intro i C E0 j D h0 h; cases h; exact ⟨E0, rfl, h0⟩
  | succ F ih =>
    intro i C E0 j D h0 h
    unfold pEithL at h
    by_cases c1 : KS i = 256
    · rw [if_pos c1] at h
      exact Lp_step (d := d + 1) (p := pBoth KS cl) (i := i + 1) (fun C j D e => Ty_both hc _ C j D e) ih (op_log (by decide)) h0 h
    · rw [if_neg c1] at h
      cases h
      exact ⟨E0, rfl, h0⟩
theorem Ty_eith {lo hi d : Nat} {cl : Nat → CD → PR} (hc : Ty lo hi d yes cl) : Ty lo hi (d + 2) yes (pEith KS cl) := Ty_bd ((Ty_both hc).mono (by omega)) (Lp_eith hc 601)
theorem pEnd_r {x : Int32} {i j : Nat} {C D : CD} (h : pEnd KS x i C = .inr (j, D)) : D = C := by
  unfold pEnd at h
  by_cases c : KS i = x
  · rw [if_pos c] at h; cases h; rfl
  · rw [if_neg c] at h; cases h
theorem Ty_claim : ∀ r, Ty (lwL lw) (lwH lw) (4 + 2 * r) yes (pClaim lw KS r) := by
  intro r
  induction r with
  | zero =>
    intro i C j D h
    unfold pClaim at h
    by_cases c1 : KS i = 258
    · rw [if_pos c1] at h; cases h
    · rw [if_neg c1] at h
      by_cases c2 : KS i = 40
      · rw [if_pos c2] at h; cases h
      · rw [if_neg c2] at h
        exact Ty_cmp i C j D h
  | succ r ih =>
    intro i C j D h
    unfold pClaim at h
    by_cases c1 : KS i = 258
    · rw [if_pos c1] at h
      cases e : pClaim lw KS r (i + 1) C with
      | inl q => rw [e] at h; cases h
      | inr q =>
        obtain ⟨j1, D1⟩ := q
        rw [e] at h
        obtain ⟨E1, h1, g1⟩ := ih _ C j1 D1 e
        have h : (.inr (j1, D1 ++ [(9, 0)]) : PR) = .inr (j, D) := h
        cases h
        refine ⟨E1 ++ [(9, 0)], by rw [h1, List.append_assoc], by simp only [List.length_append, List.length_cons]; omega, fun st hs => ⟨1, rfl, ?_⟩⟩
        obtain ⟨y, hy, e1⟩ := g1.2 st (by omega)
        have hy : y = 1 := hy
        subst hy
        rw [ckL_app, e1]
        show (ckS (lwL lw) (lwH lw) 9 0 (1 :: st)).bind (ckL (lwL lw) (lwH lw) []) = _
        unfold ckS
        rw [if_neg (by decide), if_neg (by decide), if_pos rfl]
        rfl
    · rw [if_neg c1] at h
      by_cases c2 : KS i = 40
      · rw [if_pos c2] at h
        cases e : pEith KS (pClaim lw KS r) (i + 1) C with
        | inl q => rw [e] at h; cases h
        | inr q =>
          obtain ⟨j1, D1⟩ := q
          rw [e] at h
          obtain ⟨E1, h1, g1⟩ := Ty_eith (KS := KS) ih _ C j1 D1 e
          have h : pEnd KS 41 j1 D1 = .inr (j, D) := h
          rw [pEnd_r h]
          exact ⟨E1, h1, g1.mono (by omega)⟩
      · rw [if_neg c2] at h
        exact Ty_cmp.mono (by omega) i C j D h
theorem Ty_whole : Ty (lwL lw) (lwH lw) 22 yes (fun i C => bd (pEith KS (pClaim lw KS 8) i C) (pEnd KS 59)) := by
  intro i C j D h
  have h : bd (pEith KS (pClaim lw KS 8) i C) (pEnd KS 59) = .inr (j, D) := h
  cases e : pEith KS (pClaim lw KS 8) i C with
  | inl q => rw [e] at h; cases h
  | inr q =>
    obtain ⟨j1, D1⟩ := q
    rw [e] at h
    obtain ⟨E1, h1, g1⟩ := Ty_eith (KS := KS) (Ty_claim (lw := lw) (KS := KS) 8) _ C j1 D1 e
    have h : pEnd KS 59 j1 D1 = .inr (j, D) := h
    rw [pEnd_r h]
    exact ⟨E1, h1, g1.mono (by omega)⟩
def seg (C : CD) (f n : Nat) : CD := (C.drop f).take n
theorem seg_mid (A B E : CD) : seg (A ++ (B ++ E)) A.length B.length = B := by
  unfold seg
  rw [List.drop_left, List.take_left]
theorem seg_app {C E : CD} {f n : Nat} (h : f + n ≤ C.length) : seg (C ++ E) f n = seg C f n := by
  unfold seg
  rw [List.drop_append_of_le_length (by omega), List.take_append_of_le_length (by rw [List.length_drop]; omega)]
def slo (lw : Bool) : Nat := if lw = true then 0 else 3
def shi (lw : Bool) : Nat := if lw = true then 3 else 5
/-- a line that was read -/
def LnOK (lw : Bool) (C : CD) (q : LR) : Prop := q.2.1 ≤ q.2.2.1 ∧ q.2.2.1 ≤ q.2.2.2 ∧ q.2.2.2 ≤ C.length ∧ slo lw ≤ q.1 ∧ q.1 < shi lw ∧ ((q.1 < 3 ∧ ∃ y, y ≠ 1 ∧ ckL (lwL lw) (lwH lw) (seg C q.2.1 (q.2.2.1 - q.2.1)) [] = some [y]) ∨ (3 ≤ q.1 ∧ q.2.1 = q.2.2.1 ∧ q.2.2.1 < q.2.2.2)) ∧ (q.2.2.1 < q.2.2.2 → ckL (lwL lw) (lwH lw) (seg C q.2.2.1 (q.2.2.2 - q.2.2.1)) [] = some [1])
theorem LnOK.app {C E : CD} {q : LR} (h : LnOK lw C q) : LnOK lw (C ++ E) q := by
  obtain ⟨h1, h2, h3, h4, h5, h6, h7⟩ := h
  refine ⟨h1, h2, by rw [List.length_append]; omega, h4, h5, ?_, fun z => ?_⟩
  · rw [seg_app (by omega)]; exact h6
  · rw [seg_app (by omega)]; exact h7 z
theorem hdk_sl {k : Int32} (h : hdk lw k) : slo lw ≤ k.toNatClampNeg - 260 ∧ k.toNatClampNeg - 260 < shi lw := by
  unfold hdk at h
  rcases h with ⟨l, h1, h2⟩ | ⟨l, h1⟩
  · unfold slo shi
    rw [if_pos l, if_pos l]
    have u1 := Int32.le_iff_toInt_le.mp h1
    have u2 := Int32.le_iff_toInt_le.mp h2
    have e1 : (260 : Int32).toInt = 260 := rfl
    have e2 : (262 : Int32).toInt = 262 := rfl
    have : k.toNatClampNeg = k.toInt.toNat := rfl
    omega
  · have l : ¬ lw = true := by rw [l]; decide
    unfold slo shi
    rw [if_neg l, if_neg l]
    rcases h1 with rfl | rfl <;> decide
theorem Ln_line {i j s : Nat} {C C2 : CD} (hh : hdk lw (KS i)) (h : pLine lw KS i C = .inr (j, C2, s)) : (∃ E, C2 = C ++ E) ∧ LnOK lw C2 ((KS i).toNatClampNeg - 260, C.length, s, C2.length) := by
  obtain ⟨o1, o2⟩ := hdk_sl hh
  unfold pLine at h
  by_cases l : lw = true
  · rw [if_pos l] at h
    have o3 : (KS i).toNatClampNeg - 260 < 3 := by unfold shi at o2; rw [if_pos l] at o2; exact o2
    cases e : pSum lw KS (i + 1) C with
    | inl q => rw [e] at h; cases h
    | inr q =>
      obtain ⟨j1, C1⟩ := q
      rw [e] at h
      obtain ⟨E1, h1, g1⟩ := Ty_sum _ C j1 C1 e
      obtain ⟨y, hy, c1⟩ := g1.2 [] (by decide)
      have h : (if KS j1 = 259 then mkL (bd (pEith KS (pClaim lw KS 8) (j1 + 1) C1) (pEnd KS 59)) C1.length else mkL (pEnd KS 59 j1 C1) C1.length) = .inr (j, C2, s) := h
      have l1 : C1.length = C.length + E1.length := by rw [h1, List.length_append]
      by_cases w : KS j1 = 259
      · rw [if_pos w] at h
        cases e2 : bd (pEith KS (pClaim lw KS 8) (j1 + 1) C1) (pEnd KS 59) with
        | inl q => rw [e2] at h; cases h
        | inr q =>
          obtain ⟨j2, C2'⟩ := q
          rw [e2] at h
          have h : (.inr (j2, C2', C1.length) : PL) = .inr (j, C2, s) := h
          cases h
          obtain ⟨E2, h2, g2⟩ := Ty_whole (lw := lw) (KS := KS) _ C1 _ C2 e2
          obtain ⟨y2, hy2, c2⟩ := g2.2 [] (by decide)
          have hy2 : y2 = 1 := hy2
          subst hy2
          have l2 : C2.length = C1.length + E2.length := by rw [h2, List.length_append]
          refine ⟨⟨E1 ++ E2, by rw [h2, h1, List.append_assoc]⟩, by show C.length ≤ C1.length; omega, by show C1.length ≤ C2.length; omega, Nat.le_refl _, o1, o2, Or.inl ⟨o3, y, hy, ?_⟩, fun _ => ?_⟩
          · show ckL _ _ (seg C2 C.length (C1.length - C.length)) [] = _
            rw [show C1.length - C.length = E1.length by omega, h2, h1, List.append_assoc, seg_mid]
            exact c1
          · show ckL _ _ (seg C2 C1.length (C2.length - C1.length)) [] = _
            rw [show C2.length - C1.length = E2.length by omega, h2, show C1 ++ E2 = C1 ++ (E2 ++ []) by rw [List.append_nil], seg_mid]
            exact c2
      · rw [if_neg w] at h
        cases e2 : pEnd KS 59 j1 C1 with
        | inl q => rw [e2] at h; cases h
        | inr q =>
          obtain ⟨j2, C2'⟩ := q
          rw [e2] at h
          have h : (.inr (j2, C2', C1.length) : PL) = .inr (j, C2, s) := h
          cases h
          have ee := pEnd_r e2
          subst ee
          refine ⟨⟨E1, h1⟩, by show C.length ≤ C2.length; omega, Nat.le_refl _, Nat.le_refl _, o1, o2, Or.inl ⟨o3, y, hy, ?_⟩, fun z => absurd z (Nat.lt_irrefl _)⟩
          show ckL _ _ (seg C2 C.length (C2.length - C.length)) [] = _
          rw [show C2.length - C.length = E1.length by omega, h1, show C ++ E1 = C ++ (E1 ++ []) by rw [List.append_nil], seg_mid]
          exact c1
  · rw [if_neg l] at h
    have o3 : 3 ≤ (KS i).toNatClampNeg - 260 := by unfold slo at o1; rw [if_neg l] at o1; exact o1
    cases e2 : bd (pEith KS (pClaim lw KS 8) (i + 1) C) (pEnd KS 59) with
    | inl q => rw [e2] at h; cases h
    | inr q =>
      obtain ⟨j2, C2'⟩ := q
      rw [e2] at h
      have h : (.inr (j2, C2', C.length) : PL) = .inr (j, C2, s) := h
      cases h
      obtain ⟨E2, h2, g2⟩ := Ty_whole (lw := lw) (KS := KS) _ C _ C2 e2
      obtain ⟨y2, hy2, c2⟩ := g2.2 [] (by decide)
      have hy2 : y2 = 1 := hy2
      subst hy2
      have l2 : C2.length = C.length + E2.length := by rw [h2, List.length_append]
      have l3 := g2.1
      refine ⟨⟨E2, h2⟩, Nat.le_refl _, by show C.length ≤ C2.length; omega, Nat.le_refl _, o1, o2, Or.inr ⟨o3, rfl, by show C.length < C2.length; omega⟩, fun _ => ?_⟩
      show ckL _ _ (seg C2 C.length (C2.length - C.length)) [] = _
      rw [show C2.length - C.length = E2.length by omega, h2, show C ++ E2 = C ++ (E2 ++ []) by rw [List.append_nil], seg_mid]
      exact c2
theorem Ln_text : ∀ (F i : Nat) (C : CD) (Ls : List LR) (C' : CD) (Ls' : List LR), (∀ q, q ∈ Ls → LnOK lw C q) → pText lw KS F i C Ls = .inr (C', Ls') → ∀ q, q ∈ Ls' → LnOK lw C' q := by
  intro F
  induction F with
  | zero => intro i C Ls C' Ls' h e; cases e
  | succ F ih =>
    intro i C Ls C' Ls' h e
    unfold pText at e
    by_cases k0 : KS i = 0
    · rw [if_pos k0] at e; cases e; exact h
    · rw [if_neg k0] at e
      cases e2 : pLine0 lw KS Ls.length i C with
      | inl q => rw [e2] at e; cases e
      | inr q =>
        obtain ⟨j, C2, s⟩ := q
        rw [e2] at e
        obtain ⟨q1, q2, q3⟩ := pLine0_inr e2
        obtain ⟨⟨E, hE⟩, hl⟩ := Ln_line q1 q3
        refine ih j C2 _ C' Ls' (fun q hq => ?_) e
        rcases List.mem_append.mp hq with z | z
        · rw [hE]; exact (h q z).app
        · rw [List.mem_singleton.mp z]; exact hl
end TC
