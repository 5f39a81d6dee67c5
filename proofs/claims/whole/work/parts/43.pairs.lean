/-! of, truth, look, edge (my own) -/
theorem pair_of {n : Nat} {g : Hp} (hI : Inv n g) (x1 x2 : Int32) : wp_X11_of 1 x1 x2 g (fun r h1 => wp_X12_of 400 x1 x2 h1 (fun r' h2 => r' = r ∧ Inv (n + 1) h2)) := by
  obtain ⟨I, L, D, rfl, h⟩ := hI
  have hD := h.1
  have n2 := hD.2.1
  have n3 := hD.2.2.1
  have hA := h.2.2.2.2.2.1
  have fin : Inv (n + 1) (fm (up2 I 400 0 0) L D) := Inv_told h
  have e1 : ∀ a k, a ≠ 400 → (up2 I 400 0 0) a k = I a k := fun a k hk => up2_o (by omega)
  have cB : (up2 I 400 0 0) 400 5 = nI D.nB := (up2_o (by omega)).trans h.2.1.2.2.2.1
  have cA : (up2 I 400 0 0) 400 12 = nI D.nA := (up2_o (by omega)).trans h.2.1.2.2.2.2.2.1
  unfold wp_X11_of wp_X12_of
  simp only [gK, gI, gL, gR_, g_stI, g_stL, forall_eq, true_and, ad_s, okA_s, okO_s, okN_s, i10, i00, if_true, if_false, reduceCtorEq, Kf_1, Kf_400, x_barrelAt n2, x_ballAt n3]
  by_cases h10 : (10 : Int32) ≤ x2
  · simp only [if_pos h10]
    unfold wp_X11_ofBarrel
    by_cases hw : inN x1 D.nB
    · obtain ⟨i, hi, rfl⟩ := inN_of (by omega) hw
      obtain ⟨q1, q2, q3, q4, q5, q6, q7, q8⟩ := h.2.2.2.2.1 i hi
      simp only [gK, gI, gL, gR_, g_stI, g_stL, forall_eq, true_and, ad_s, okA_s, okO_s, okN_s, i10, i00, if_true, if_false, reduceCtorEq, Kf_1, Kf_400, m_isBarrel cB, if_pos hw, nI_clamp (show i < 2 ^ 31 by omega), Kf_bar hi n2, Rf_400_8, Rf_400_9, Rf_400_10, Rf_400_11, okA_s, Kf_409, Kf_410, Kf_411, Kf_412, vp_in_nI (show i < 16 by omega) (by decide), forall_eq]
      by_cases a1 : x2 = 10
      · simp only [if_pos a1]; exact ⟨(e1 _ _ (by omega)).trans q3.symm, fin⟩
      · simp only [if_neg a1]
        by_cases a2 : x2 = 11
        · simp only [if_pos a2]; exact ⟨(e1 _ _ (by omega)).trans q5.symm, fin⟩
        · simp only [if_neg a2]
          by_cases a3 : x2 = 12
          · simp only [if_pos a3]; exact ⟨(e1 _ _ (by omega)).trans q7.symm, fin⟩
          · simp only [if_neg a3]
            by_cases a4 : x2 = 13
            · simp only [if_pos a4]; exact ⟨(e1 _ _ (by omega)).trans q8.symm, fin⟩
            · simp only [if_neg a4, true_and]; exact fin
    · simp only [gK, gI, gL, gR_, g_stI, g_stL, forall_eq, true_and, ad_s, okA_s, okO_s, okN_s, i10, i00, if_true, if_false, reduceCtorEq, Kf_1, Kf_400, m_isBarrel cB, if_neg hw]
      exact fin
  · simp only [if_neg h10]
    unfold wp_X11_ofBall
    by_cases hw : inN x1 D.nA
    · obtain ⟨i, hi, rfl⟩ := inN_of (by omega) hw
      obtain ⟨q1, q2, q3, q4, q5⟩ := hA i hi
      simp only [gK, gI, gL, gR_, g_stI, g_stL, forall_eq, true_and, ad_s, okA_s, okO_s, okN_s, i10, i00, if_true, if_false, reduceCtorEq, Kf_1, Kf_400, m_isBall cA, if_pos hw, nI_clamp (show i < 2 ^ 31 by omega), Kf_ball hi n3, Rf_400_14, Rf_400_15, Rf_400_16, okA_s, Kf_415, Kf_416, Kf_417, vp_in_nI (show i < 40 by omega) (by decide), forall_eq, Rf_gun hi n3]
      by_cases a0 : x2 = 0
      · simp only [if_pos a0]
        cases hg : D.gun i with
        | none =>
          simp only [Option.map_none, if_true]
          refine ⟨(e1 _ _ (by omega)).trans ?_, fin⟩
          rw [q3, hg]; rfl
        | some b =>
          have hb : b < D.nB := gun_lt hD hi b hg
          simp only [Option.map_some, reduceCtorEq, if_false, okO_s, gK, Kf_bar hb n2, ad_s, true_and]
          refine ⟨(e1 _ _ (by omega)).trans ?_, fin⟩
          rw [q3, hg, (h.2.2.2.2.1 b hb).2.1]; rfl
      · simp only [if_neg a0]
        by_cases a1 : x2 = 1
        · simp only [if_pos a1]; exact ⟨(e1 _ _ (by omega)).trans q4.symm, fin⟩
        · simp only [if_neg a1]
          by_cases a2 : x2 = 2
          · simp only [if_pos a2]; exact ⟨(e1 _ _ (by omega)).trans q5.symm, fin⟩
          · simp only [if_neg a2]
            by_cases a3 : x2 = 3
            · simp only [if_pos a3]
              refine x_missing hA hi n3 ?_
              simp only [gK, gI, gL, gR_, g_stI, g_stL, forall_eq, true_and, ad_s, okA_s, okO_s, okN_s, i10, i00, if_true, if_false, reduceCtorEq, Kf_1, Kf_400, m_isBall cA, if_pos hw]
              refine m_missing (show i < 40 by omega) ?_
              refine ⟨?_, fin⟩
              have : row (up2 I 400 0 0) i = row I i := by unfold row; funext j; exact up2_o (by omega)
              rw [this]
            · simp only [if_neg a3, true_and]; exact fin
    · simp only [gK, gI, gL, gR_, g_stI, g_stL, forall_eq, true_and, ad_s, okA_s, okO_s, okN_s, i10, i00, if_true, if_false, reduceCtorEq, Kf_1, Kf_400, m_isBall cA, if_neg hw]
      exact fin
/-- the truth of two balls: -1 none -/
def truF (I : Nat → Nat → Int32) (D : DD) (a b : Nat) : Int32 := match D.gun a, D.gun b with
  | some p, some q => if a = b then -1 else if p = q then 0 else if I 409 p = I 409 q then 1 else 2
  | _, _ => -1
section TF
variable {I : Nat → Nat → Int32} {L : Nat → Nat → Int64} {D : DD}
theorem x_truthOf {n a b : Nat} (h : InvI n I L D) (ha : a < D.nA) (hb : b < D.nA) {Q : Int32 → Hp → Prop} : wp_X11_truthOf (some (160 + 2 * a)) (some (160 + 2 * b)) (fm I L D) Q ↔ Q (truF I D a b) (fm I L D) := by
  have hD := h.1
  have n2 := hD.2.1
  have n3 := hD.2.2.1
  have hA := h.2.2.2.2.2.1
  unfold wp_X11_truthOf truF
  simp only [reduceCtorEq, if_false, okO_s, gK, Kf_ball ha n3, Kf_ball hb n3, ad_s, gR_, Rf_gun ha n3, Rf_gun hb n3, true_and, gI, (hA a ha).2.1, (hA b hb).2.1]
  cases h1 : D.gun a with
  | none => simp
  | some p =>
    cases h2 : D.gun b with
    | none => simp
    | some q =>
      have hp : p < D.nB := gun_lt hD ha p h1
      have hq : q < D.nB := gun_lt hD hb q h2
      obtain ⟨p1, p2, p3, -⟩ := h.2.2.2.2.1 p hp
      obtain ⟨r1, r2, r3, -⟩ := h.2.2.2.2.1 q hq
      simp only [Option.map_some, reduceCtorEq, if_false, okO_s, gK, Kf_bar hp n2, Kf_bar hq n2, ad_s, true_and, gI, p2, r2, p3, r3, nI_eq (show a < 2 ^ 31 by omega) (show b < 2 ^ 31 by omega), nI_eq (show p < 2 ^ 31 by omega) (show q < 2 ^ 31 by omega)]
      by_cases e1 : a = b
      · simp [e1]
      · simp only [e1, if_false]
        by_cases e2 : p = q
        · simp [e2]
        · simp only [e2, if_false]
          by_cases e3 : I 409 p = I 409 q <;> simp [e3]
theorem m_truthOf {n a b : Nat} (h : InvI n I L D) (ha : a < D.nA) (hb : b < D.nA) (hab : a ≠ b) (h1 : D.gun a ≠ none) (h2 : D.gun b ≠ none) {Q : Int32 → Hp → Prop} : wp_X12_truthOf 400 (nI a) (nI b) (fm I L D) Q ↔ Q (truF I D a b) (fm I L D) := by
  have hD := h.1
  have n2 := hD.2.1
  have n3 := hD.2.2.1
  have hA := h.2.2.2.2.2.1
  cases g1 : D.gun a with
  | none => exact absurd g1 h1
  | some p =>
    cases g2 : D.gun b with
    | none => exact absurd g2 h2
    | some q =>
      have hp : p < D.nB := gun_lt hD ha p g1
      have hq : q < D.nB := gun_lt hD hb q g2
      have ea : I 415 a = nI p := by rw [(hA a ha).2.2.1, g1]; rfl
      have eb : I 415 b = nI q := by rw [(hA b hb).2.2.1, g2]; rfl
      unfold wp_X12_truthOf truF
      simp only [gK, gI, gR_, Kf_400, Rf_400_14, Rf_400_8, okA_s, ad_s, Kf_415, Kf_409, forall_eq, true_and, nI_clamp (show a < 2 ^ 31 by omega), nI_clamp (show b < 2 ^ 31 by omega), vp_in_nI (show a < 40 by omega) (by decide), vp_in_nI (show b < 40 by omega) (by decide), ea, eb, nI_clamp (show p < 2 ^ 31 by omega), nI_clamp (show q < 2 ^ 31 by omega), vp_in_nI (show p < 16 by omega) (by decide), vp_in_nI (show q < 16 by omega) (by decide), nI_eq (show p < 2 ^ 31 by omega) (show q < 2 ^ 31 by omega), g1, g2, if_neg hab]
      by_cases e2 : p = q
      · simp [e2]
      · simp only [e2, if_false]
        by_cases e3 : I 409 p = I 409 q <;> simp [e3]
end TF
theorem truF_cg {I I' : Nat → Nat → Int32} {D : DD} {a b : Nat} (h : ∀ k, I' 409 k = I 409 k) : truF I' D a b = truF I D a b := by
  unfold truF
  simp only [h]
theorem pair_truth {n : Nat} {g : Hp} (hI : Inv n g) (x1 x2 : Int32) : wp_X11_truth 1 x1 x2 g (fun r h1 => wp_X12_truth 400 x1 x2 h1 (fun r' h2 => r' = r ∧ Inv (n + 1) h2)) := by
  obtain ⟨I, L, D, rfl, h⟩ := hI
  have hD := h.1
  have n2 := hD.2.1
  have n3 := hD.2.2.1
  have h' : InvI n (up2 I 400 0 0) L D := InvI_up h Scr_told
  have fin : Inv (n + 1) (fm (up2 I 400 0 0) L D) := Inv_told h
  have cA : (up2 I 400 0 0) 400 12 = nI D.nA := h'.2.1.2.2.2.2.2.1
  have hA' := h'.2.2.2.2.2.1
  unfold wp_X11_truth wp_X12_truth
  simp only [gK, gI, gL, gR_, g_stI, g_stL, forall_eq, true_and, ad_s, okA_s, okO_s, okN_s, i10, i00, if_true, if_false, reduceCtorEq, Kf_1, Kf_400, x_ballAt n3]
  by_cases w1 : inN x1 D.nA
  · obtain ⟨a, ha, rfl⟩ := inN_of (by omega) w1
    by_cases w2 : inN x2 D.nA
    · obtain ⟨b, hb, rfl⟩ := inN_of (by omega) w2
      simp only [gK, gI, gL, gR_, g_stI, g_stL, forall_eq, true_and, ad_s, okA_s, okO_s, okN_s, i10, i00, if_true, if_false, reduceCtorEq, Kf_1, Kf_400, m_isBall cA, if_pos w1, if_pos w2, nI_clamp (show a < 2 ^ 31 by omega), nI_clamp (show b < 2 ^ 31 by omega), x_truthOf h ha hb, i10, if_false, nI_eq (show a < 2 ^ 31 by omega) (show b < 2 ^ 31 by omega)]
      by_cases hab : a = b
      · rw [if_pos hab]
        refine ⟨?_, fin⟩
        unfold truF
        cases D.gun a <;> cases D.gun b <;> simp [hab]
      · rw [if_neg hab]
        rw [m_isShot (by omega) (hA' a ha).2.2.1 (fun x hx => by have := gun_lt hD ha x hx; omega)]
        by_cases g1 : D.gun a = none
        · simp only [gK, gI, gL, gR_, g_stI, g_stL, forall_eq, true_and, ad_s, okA_s, okO_s, okN_s, i10, i00, if_true, if_false, reduceCtorEq, Kf_1, Kf_400, if_pos g1]
          refine ⟨?_, fin⟩
          unfold truF; rw [g1]
        · simp only [gK, gI, gL, gR_, g_stI, g_stL, forall_eq, true_and, ad_s, okA_s, okO_s, okN_s, i10, i00, if_true, if_false, reduceCtorEq, Kf_1, Kf_400, if_neg g1]
          rw [m_isShot (by omega) (hA' b hb).2.2.1 (fun x hx => by have := gun_lt hD hb x hx; omega)]
          by_cases g2 : D.gun b = none
          · simp only [gK, gI, gL, gR_, g_stI, g_stL, forall_eq, true_and, ad_s, okA_s, okO_s, okN_s, i10, i00, if_true, if_false, reduceCtorEq, Kf_1, Kf_400, if_pos g2]
            refine ⟨?_, fin⟩
            unfold truF; rw [g2]; cases D.gun a <;> rfl
          · simp only [gK, gI, gL, gR_, g_stI, g_stL, forall_eq, true_and, ad_s, okA_s, okO_s, okN_s, i10, i00, if_true, if_false, reduceCtorEq, Kf_1, Kf_400, if_neg g2]
            rw [m_truthOf h' ha hb hab g1 g2]
            exact ⟨truF_cg (I' := up2 I 400 0 0) (I := I) (fun k => up2_o (by omega)), fin⟩
    · simp only [if_pos w1, if_neg w2]
      unfold wp_X11_truthOf
      simp only [gK, gI, gL, gR_, g_stI, g_stL, forall_eq, true_and, ad_s, okA_s, okO_s, okN_s, i10, i00, if_true, if_false, reduceCtorEq, Kf_1, Kf_400, m_isBall cA, if_pos w1, if_neg w2]
      exact fin
  · simp only [if_neg w1]
    unfold wp_X11_truthOf
    simp only [gK, gI, gL, gR_, g_stI, g_stL, forall_eq, true_and, ad_s, okA_s, okO_s, okN_s, i10, i00, if_true, if_false, reduceCtorEq, Kf_1, Kf_400, m_isBall cA, if_neg w1]
    exact fin
