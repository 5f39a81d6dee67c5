/-! joined: how strong two scenes hang together (my own) -/
/-- one less, none is 0 -/
def pr (y : Nat) : Int32 := nI y - 1
theorem pr_s (v : Nat) : pr (v + 1) = nI v := nI_pred v
theorem pr_toInt {y : Nat} (hy : y < 2 ^ 20) : (pr y).toInt = (y : Int) - 1 := by
  have := pk_sub_toInt (a := y) (b := 1) (by omega) (by omega)
  exact this
theorem pr_lt {x y : Nat} (hx : x < 2 ^ 20) (hy : y < 2 ^ 20) : pr x < pr y ↔ x < y := by
  rw [Int32.lt_iff_toInt_lt, pr_toInt hx, pr_toInt hy]
  omega
theorem pr_le {x y : Nat} (hx : x < 2 ^ 20) (hy : y < 2 ^ 20) : pr x ≤ pr y ↔ x ≤ y := by
  rw [Int32.le_iff_toInt_le, pr_toInt hx, pr_toInt hy]
  omega
theorem pr_inj {x y : Nat} (hx : x < 2 ^ 20) (hy : y < 2 ^ 20) : pr x = pr y ↔ x = y := by
  constructor
  · intro h
    have := congrArg Int32.toInt h
    rw [pr_toInt hx, pr_toInt hy] at this
    omega
  · intro h; rw [h]
theorem pr_m1 {y : Nat} (hy : y < 2 ^ 20) : pr y = (-1 : Int32) ↔ y = 0 := pr_inj (y := 0) hy (by decide)
theorem pr_0 : pr 0 = (-1 : Int32) := by decide
theorem pr_max {x v : Nat} (hx : x < 2 ^ 20) (hv : v < 2 ^ 19) : (if pr x < nI v then nI v else pr x) = pr (max x (v + 1)) := by
  rw [← pr_s v]
  by_cases h : x < v + 1
  · rw [if_pos ((pr_lt hx (by omega)).mpr h), Nat.max_eq_right (by omega)]
  · rw [if_neg (fun z => h ((pr_lt hx (by omega)).mp z)), Nat.max_eq_left (by omega)]
theorem pr_gt {x v o : Nat} (hx : x < 2 ^ 20) (hv : v < 2 ^ 19) {h : Hp} {Q : Int32 → Hp → Prop} : wp_X12_greater o (pr x) (nI v) h Q ↔ Q (pr (max x (v + 1))) h := by
  unfold wp_X12_greater
  rw [← pr_s v]
  by_cases e : x ≤ v + 1
  · rw [if_pos ((pr_le hx (by omega)).mpr e), Nat.max_eq_right e]
  · rw [if_neg (fun z => e ((pr_le hx (by omega)).mp z)), Nat.max_eq_left (by omega)]
def sbF (I0 : Nat → Nat → Int32) (L : Nat → Nat → Int64) (l i j a b : Nat) : Nat := if bL (L 459 i) a = true ∧ bL (L 459 j) b = true ∧ sayF I0 l a b 0 = 1 then longF (row I0 a) (row I0 b) (I0 447 l) + 1 else 0
def sNF (I0 : Nat → Nat → Int32) (L : Nat → Nat → Int64) (D : DD) (l i j : Nat) : Nat := maxTo (fun a => maxTo (sbF I0 L l i j a) D.nA) D.nA
theorem sbF_le (I0 : Nat → Nat → Int32) (L : Nat → Nat → Int64) (l i j a b : Nat) : sbF I0 L l i j a b ≤ 33 := by
  unfold sbF
  have := longS_le (row I0 a) (row I0 b) (I0 447 l) (bestF (row I0 a) (row I0 b) (I0 447 l))
  have h2 : longF (row I0 a) (row I0 b) (I0 447 l) ≤ 32 := this
  split <;> omega
theorem sNF_le (I0 : Nat → Nat → Int32) (L : Nat → Nat → Int64) (D : DD) (l i j : Nat) : sNF I0 L D l i j ≤ 33 := maxTo_le _ (fun a => maxTo_le _ (fun b => sbF_le I0 L l i j a b) _) _
section JN
variable {n : Nat} {I0 B : Nat → Nat → Int32} {L : Nat → Nat → Int64} {D : DD} {l i j : Nat}
theorem x_isOf {I : Nat → Nat → Int32} {s b : Nat} (hs : s < 8) (hb : b < 64) {Q : Int32 → Hp → Prop} : wp_X11_isOfScene 1 (nI s) (nI b) (fm I L D) Q ↔ Q (if bL (L 7 s) b = true then 1 else 0) (fm I L D) := by
  unfold wp_X11_isOfScene
  simp only [gK, gI, gL, gR_, g_stI, g_stL, forall_eq, true_and, ad_s, okA_s, okO_s, okN_s, i10, i00, if_true, if_false, reduceCtorEq, Kf_1, Kf_400, Rf_1_11, Kf_7, vp_in_nI hs (show 8 < 2 ^ 31 by decide), nI_clamp (show s < 2 ^ 31 by omega), lushr1 _ hb, lgc0]
  cases bL (L 7 s) b
  · simp only [Bool.false_eq_true, if_false, show ¬ ((0 : Int64) = 1) from by decide]
  · simp only [if_true]
theorem x_str_L45 (hB : Bse I0 B) (hl : l < D.nL) (hi : i < 8) (hj : j < 8) {a : Nat} (ha : a < D.nA) (hba : bL (L 459 i) a = true) {Y : Nat} (hY : Y ≤ 33) {K : Int32 → Hp → Prop} {Q : Int32 → Hp → Prop} : ∀ (N b : Nat) (I : Nat → Nat → Int32), St n L D B I → b ≤ D.nA → D.nA < N + b → (∀ I', St n L D B I' → K (pr (max Y (maxTo (sbF I0 L l i j a) D.nA))) (fm I' L D)) → wp_X11_strengthOf_L45 1 (some (240 + 2 * l)) (nI i) (nI j) (nI a) (some (160 + 2 * a)) K Q N (pr (max Y (maxTo (sbF I0 L l i j a) b))) (nI b) (fm I L D) := by
  intro N
  induction N with
  | zero => intro b I _ h1 h2; omega
  | succ N ih =>
    intro b I h h1 h2 hK
    have nA40 := h.1.nA40
    have nL6 := h.1.nL6
    have mb : maxTo (sbF I0 L l i j a) b ≤ 33 := maxTo_le _ (fun b => sbF_le I0 L l i j a b) _
    rw [wp_X11_strengthOf_L45]
    simp only [gK, gI, gL, gR_, g_stI, g_stL, forall_eq, true_and, ad_s, okA_s, okO_s, okN_s, i10, i00, if_true, if_false, reduceCtorEq, Kf_1, Kf_400, h.1.xA]
    by_cases e : b = D.nA
    · subst e
      rw [if_pos (nI_le (Nat.le_refl _) (by omega))]
      exact hK I h
    · rw [if_neg (nI_ge (by omega) (by omega))]
      have hb : b < D.nA := by omega
      have e7 : L 7 j = L 459 j := h.1.2.2.2.2.2.2.2.2.1 j hj
      simp only [gK, gI, gL, gR_, g_stI, g_stL, forall_eq, true_and, ad_s, okA_s, okO_s, okN_s, i10, i00, if_true, if_false, reduceCtorEq, Kf_1, Kf_400, Rf_1_4, Kf_4, vp_in_nI (show b < 40 by omega) (show 40 < 2 ^ 31 by decide), nI_clamp (show b < 2 ^ 31 by omega), Rf_4, if_pos hb, x_isOf hj (show b < 64 by omega), e7, nI_1]
      have next := fun J hJ => ih (b + 1) J hJ (by omega) (by omega) hK
      rw [maxTo] at next
      have skip : sbF I0 L l i j a b = 0 → ∀ J, St n L D B J → wp_X11_strengthOf_L45 1 (some (240 + 2 * l)) (nI i) (nI j) (nI a) (some (160 + 2 * a)) K Q N (pr (max Y (maxTo (sbF I0 L l i j a) b))) (nI (b + 1)) (fm J L D) := by
        intro z J hJ
        have q := next J hJ
        rw [z, Nat.max_eq_left (Nat.zero_le _)] at q
        exact q
      by_cases hbj : bL (L 459 j) b = true
      · simp only [if_pos hbj, gK, gI, gL, gR_, g_stI, g_stL, forall_eq, true_and, ad_s, okA_s, okO_s, okN_s, i10, i00, if_true, if_false, reduceCtorEq, Kf_1, Kf_400, Kf_look hl nL6, Rf_1_15]
        refine x_sayingOf (tl := 0) h hl ha hb (by decide) (fun J hJ => ?_)
        rw [hB.say]
        have sl := sayF_le I0 l a b 0
        by_cases e1 : sayF I0 l a b 0 = 1
        · rw [if_pos (show nI (sayF I0 l a b 0) = (1 : Int32) by rw [e1]; rfl)]
          simp only [gK, gI, gL, gR_, g_stI, g_stL, forall_eq, true_and, ad_s, okA_s, okO_s, okN_s, i10, i00, if_true, if_false, reduceCtorEq, Kf_1, Kf_400, Kf_look hl nL6]
          refine x_measured hJ hl ha hb (fun W J' hJ' w1 w2 w3 w4 => ?_)
          rw [x_longest (by omega) w4, hB.row, hB.row, hB.lab 447 (by omega)]
          have ll : longF (row I0 a) (row I0 b) (I0 447 l) ≤ 32 := longS_le _ _ _ _
          simp only [forall_eq, nI_1, pr_max (show max Y (maxTo (sbF I0 L l i j a) b) < 2 ^ 20 by omega) (show longF (row I0 a) (row I0 b) (I0 447 l) < 2 ^ 19 by omega)]
          have q := next J' hJ'
          rw [show sbF I0 L l i j a b = longF (row I0 a) (row I0 b) (I0 447 l) + 1 from if_pos ⟨hba, hbj, e1⟩, ← Nat.max_assoc] at q
          exact q
        · rw [if_neg (show ¬ nI (sayF I0 l a b 0) = (1 : Int32) from fun z => e1 ((nI_eq (b := 1) (by omega) (by decide)).mp z))]
          exact skip (if_neg (fun z => e1 z.2.2)) J hJ
      · simp only [if_neg hbj, gK, gI, gL, gR_, g_stI, g_stL, forall_eq, true_and, ad_s, okA_s, okO_s, okN_s, i10, i00, if_true, if_false, reduceCtorEq, Kf_1, Kf_400]
        exact skip (if_neg (fun z => hbj z.2.1)) I h
theorem x_strength (hB : Bse I0 B) {I : Nat → Nat → Int32} (h : St n L D B I) (hl : l < D.nL) (hi : i < 8) (hj : j < 8) {Q : Int32 → Hp → Prop} (hQ : ∀ I', St n L D B I' → Q (pr (sNF I0 L D l i j)) (fm I' L D)) : wp_X11_strengthOf 1 (some (240 + 2 * l)) (nI i) (nI j) (fm I L D) Q := by
  unfold wp_X11_strengthOf
  have key : ∀ (N a : Nat) (I : Nat → Nat → Int32), St n L D B I → a ≤ D.nA → D.nA < N + a → wp_X11_strengthOf_L6 1 (some (240 + 2 * l)) (nI i) (nI j) (fun y36 h35 => Q y36 h35) Q N (pr (maxTo (fun a => maxTo (sbF I0 L l i j a) D.nA) a)) (nI a) (fm I L D) := by
    intro N
    induction N with
    | zero => intro a I _ h1 h2; omega
    | succ N ih =>
      intro a I h h1 h2
      have nA40 := h.1.nA40
      have ma : maxTo (fun a => maxTo (sbF I0 L l i j a) D.nA) a ≤ 33 := maxTo_le _ (fun a => maxTo_le _ (fun b => sbF_le I0 L l i j a b) _) _
      rw [wp_X11_strengthOf_L6]
      simp only [gK, gI, gL, gR_, g_stI, g_stL, forall_eq, true_and, ad_s, okA_s, okO_s, okN_s, i10, i00, if_true, if_false, reduceCtorEq, Kf_1, Kf_400, h.1.xA]
      by_cases e : a = D.nA
      · subst e
        rw [if_pos (nI_le (Nat.le_refl _) (by omega))]
        exact hQ I h
      · rw [if_neg (nI_ge (by omega) (by omega))]
        have ha : a < D.nA := by omega
        have e7 : L 7 i = L 459 i := h.1.2.2.2.2.2.2.2.2.1 i hi
        simp only [gK, gI, gL, gR_, g_stI, g_stL, forall_eq, true_and, ad_s, okA_s, okO_s, okN_s, i10, i00, if_true, if_false, reduceCtorEq, Kf_1, Kf_400, Rf_1_4, Kf_4, vp_in_nI (show a < 40 by omega) (show 40 < 2 ^ 31 by decide), nI_clamp (show a < 2 ^ 31 by omega), Rf_4, if_pos ha, x_isOf hi (show a < 64 by omega), e7, nI_1]
        have next := fun J hJ => ih (a + 1) J hJ (by omega) (by omega)
        rw [maxTo] at next
        by_cases hba : bL (L 459 i) a = true
        · simp only [if_pos hba, gK, gI, gL, gR_, g_stI, g_stL, forall_eq, true_and, ad_s, okA_s, okO_s, okN_s, i10, i00, if_true, if_false, reduceCtorEq, Kf_1, Kf_400]
          have q := x_str_L45 (n := n) (Q := Q) hB hl hi hj ha hba ma fuel 0 I h (by omega) (by have := fuel_ge; omega) (K := fun y32 h31 => ∀ v33 : Int32, v33 = nI a + (1 : Int32) → wp_X11_strengthOf_L6 1 (some (240 + 2 * l)) (nI i) (nI j) (fun y36 h35 => Q y36 h35) Q N y32 v33 h31) (fun J hJ => by
            simp only [forall_eq, nI_1]
            exact next J hJ)
          rw [maxTo, Nat.max_eq_left (Nat.zero_le _)] at q
          simp only [forall_eq, nI_1] at q
          exact q
        · simp only [if_neg hba, gK, gI, gL, gR_, g_stI, g_stL, forall_eq, true_and, ad_s, okA_s, okO_s, okN_s, i10, i00, if_true, if_false, reduceCtorEq, Kf_1, Kf_400]
          have z : maxTo (sbF I0 L l i j a) D.nA = 0 := Nat.le_zero.mp (maxTo_le _ (fun b => Nat.le_of_eq (if_neg (fun z => hba z.1))) _)
          have q := next I h
          rw [z, Nat.max_eq_left (Nat.zero_le _)] at q
          exact q
  have q := key fuel 0 I h (by omega) (by have := fuel_ge; have := h.1.nA40; omega)
  rw [maxTo, pr_0] at q
  exact q
theorem m_bst_L18 (hB : Bse I0 B) (hl : l < D.nL) (hi : i < 8) (hj : j < 8) {a : Nat} (ha : a < D.nA) {Y : Nat} (hY : Y ≤ 33) {K : Int32 → Hp → Prop} {Q : Int32 → Hp → Prop} : ∀ (N b : Nat) (I : Nat → Nat → Int32), St n L D B I → b ≤ D.nA → D.nA < N + b → (∀ I', St n L D B I' → K (pr (max Y (maxTo (sbF I0 L l i j a) D.nA))) (fm I' L D)) → wp_X12_bestOf_L18 400 (nI l) (nI i) (nI j) (nI a) K Q N (pr (max Y (maxTo (sbF I0 L l i j a) b))) (nI b) (fm I L D) := by
  intro N
  induction N with
  | zero => intro b I _ h1 h2; omega
  | succ N ih =>
    intro b I h h1 h2 hK
    have nA40 := h.1.nA40
    have nL6 := h.1.nL6
    have mb : maxTo (sbF I0 L l i j a) b ≤ 33 := maxTo_le _ (fun b => sbF_le I0 L l i j a b) _
    rw [wp_X12_bestOf_L18]
    simp only [gK, gI, gL, gR_, g_stI, g_stL, forall_eq, true_and, ad_s, okA_s, okO_s, okN_s, i10, i00, if_true, if_false, reduceCtorEq, Kf_1, Kf_400, h.1.mA]
    by_cases e : b = D.nA
    · subst e
      rw [if_pos (nI_le (Nat.le_refl _) (by omega))]
      exact hK I h
    · rw [if_neg (nI_ge (by omega) (by omega))]
      have hb : b < D.nA := by omega
      simp only [gK, gI, gL, gR_, g_stI, g_stL, forall_eq, true_and, ad_s, okA_s, okO_s, okN_s, i10, i00, if_true, if_false, reduceCtorEq, Kf_1, Kf_400, Rf_400_58, Kf_459, vp_in_nI hi (show 8 < 2 ^ 31 by decide), vp_in_nI hj (show 8 < 2 ^ 31 by decide), nI_clamp (show i < 2 ^ 31 by omega), nI_clamp (show j < 2 ^ 31 by omega), lshr1 _ (show a < 64 by omega), lshr1 _ (show b < 64 by omega), lgc0, nI_1]
      have next := fun J hJ => ih (b + 1) J hJ (by omega) (by omega) hK
      rw [maxTo] at next
      have skip : sbF I0 L l i j a b = 0 → ∀ J, St n L D B J → wp_X12_bestOf_L18 400 (nI l) (nI i) (nI j) (nI a) K Q N (pr (max Y (maxTo (sbF I0 L l i j a) b))) (nI (b + 1)) (fm J L D) := by
        intro z J hJ
        have q := next J hJ
        rw [z, Nat.max_eq_left (Nat.zero_le _)] at q
        exact q
      by_cases hba : bL (L 459 i) a = true
      · simp only [if_pos hba, show ¬ ((1 : Int64) = 0) from by decide, if_false]
        by_cases hbj : bL (L 459 j) b = true
        · simp only [if_pos hbj, show ¬ ((1 : Int64) = 0) from by decide, if_false]
          refine m_saysOf (tl := 0) h hl ha hb (by decide) (fun J hJ => ?_)
          rw [hB.say]
          have sl := sayF_le I0 l a b 0
          by_cases e1 : sayF I0 l a b 0 = 1
          · rw [if_pos (show nI (sayF I0 l a b 0) = (1 : Int32) by rw [e1]; rfl)]
            simp only [gK, gI, gL, gR_, g_stI, g_stL, forall_eq, true_and, ad_s, okA_s, okO_s, okN_s, i10, i00, if_true, if_false, reduceCtorEq, Kf_1, Kf_400]
            refine m_longest hJ hl ha hb (fun J' hJ' => ?_)
            rw [hB.row, hB.row, hB.lab 447 (by omega)]
            have ll : longF (row I0 a) (row I0 b) (I0 447 l) ≤ 32 := longS_le _ _ _ _
            simp only [gK, gI, gL, gR_, g_stI, g_stL, forall_eq, true_and, ad_s, okA_s, okO_s, okN_s, i10, i00, if_true, if_false, reduceCtorEq, Kf_1, Kf_400, pr_gt (show max Y (maxTo (sbF I0 L l i j a) b) < 2 ^ 20 by omega) (show longF (row I0 a) (row I0 b) (I0 447 l) < 2 ^ 19 by omega), nI_1]
            have q := next J' hJ'
            rw [show sbF I0 L l i j a b = longF (row I0 a) (row I0 b) (I0 447 l) + 1 from if_pos ⟨hba, hbj, e1⟩, ← Nat.max_assoc] at q
            exact q
          · rw [if_neg (show ¬ nI (sayF I0 l a b 0) = (1 : Int32) from fun z => e1 ((nI_eq (b := 1) (by omega) (by decide)).mp z))]
            exact skip (if_neg (fun z => e1 z.2.2)) J hJ
        · simp only [if_neg hbj, if_true]
          exact skip (if_neg (fun z => hbj z.2.1)) I h
      · simp only [if_neg hba, if_true]
        exact skip (if_neg (fun z => hba z.1)) I h
theorem m_bestOf (hB : Bse I0 B) {I : Nat → Nat → Int32} (h : St n L D B I) (hl : l < D.nL) (hi : i < 8) (hj : j < 8) {Q : Int32 → Hp → Prop} (hQ : ∀ I', St n L D B I' → Q (pr (sNF I0 L D l i j)) (fm I' L D)) : wp_X12_bestOf 400 (nI l) (nI i) (nI j) (fm I L D) Q := by
  unfold wp_X12_bestOf
  have key : ∀ (N a : Nat) (I : Nat → Nat → Int32), St n L D B I → a ≤ D.nA → D.nA < N + a → wp_X12_bestOf_L6 400 (nI l) (nI i) (nI j) (fun y28 h27 => Q y28 h27) Q N (pr (maxTo (fun a => maxTo (sbF I0 L l i j a) D.nA) a)) (nI a) (fm I L D) := by
    intro N
    induction N with
    | zero => intro a I _ h1 h2; omega
    | succ N ih =>
      intro a I h h1 h2
      have nA40 := h.1.nA40
      have ma : maxTo (fun a => maxTo (sbF I0 L l i j a) D.nA) a ≤ 33 := maxTo_le _ (fun a => maxTo_le _ (fun b => sbF_le I0 L l i j a b) _) _
      rw [wp_X12_bestOf_L6]
      simp only [gK, gI, gL, gR_, g_stI, g_stL, forall_eq, true_and, ad_s, okA_s, okO_s, okN_s, i10, i00, if_true, if_false, reduceCtorEq, Kf_1, Kf_400, h.1.mA]
      by_cases e : a = D.nA
      · subst e
        rw [if_pos (nI_le (Nat.le_refl _) (by omega))]
        exact hQ I h
      · rw [if_neg (nI_ge (by omega) (by omega))]
        have ha : a < D.nA := by omega
        have next := fun J hJ => ih (a + 1) J hJ (by omega) (by omega)
        rw [maxTo] at next
        have q := m_bst_L18 (n := n) (Q := Q) hB hl hi hj ha ma fuel 0 I h (by omega) (by have := fuel_ge; omega) (K := fun y25 h24 => ∀ v26 : Int32, v26 = nI a + (1 : Int32) → wp_X12_bestOf_L6 400 (nI l) (nI i) (nI j) (fun y28 h27 => Q y28 h27) Q N y25 v26 h24) (fun J hJ => by
          simp only [forall_eq, nI_1]
          exact next J hJ)
        rw [maxTo, Nat.max_eq_left (Nat.zero_le _)] at q
        simp only [forall_eq, nI_1] at q ⊢
        exact q
  have q := key fuel 0 I h (by omega) (by have := fuel_ge; have := h.1.nA40; omega)
  rw [maxTo, pr_0] at q
  exact q
end JN
