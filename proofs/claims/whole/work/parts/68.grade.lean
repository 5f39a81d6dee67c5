/-! counted, lean (my own) -/
section GR
variable {n : Nat} {I0 : Nat → Nat → Int32} {L : Nat → Nat → Int64} {D : DD} {l k : Nat}
theorem InvI.pr {n : Nat} {I : Nat → Nat → Int32} {L : Nat → Nat → Int64} {D : DD} (h : InvI n I L D) {k : Nat} (hk : k < D.nP) : D.pa k < D.nA ∧ D.pb k < D.nA ∧ D.pa k ≠ D.pb k := h.1.2.2.2.2.2.2.1 k hk
theorem InvI.cp {n : Nat} {I : Nat → Nat → Int32} {L : Nat → Nat → Int64} {D : DD} (h : InvI n I L D) {k : Nat} (hk : k < D.nP) : I (260 + k) 2 = I 457 k ∧ (1 ≤ I 457 k ∧ I 457 k ≤ 99) ∧ I 455 k = nI (D.pa k) ∧ I 456 k = nI (D.pb k) := h.2.2.2.2.2.2.2.1 k hk
/-- how a looker does at a pair: -1 if it counts for nobody -/
def gdF (I0 : Nat → Nat → Int32) (D : DD) (l k tl : Nat) : Int32 := if truF I0 D (D.pa k) (D.pb k) = -1 then -1 else if sayF I0 l (D.pa k) (D.pb k) tl = 2 then 2 else if (sayF I0 l (D.pa k) (D.pb k) tl = 1 ↔ truF I0 D (D.pa k) (D.pb k) = 0) then 0 else 1
theorem x_gradeOf {I : Nat → Nat → Int32} (h : St n L D I0 I) (hl : l < D.nL) (hk : k < D.nP) {tl : Nat} (htl : tl < 2) {Q : Int32 → Hp → Prop} (hQ : ∀ I' : Nat → Nat → Int32, St n L D I0 I' → Q (gdF I0 D l k tl) (fm I' L D)) : wp_X11_gradeOf 1 (some (240 + 2 * l)) (some (260 + k)) (nI tl) (fm I L D) Q := by
  have nL6 := h.1.nL6
  have nP10 := h.1.nP10
  obtain ⟨p1, p2, p3⟩ := h.1.pr hk
  have sl := sayF_le I0 l (D.pa k) (D.pb k) tl
  unfold gdF at hQ
  unfold wp_X11_gradeOf
  simp only [gK, gI, gL, gR_, g_stI, g_stL, forall_eq, true_and, ad_s, okA_s, okO_s, okN_s, i10, i00, if_true, if_false, reduceCtorEq, Kf_1, Kf_400, Kf_pair hk nP10, Rf_pair0 hk nP10, Rf_pair1 hk nP10, x_truthOf h.1 p1 p2, h.2.tru]
  unfold wp_X11_gradeOf_J19
  by_cases e1 : truF I0 D (D.pa k) (D.pb k) = -1
  · rw [if_pos e1]
    rw [if_pos e1] at hQ
    exact hQ I h
  · rw [if_neg e1]
    rw [if_neg e1] at hQ
    simp only [gK, gI, gL, gR_, g_stI, g_stL, forall_eq, true_and, ad_s, okA_s, okO_s, okN_s, i10, i00, if_true, if_false, reduceCtorEq, Kf_1, Kf_400, Kf_pair hk nP10, Rf_pair0 hk nP10, Rf_pair1 hk nP10, Kf_look hl nL6, Rf_1_15]
    refine x_sayingOf h hl p1 p2 htl (fun J hJ => ?_)
    have q := hQ J hJ
    unfold wp_X11_gradeOf_J67 wp_X11_gradeOf_J77
    by_cases e2 : sayF I0 l (D.pa k) (D.pb k) tl = 2
    · rw [if_pos (show nI (sayF I0 l (D.pa k) (D.pb k) tl) = (2 : Int32) by rw [e2]; rfl)]
      rw [if_pos e2] at q; exact q
    · rw [if_neg (show ¬ nI (sayF I0 l (D.pa k) (D.pb k) tl) = (2 : Int32) from fun z => e2 ((nI_eq (b := 2) (by omega) (by decide)).mp z))]
      rw [if_neg e2] at q
      by_cases e3 : sayF I0 l (D.pa k) (D.pb k) tl = 1
      · rw [if_pos (show nI (sayF I0 l (D.pa k) (D.pb k) tl) = (1 : Int32) by rw [e3]; rfl)]
        by_cases e4 : truF I0 D (D.pa k) (D.pb k) = 0
        · rw [if_pos e4, if_pos rfl]
          rw [if_pos (iff_of_true e3 e4)] at q; exact q
        · rw [if_neg e4, if_neg (by decide)]
          rw [if_neg (fun z => e4 (z.mp e3))] at q; exact q
      · rw [if_neg (show ¬ nI (sayF I0 l (D.pa k) (D.pb k) tl) = (1 : Int32) from fun z => e3 ((nI_eq (b := 1) (by omega) (by decide)).mp z))]
        by_cases e4 : truF I0 D (D.pa k) (D.pb k) = 0
        · rw [if_pos e4, if_neg (by decide)]
          rw [if_neg (fun z => e3 (z.mpr e4))] at q; exact q
        · rw [if_neg e4, if_pos rfl]
          rw [if_pos (iff_of_false e3 e4)] at q; exact q
theorem m_countOf {I : Nat → Nat → Int32} (h : St n L D I0 I) (hl : l < D.nL) (hk : k < D.nP) {tl : Nat} (htl : tl < 2) {Q : Int32 → Hp → Prop} (hQ : ∀ I' : Nat → Nat → Int32, St n L D I0 I' → Q (gdF I0 D l k tl) (fm I' L D)) : wp_X12_countOf 400 (nI l) (nI k) (nI tl) (fm I L D) Q := by
  have nP10 := h.1.nP10
  obtain ⟨p1, p2, p3⟩ := h.1.pr hk
  obtain ⟨-, -, c3, c4⟩ := h.1.cp hk
  have n3 := h.1.nA40
  have sl := sayF_le I0 l (D.pa k) (D.pb k) tl
  have vk : vp_in (nI k) 10 := vp_in_nI (by omega) (by decide)
  have ck := nI_clamp (show k < 2 ^ 31 by omega)
  unfold gdF at hQ
  unfold wp_X12_countOf
  simp only [gK, gI, gL, gR_, g_stI, g_stL, forall_eq, true_and, ad_s, okA_s, okO_s, okN_s, i10, i00, if_true, if_false, reduceCtorEq, Kf_1, Kf_400, Rf_400_54, Rf_400_55, Kf_455, Kf_456, vk, ck, c3, c4, m_isShot_St h p1]
  by_cases g1 : D.gun (D.pa k) = none
  · simp only [gK, gI, gL, gR_, g_stI, g_stL, forall_eq, true_and, ad_s, okA_s, okO_s, okN_s, i10, i00, if_true, if_false, reduceCtorEq, Kf_1, Kf_400, if_pos g1]
    rw [if_pos (truF_none (Or.inl g1))] at hQ
    exact hQ I h
  · simp only [gK, gI, gL, gR_, g_stI, g_stL, forall_eq, true_and, ad_s, okA_s, okO_s, okN_s, i10, i00, if_true, if_false, reduceCtorEq, Kf_1, Kf_400, if_neg g1, Rf_400_54, Rf_400_55, Kf_455, Kf_456, vk, ck, c3, c4, m_isShot_St h p2]
    by_cases g2 : D.gun (D.pb k) = none
    · simp only [gK, gI, gL, gR_, g_stI, g_stL, forall_eq, true_and, ad_s, okA_s, okO_s, okN_s, i10, i00, if_true, if_false, reduceCtorEq, Kf_1, Kf_400, if_pos g2]
      rw [if_pos (truF_none (Or.inr g2))] at hQ
      exact hQ I h
    · simp only [gK, gI, gL, gR_, g_stI, g_stL, forall_eq, true_and, ad_s, okA_s, okO_s, okN_s, i10, i00, if_true, if_false, reduceCtorEq, Kf_1, Kf_400, if_neg g2, Rf_400_54, Rf_400_55, Kf_455, Kf_456, vk, ck, c3, c4]
      have e1 : ¬ truF I0 D (D.pa k) (D.pb k) = -1 := by
        unfold truF
        cases q1 : D.gun (D.pa k) with
        | none => exact absurd q1 g1
        | some p =>
          cases q2 : D.gun (D.pb k) with
          | none => exact absurd q2 g2
          | some q =>
            simp only [if_neg p3]
            by_cases e : p = q
            · rw [if_pos e]; decide
            · rw [if_neg e]
              by_cases e' : I0 409 p = I0 409 q
              · rw [if_pos e']; decide
              · rw [if_neg e']; decide
      rw [if_neg e1] at hQ
      refine m_saysOf h hl p1 p2 htl (fun J hJ => ?_)
      have q := hQ J hJ
      obtain ⟨-, -, d3, d4⟩ := hJ.1.cp hk
      unfold wp_X12_countOf_J67 wp_X12_countOf_J91
      simp only [gK, gI, gL, gR_, g_stI, g_stL, forall_eq, true_and, ad_s, okA_s, okO_s, okN_s, i10, i00, if_true, if_false, reduceCtorEq, Kf_1, Kf_400, Rf_400_54, Rf_400_55, Kf_455, Kf_456, vk, ck, d3, d4, m_truthOf hJ.1 p1 p2 p3 g1 g2, hJ.2.tru]
      by_cases e2 : sayF I0 l (D.pa k) (D.pb k) tl = 2
      · rw [if_pos (show nI (sayF I0 l (D.pa k) (D.pb k) tl) = (2 : Int32) by rw [e2]; rfl)]
        rw [if_pos e2] at q; exact q
      · rw [if_neg (show ¬ nI (sayF I0 l (D.pa k) (D.pb k) tl) = (2 : Int32) from fun z => e2 ((nI_eq (b := 2) (by omega) (by decide)).mp z))]
        rw [if_neg e2] at q
        by_cases e3 : sayF I0 l (D.pa k) (D.pb k) tl = 1
        · rw [if_pos (show nI (sayF I0 l (D.pa k) (D.pb k) tl) = (1 : Int32) by rw [e3]; rfl)]
          by_cases e4 : truF I0 D (D.pa k) (D.pb k) = 0
          · simp only [if_pos e4]
            rw [if_pos (iff_of_true e3 e4)] at q; exact q
          · simp only [if_neg e4]
            rw [if_neg (fun z => e4 (z.mp e3))] at q
            exact q
        · rw [if_neg (show ¬ nI (sayF I0 l (D.pa k) (D.pb k) tl) = (1 : Int32) from fun z => e3 ((nI_eq (b := 1) (by omega) (by decide)).mp z))]
          by_cases e4 : truF I0 D (D.pa k) (D.pb k) = 0
          · simp only [if_pos e4]
            rw [if_neg (fun z => e3 (z.mpr e4))] at q
            rw [if_neg (by decide)]
            exact q
          · simp only [if_neg e4]
            rw [if_pos (iff_of_false e3 e4)] at q; exact q
def coF (I0 : Nat → Nat → Int32) (D : DD) (l tl : Nat) (x3 : Int32) (k : Nat) (x : Int32) : Int32 := if gdF I0 D l k tl = x3 then x + 1 else x
theorem x_counted_L (hl : l < D.nL) {tl : Nat} (htl : tl < 2) {x3 : Int32} {K : Int32 → Hp → Prop} {Q : Int32 → Hp → Prop} : ∀ (N k : Nat) (x : Int32) (I : Nat → Nat → Int32), St n L D I0 I → k ≤ D.nP → D.nP < N + k → (∀ I', St n L D I0 I' → K (inr (coF I0 D l tl x3) k (D.nP - k) x) (fm I' L D)) → wp_X11_counted_L29 1 (nI tl) x3 (some (240 + 2 * l)) K Q N x (nI k) (fm I L D) := by
  intro N
  induction N with
  | zero => intro b x I _ h1 h2; omega
  | succ N ih =>
    intro k x I h h1 h2 hK
    have nP10 := h.1.nP10
    rw [wp_X11_counted_L29]
    simp only [gK, gI, gL, gR_, g_stI, g_stL, forall_eq, true_and, ad_s, okA_s, okO_s, okN_s, i10, i00, if_true, if_false, reduceCtorEq, Kf_1, Kf_400, h.1.xP, Rf_1_9, Kf_6]
    by_cases hb : k = D.nP
    · subst hb
      rw [if_pos (nI_le (Nat.le_refl _) (by omega))]
      rw [Nat.sub_self] at hK
      exact hK I h
    · rw [if_neg (nI_ge (by omega) (by omega))]
      have hk : k < D.nP := by omega
      rw [show D.nP - k = (D.nP - (k + 1)) + 1 by omega] at hK
      have hK : ∀ I', St n L D I0 I' → K (inr (coF I0 D l tl x3) (k + 1) (D.nP - (k + 1)) (coF I0 D l tl x3 k x)) (fm I' L D) := hK
      simp only [gK, gI, gL, gR_, g_stI, g_stL, forall_eq, true_and, ad_s, okA_s, okO_s, okN_s, i10, i00, if_true, if_false, reduceCtorEq, Kf_1, Kf_400, vp_in_nI (show k < 10 by omega) (show 10 < 2 ^ 31 by decide), nI_clamp (show k < 2 ^ 31 by omega), Rf_6, if_pos hk]
      refine x_gradeOf h hl hk htl (fun J hJ => ?_)
      simp only [nI_1]
      unfold coF at hK
      by_cases e : gdF I0 D l k tl = x3
      · rw [if_pos e]
        rw [if_pos e] at hK
        exact ih (k + 1) _ J hJ (by omega) (by omega) hK
      · rw [if_neg e]
        rw [if_neg e] at hK
        exact ih (k + 1) _ J hJ (by omega) (by omega) hK
theorem m_counted_L (hl : l < D.nL) {tl : Nat} (htl : tl < 2) {x3 : Int32} {K : Int32 → Hp → Prop} {Q : Int32 → Hp → Prop} : ∀ (N k : Nat) (x : Int32) (I : Nat → Nat → Int32), St n L D I0 I → k ≤ D.nP → D.nP < N + k → (∀ I', St n L D I0 I' → K (inr (coF I0 D l tl x3) k (D.nP - k) x) (fm I' L D)) → wp_X12_counted_L31 400 (nI l) (nI tl) x3 K Q N x (nI k) (fm I L D) := by
  intro N
  induction N with
  | zero => intro b x I _ h1 h2; omega
  | succ N ih =>
    intro k x I h h1 h2 hK
    have nP10 := h.1.nP10
    rw [wp_X12_counted_L31]
    simp only [gK, gI, gL, gR_, g_stI, g_stL, forall_eq, true_and, ad_s, okA_s, okO_s, okN_s, i10, i00, if_true, if_false, reduceCtorEq, Kf_1, Kf_400, h.1.mP]
    by_cases hb : k = D.nP
    · subst hb
      rw [if_pos (nI_le (Nat.le_refl _) (by omega))]
      rw [Nat.sub_self] at hK
      exact hK I h
    · rw [if_neg (nI_ge (by omega) (by omega))]
      have hk : k < D.nP := by omega
      rw [show D.nP - k = (D.nP - (k + 1)) + 1 by omega] at hK
      have hK : ∀ I', St n L D I0 I' → K (inr (coF I0 D l tl x3) (k + 1) (D.nP - (k + 1)) (coF I0 D l tl x3 k x)) (fm I' L D) := hK
      have body : wp_X12_counted_J53 400 (nI l) (nI tl) x3 x (nI k) (nI tl) (nI k) (nI l) (some 400) (wp_X12_counted_L31 400 (nI l) (nI tl) x3 K Q N) K Q (fm I L D) := by
        unfold wp_X12_counted_J53
        simp only [gK, gI, gL, gR_, g_stI, g_stL, forall_eq, true_and, ad_s, okA_s, okO_s, okN_s, i10, i00, if_true, if_false, reduceCtorEq, Kf_1, Kf_400]
        refine m_countOf h hl hk htl (fun J hJ => ?_)
        simp only [nI_1]
        unfold coF at hK
        by_cases e : gdF I0 D l k tl = x3
        · rw [if_pos e]
          rw [if_pos e] at hK
          exact ih (k + 1) _ J hJ (by omega) (by omega) hK
        · rw [if_neg e]
          rw [if_neg e] at hK
          exact ih (k + 1) _ J hJ (by omega) (by omega) hK
      have t01 : tl = 0 ∨ tl = 1 := by omega
      rcases t01 with e | e
      · subst e
        rw [if_pos (show nI 0 = (0 : Int32) from rfl)]
        exact body
      · subst e
        rw [if_neg (show ¬ nI 1 = (0 : Int32) by decide)]
        exact body
def leF (I0 : Nat → Nat → Int32) (D : DD) (l : Nat) (k : Nat) (x : Int32) : Int32 := if sayF I0 l (D.pa k) (D.pb k) 0 = sayF I0 l (D.pa k) (D.pb k) 1 then x else x + 1
theorem x_lean_L (hl : l < D.nL) {K : Int32 → Hp → Prop} {Q : Int32 → Hp → Prop} : ∀ (N k : Nat) (x : Int32) (I : Nat → Nat → Int32), St n L D I0 I → k ≤ D.nP → D.nP < N + k → (∀ I', St n L D I0 I' → K (inr (leF I0 D l) k (D.nP - k) x) (fm I' L D)) → wp_X11_lean_L17 1 (some (240 + 2 * l)) K Q N x (nI k) (fm I L D) := by
  intro N
  induction N with
  | zero => intro b x I _ h1 h2; omega
  | succ N ih =>
    intro k x I h h1 h2 hK
    have nP10 := h.1.nP10
    have nL6 := h.1.nL6
    rw [wp_X11_lean_L17]
    simp only [gK, gI, gL, gR_, g_stI, g_stL, forall_eq, true_and, ad_s, okA_s, okO_s, okN_s, i10, i00, if_true, if_false, reduceCtorEq, Kf_1, Kf_400, h.1.xP, Rf_1_9, Kf_6]
    by_cases hb : k = D.nP
    · subst hb
      rw [if_pos (nI_le (Nat.le_refl _) (by omega))]
      rw [Nat.sub_self] at hK
      exact hK I h
    · rw [if_neg (nI_ge (by omega) (by omega))]
      have hk : k < D.nP := by omega
      obtain ⟨p1, p2, p3⟩ := h.1.pr hk
      rw [show D.nP - k = (D.nP - (k + 1)) + 1 by omega] at hK
      have hK : ∀ I', St n L D I0 I' → K (inr (leF I0 D l) (k + 1) (D.nP - (k + 1)) (leF I0 D l k x)) (fm I' L D) := hK
      simp only [gK, gI, gL, gR_, g_stI, g_stL, forall_eq, true_and, ad_s, okA_s, okO_s, okN_s, i10, i00, if_true, if_false, reduceCtorEq, Kf_1, Kf_400, vp_in_nI (show k < 10 by omega) (show 10 < 2 ^ 31 by decide), nI_clamp (show k < 2 ^ 31 by omega), Rf_6, if_pos hk, Kf_pair hk nP10, Rf_pair0 hk nP10, Rf_pair1 hk nP10, Kf_look hl nL6, Rf_1_15]
      refine x_sayingOf (tl := 1) h hl p1 p2 (by decide) (fun J hJ => ?_)
      simp only [gK, gI, gL, gR_, g_stI, g_stL, forall_eq, true_and, ad_s, okA_s, okO_s, okN_s, i10, i00, if_true, if_false, reduceCtorEq, Kf_1, Kf_400, Kf_pair hk nP10, Rf_pair0 hk nP10, Rf_pair1 hk nP10, Kf_look hl nL6, Rf_1_15]
      refine x_sayingOf (tl := 0) hJ hl p1 p2 (by decide) (fun J2 hJ2 => ?_)
      have s0 := sayF_le I0 l (D.pa k) (D.pb k) 0
      have s1 := sayF_le I0 l (D.pa k) (D.pb k) 1
      simp only [nI_1]
      unfold leF at hK
      by_cases e : sayF I0 l (D.pa k) (D.pb k) 0 = sayF I0 l (D.pa k) (D.pb k) 1
      · rw [if_pos (by rw [e])]
        rw [if_pos e] at hK
        exact ih (k + 1) _ J2 hJ2 (by omega) (by omega) hK
      · rw [if_neg (fun z => e ((nI_eq (by omega) (by omega)).mp z).symm)]
        rw [if_neg e] at hK
        exact ih (k + 1) _ J2 hJ2 (by omega) (by omega) hK
theorem m_lean_L (hl : l < D.nL) {K : Int32 → Hp → Prop} {Q : Int32 → Hp → Prop} : ∀ (N k : Nat) (x : Int32) (I : Nat → Nat → Int32), St n L D I0 I → k ≤ D.nP → D.nP < N + k → (∀ I', St n L D I0 I' → K (inr (leF I0 D l) k (D.nP - k) x) (fm I' L D)) → wp_X12_lean_L19 400 (nI l) K Q N x (nI k) (fm I L D) := by
  intro N
  induction N with
  | zero => intro b x I _ h1 h2; omega
  | succ N ih =>
    intro k x I h h1 h2 hK
    have nP10 := h.1.nP10
    rw [wp_X12_lean_L19]
    simp only [gK, gI, gL, gR_, g_stI, g_stL, forall_eq, true_and, ad_s, okA_s, okO_s, okN_s, i10, i00, if_true, if_false, reduceCtorEq, Kf_1, Kf_400, h.1.mP]
    by_cases hb : k = D.nP
    · subst hb
      rw [if_pos (nI_le (Nat.le_refl _) (by omega))]
      rw [Nat.sub_self] at hK
      exact hK I h
    · rw [if_neg (nI_ge (by omega) (by omega))]
      have hk : k < D.nP := by omega
      obtain ⟨p1, p2, p3⟩ := h.1.pr hk
      obtain ⟨-, -, c3, c4⟩ := h.1.cp hk
      rw [show D.nP - k = (D.nP - (k + 1)) + 1 by omega] at hK
      have hK : ∀ I', St n L D I0 I' → K (inr (leF I0 D l) (k + 1) (D.nP - (k + 1)) (leF I0 D l k x)) (fm I' L D) := hK
      have vk : vp_in (nI k) 10 := vp_in_nI (by omega) (by decide)
      have ck := nI_clamp (show k < 2 ^ 31 by omega)
      simp only [gK, gI, gL, gR_, g_stI, g_stL, forall_eq, true_and, ad_s, okA_s, okO_s, okN_s, i10, i00, if_true, if_false, reduceCtorEq, Kf_1, Kf_400, Rf_400_54, Rf_400_55, Kf_455, Kf_456, vk, ck, c3, c4]
      refine m_saysOf (tl := 0) h hl p1 p2 (by decide) (fun J hJ => ?_)
      obtain ⟨-, -, d3, d4⟩ := hJ.1.cp hk
      simp only [gK, gI, gL, gR_, g_stI, g_stL, forall_eq, true_and, ad_s, okA_s, okO_s, okN_s, i10, i00, if_true, if_false, reduceCtorEq, Kf_1, Kf_400, Rf_400_54, Rf_400_55, Kf_455, Kf_456, vk, ck, d3, d4]
      refine m_saysOf (tl := 1) hJ hl p1 p2 (by decide) (fun J2 hJ2 => ?_)
      have s0 := sayF_le I0 l (D.pa k) (D.pb k) 0
      have s1 := sayF_le I0 l (D.pa k) (D.pb k) 1
      simp only [nI_1]
      unfold leF at hK
      by_cases e : sayF I0 l (D.pa k) (D.pb k) 0 = sayF I0 l (D.pa k) (D.pb k) 1
      · rw [if_pos (by rw [e])]
        rw [if_pos e] at hK
        exact ih (k + 1) _ J2 hJ2 (by omega) (by omega) hK
      · rw [if_neg (fun z => e ((nI_eq (by omega) (by omega)).mp z))]
        rw [if_neg e] at hK
        exact ih (k + 1) _ J2 hJ2 (by omega) (by omega) hK
end GR
theorem pair_counted {n : Nat} {g : Hp} (hI : Inv n g) (x1 x2 x3 : Int32) (hx2 : x2 = 0 ∨ x2 = 1) : wp_X11_counted 1 x1 x2 x3 g (fun r h1 => wp_X12_counted 400 x1 x2 x3 h1 (fun r' h2 => r' = r ∧ Inv (n + 1) h2)) := by
  obtain ⟨I, L, D, rfl, h⟩ := hI
  have nL6 := h.nL6
  have nP10 := h.nP10
  have hT0 := St_told (St.refl h)
  obtain ⟨tl, htl, e2⟩ : ∃ tl, tl < 2 ∧ x2 = nI tl := by
    rcases hx2 with e | e
    · exact ⟨0, by decide, e⟩
    · exact ⟨1, by decide, e⟩
  subst e2
  unfold wp_X11_counted
  simp only [gK, gI, gL, gR_, g_stI, g_stL, forall_eq, true_and, ad_s, okA_s, okO_s, okN_s, i10, i00, if_true, if_false, reduceCtorEq, Kf_1, Kf_400, x_lookerAt nL6]
  by_cases w1 : inN x1 D.nL
  · obtain ⟨l, hl, rfl⟩ := inN_of (by omega) w1
    simp only [gK, gI, gL, gR_, g_stI, g_stL, forall_eq, true_and, ad_s, okA_s, okO_s, okN_s, i10, i00, if_true, if_false, reduceCtorEq, Kf_1, Kf_400, if_pos w1, nI_clamp (show l < 2 ^ 31 by omega)]
    by_cases c1 : x3 < 0
    · rw [if_pos c1]
      unfold wp_X12_counted
      simp only [gK, gI, gL, gR_, g_stI, g_stL, forall_eq, true_and, ad_s, okA_s, okO_s, okN_s, i10, i00, if_true, if_false, reduceCtorEq, Kf_1, Kf_400, m_isLooker hT0.1.mL, m_isIn, if_pos w1, if_neg (show ¬ ((0 : Int32) ≤ x3 ∧ x3 ≤ 2) from fun z => absurd z.1 (Int32.not_le.mpr c1))]
      exact hT0.inv
    · rw [if_neg c1]
      by_cases c2 : x3 ≤ 2
      · rw [if_pos c2]
        refine x_counted_L hl htl fuel 0 0 I (St.refl h) (by omega) (by have := fuel_ge; omega) (fun J hJ => ?_)
        have hT := St_told hJ
        unfold wp_X12_counted
        simp only [gK, gI, gL, gR_, g_stI, g_stL, forall_eq, true_and, ad_s, okA_s, okO_s, okN_s, i10, i00, if_true, if_false, reduceCtorEq, Kf_1, Kf_400, m_isLooker hT.1.mL, m_isIn, if_pos w1, if_pos (show (0 : Int32) ≤ x3 ∧ x3 ≤ 2 from ⟨Int32.not_lt.mp c1, c2⟩)]
        exact m_counted_L hl htl fuel 0 0 _ hT (by omega) (by have := fuel_ge; omega) (fun J' hJ' => ⟨rfl, hJ'.inv⟩)
      · rw [if_neg c2]
        unfold wp_X12_counted
        simp only [gK, gI, gL, gR_, g_stI, g_stL, forall_eq, true_and, ad_s, okA_s, okO_s, okN_s, i10, i00, if_true, if_false, reduceCtorEq, Kf_1, Kf_400, m_isLooker hT0.1.mL, m_isIn, if_pos w1, if_neg (show ¬ ((0 : Int32) ≤ x3 ∧ x3 ≤ 2) from fun z => c2 z.2)]
        exact hT0.inv
  · simp only [gK, gI, gL, gR_, g_stI, g_stL, forall_eq, true_and, ad_s, okA_s, okO_s, okN_s, i10, i00, if_true, if_false, reduceCtorEq, Kf_1, Kf_400, if_neg w1]
    unfold wp_X12_counted
    simp only [gK, gI, gL, gR_, g_stI, g_stL, forall_eq, true_and, ad_s, okA_s, okO_s, okN_s, i10, i00, if_true, if_false, reduceCtorEq, Kf_1, Kf_400, m_isLooker hT0.1.mL, if_neg w1]
    exact hT0.inv
theorem pair_lean {n : Nat} {g : Hp} (hI : Inv n g) (x1 : Int32) : wp_X11_lean 1 x1 g (fun r h1 => wp_X12_lean 400 x1 h1 (fun r' h2 => r' = r ∧ Inv (n + 1) h2)) := by
  obtain ⟨I, L, D, rfl, h⟩ := hI
  have nL6 := h.nL6
  have nP10 := h.nP10
  have hT0 := St_told (St.refl h)
  unfold wp_X11_lean
  simp only [gK, gI, gL, gR_, g_stI, g_stL, forall_eq, true_and, ad_s, okA_s, okO_s, okN_s, i10, i00, if_true, if_false, reduceCtorEq, Kf_1, Kf_400, x_lookerAt nL6]
  by_cases w1 : inN x1 D.nL
  · obtain ⟨l, hl, rfl⟩ := inN_of (by omega) w1
    simp only [gK, gI, gL, gR_, g_stI, g_stL, forall_eq, true_and, ad_s, okA_s, okO_s, okN_s, i10, i00, if_true, if_false, reduceCtorEq, Kf_1, Kf_400, if_pos w1, nI_clamp (show l < 2 ^ 31 by omega)]
    refine x_lean_L hl fuel 0 0 I (St.refl h) (by omega) (by have := fuel_ge; omega) (fun J hJ => ?_)
    have hT := St_told hJ
    unfold wp_X12_lean
    simp only [gK, gI, gL, gR_, g_stI, g_stL, forall_eq, true_and, ad_s, okA_s, okO_s, okN_s, i10, i00, if_true, if_false, reduceCtorEq, Kf_1, Kf_400, m_isLooker hT.1.mL, if_pos w1]
    exact m_lean_L hl fuel 0 0 _ hT (by omega) (by have := fuel_ge; omega) (fun J' hJ' => ⟨rfl, hJ'.inv⟩)
  · simp only [gK, gI, gL, gR_, g_stI, g_stL, forall_eq, true_and, ad_s, okA_s, okO_s, okN_s, i10, i00, if_true, if_false, reduceCtorEq, Kf_1, Kf_400, if_neg w1]
    unfold wp_X12_lean
    simp only [gK, gI, gL, gR_, g_stI, g_stL, forall_eq, true_and, ad_s, okA_s, okO_s, okN_s, i10, i00, if_true, if_false, reduceCtorEq, Kf_1, Kf_400, m_isLooker hT0.1.mL, if_neg w1]
    exact hT0.inv
