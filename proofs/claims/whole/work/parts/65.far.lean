/-! far (my own) -/
section FA
variable {n : Nat} {I0 : Nat → Nat → Int32} {L : Nat → Nat → Int64} {D : DD} {l : Nat}
def faF (I0 : Nat → Nat → Int32) (D : DD) (l : Nat) (x2 : Int32) (a b : Nat) (x : Int32) : Int32 := if truF I0 D a b = 0 ∧ (x = -1 ∨ ¬ x ≤ I0 416 b - I0 416 a) ∧ ¬ x2 ≤ nI (longF (row I0 a) (row I0 b) (I0 447 l)) then I0 416 b - I0 416 a else x
theorem Same.nth {D : DD} {I J : Nat → Nat → Int32} (h : Same D I J) (a : Nat) : J 416 a = I 416 a := by
  have t0 := h.1
  exact h.2 416 a (by first | (unfold Scr2 Scr; omega) | (unfold Scr; omega)) (by unfold Xs_K; omega) (by unfold Xs_V; omega)
theorem x_far_J102 (hl : l < D.nL) {a b : Nat} (ha : a < D.nA) (hb : b < D.nA) {x2 x4 : Int32} {KH : Int32 → Int32 → Hp → Prop} {K : Int32 → Hp → Prop} {Q : Int32 → Hp → Prop} {I : Nat → Nat → Int32} (h : St n L D I0 I) (e1 : truF I0 D a b = 0) (e2 : x4 = -1 ∨ ¬ x4 ≤ I0 416 b - I0 416 a) (hK : ∀ I', St n L D I0 I' → KH (faF I0 D l x2 a b x4) (nI (b + 1)) (fm I' L D)) : wp_X11_far_J102 1 x2 (some (240 + 2 * l)) x4 (nI a) (some (160 + 2 * a)) (nI b) (some (160 + 2 * b)) KH K Q (fm I L D) := by
  have n3 := h.1.nA40
  have nL6 := h.1.nL6
  unfold wp_X11_far_J102
  simp only [gK, gI, gL, gR_, g_stI, g_stL, forall_eq, true_and, ad_s, okA_s, okO_s, okN_s, i10, i00, if_true, if_false, reduceCtorEq, Kf_1, Kf_400, Kf_look hl nL6]
  refine x_measured h hl ha hb (fun W J hJ hW u1 u2 u3 => ?_)
  rw [x_longest (by omega) u3]
  by_cases e3 : x2 ≤ nI (longF (row I0 a) (row I0 b) (I0 447 l))
  · rw [if_pos e3]
    simp only [gK, gI, gL, gR_, g_stI, g_stL, forall_eq, true_and, ad_s, okA_s, okO_s, okN_s, i10, i00, if_true, if_false, reduceCtorEq, Kf_1, Kf_400, nI_1]
    have : faF I0 D l x2 a b x4 = x4 := if_neg (fun q => q.2.2 e3)
    rw [this] at hK
    exact hK J hJ
  · rw [if_neg e3]
    have eA := (hJ.1.2.2.2.2.2.1 a ha).2.2.2.1
    have eB := (hJ.1.2.2.2.2.2.1 b hb).2.2.2.1
    simp only [gK, gI, gL, gR_, g_stI, g_stL, forall_eq, true_and, ad_s, okA_s, okO_s, okN_s, i10, i00, if_true, if_false, reduceCtorEq, Kf_1, Kf_400, nI_1, Kf_ball ha n3, Kf_ball hb n3, eA, eB, hJ.2.nth]
    have : faF I0 D l x2 a b x4 = I0 416 b - I0 416 a := if_pos ⟨e1, e2, e3⟩
    rw [this] at hK
    exact hK J hJ
theorem x_far_L52 (hl : l < D.nL) {a : Nat} (ha : a < D.nA) {x2 : Int32} {K : Int32 → Hp → Prop} {Q : Int32 → Hp → Prop} : ∀ (N b : Nat) (x : Int32) (I : Nat → Nat → Int32), St n L D I0 I → b ≤ D.nA → D.nA < N + b → (∀ I', St n L D I0 I' → K (inr (faF I0 D l x2 a) b (D.nA - b) x) (fm I' L D)) → wp_X11_far_L52 1 x2 (some (240 + 2 * l)) (nI a) (some (160 + 2 * a)) K Q N x (nI b) (fm I L D) := by
  intro N
  induction N with
  | zero => intro b x I _ h1 h2; omega
  | succ N ih =>
    intro b x I h h1 h2 hK
    have n3 := h.1.nA40
    have nL6 := h.1.nL6
    rw [wp_X11_far_L52]
    simp only [gK, gI, gL, gR_, g_stI, g_stL, forall_eq, true_and, ad_s, okA_s, okO_s, okN_s, i10, i00, if_true, if_false, reduceCtorEq, Kf_1, Kf_400, h.1.xA, Rf_1_4, Kf_4]
    by_cases hb : b = D.nA
    · subst hb
      rw [if_pos (nI_le (Nat.le_refl _) (by omega))]
      rw [Nat.sub_self] at hK
      exact hK I h
    · rw [if_neg (nI_ge (by omega) (by omega))]
      have hb' : b < D.nA := by omega
      rw [show D.nA - b = (D.nA - (b + 1)) + 1 by omega] at hK
      have hK : ∀ I', St n L D I0 I' → K (inr (faF I0 D l x2 a) (b + 1) (D.nA - (b + 1)) (faF I0 D l x2 a b x)) (fm I' L D) := hK
      simp only [gK, gI, gL, gR_, g_stI, g_stL, forall_eq, true_and, ad_s, okA_s, okO_s, okN_s, i10, i00, if_true, if_false, reduceCtorEq, Kf_1, Kf_400, vp_in_nI (show b < 40 by omega) (show 40 < 2 ^ 31 by decide), nI_clamp (show b < 2 ^ 31 by omega), Rf_4, if_pos hb', x_truthOf h.1 ha hb', h.2.tru, nI_1]
      have go : ∀ J, St n L D I0 J → wp_X11_far_L52 1 x2 (some (240 + 2 * l)) (nI a) (some (160 + 2 * a)) K Q N (faF I0 D l x2 a b x) (nI (b + 1)) (fm J L D) := fun J hJ => ih (b + 1) _ J hJ (by omega) (by omega) hK
      by_cases e1 : truF I0 D a b = 0
      · rw [if_pos e1]
        by_cases e2 : x = -1
        · rw [if_pos e2]
          exact x_far_J102 hl ha hb' h e1 (Or.inl e2) go
        · rw [if_neg e2]
          have eA := (h.1.2.2.2.2.2.1 a ha).2.2.2.1
          have eB := (h.1.2.2.2.2.2.1 b hb').2.2.2.1
          simp only [gK, gI, gL, gR_, g_stI, g_stL, forall_eq, true_and, ad_s, okA_s, okO_s, okN_s, i10, i00, if_true, if_false, reduceCtorEq, Kf_1, Kf_400, Kf_ball ha n3, Kf_ball hb' n3, eA, eB, h.2.nth]
          by_cases e3 : x ≤ I0 416 b - I0 416 a
          · rw [if_pos e3]
            have := go I h
            have e : faF I0 D l x2 a b x = x := if_neg (fun q => q.2.1.elim e2 (fun z => z e3))
            rw [e] at this
            exact this
          · rw [if_neg e3]
            exact x_far_J102 hl ha hb' h e1 (Or.inr e3) go
      · rw [if_neg e1]
        have := go I h
        have e : faF I0 D l x2 a b x = x := if_neg (fun q => e1 q.1)
        rw [e] at this
        exact this
theorem x_far_L28 (hl : l < D.nL) {x2 : Int32} {K : Int32 → Hp → Prop} {Q : Int32 → Hp → Prop} : ∀ (N a : Nat) (x : Int32) (I : Nat → Nat → Int32), St n L D I0 I → a ≤ D.nA → D.nA < N + a → (∀ I', St n L D I0 I' → K (outr (faF I0 D l x2) D.nA a (D.nA - a) x) (fm I' L D)) → wp_X11_far_L28 1 x2 (some (240 + 2 * l)) K Q N x (nI a) (fm I L D) := by
  intro N
  induction N with
  | zero => intro b x I _ h1 h2; omega
  | succ N ih =>
    intro a x I h h1 h2 hK
    have n3 := h.1.nA40
    rw [wp_X11_far_L28]
    simp only [gK, gI, gL, gR_, g_stI, g_stL, forall_eq, true_and, ad_s, okA_s, okO_s, okN_s, i10, i00, if_true, if_false, reduceCtorEq, Kf_1, Kf_400, h.1.xA, Rf_1_4, Kf_4]
    by_cases hb : a = D.nA
    · subst hb
      rw [if_pos (nI_le (Nat.le_refl _) (by omega))]
      rw [Nat.sub_self] at hK
      exact hK I h
    · rw [if_neg (nI_ge (by omega) (by omega))]
      have ha : a < D.nA := by omega
      rw [show D.nA - a = (D.nA - (a + 1)) + 1 by omega] at hK
      simp only [gK, gI, gL, gR_, g_stI, g_stL, forall_eq, true_and, ad_s, okA_s, okO_s, okN_s, i10, i00, if_true, if_false, reduceCtorEq, Kf_1, Kf_400, vp_in_nI (show a < 40 by omega) (show 40 < 2 ^ 31 by decide), nI_clamp (show a < 2 ^ 31 by omega), Rf_4, if_pos ha, nI_1]
      refine x_far_L52 hl ha fuel (a + 1) x I h (by omega) (by have := fuel_ge; omega) (fun J hJ => ?_)
      exact ih (a + 1) _ J hJ (by omega) (by omega) hK
theorem truF_0 {I : Nat → Nat → Int32} {a b p q : Nat} (h1 : D.gun a = some p) (h2 : D.gun b = some q) (hab : a ≠ b) : truF I D a b = 0 ↔ p = q := by
  unfold truF
  simp only [h1, h2, if_neg hab]
  by_cases e : p = q
  · simp [e]
  · simp only [e, if_false, iff_false]
    by_cases e3 : I 409 p = I 409 q
    · rw [if_pos e3]; decide
    · rw [if_neg e3]; decide
theorem m_far_J121 (hl : l < D.nL) {a b : Nat} (ha : a < D.nA) (hb : b < D.nA) {x2 x3 : Int32} {KH : Int32 → Int32 → Hp → Prop} {K : Int32 → Hp → Prop} {Q : Int32 → Hp → Prop} {I : Nat → Nat → Int32} (h : St n L D I0 I) (e1 : truF I0 D a b = 0) (e2 : x3 = -1 ∨ ¬ x3 ≤ I0 416 b - I0 416 a) (hK : ∀ I', St n L D I0 I' → KH (faF I0 D l x2 a b x3) (nI (b + 1)) (fm I' L D)) : wp_X12_far_J121 400 (nI l) x2 x3 (nI a) (nI b) (I0 416 b - I0 416 a) KH K Q (fm I L D) := by
  unfold wp_X12_far_J121
  simp only [gK, gI, gL, gR_, g_stI, g_stL, forall_eq, true_and, ad_s, okA_s, okO_s, okN_s, i10, i00, if_true, if_false, reduceCtorEq, Kf_1, Kf_400]
  refine m_longest h hl ha hb (fun J hJ => ?_)
  simp only [nI_1]
  by_cases e3 : x2 ≤ nI (longF (row I0 a) (row I0 b) (I0 447 l))
  · rw [if_pos e3]
    have : faF I0 D l x2 a b x3 = x3 := if_neg (fun q => q.2.2 e3)
    rw [this] at hK
    exact hK J hJ
  · rw [if_neg e3]
    have : faF I0 D l x2 a b x3 = I0 416 b - I0 416 a := if_pos ⟨e1, e2, e3⟩
    rw [this] at hK
    exact hK J hJ
theorem m_far_L46 (hl : l < D.nL) {a : Nat} (ha : a < D.nA) {x2 : Int32} {K : Int32 → Hp → Prop} {Q : Int32 → Hp → Prop} : ∀ (N b : Nat) (x : Int32) (I : Nat → Nat → Int32), St n L D I0 I → a < b → b ≤ D.nA → D.nA < N + b → (∀ I', St n L D I0 I' → K (inr (faF I0 D l x2 a) b (D.nA - b) x) (fm I' L D)) → wp_X12_far_L46 400 (nI l) x2 (nI a) K Q N x (nI b) (fm I L D) := by
  intro N
  induction N with
  | zero => intro b x I _ _ h1 h2; omega
  | succ N ih =>
    intro b x I h hab h1 h2 hK
    have n3 := h.1.nA40
    have nL6 := h.1.nL6
    have n2 := h.1.1.2.1
    rw [wp_X12_far_L46]
    simp only [gK, gI, gL, gR_, g_stI, g_stL, forall_eq, true_and, ad_s, okA_s, okO_s, okN_s, i10, i00, if_true, if_false, reduceCtorEq, Kf_1, Kf_400, h.1.mA]
    by_cases hb : b = D.nA
    · subst hb
      rw [if_pos (nI_le (Nat.le_refl _) (by omega))]
      rw [Nat.sub_self] at hK
      exact hK I h
    · rw [if_neg (nI_ge (by omega) (by omega))]
      have hb' : b < D.nA := by omega
      rw [show D.nA - b = (D.nA - (b + 1)) + 1 by omega] at hK
      have hK : ∀ I', St n L D I0 I' → K (inr (faF I0 D l x2 a) (b + 1) (D.nA - (b + 1)) (faF I0 D l x2 a b x)) (fm I' L D) := hK
      have go : ∀ J, St n L D I0 J → wp_X12_far_L46 400 (nI l) x2 (nI a) K Q N (faF I0 D l x2 a b x) (nI (b + 1)) (fm J L D) := fun J hJ => ih (b + 1) _ J hJ (by omega) (by omega) (by omega) hK
      have stay : ¬ truF I0 D a b = 0 → wp_X12_far_L46 400 (nI l) x2 (nI a) K Q N x (nI (b + 1)) (fm I L D) := by
        intro e1
        have := go I h
        have e : faF I0 D l x2 a b x = x := if_neg (fun q => e1 q.1)
        rw [e] at this
        exact this
      simp only [gK, gI, gL, gR_, g_stI, g_stL, forall_eq, true_and, ad_s, okA_s, okO_s, okN_s, i10, i00, if_true, if_false, reduceCtorEq, Kf_1, Kf_400, m_isShot_St h ha, nI_1]
      cases g1 : D.gun a with
      | none =>
        simp only [gK, gI, gL, gR_, g_stI, g_stL, forall_eq, true_and, ad_s, okA_s, okO_s, okN_s, i10, i00, if_true, if_false, reduceCtorEq, Kf_1, Kf_400]
        exact stay (by rw [truF_none (Or.inl g1)]; decide)
      | some p =>
        simp only [gK, gI, gL, gR_, g_stI, g_stL, forall_eq, true_and, ad_s, okA_s, okO_s, okN_s, i10, i00, if_true, if_false, reduceCtorEq, Kf_1, Kf_400, m_isShot_St h hb']
        cases g2 : D.gun b with
        | none =>
          simp only [gK, gI, gL, gR_, g_stI, g_stL, forall_eq, true_and, ad_s, okA_s, okO_s, okN_s, i10, i00, if_true, if_false, reduceCtorEq, Kf_1, Kf_400]
          exact stay (by rw [truF_none (Or.inr g2)]; decide)
        | some q =>
          have hp : p < D.nB := gun_lt h.1.1 ha p g1
          have hq : q < D.nB := gun_lt h.1.1 hb' q g2
          have ea : I 415 a = nI p := by rw [(h.1.2.2.2.2.2.1 a ha).2.2.1, g1]; rfl
          have eb : I 415 b = nI q := by rw [(h.1.2.2.2.2.2.1 b hb').2.2.1, g2]; rfl
          have t0 : truF I0 D a b = 0 ↔ p = q := truF_0 g1 g2 (by omega)
          simp only [gK, gI, gL, gR_, g_stI, g_stL, forall_eq, true_and, ad_s, okA_s, okO_s, okN_s, i10, i00, if_true, if_false, reduceCtorEq, Kf_1, Kf_400, Rf_400_14, Rf_400_15, Kf_415, Kf_416, vp_in_nI (show a < 40 by omega) (show 40 < 2 ^ 31 by decide), nI_clamp (show a < 2 ^ 31 by omega), vp_in_nI (show b < 40 by omega) (show 40 < 2 ^ 31 by decide), nI_clamp (show b < 2 ^ 31 by omega), ea, eb, nI_eq (show p < 2 ^ 31 by omega) (show q < 2 ^ 31 by omega), h.2.nth]
          by_cases e1 : p = q
          · rw [if_pos e1]
            by_cases e2 : x = -1
            · rw [if_pos e2]
              exact m_far_J121 hl ha hb' h (t0.mpr e1) (Or.inl e2) go
            · rw [if_neg e2]
              by_cases e3 : x ≤ I0 416 b - I0 416 a
              · rw [if_pos e3]
                have := go I h
                have e : faF I0 D l x2 a b x = x := if_neg (fun q => q.2.1.elim e2 (fun z => z e3))
                rw [e] at this
                exact this
              · rw [if_neg e3]
                exact m_far_J121 hl ha hb' h (t0.mpr e1) (Or.inr e3) go
          · rw [if_neg e1]
            exact stay (fun z => e1 (t0.mp z))
theorem m_far_L31 (hl : l < D.nL) {x2 : Int32} {K : Int32 → Hp → Prop} {Q : Int32 → Hp → Prop} : ∀ (N a : Nat) (x : Int32) (I : Nat → Nat → Int32), St n L D I0 I → a ≤ D.nA → D.nA < N + a → (∀ I', St n L D I0 I' → K (outr (faF I0 D l x2) D.nA a (D.nA - a) x) (fm I' L D)) → wp_X12_far_L31 400 (nI l) x2 K Q N x (nI a) (fm I L D) := by
  intro N
  induction N with
  | zero => intro b x I _ h1 h2; omega
  | succ N ih =>
    intro a x I h h1 h2 hK
    have n3 := h.1.nA40
    rw [wp_X12_far_L31]
    simp only [gK, gI, gL, gR_, g_stI, g_stL, forall_eq, true_and, ad_s, okA_s, okO_s, okN_s, i10, i00, if_true, if_false, reduceCtorEq, Kf_1, Kf_400, h.1.mA]
    by_cases hb : a = D.nA
    · subst hb
      rw [if_pos (nI_le (Nat.le_refl _) (by omega))]
      rw [Nat.sub_self] at hK
      exact hK I h
    · rw [if_neg (nI_ge (by omega) (by omega))]
      have ha : a < D.nA := by omega
      rw [show D.nA - a = (D.nA - (a + 1)) + 1 by omega] at hK
      simp only [gK, gI, gL, gR_, g_stI, g_stL, forall_eq, true_and, ad_s, okA_s, okO_s, okN_s, i10, i00, if_true, if_false, reduceCtorEq, Kf_1, Kf_400, nI_1]
      refine m_far_L46 hl ha fuel (a + 1) x I h (by omega) (by omega) (by have := fuel_ge; omega) (fun J hJ => ?_)
      exact ih (a + 1) _ J hJ (by omega) (by omega) hK
end FA
theorem pair_far {n : Nat} {g : Hp} (hI : Inv n g) (x1 x2 : Int32) : wp_X11_far 1 x1 x2 g (fun r h1 => wp_X12_far 400 x1 x2 h1 (fun r' h2 => r' = r ∧ Inv (n + 1) h2)) := by
  obtain ⟨I, L, D, rfl, h⟩ := hI
  have n3 := h.nA40
  have nL6 := h.nL6
  have hT0 := St_told (St.refl h)
  unfold wp_X11_far
  simp only [gK, gI, gL, gR_, g_stI, g_stL, forall_eq, true_and, ad_s, okA_s, okO_s, okN_s, i10, i00, if_true, if_false, reduceCtorEq, Kf_1, Kf_400, x_lookerAt nL6]
  by_cases w1 : inN x1 D.nL
  · obtain ⟨l, hl, rfl⟩ := inN_of (by omega) w1
    simp only [gK, gI, gL, gR_, g_stI, g_stL, forall_eq, true_and, ad_s, okA_s, okO_s, okN_s, i10, i00, if_true, if_false, reduceCtorEq, Kf_1, Kf_400, if_pos w1, nI_clamp (show l < 2 ^ 31 by omega)]
    by_cases c1 : x2 < 0
    · rw [if_pos c1]
      unfold wp_X12_far
      simp only [gK, gI, gL, gR_, g_stI, g_stL, forall_eq, true_and, ad_s, okA_s, okO_s, okN_s, i10, i00, if_true, if_false, reduceCtorEq, Kf_1, Kf_400, m_isLooker hT0.1.mL, m_isIn, if_pos w1, if_neg (show ¬ ((0 : Int32) ≤ x2 ∧ x2 ≤ 33) from fun z => absurd z.1 (Int32.not_le.mpr c1))]
      exact hT0.inv
    · rw [if_neg c1]
      by_cases c2 : x2 ≤ 33
      · rw [if_pos c2]
        refine x_far_L28 hl fuel 0 (-1) I (St.refl h) (by omega) (by have := fuel_ge; omega) (fun J hJ => ?_)
        have hT := St_told hJ
        unfold wp_X12_far
        simp only [gK, gI, gL, gR_, g_stI, g_stL, forall_eq, true_and, ad_s, okA_s, okO_s, okN_s, i10, i00, if_true, if_false, reduceCtorEq, Kf_1, Kf_400, m_isLooker hT.1.mL, m_isIn, if_pos w1, if_pos (show (0 : Int32) ≤ x2 ∧ x2 ≤ 33 from ⟨Int32.not_lt.mp c1, c2⟩)]
        refine m_far_L31 hl fuel 0 (-1) _ hT (by omega) (by have := fuel_ge; omega) (fun J' hJ' => ?_)
        exact ⟨rfl, hJ'.inv⟩
      · rw [if_neg c2]
        unfold wp_X12_far
        simp only [gK, gI, gL, gR_, g_stI, g_stL, forall_eq, true_and, ad_s, okA_s, okO_s, okN_s, i10, i00, if_true, if_false, reduceCtorEq, Kf_1, Kf_400, m_isLooker hT0.1.mL, m_isIn, if_pos w1, if_neg (show ¬ ((0 : Int32) ≤ x2 ∧ x2 ≤ 33) from fun z => c2 z.2)]
        exact hT0.inv
  · simp only [gK, gI, gL, gR_, g_stI, g_stL, forall_eq, true_and, ad_s, okA_s, okO_s, okN_s, i10, i00, if_true, if_false, reduceCtorEq, Kf_1, Kf_400, if_neg w1]
    unfold wp_X12_far
    simp only [gK, gI, gL, gR_, g_stI, g_stL, forall_eq, true_and, ad_s, okA_s, okO_s, okN_s, i10, i00, if_true, if_false, reduceCtorEq, Kf_1, Kf_400, m_isLooker hT0.1.mL, if_neg w1]
    exact hT0.inv
