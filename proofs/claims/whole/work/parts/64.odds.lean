/-! odds, far (my own) -/
def inr (f : Nat → Int32 → Int32) : Nat → Nat → Int32 → Int32
  | _, 0, x => x
  | b, k + 1, x => inr f (b + 1) k (f b x)
def outr (f : Nat → Nat → Int32 → Int32) (N : Nat) : Nat → Nat → Int32 → Int32
  | _, 0, x => x
  | a, k + 1, x => outr f N (a + 1) k (inr (f a) (a + 1) (N - (a + 1)) x)
theorem Same.tru {D : DD} {I J : Nat → Nat → Int32} (h : Same D I J) (a b : Nat) : truF J D a b = truF I D a b := by
  have t0 := h.1
  exact truF_cg (fun k => h.2 409 k (by first | (unfold Scr2 Scr; omega) | (unfold Scr; omega)) (by unfold Xs_K; omega) (by unfold Xs_V; omega))
theorem truF_none {I : Nat → Nat → Int32} {D : DD} {a b : Nat} (h : D.gun a = none ∨ D.gun b = none) : truF I D a b = -1 := by
  unfold truF
  rcases h with h | h
  · rw [h]
  · rw [h]; cases D.gun a <;> rfl
section OD
variable {n : Nat} {I0 : Nat → Nat → Int32} {L : Nat → Nat → Int64} {D : DD} {l : Nat}
theorem m_isShot_St {I : Nat → Nat → Int32} (h : St n L D I0 I) {a : Nat} (ha : a < D.nA) {Q : Int32 → Hp → Prop} : wp_X12_isShot 400 (nI a) (fm I L D) Q ↔ Q (if D.gun a = none then 0 else 1) (fm I L D) := by
  have n3 := h.1.nA40
  have n2 := h.1.1.2.1
  exact m_isShot (by omega) (h.1.2.2.2.2.2.1 a ha).2.2.1 (fun x hx => by have := gun_lt h.1.1 ha x hx; omega)
/-- one more that is counted by odds -/
def odF (I0 : Nat → Nat → Int32) (D : DD) (l : Nat) (x2 x3 x4 : Int32) (a b : Nat) (x : Int32) : Int32 := if truF I0 D a b = x3 ∧ (x4 = 1 ∨ ¬ nI (longF (row I0 a) (row I0 b) (I0 447 l)) < x2) then x + 1 else x
theorem x_odds_L74 (hl : l < D.nL) {a : Nat} (ha : a < D.nA) {x2 x3 x4 : Int32} {K : Int32 → Hp → Prop} {Q : Int32 → Hp → Prop} : ∀ (N b : Nat) (x : Int32) (I : Nat → Nat → Int32), St n L D I0 I → b ≤ D.nA → D.nA < N + b → (∀ I', St n L D I0 I' → K (inr (odF I0 D l x2 x3 x4 a) b (D.nA - b) x) (fm I' L D)) → wp_X11_odds_L74 1 x2 x3 x4 (some (240 + 2 * l)) (nI a) (some (160 + 2 * a)) K Q N x (nI b) (fm I L D) := by
  intro N
  induction N with
  | zero => intro b x I _ h1 h2; omega
  | succ N ih =>
    intro b x I h h1 h2 hK
    have n3 := h.1.nA40
    have nL6 := h.1.nL6
    rw [wp_X11_odds_L74]
    simp only [gK, gI, gL, gR_, g_stI, g_stL, forall_eq, true_and, ad_s, okA_s, okO_s, okN_s, i10, i00, if_true, if_false, reduceCtorEq, Kf_1, Kf_400, h.1.xA, Rf_1_4, Kf_4]
    by_cases hb : b = D.nA
    · subst hb
      rw [if_pos (nI_le (Nat.le_refl _) (by omega))]
      rw [Nat.sub_self] at hK
      exact hK I h
    · rw [if_neg (nI_ge (by omega) (by omega))]
      have hb' : b < D.nA := by omega
      rw [show D.nA - b = (D.nA - (b + 1)) + 1 by omega] at hK
      have hK : ∀ I', St n L D I0 I' → K (inr (odF I0 D l x2 x3 x4 a) (b + 1) (D.nA - (b + 1)) (odF I0 D l x2 x3 x4 a b x)) (fm I' L D) := hK
      simp only [gK, gI, gL, gR_, g_stI, g_stL, forall_eq, true_and, ad_s, okA_s, okO_s, okN_s, i10, i00, if_true, if_false, reduceCtorEq, Kf_1, Kf_400, vp_in_nI (show b < 40 by omega) (show 40 < 2 ^ 31 by decide), nI_clamp (show b < 2 ^ 31 by omega), Rf_4, if_pos hb', x_truthOf h.1 ha hb', h.2.tru, nI_1]
      by_cases e1 : truF I0 D a b = x3
      · rw [if_pos e1]
        by_cases e2 : x4 = 1
        · rw [if_pos e2]
          refine ih (b + 1) _ I h (by omega) (by omega) ?_
          have : odF I0 D l x2 x3 x4 a b x = x + 1 := if_pos ⟨e1, Or.inl e2⟩
          rw [this] at hK; exact hK
        · rw [if_neg e2]
          simp only [gK, gI, gL, gR_, g_stI, g_stL, forall_eq, true_and, ad_s, okA_s, okO_s, okN_s, i10, i00, if_true, if_false, reduceCtorEq, Kf_1, Kf_400, Kf_look hl nL6]
          refine x_measured h hl ha hb' (fun W J hJ hW u1 u2 u3 => ?_)
          rw [x_longest (by omega) u3]
          by_cases e3 : nI (longF (row I0 a) (row I0 b) (I0 447 l)) < x2
          · rw [if_pos e3]
            refine ih (b + 1) _ J hJ (by omega) (by omega) ?_
            have : odF I0 D l x2 x3 x4 a b x = x := if_neg (fun q => q.2.elim e2 (fun z => z e3))
            rw [this] at hK; exact hK
          · rw [if_neg e3]
            refine ih (b + 1) _ J hJ (by omega) (by omega) ?_
            have : odF I0 D l x2 x3 x4 a b x = x + 1 := if_pos ⟨e1, Or.inr e3⟩
            rw [this] at hK; exact hK
      · rw [if_neg e1]
        refine ih (b + 1) _ I h (by omega) (by omega) ?_
        have : odF I0 D l x2 x3 x4 a b x = x := if_neg (fun q => e1 q.1)
        rw [this] at hK; exact hK
theorem x_odds_L50 (hl : l < D.nL) {x2 x3 x4 : Int32} {K : Int32 → Hp → Prop} {Q : Int32 → Hp → Prop} : ∀ (N a : Nat) (x : Int32) (I : Nat → Nat → Int32), St n L D I0 I → a ≤ D.nA → D.nA < N + a → (∀ I', St n L D I0 I' → K (outr (odF I0 D l x2 x3 x4) D.nA a (D.nA - a) x) (fm I' L D)) → wp_X11_odds_L50 1 x2 x3 x4 (some (240 + 2 * l)) K Q N x (nI a) (fm I L D) := by
  intro N
  induction N with
  | zero => intro b x I _ h1 h2; omega
  | succ N ih =>
    intro a x I h h1 h2 hK
    have n3 := h.1.nA40
    rw [wp_X11_odds_L50]
    simp only [gK, gI, gL, gR_, g_stI, g_stL, forall_eq, true_and, ad_s, okA_s, okO_s, okN_s, i10, i00, if_true, if_false, reduceCtorEq, Kf_1, Kf_400, h.1.xA, Rf_1_4, Kf_4]
    by_cases hb : a = D.nA
    · subst hb
      rw [if_pos (nI_le (Nat.le_refl _) (by omega))]
      rw [Nat.sub_self] at hK
      exact hK I h
    · rw [if_neg (nI_ge (by omega) (by omega))]
      have ha : a < D.nA := by omega
      rw [show D.nA - a = (D.nA - (a + 1)) + 1 by omega] at hK
      have hK : ∀ I', St n L D I0 I' → K (outr (odF I0 D l x2 x3 x4) D.nA (a + 1) (D.nA - (a + 1)) (inr (odF I0 D l x2 x3 x4 a) (a + 1) (D.nA - (a + 1)) x)) (fm I' L D) := hK
      simp only [gK, gI, gL, gR_, g_stI, g_stL, forall_eq, true_and, ad_s, okA_s, okO_s, okN_s, i10, i00, if_true, if_false, reduceCtorEq, Kf_1, Kf_400, vp_in_nI (show a < 40 by omega) (show 40 < 2 ^ 31 by decide), nI_clamp (show a < 2 ^ 31 by omega), Rf_4, if_pos ha, nI_1]
      refine x_odds_L74 hl ha fuel (a + 1) x I h (by omega) (by have := fuel_ge; omega) (fun J hJ => ?_)
      exact ih (a + 1) _ J hJ (by omega) (by omega) hK
theorem m_odds_L71 (hl : l < D.nL) {a : Nat} (ha : a < D.nA) {x2 x3 x4 : Int32} (hx3 : ¬ x3 = -1) (hx4 : x4 = 0 ∨ x4 = 1) {K : Int32 → Int32 → Hp → Prop} {Q : Int32 → Hp → Prop} : ∀ (N b : Nat) (x5 x6 x : Int32) (I : Nat → Nat → Int32), St n L D I0 I → a < b → b ≤ D.nA → D.nA < N + b → (x4 = 0 → x6 = x) → (x4 = 1 → x5 = x) → (∀ (y5 y6 : Int32) I', St n L D I0 I' → (x4 = 0 → y6 = inr (odF I0 D l x2 x3 x4 a) b (D.nA - b) x) → (x4 = 1 → y5 = inr (odF I0 D l x2 x3 x4 a) b (D.nA - b) x) → K y5 y6 (fm I' L D)) → wp_X12_odds_L71 400 (nI l) x2 x3 x4 (nI a) K Q N x5 x6 (nI b) (fm I L D) := by
  intro N
  induction N with
  | zero => intro b x5 x6 x I _ _ h1 h2; omega
  | succ N ih =>
    intro b x5 x6 x I h hab h1 h2 r5 r6 hK
    have n3 := h.1.nA40
    have nL6 := h.1.nL6
    rw [wp_X12_odds_L71]
    simp only [gK, gI, gL, gR_, g_stI, g_stL, forall_eq, true_and, ad_s, okA_s, okO_s, okN_s, i10, i00, if_true, if_false, reduceCtorEq, Kf_1, Kf_400, h.1.mA]
    by_cases hb : b = D.nA
    · subst hb
      rw [if_pos (nI_le (Nat.le_refl _) (by omega))]
      rw [Nat.sub_self] at hK
      exact hK x5 x6 I h r5 r6
    · rw [if_neg (nI_ge (by omega) (by omega))]
      have hb' : b < D.nA := by omega
      rw [show D.nA - b = (D.nA - (b + 1)) + 1 by omega] at hK
      have hK : ∀ (y5 y6 : Int32) I', St n L D I0 I' → (x4 = 0 → y6 = inr (odF I0 D l x2 x3 x4 a) (b + 1) (D.nA - (b + 1)) (odF I0 D l x2 x3 x4 a b x)) → (x4 = 1 → y5 = inr (odF I0 D l x2 x3 x4 a) (b + 1) (D.nA - (b + 1)) (odF I0 D l x2 x3 x4 a b x)) → K y5 y6 (fm I' L D) := hK
      have stay : ∀ (J : Nat → Nat → Int32), St n L D I0 J → ¬ truF I0 D a b = x3 → wp_X12_odds_L71 400 (nI l) x2 x3 x4 (nI a) K Q N x5 x6 (nI (b + 1)) (fm J L D) := by
        intro J hJ e1
        have : odF I0 D l x2 x3 x4 a b x = x := if_neg (fun q => e1 q.1)
        rw [this] at hK
        exact ih (b + 1) x5 x6 x J hJ (by omega) (by omega) (by omega) r5 r6 hK
      simp only [gK, gI, gL, gR_, g_stI, g_stL, forall_eq, true_and, ad_s, okA_s, okO_s, okN_s, i10, i00, if_true, if_false, reduceCtorEq, Kf_1, Kf_400, m_isShot_St h ha, nI_1]
      by_cases g1 : D.gun a = none
      · simp only [gK, gI, gL, gR_, g_stI, g_stL, forall_eq, true_and, ad_s, okA_s, okO_s, okN_s, i10, i00, if_true, if_false, reduceCtorEq, Kf_1, Kf_400, if_pos g1]
        exact stay I h (by rw [truF_none (Or.inl g1)]; exact fun z => hx3 z.symm)
      · simp only [gK, gI, gL, gR_, g_stI, g_stL, forall_eq, true_and, ad_s, okA_s, okO_s, okN_s, i10, i00, if_true, if_false, reduceCtorEq, Kf_1, Kf_400, if_neg g1, m_isShot_St h hb']
        by_cases g2 : D.gun b = none
        · simp only [gK, gI, gL, gR_, g_stI, g_stL, forall_eq, true_and, ad_s, okA_s, okO_s, okN_s, i10, i00, if_true, if_false, reduceCtorEq, Kf_1, Kf_400, if_pos g2]
          exact stay I h (by rw [truF_none (Or.inr g2)]; exact fun z => hx3 z.symm)
        · simp only [gK, gI, gL, gR_, g_stI, g_stL, forall_eq, true_and, ad_s, okA_s, okO_s, okN_s, i10, i00, if_true, if_false, reduceCtorEq, Kf_1, Kf_400, if_neg g2]
          rw [m_truthOf h.1 ha hb' (by omega) g1 g2, h.2.tru]
          by_cases e1 : truF I0 D a b = x3
          · rw [if_pos e1]
            simp only [gK, gI, gL, gR_, g_stI, g_stL, forall_eq, true_and, ad_s, okA_s, okO_s, okN_s, i10, i00, if_true, if_false, reduceCtorEq, Kf_1, Kf_400]
            rcases hx4 with e4 | e4
            · subst e4
              rw [if_pos rfl]
              refine m_longest h hl ha hb' (fun J hJ => ?_)
              by_cases e3 : nI (longF (row I0 a) (row I0 b) (I0 447 l)) < x2
              · rw [if_pos e3]
                have : odF I0 D l x2 x3 0 a b x = x := if_neg (fun q => q.2.elim (fun z => absurd z (by decide)) (fun z => z e3))
                rw [this] at hK
                exact ih (b + 1) _ x6 x J hJ (by omega) (by omega) (by omega) r5 (fun z => absurd z (by decide)) hK
              · rw [if_neg e3]
                have : odF I0 D l x2 x3 0 a b x = x + 1 := if_pos ⟨e1, Or.inr e3⟩
                rw [this] at hK
                exact ih (b + 1) _ _ (x + 1) J hJ (by omega) (by omega) (by omega) (fun z => by rw [r5 z]) (fun z => absurd z (by decide)) hK
            · subst e4
              rw [if_neg (by decide)]
              have : odF I0 D l x2 x3 1 a b x = x + 1 := if_pos ⟨e1, Or.inl rfl⟩
              rw [this] at hK
              exact ih (b + 1) _ x6 (x + 1) I h (by omega) (by omega) (by omega) (fun z => absurd z (by decide)) (fun z => by rw [r6 z]) hK
          · rw [if_neg e1]
            exact stay I h e1
theorem m_odds_L56 (hl : l < D.nL) {x2 x3 x4 : Int32} (hx3 : ¬ x3 = -1) (hx4 : x4 = 0 ∨ x4 = 1) {K : Int32 → Int32 → Hp → Prop} {Q : Int32 → Hp → Prop} : ∀ (N a : Nat) (x5 x6 x : Int32) (I : Nat → Nat → Int32), St n L D I0 I → a ≤ D.nA → D.nA < N + a → (x4 = 0 → x6 = x) → (x4 = 1 → x5 = x) → (∀ (y5 y6 : Int32) I', St n L D I0 I' → (x4 = 0 → y6 = outr (odF I0 D l x2 x3 x4) D.nA a (D.nA - a) x) → (x4 = 1 → y5 = outr (odF I0 D l x2 x3 x4) D.nA a (D.nA - a) x) → K y5 y6 (fm I' L D)) → wp_X12_odds_L56 400 (nI l) x2 x3 x4 K Q N x5 x6 (nI a) (fm I L D) := by
  intro N
  induction N with
  | zero => intro a x5 x6 x I _ h1 h2; omega
  | succ N ih =>
    intro a x5 x6 x I h h1 h2 r5 r6 hK
    have n3 := h.1.nA40
    rw [wp_X12_odds_L56]
    simp only [gK, gI, gL, gR_, g_stI, g_stL, forall_eq, true_and, ad_s, okA_s, okO_s, okN_s, i10, i00, if_true, if_false, reduceCtorEq, Kf_1, Kf_400, h.1.mA]
    by_cases hb : a = D.nA
    · subst hb
      rw [if_pos (nI_le (Nat.le_refl _) (by omega))]
      rw [Nat.sub_self] at hK
      exact hK x5 x6 I h r5 r6
    · rw [if_neg (nI_ge (by omega) (by omega))]
      have ha : a < D.nA := by omega
      rw [show D.nA - a = (D.nA - (a + 1)) + 1 by omega] at hK
      simp only [gK, gI, gL, gR_, g_stI, g_stL, forall_eq, true_and, ad_s, okA_s, okO_s, okN_s, i10, i00, if_true, if_false, reduceCtorEq, Kf_1, Kf_400, nI_1]
      refine m_odds_L71 hl ha hx3 hx4 fuel (a + 1) x5 x6 x I h (by omega) (by omega) (by have := fuel_ge; omega) r5 r6 (fun y5 y6 J hJ s5 s6 => ?_)
      exact ih (a + 1) y5 y6 _ J hJ (by omega) (by omega) s5 s6 hK
end OD
theorem pair_odds {n : Nat} {g : Hp} (hI : Inv n g) (x1 x2 x3 x4 : Int32) : wp_X11_odds 1 x1 x2 x3 x4 g (fun r h1 => wp_X12_odds 400 x1 x2 x3 x4 h1 (fun r' h2 => r' = r ∧ Inv (n + 1) h2)) := by
  obtain ⟨I, L, D, rfl, h⟩ := hI
  have n3 := h.nA40
  have nL6 := h.nL6
  have hT0 := St_told (St.refl h)
  have bad : ∀ c : Prop, (¬ (inN x1 D.nL ∧ ((0 : Int32) ≤ x2 ∧ x2 ≤ 32) ∧ ((0 : Int32) ≤ x3 ∧ x3 ≤ 2) ∧ ((0 : Int32) ≤ x4 ∧ x4 ≤ 1))) → wp_X12_odds 400 x1 x2 x3 x4 (fm I L D) (fun r' h2 => r' = (-1 : Int32) ∧ Inv (n + 1) h2) := by
    intro _ hb
    unfold wp_X12_odds
    simp only [gK, gI, gL, gR_, g_stI, g_stL, forall_eq, true_and, ad_s, okA_s, okO_s, okN_s, i10, i00, if_true, if_false, reduceCtorEq, Kf_1, Kf_400, m_isLooker hT0.1.mL, m_isIn]
    by_cases w1 : inN x1 D.nL
    · rw [if_pos w1]
      simp only [gK, gI, gL, gR_, g_stI, g_stL, forall_eq, true_and, ad_s, okA_s, okO_s, okN_s, i10, i00, if_true, if_false, reduceCtorEq, Kf_1, Kf_400]
      by_cases w2 : (0 : Int32) ≤ x2 ∧ x2 ≤ 32
      · simp only [gK, gI, gL, gR_, g_stI, g_stL, forall_eq, true_and, ad_s, okA_s, okO_s, okN_s, i10, i00, if_true, if_false, reduceCtorEq, Kf_1, Kf_400, if_pos w2]
        by_cases w3 : (0 : Int32) ≤ x3 ∧ x3 ≤ 2
        · simp only [gK, gI, gL, gR_, g_stI, g_stL, forall_eq, true_and, ad_s, okA_s, okO_s, okN_s, i10, i00, if_true, if_false, reduceCtorEq, Kf_1, Kf_400, if_pos w3]
          by_cases w4 : (0 : Int32) ≤ x4 ∧ x4 ≤ 1
          · exact absurd ⟨w1, w2, w3, w4⟩ hb
          · simp only [gK, gI, gL, gR_, g_stI, g_stL, forall_eq, true_and, ad_s, okA_s, okO_s, okN_s, i10, i00, if_true, if_false, reduceCtorEq, Kf_1, Kf_400, if_neg w4]; exact hT0.inv
        · simp only [gK, gI, gL, gR_, g_stI, g_stL, forall_eq, true_and, ad_s, okA_s, okO_s, okN_s, i10, i00, if_true, if_false, reduceCtorEq, Kf_1, Kf_400, if_neg w3]; exact hT0.inv
      · simp only [gK, gI, gL, gR_, g_stI, g_stL, forall_eq, true_and, ad_s, okA_s, okO_s, okN_s, i10, i00, if_true, if_false, reduceCtorEq, Kf_1, Kf_400, if_neg w2]; exact hT0.inv
    · simp only [gK, gI, gL, gR_, g_stI, g_stL, forall_eq, true_and, ad_s, okA_s, okO_s, okN_s, i10, i00, if_true, if_false, reduceCtorEq, Kf_1, Kf_400, if_neg w1]; exact hT0.inv
  unfold wp_X11_odds
  simp only [gK, gI, gL, gR_, g_stI, g_stL, forall_eq, true_and, ad_s, okA_s, okO_s, okN_s, i10, i00, if_true, if_false, reduceCtorEq, Kf_1, Kf_400, x_lookerAt nL6]
  by_cases w1 : inN x1 D.nL
  · obtain ⟨l, hl, rfl⟩ := inN_of (by omega) w1
    simp only [gK, gI, gL, gR_, g_stI, g_stL, forall_eq, true_and, ad_s, okA_s, okO_s, okN_s, i10, i00, if_true, if_false, reduceCtorEq, Kf_1, Kf_400, if_pos w1, nI_clamp (show l < 2 ^ 31 by omega)]
    by_cases c1 : x2 < 0
    · rw [if_pos c1]; exact bad True (fun z => absurd z.2.1.1 (Int32.not_le.mpr c1))
    · rw [if_neg c1]
      by_cases c2 : 32 < x2
      · rw [if_pos c2]; exact bad True (fun z => absurd z.2.1.2 (Int32.not_le.mpr c2))
      · rw [if_neg c2]
        by_cases c3 : x3 < 0
        · rw [if_pos c3]; exact bad True (fun z => absurd z.2.2.1.1 (Int32.not_le.mpr c3))
        · rw [if_neg c3]
          by_cases c4 : 2 < x3
          · rw [if_pos c4]; exact bad True (fun z => absurd z.2.2.1.2 (Int32.not_le.mpr c4))
          · rw [if_neg c4]
            by_cases c5 : x4 < 0
            · rw [if_pos c5]; exact bad True (fun z => absurd z.2.2.2.1 (Int32.not_le.mpr c5))
            · rw [if_neg c5]
              by_cases c6 : x4 ≤ 1
              · rw [if_pos c6]
                refine x_odds_L50 hl fuel 0 0 I (St.refl h) (by omega) (by have := fuel_ge; omega) (fun J hJ => ?_)
                have hT := St_told hJ
                have e3 : ¬ x3 = -1 := fun z => c3 (by rw [z]; decide)
                have e4 : x4 = 0 ∨ x4 = 1 := by
                  obtain ⟨j, hj, e⟩ := nI_of2 (M := 1) (n := 1) (by decide) c5 c6
                  have : j = 0 ∨ j = 1 := by omega
                  rcases this with q | q <;> subst q
                  · exact Or.inl e
                  · exact Or.inr e
                unfold wp_X12_odds
                simp only [gK, gI, gL, gR_, g_stI, g_stL, forall_eq, true_and, ad_s, okA_s, okO_s, okN_s, i10, i00, if_true, if_false, reduceCtorEq, Kf_1, Kf_400, m_isLooker hT.1.mL, m_isIn, if_pos w1, if_pos (show (0 : Int32) ≤ x2 ∧ x2 ≤ 32 from ⟨Int32.not_lt.mp c1, Int32.not_lt.mp c2⟩), if_pos (show (0 : Int32) ≤ x3 ∧ x3 ≤ 2 from ⟨Int32.not_lt.mp c3, Int32.not_lt.mp c4⟩), if_pos (show (0 : Int32) ≤ x4 ∧ x4 ≤ 1 from ⟨Int32.not_lt.mp c5, c6⟩)]
                refine m_odds_L56 hl e3 e4 fuel 0 0 0 0 _ hT (by omega) (by have := fuel_ge; omega) (fun _ => rfl) (fun _ => rfl) (fun y5 y6 J' hJ' s5 s6 => ?_)
                rcases e4 with q | q
                · rw [if_pos q]; exact ⟨s5 q, hJ'.inv⟩
                · rw [if_neg (by rw [q]; decide)]; exact ⟨s6 q, hJ'.inv⟩
              · rw [if_neg c6]; exact bad True (fun z => c6 z.2.2.2.2)
  · simp only [gK, gI, gL, gR_, g_stI, g_stL, forall_eq, true_and, ad_s, okA_s, okO_s, okN_s, i10, i00, if_true, if_false, reduceCtorEq, Kf_1, Kf_400, if_neg w1]
    exact bad True (fun z => w1 z.1)
