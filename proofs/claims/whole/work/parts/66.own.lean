/-! own (my own) -/
theorem mkS_cg {f g : Nat → Bool} : ∀ n, (∀ i, i < n → f i = g i) → mkS f n = mkS g n := by
  intro n
  induction n with
  | zero => intro _; rfl
  | succ n ih => intro h; unfold mkS; rw [ih (fun i hi => h i (by omega)), h n (by omega)]
section OW
variable {n : Nat} {I0 I : Nat → Nat → Int32} {L : Nat → Nat → Int64} {D : DD} {l a b : Nat}
theorem x_runsUnderBest (h : St n L D I0 I) (hl : l < D.nL) (ha : a < D.nA) (hb : b < D.nA) {Q : Int32 → Hp → Prop} (hQ : ∀ I' : Nat → Nat → Int32, St n L D I0 I' → Q (mkS (rn (row I0 a) (row I0 b) (I0 447 l) (bestF (row I0 a) (row I0 b) (I0 447 l))) 32) (fm I' L D)) : wp_X3_runsUnderBest (240 + 2 * l) (some (160 + 2 * a)) (some (160 + 2 * b)) (fm I L D) Q := by
  have n3 := h.1.nA40
  have nL6 := h.1.nL6
  unfold wp_X3_runsUnderBest
  simp only [gK, gI, gL, gR_, g_stI, g_stL, forall_eq, true_and, ad_s, okA_s, okO_s, okN_s, i10, i00, if_true, if_false, reduceCtorEq, Kf_1, Kf_400, Kf_ball ha n3, Kf_ball hb n3, Kf_look hl nL6, Rf_ball ha n3, Rf_ball hb n3]
  refine x_measured h hl ha hb (fun W J hJ hW u1 u2 u3 => ?_)
  rw [x_slide (by omega) u2]
  have hmg := hJ.1.mg hl
  obtain ⟨mg, hmg16, emg⟩ := inN_of (by decide) hmg.2
  simp only [gK, gI, gL, gR_, g_stI, g_stL, forall_eq, true_and, ad_s, okA_s, okO_s, okN_s, i10, i00, if_true, if_false, reduceCtorEq, Kf_1, Kf_400, Kf_look hl nL6]
  rw [hmg.1, emg]
  refine x_runs (Kf_ballr ha n3) (Kf_ballr hb n3) (bestF_lt _ _ _) hmg16 (rg_x hJ.1 ha) (rg_x hJ.1 hb) ?_
  rw [mkS_cg 32 (fun i hi => rn_cg (row_x hJ.1 ha) (row_x hJ.1 hb) hi), ← emg, hJ.2.row, hJ.2.row, hJ.2.mg]
  exact hQ J hJ
theorem m_own_L {c : Nat} (hl : l < 6) (ha : a < 40) (hb : b < 40) (hc : c < 40) (ra : rg (row I a)) (rb : rg (row I b)) (rc : rg (row I c)) (hm : inN (I 447 l) 16) {s t : Nat} (hs : s < 32) (ht : t < 32) {x5 : Int32} (hx5 : x5 = 0 ∨ x5 = 1) {K : Int32 → Hp → Prop} {Q : Int32 → Hp → Prop} {f : Nat → Bool} (hf : ∀ i, i < 32 → f i = (rn (row I a) (row I b) (I 447 l) s i && (rn (row I a) (row I c) (I 447 l) t i == decide (x5 = 1)))) (hK : K (mkS f 32) (fm I L D)) : ∀ (N j : Nat), j ≤ 32 → 33 ≤ N + j → wp_X12_own_L76 400 (nI l) (nI a) (nI b) (nI c) x5 (nI s) (nI t) K Q N (mkS f j) (nI j) (fm I L D) := by
  intro N
  induction N with
  | zero => intro j h1 h2; omega
  | succ N ih =>
    intro j h1 h2
    rw [wp_X12_own_L76]
    by_cases hj : j = 32
    · subst hj
      rw [if_pos (show (32 : Int32) ≤ nI 32 from by decide)]
      exact hK
    · rw [if_neg (show ¬ (32 : Int32) ≤ nI j from nI_ge (b := 32) (by omega) (by decide))]
      have hj' : j < 32 := by omega
      simp only [gK, gI, gL, gR_, g_stI, g_stL, forall_eq, true_and, ad_s, okA_s, okO_s, okN_s, i10, i00, if_true, if_false, reduceCtorEq, Kf_1, Kf_400, m_runs hl ha hb hj' hs ra rb hm, nI_1]
      have hn := ih (j + 1) (by omega) (by omega)
      rw [mkS] at hn
      have ef := hf j hj'
      cases hr : rn (row I a) (row I b) (I 447 l) s j with
      | false =>
        rw [hr, Bool.false_and] at ef
        rw [ef, if_neg (by decide)] at hn
        simp only [gK, gI, gL, gR_, g_stI, g_stL, forall_eq, true_and, ad_s, okA_s, okO_s, okN_s, i10, i00, if_true, if_false, reduceCtorEq, Kf_1, Kf_400, Bool.false_eq_true]
        exact hn
      | true =>
        rw [hr, Bool.true_and] at ef
        simp only [gK, gI, gL, gR_, g_stI, g_stL, forall_eq, true_and, ad_s, okA_s, okO_s, okN_s, i10, i00, if_true, if_false, reduceCtorEq, Kf_1, Kf_400, m_runs hl ha hc hj' ht ra rc hm]
        rcases hx5 with e | e
        · subst e
          rw [if_neg (by decide)]
          unfold wp_X12_own_J120
          simp only [forall_eq, nI_1]
          cases hr2 : rn (row I a) (row I c) (I 447 l) t j with
          | false =>
            rw [hr2] at ef
            rw [ef] at hn
            rw [if_pos (show (if false = true then (1 : Int32) else 0) = 0 from rfl)]
            exact hn
          | true =>
            rw [hr2] at ef
            rw [ef] at hn
            rw [if_neg (show ¬ (if true = true then (1 : Int32) else 0) = 0 by decide)]
            exact hn
        · subst e
          rw [if_pos rfl]
          unfold wp_X12_own_J120
          simp only [forall_eq, nI_1]
          cases hr2 : rn (row I a) (row I c) (I 447 l) t j with
          | false =>
            rw [hr2] at ef
            rw [ef] at hn
            rw [if_neg (show ¬ (if false = true then (1 : Int32) else 0) = 1 by decide)]
            exact hn
          | true =>
            rw [hr2] at ef
            rw [ef] at hn
            rw [if_pos (show (if true = true then (1 : Int32) else 0) = 1 from rfl)]
            exact hn
end OW
theorem pair_own {n : Nat} {g : Hp} (hI : Inv n g) (x1 x2 x3 x4 x5 : Int32) : wp_X11_own 1 x1 x2 x3 x4 x5 g (fun r h1 => wp_X12_own 400 x1 x2 x3 x4 x5 h1 (fun r' h2 => r' = r ∧ Inv (n + 1) h2)) := by
  obtain ⟨I, L, D, rfl, h⟩ := hI
  have n3 := h.nA40
  have nL6 := h.nL6
  have hT0 := St_told (St.refl h)
  have bad : (¬ (inN x1 D.nL ∧ inN x2 D.nA ∧ inN x3 D.nA ∧ inN x4 D.nA ∧ ((0 : Int32) ≤ x5 ∧ x5 ≤ 1))) → wp_X12_own 400 x1 x2 x3 x4 x5 (fm I L D) (fun r' h2 => r' = (0 : Int32) ∧ Inv (n + 1) h2) := by
    intro hb
    unfold wp_X12_own
    simp only [gK, gI, gL, gR_, g_stI, g_stL, forall_eq, true_and, ad_s, okA_s, okO_s, okN_s, i10, i00, if_true, if_false, reduceCtorEq, Kf_1, Kf_400, m_isLooker hT0.1.mL, m_isBall hT0.1.mA, m_isIn]
    by_cases w1 : inN x1 D.nL
    · simp only [gK, gI, gL, gR_, g_stI, g_stL, forall_eq, true_and, ad_s, okA_s, okO_s, okN_s, i10, i00, if_true, if_false, reduceCtorEq, Kf_1, Kf_400, if_pos w1]
      by_cases w2 : inN x2 D.nA
      · simp only [gK, gI, gL, gR_, g_stI, g_stL, forall_eq, true_and, ad_s, okA_s, okO_s, okN_s, i10, i00, if_true, if_false, reduceCtorEq, Kf_1, Kf_400, if_pos w2]
        by_cases w3 : inN x3 D.nA
        · simp only [gK, gI, gL, gR_, g_stI, g_stL, forall_eq, true_and, ad_s, okA_s, okO_s, okN_s, i10, i00, if_true, if_false, reduceCtorEq, Kf_1, Kf_400, if_pos w3]
          by_cases w4 : inN x4 D.nA
          · simp only [gK, gI, gL, gR_, g_stI, g_stL, forall_eq, true_and, ad_s, okA_s, okO_s, okN_s, i10, i00, if_true, if_false, reduceCtorEq, Kf_1, Kf_400, if_pos w4]
            by_cases w5 : (0 : Int32) ≤ x5 ∧ x5 ≤ 1
            · exact absurd ⟨w1, w2, w3, w4, w5⟩ hb
            · simp only [gK, gI, gL, gR_, g_stI, g_stL, forall_eq, true_and, ad_s, okA_s, okO_s, okN_s, i10, i00, if_true, if_false, reduceCtorEq, Kf_1, Kf_400, if_neg w5]; exact hT0.inv
          · simp only [gK, gI, gL, gR_, g_stI, g_stL, forall_eq, true_and, ad_s, okA_s, okO_s, okN_s, i10, i00, if_true, if_false, reduceCtorEq, Kf_1, Kf_400, if_neg w4]; exact hT0.inv
        · simp only [gK, gI, gL, gR_, g_stI, g_stL, forall_eq, true_and, ad_s, okA_s, okO_s, okN_s, i10, i00, if_true, if_false, reduceCtorEq, Kf_1, Kf_400, if_neg w3]; exact hT0.inv
      · simp only [gK, gI, gL, gR_, g_stI, g_stL, forall_eq, true_and, ad_s, okA_s, okO_s, okN_s, i10, i00, if_true, if_false, reduceCtorEq, Kf_1, Kf_400, if_neg w2]; exact hT0.inv
    · simp only [gK, gI, gL, gR_, g_stI, g_stL, forall_eq, true_and, ad_s, okA_s, okO_s, okN_s, i10, i00, if_true, if_false, reduceCtorEq, Kf_1, Kf_400, if_neg w1]; exact hT0.inv
  unfold wp_X11_own
  simp only [gK, gI, gL, gR_, g_stI, g_stL, forall_eq, true_and, ad_s, okA_s, okO_s, okN_s, i10, i00, if_true, if_false, reduceCtorEq, Kf_1, Kf_400, x_lookerAt nL6, x_ballAt n3]
  by_cases w1 : inN x1 D.nL
  · obtain ⟨l, hl, rfl⟩ := inN_of (by omega) w1
    by_cases w2 : inN x2 D.nA
    · obtain ⟨a, ha, rfl⟩ := inN_of (by omega) w2
      by_cases w3 : inN x3 D.nA
      · obtain ⟨b, hb, rfl⟩ := inN_of (by omega) w3
        by_cases w4 : inN x4 D.nA
        · obtain ⟨c, hc, rfl⟩ := inN_of (by omega) w4
          simp only [gK, gI, gL, gR_, g_stI, g_stL, forall_eq, true_and, ad_s, okA_s, okO_s, okN_s, i10, i00, if_true, if_false, reduceCtorEq, Kf_1, Kf_400, if_pos w1, if_pos w2, if_pos w3, if_pos w4, nI_clamp (show l < 2 ^ 31 by omega), nI_clamp (show a < 2 ^ 31 by omega), nI_clamp (show b < 2 ^ 31 by omega), nI_clamp (show c < 2 ^ 31 by omega), Kf_look hl nL6]
          by_cases c5 : x5 < 0
          · rw [if_pos c5]; exact bad (fun z => absurd z.2.2.2.2.1 (Int32.not_le.mpr c5))
          · rw [if_neg c5]
            by_cases c6 : x5 ≤ 1
            · rw [if_pos c6]
              have e5 : x5 = 0 ∨ x5 = 1 := by
                obtain ⟨j, hj, e⟩ := nI_of2 (M := 1) (n := 1) (by decide) c5 c6
                have : j = 0 ∨ j = 1 := by omega
                rcases this with q | q <;> subst q
                · exact Or.inl e
                · exact Or.inr e
              refine x_runsUnderBest (St.refl h) hl ha hb (fun J hJ => ?_)
              simp only [gK, gI, gL, gR_, g_stI, g_stL, forall_eq, true_and, ad_s, okA_s, okO_s, okN_s, i10, i00, if_true, if_false, reduceCtorEq, Kf_1, Kf_400, Kf_look hl nL6]
              refine x_runsUnderBest hJ hl ha hc (fun J2 hJ2 => ?_)
              have hT := St_told hJ2
              have model : ∀ (f : Nat → Bool), (∀ i, i < 32 → f i = (rn (row I a) (row I b) (I 447 l) (bestF (row I a) (row I b) (I 447 l)) i && (rn (row I a) (row I c) (I 447 l) (bestF (row I a) (row I c) (I 447 l)) i == decide (x5 = 1)))) → wp_X12_own 400 (nI l) (nI a) (nI b) (nI c) x5 (fm J2 L D) (fun r' h2 => r' = mkS f 32 ∧ Inv (n + 1) h2) := by
                intro f hf
                have g1 := rg_row hT.1 ha
                have g2 := rg_row hT.1 hb
                have g3 := rg_row hT.1 hc
                have g4 := (hT.1.mg hl).2
                unfold wp_X12_own
                simp only [gK, gI, gL, gR_, g_stI, g_stL, forall_eq, true_and, ad_s, okA_s, okO_s, okN_s, i10, i00, if_true, if_false, reduceCtorEq, Kf_1, Kf_400, m_isLooker hT.1.mL, m_isBall hT.1.mA, m_isIn, if_pos w1, if_pos w2, if_pos w3, if_pos w4, if_pos (show (0 : Int32) ≤ x5 ∧ x5 ≤ 1 from ⟨Int32.not_lt.mp c5, c6⟩)]
                refine m_bestSlide (by omega) (by omega) (by omega) g1 g2 g4 ?_
                simp only [gK, gI, gL, gR_, g_stI, g_stL, forall_eq, true_and, ad_s, okA_s, okO_s, okN_s, i10, i00, if_true, if_false, reduceCtorEq, Kf_1, Kf_400]
                refine m_bestSlide (by omega) (by omega) (by omega) g1 g3 g4 ?_
                refine m_own_L (f := f) (by omega) (by omega) (by omega) (by omega) g1 g2 g3 g4 (bestF_lt _ _ _) (bestF_lt _ _ _) e5 (fun i hi => ?_) ⟨rfl, hT.inv⟩ fuel 0 (by omega) (by have := fuel_ge; omega)
                rw [hT.2.row, hT.2.row, hT.2.row, hT.2.mg]
                exact hf i hi
              have nb : ∀ (x : Int32) (i : Nat), i < 32 → bt (x ^^^ (-1 : Int32)) i = !bt x i := fun x i hi => by rw [b_xor, b_m1 i hi, Bool.xor_true]
              rcases e5 with e | e
              · subst e
                rw [if_pos rfl]
                have q := model (fun i => rn (row I a) (row I b) (I 447 l) (bestF (row I a) (row I b) (I 447 l)) i && !rn (row I a) (row I c) (I 447 l) (bestF (row I a) (row I c) (I 447 l)) i) (fun i hi => by congr 1; cases rn (row I a) (row I c) (I 447 l) (bestF (row I a) (row I c) (I 447 l)) i <;> rfl)
                have e2 : mkS (rn (row I a) (row I b) (I 447 l) (bestF (row I a) (row I b) (I 447 l))) 32 &&& (mkS (rn (row I a) (row I c) (I 447 l) (bestF (row I a) (row I c) (I 447 l))) 32 ^^^ (-1 : Int32)) = mkS (fun i => rn (row I a) (row I b) (I 447 l) (bestF (row I a) (row I b) (I 447 l)) i && !rn (row I a) (row I c) (I 447 l) (bestF (row I a) (row I c) (I 447 l)) i) 32 := by
                  apply b_ext
                  intro i hi
                  rw [b_and, nb _ i hi, bt_set hi, bt_set hi, bt_set hi]
                rw [e2]; exact q
              · subst e
                rw [if_neg (by decide)]
                have q := model (fun i => rn (row I a) (row I b) (I 447 l) (bestF (row I a) (row I b) (I 447 l)) i && rn (row I a) (row I c) (I 447 l) (bestF (row I a) (row I c) (I 447 l)) i) (fun i hi => by congr 1; cases rn (row I a) (row I c) (I 447 l) (bestF (row I a) (row I c) (I 447 l)) i <;> rfl)
                have e2 : mkS (rn (row I a) (row I b) (I 447 l) (bestF (row I a) (row I b) (I 447 l))) 32 &&& mkS (rn (row I a) (row I c) (I 447 l) (bestF (row I a) (row I c) (I 447 l))) 32 = mkS (fun i => rn (row I a) (row I b) (I 447 l) (bestF (row I a) (row I b) (I 447 l)) i && rn (row I a) (row I c) (I 447 l) (bestF (row I a) (row I c) (I 447 l)) i) 32 := by
                  apply b_ext
                  intro i hi
                  rw [b_and, bt_set hi, bt_set hi, bt_set hi]
                rw [e2]; exact q
            · rw [if_neg c6]; exact bad (fun z => c6 z.2.2.2.2.2)
        · simp only [gK, gI, gL, gR_, g_stI, g_stL, forall_eq, true_and, ad_s, okA_s, okO_s, okN_s, i10, i00, if_true, if_false, reduceCtorEq, Kf_1, Kf_400, if_pos w1, if_pos w2, if_pos w3, if_neg w4]
          exact bad (fun z => w4 z.2.2.2.1)
      · simp only [gK, gI, gL, gR_, g_stI, g_stL, forall_eq, true_and, ad_s, okA_s, okO_s, okN_s, i10, i00, if_true, if_false, reduceCtorEq, Kf_1, Kf_400, if_pos w1, if_pos w2, if_neg w3]
        exact bad (fun z => w3 z.2.2.1)
    · simp only [gK, gI, gL, gR_, g_stI, g_stL, forall_eq, true_and, ad_s, okA_s, okO_s, okN_s, i10, i00, if_true, if_false, reduceCtorEq, Kf_1, Kf_400, if_pos w1, if_neg w2]
      exact bad (fun z => w2 z.2.1)
  · simp only [gK, gI, gL, gR_, g_stI, g_stL, forall_eq, true_and, ad_s, okA_s, okO_s, okN_s, i10, i00, if_true, if_false, reduceCtorEq, Kf_1, Kf_400, if_neg w1]
    exact bad (fun z => w1 z.1)
