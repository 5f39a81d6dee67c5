/-! pair (my own) -/
theorem nFound_cg {D D' : DD} : ∀ m, (∀ i, i < m → D'.gun i = D.gun i) → nFound D' m = nFound D m := by
  intro m
  induction m with
  | zero => intro _; rfl
  | succ m ih => intro h; unfold nFound; rw [ih (fun i hi => h i (by omega)), h m (by omega)]
set_option maxHeartbeats 2000000 in
theorem pair_pair {n : Nat} {g : Hp} (hI : Inv n g) (x1 x2 x3 : Int32) : wp_X11_pair 1 x1 x2 x3 g (fun r h1 => wp_X12_pair 400 x1 x2 x3 h1 (fun r' h2 => r' = r ∧ Inv (n + 1) h2)) := by
  obtain ⟨I, L, D, rfl, h⟩ := hI
  have hD := h.1
  have nA40 := h.nA40
  have nP10 := h.nP10
  obtain ⟨c1, c2, c3, c4, c5, c6, c7, c8, c9, c10, c11⟩ := h.2.1
  have cA : (up2 I 400 0 0) 400 12 = nI D.nA := (up2_o (by omega)).trans c6
  have cP : (up2 I 400 0 0) 400 53 = nI D.nP := (up2_o (by omega)).trans c10
  have fin : Inv (n + 1) (fm (up2 I 400 0 0) L D) := Inv_told h
  unfold wp_X11_pair
  simp only [gK, gI, gL, gR_, g_stI, g_stL, forall_eq, true_and, ad_s, okA_s, okO_s, okN_s, i10, i00, if_true, if_false, reduceCtorEq, Kf_1, Kf_400, x_ballAt nA40]
  by_cases w1 : inN x1 D.nA
  · obtain ⟨a, ha, rfl⟩ := inN_of (by omega) w1
    by_cases w2 : inN x2 D.nA
    · obtain ⟨b, hb, rfl⟩ := inN_of (by omega) w2
      simp only [gK, gI, gL, gR_, g_stI, g_stL, forall_eq, true_and, ad_s, okA_s, okO_s, okN_s, i10, i00, if_true, if_false, reduceCtorEq, Kf_1, Kf_400, if_pos w1, if_pos w2, nI_clamp (show a < 2 ^ 31 by omega), nI_clamp (show b < 2 ^ 31 by omega), c9, Rf_1_9]
      by_cases e : nI a = nI b
      · rw [if_pos e]
        unfold wp_X12_pair
        simp only [gK, gI, gL, gR_, g_stI, g_stL, forall_eq, true_and, ad_s, okA_s, okO_s, okN_s, i10, i00, if_true, if_false, reduceCtorEq, Kf_1, Kf_400, m_isBall cA, if_pos w1, if_pos w2, if_pos e]
        exact fin
      · rw [if_neg e]
        have hab : a ≠ b := fun z => e (by rw [z])
        by_cases y1 : x3 < 1
        · rw [if_pos y1]
          unfold wp_X12_pair
          simp only [gK, gI, gL, gR_, g_stI, g_stL, forall_eq, true_and, ad_s, okA_s, okO_s, okN_s, i10, i00, if_true, if_false, reduceCtorEq, Kf_1, Kf_400, m_isBall cA, if_pos w1, if_pos w2, if_neg e, m_isIn, if_neg (show ¬ ((1 : Int32) ≤ x3 ∧ x3 ≤ 99) from fun z => absurd z.1 (Int32.not_le.mpr y1))]
          exact fin
        · rw [if_neg y1]
          by_cases y2 : (99 : Int32) < x3
          · rw [if_pos y2]
            unfold wp_X12_pair
            simp only [gK, gI, gL, gR_, g_stI, g_stL, forall_eq, true_and, ad_s, okA_s, okO_s, okN_s, i10, i00, if_true, if_false, reduceCtorEq, Kf_1, Kf_400, m_isBall cA, if_pos w1, if_pos w2, if_neg e, m_isIn, if_neg (show ¬ ((1 : Int32) ≤ x3 ∧ x3 ≤ 99) from fun z => absurd z.2 (Int32.not_le.mpr y2))]
            exact fin
          · rw [if_neg y2]
            have w3 : (1 : Int32) ≤ x3 ∧ x3 ≤ 99 := ⟨Int32.not_lt.mp y1, Int32.not_lt.mp y2⟩
            by_cases hP : D.nP = 10
            · rw [if_neg (show ¬ nI D.nP < (10 : Int32) by rw [hP]; decide)]
              unfold wp_X12_pair
              simp only [gK, gI, gL, gR_, g_stI, g_stL, forall_eq, true_and, ad_s, okA_s, okO_s, okN_s, i10, i00, if_true, if_false, reduceCtorEq, Kf_1, Kf_400, m_isBall cA, if_pos w1, if_pos w2, if_neg e, m_isIn, if_pos w3, cP, if_pos (show nI D.nP = (10 : Int32) by rw [hP]; rfl)]
              exact fin
            · have hP : D.nP < 10 := by omega
              rw [if_pos (show nI D.nP < (10 : Int32) from nI_lt (b := 10) hP (by decide))]
              have z1 : Kf D (260 + D.nP) = (0, 0) := by
                unfold Kf
                simp only [if_neg (show ¬ 260 + D.nP < 20 by omega), if_neg (show ¬ 260 + D.nP < 84 by omega), if_neg (show ¬ 260 + D.nP < 100 by omega), if_neg (show ¬ 260 + D.nP < 112 by omega), if_neg (show ¬ 260 + D.nP < 120 by omega), if_neg (show ¬ 260 + D.nP < 152 by omega), if_neg (show ¬ 260 + D.nP < 160 by omega), if_neg (show ¬ 260 + D.nP < 240 by omega), if_neg (show ¬ 260 + D.nP < 252 by omega), if_neg (show ¬ 260 + D.nP < 260 by omega), if_pos (show 260 + D.nP < 270 by omega), if_neg (show ¬ 260 + D.nP - 260 < D.nP by omega)]
              refine ⟨okP_some (by rw [gK, Kf_ball hb nA40]; decide), okP_some (by rw [gK, Kf_ball ha nA40]; decide), okP_some (by rw [gK, Kf_1]; decide), okP_some (by rw [gK, Kf_6]; decide), 260 + D.nP, by rw [z1], ?_⟩
              rw [fm_raw]
              unfold wp_X4_init
              generalize hq : 260 + D.nP = q at z1 ⊢
              have u1 : ∀ v, upK (Kf D) q v 1 = (29, 0) := fun v => (upK_o (by omega)).trans Kf_1
              have u6 : ∀ v, upK (Kf D) q v 6 = (6, 10) := fun v => (upK_o (by omega)).trans Kf_6
              have ua : ∀ v, upK (Kf D) q v (160 + 2 * a) = (20, 0) := fun v => (upK_o (by omega)).trans (Kf_ball ha nA40)
              have ub : ∀ v, upK (Kf D) q v (160 + 2 * b) = (20, 0) := fun v => (upK_o (by omega)).trans (Kf_ball hb nA40)
              simp only [rI, rL, rR, rK, raw_stI, raw_stL, raw_stR, raw_alc, upK_s, forall_eq, true_and, ad_s, okA_s, okO_s, okN_s, i10, i00, if_true, if_false, reduceCtorEq]
              refine ⟨okP_some (by rw [rK, ua]; decide), okP_some (by rw [rK, ub]; decide), ?_⟩
              simp only [rI, rL, rR, rK, raw_stI, raw_stL, raw_stR, raw_alc, upK_s, forall_eq, true_and, ad_s, okA_s, okO_s, okN_s, i10, i00, if_true, if_false, reduceCtorEq, u1, u6, nI_clamp (show D.nP < 2 ^ 31 by omega), vp_in_nI (show D.nP < 10 by omega) (show 10 < 2 ^ 31 by decide)]
              rw [raw_fm (D := D.addP a b)]
              · generalize hJ : up2 (up2 (up1 I q 0) q 2 x3) 1 10 _ = J
                generalize hL' : up1 L q 0 = L'
                have j0 : ∀ l k, l ≠ q → ¬ (l = 1 ∧ k = 10) → J l k = I l k := by
                  intro l k a1 a2
                  rw [← hJ, up2_o a2, up2_o (fun z => a1 z.1), up1_o a1]
                have j1 : J 1 10 = nI (D.nP + 1) := by
                  rw [← hJ, up2_s, up2_o (by omega), up1_o (by omega), c9, nI_1]
                have j2 : J q 2 = x3 := by rw [← hJ, up2_o (by omega), up2_s]
                have kA : (up2 J 400 0 0) 400 12 = nI D.nA := by rw [up2_o (by omega), j0 400 12 (by omega) (by omega)]; exact c6
                have kP : (up2 J 400 0 0) 400 53 = nI D.nP := by rw [up2_o (by omega), j0 400 53 (by omega) (by omega)]; exact c10
                have ma : ∀ (K : Nat → Nat → Int32) (l k : Nat) (v : Int32), l ≠ 400 → K 400 53 = nI D.nP → (up2 K l k v) 400 53 = nI D.nP := fun K l k v hl q => (up2_o (fun z => hl z.1.symm)).trans q
                unfold wp_X12_pair
                simp only [gK, gI, gL, gR_, g_stI, g_stL, forall_eq, true_and, ad_s, okA_s, okO_s, okN_s, i10, i00, if_true, if_false, reduceCtorEq, Kf_1, Kf_400, m_isBall kA, if_pos w1, if_pos w2, if_neg e, m_isIn, if_pos w3, kP]
                rw [if_neg (show ¬ nI D.nP = (10 : Int32) from fun z => by have := (nI_eq (b := 10) (by omega) (by decide)).mp z; omega)]
                have p1 := ma _ 455 D.nP (nI a) (by decide) kP
                have p2 := ma _ 456 D.nP (nI b) (by decide) p1
                have p3 := ma _ 457 D.nP x3 (by decide) p2
                simp only [gK, gI, gL, gR_, g_stI, g_stL, forall_eq, true_and, ad_s, okA_s, okO_s, okN_s, i10, i00, if_true, if_false, reduceCtorEq, Kf_1, Kf_400, Rf_400_54, Rf_400_55, Rf_400_56, Kf_455, Kf_456, Kf_457, nI_clamp (show D.nP < 2 ^ 31 by omega), vp_in_nI (show D.nP < 10 by omega) (show 10 < 2 ^ 31 by decide), p1, p2, p3, up2_s, nI_1, nI_pred, j1]
                generalize hM : up2 (up2 (up2 (up2 (up2 J 400 0 0) 455 D.nP (nI a)) 456 D.nP (nI b)) 457 D.nP x3) 400 53 (nI (D.nP + 1)) = M
                have mx : ∀ l k, l ≠ q → ¬ (l = 1 ∧ k = 10) → ¬ (l = 400 ∧ (k = 0 ∨ k = 53)) → ¬ ((l = 455 ∨ l = 456 ∨ l = 457) ∧ k = D.nP) → M l k = I l k := by
                  intro l k a1 a2 a3 a4
                  rw [← hM, up2_o (by omega), up2_o (by omega), up2_o (by omega), up2_o (by omega), up2_o (by omega), j0 l k a1 a2]
                have mq : M q 2 = x3 := by
                  rw [← hM, up2_o (by omega), up2_o (by omega), up2_o (by omega), up2_o (by omega), up2_o (by omega)]; exact j2
                have m1 : M 1 10 = nI (D.nP + 1) := by
                  rw [← hM, up2_o (by omega), up2_o (by omega), up2_o (by omega), up2_o (by omega), up2_o (by omega)]; exact j1
                have m53 : M 400 53 = nI (D.nP + 1) := by rw [← hM, up2_s]
                have m5 : M 455 D.nP = nI a ∧ M 456 D.nP = nI b ∧ M 457 D.nP = x3 := by
                  rw [← hM]
                  refine ⟨?_, ?_, ?_⟩
                  · rw [up2_o (by omega), up2_o (by omega), up2_o (by omega), up2_s]
                  · rw [up2_o (by omega), up2_o (by omega), up2_s]
                  · rw [up2_o (by omega), up2_s]
                refine Inv_of (InvI_D2 (t := D.nP + 1) (fa := fun i => if i = D.nP then a else D.pa i) (fb := fun i => if i = D.nP then b else D.pb i) h ⟨?_, ?_, ?_⟩ ?_ (fun l k h1 h2 => ?_))
                · obtain ⟨d1, d2, d3, d4, d5, d6, d7, d8, d9⟩ := hD
                  refine ⟨d1, d2, d3, d4, by show D.nP + 1 ≤ 10; omega, d6, fun k hk => ?_, d8, d9⟩
                  have hk : k < D.nP + 1 := hk
                  show (if k = D.nP then a else D.pa k) < D.nA ∧ (if k = D.nP then b else D.pb k) < D.nA ∧ (if k = D.nP then a else D.pa k) ≠ (if k = D.nP then b else D.pb k)
                  by_cases ek : k = D.nP
                  · rw [if_pos ek, if_pos ek]; exact ⟨ha, hb, hab⟩
                  · rw [if_neg ek, if_neg ek]; exact d7 k (by omega)
                · refine ⟨?_, ?_, ?_, ?_, ?_, ?_, ?_, ?_, ?_, ?_, ?_⟩
                  · rw [mx _ _ (by omega) (by omega) (by omega) (by omega)]; exact c1
                  · rw [mx _ _ (by omega) (by omega) (by omega) (by omega)]; exact c2
                  · rw [mx _ _ (by omega) (by omega) (by omega) (by omega)]; exact c3
                  · rw [mx _ _ (by omega) (by omega) (by omega) (by omega)]; exact c4
                  · rw [mx _ _ (by omega) (by omega) (by omega) (by omega)]; exact c5
                  · rw [mx _ _ (by omega) (by omega) (by omega) (by omega)]; exact c6
                  · rw [mx _ _ (by omega) (by omega) (by omega) (by omega)]; exact c7
                  · rw [mx _ _ (by omega) (by omega) (by omega) (by omega)]; exact c8
                  · exact m1
                  · exact m53
                  · rw [mx _ _ (by omega) (by omega) (by omega) (by omega)]
                    refine c11.trans (congrArg nI ?_)
                    exact (nFound_cg (D := D) (D' := D.addP a b) D.nA (fun i _ => rfl)).symm
                · intro k hk
                  have hk : k < D.nP + 1 := hk
                  show M (260 + k) 2 = M 457 k ∧ (1 ≤ M 457 k ∧ M 457 k ≤ 99) ∧ M 455 k = nI (if k = D.nP then a else D.pa k) ∧ M 456 k = nI (if k = D.nP then b else D.pb k)
                  by_cases ek : k = D.nP
                  · subst ek
                    rw [if_pos rfl, if_pos rfl, hq, mq, m5.1, m5.2.1, m5.2.2]
                    exact ⟨rfl, w3, rfl, rfl⟩
                  · rw [if_neg ek, if_neg ek, mx _ _ (by omega) (by omega) (by omega) (by omega), mx 457 _ (by omega) (by omega) (by omega) (by omega), mx 455 _ (by omega) (by omega) (by omega) (by omega), mx 456 _ (by omega) (by omega) (by omega) (by omega)]
                    exact h.cp (by omega)
                · intro s hs
                  rw [← hL', up1_o (by omega), up1_o (by omega)]
                  exact h.2.2.2.2.2.2.2.2.1 s hs
                · unfold Scr at h1
                  unfold Xs_D2 at h2
                  exact mx l k (by omega) (by omega) (by omega) (by omega)
              · funext c j
                rw [Rf_addP hP, hq]
                by_cases e1 : c = 6 ∧ j = D.nP
                · rw [if_pos e1, e1.1, e1.2, up2_s]
                · rw [if_neg e1, up2_o e1]
                  by_cases e2 : c = q
                  · subst e2
                    rw [if_pos rfl]
                    by_cases e3 : j = 1
                    · subst e3; rw [up2_s]; rfl
                    · rw [up2_o (by omega)]
                      by_cases e4 : j = 0
                      · subst e4; rw [up2_s]; rfl
                      · rw [up2_o (by omega), up1_s]
                        match j, e3, e4 with
                        | j + 2, _, _ => rfl
                  · rw [up2_o (by omega), up2_o (by omega), up1_o e2, if_neg e2]
              · funext c
                rw [Kf_addP hP, hq]
                by_cases e2 : c = q
                · subst e2; rw [upK_s, if_pos rfl]
                · rw [if_neg e2, upK_o e2]
    · simp only [gK, gI, gL, gR_, g_stI, g_stL, forall_eq, true_and, ad_s, okA_s, okO_s, okN_s, i10, i00, if_true, if_false, reduceCtorEq, Kf_1, Kf_400, if_pos w1, if_neg w2]
      unfold wp_X12_pair
      simp only [gK, gI, gL, gR_, g_stI, g_stL, forall_eq, true_and, ad_s, okA_s, okO_s, okN_s, i10, i00, if_true, if_false, reduceCtorEq, Kf_1, Kf_400, m_isBall cA, if_pos w1, if_neg w2]
      exact fin
  · simp only [gK, gI, gL, gR_, g_stI, g_stL, forall_eq, true_and, ad_s, okA_s, okO_s, okN_s, i10, i00, if_true, if_false, reduceCtorEq, Kf_1, Kf_400, if_neg w1]
    unfold wp_X12_pair
    simp only [gK, gI, gL, gR_, g_stI, g_stL, forall_eq, true_and, ad_s, okA_s, okO_s, okN_s, i10, i00, if_true, if_false, reduceCtorEq, Kf_1, Kf_400, m_isBall cA, if_neg w1]
    exact fin
