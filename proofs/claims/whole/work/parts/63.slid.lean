/-! slid, says (my own) -/
section AC
variable {n : Nat} {I : Nat → Nat → Int32} {L : Nat → Nat → Int64} {D : DD}
theorem InvI.mL (h : InvI n I L D) : I 400 45 = nI D.nL := h.2.1.2.2.2.2.2.2.2.1
theorem InvI.mA (h : InvI n I L D) : I 400 12 = nI D.nA := h.2.1.2.2.2.2.2.1
theorem InvI.mP (h : InvI n I L D) : I 400 53 = nI D.nP := h.2.1.2.2.2.2.2.2.2.2.2.1
theorem InvI.xA (h : InvI n I L D) : I 1 5 = nI D.nA := h.2.1.2.2.2.2.1
theorem InvI.xL (h : InvI n I L D) : I 1 8 = nI D.nL := h.2.1.2.2.2.2.2.2.1
theorem InvI.xP (h : InvI n I L D) : I 1 10 = nI D.nP := h.2.1.2.2.2.2.2.2.2.2.1
theorem InvI.nA40 (h : InvI n I L D) : D.nA ≤ 40 := h.1.2.2.1
theorem InvI.nL6 (h : InvI n I L D) : D.nL ≤ 6 := h.1.2.2.2.1
theorem InvI.nP10 (h : InvI n I L D) : D.nP ≤ 10 := h.1.2.2.2.2.1
theorem InvI.mg (h : InvI n I L D) {l : Nat} (hl : l < D.nL) : I (240 + 2 * l) 0 = I 447 l ∧ inN (I 447 l) 16 := (h.2.2.2.2.2.2.1 l).1 hl
end AC
theorem w_nl {x : Int32} (h : ¬ x < 0) (h2 : x ≤ 63) (h3 : ¬ x < 32) : ∃ s : Nat, s < 32 ∧ x - 32 = nI s := by
  obtain ⟨j, hj, e⟩ := nI_of2 (M := 63) (n := 63) (by decide) h h2
  subst e
  have : 32 ≤ j := by
    apply Classical.byContradiction
    intro q
    exact h3 (show nI j < nI 32 from nI_lt (by omega) (by decide))
  exact ⟨j - 32, by omega, by rw [show (32 : Int32) = nI 32 from rfl, nI_sb this]⟩
theorem pair_slid {n : Nat} {g : Hp} (hI : Inv n g) (x1 x2 x3 x4 : Int32) : wp_X11_slid 1 x1 x2 x3 x4 g (fun r h1 => wp_X12_slid 400 x1 x2 x3 x4 h1 (fun r' h2 => r' = r ∧ Inv (n + 1) h2)) := by
  obtain ⟨I, L, D, rfl, h⟩ := hI
  have n3 := h.nA40
  have nL6 := h.nL6
  have st : ∀ {J}, St n L D I J → Inv (n + 1) (fm (up2 J 400 0 0) L D) := fun hJ => (St_told hJ).inv
  -- the reference says the same from each heap that the class may leave
  unfold wp_X11_slid
  simp only [gK, gI, gL, gR_, g_stI, g_stL, forall_eq, true_and, ad_s, okA_s, okO_s, okN_s, i10, i00, if_true, if_false, reduceCtorEq, Kf_1, Kf_400, x_lookerAt nL6, x_ballAt n3]
  by_cases w1 : inN x1 D.nL
  · obtain ⟨l, hl, rfl⟩ := inN_of (by omega) w1
    by_cases w2 : inN x2 D.nA
    · obtain ⟨a, ha, rfl⟩ := inN_of (by omega) w2
      by_cases w3 : inN x3 D.nA
      · obtain ⟨b, hb, rfl⟩ := inN_of (by omega) w3
        have hd : ∀ (J : Nat → Nat → Int32) (Q : Int32 → Hp → Prop), St n L D I J → (wp_X12_isIn 400 x4 (32 : Int32) (63 : Int32) (fm (up2 J 400 0 0) L D) (fun (z17 : Int32) (h16 : Hp) => (if z17 = 0 then (((hpK h16 400).1 = 20 + 10) ∧ (wp_X12_isIn 400 x4 (0 : Int32) (4 : Int32) h16 (fun (z21 : Int32) (h20 : Hp) => (if z21 = 0 then (Q (-1 : Int32) h20) else ((if x4 = (3 : Int32) then (((hpK h20 400).1 = 20 + 10) ∧ (wp_X12_piecesOf 400 (nI l) (nI a) (nI b) h20 (fun (z41 : Int32) (h40 : Hp) => Q z41 h40))) else ((if x4 = (4 : Int32) then (((hpK h20 400).1 = 20 + 10) ∧ (wp_X12_lackOf 400 (nI a) (nI b) h20 (fun (z38 : Int32) (h37 : Hp) => Q z38 h37))) else (((hpK h20 400).1 = 20 + 10) ∧ (wp_X12_bestSlide 400 (nI l) (nI a) (nI b) h20 (fun (z27 : Int32) (h26 : Hp) => (if x4 = 0 then (((hpK h26 400).1 = 20 + 10) ∧ (wp_X12_manyOf 400 (nI l) (nI a) (nI b) z27 h26 (fun (z35 : Int32) (h34 : Hp) => Q z35 h34))) else ((if x4 = (1 : Int32) then (Q z27 h26) else (((hpK h26 400).1 = 20 + 10) ∧ (wp_X12_longestBy 400 (nI l) (nI a) (nI b) z27 h26 (fun (z32 : Int32) (h31 : Hp) => Q z32 h31))))))))))))))))) else (((hpK h16 400).1 = 20 + 10) ∧ (wp_X12_manyOf 400 (nI l) (nI a) (nI b) (x4 - (32 : Int32)) h16 (fun (z44 : Int32) (h43 : Hp) => Q z44 h43)))))) → wp_X12_slid 400 (nI l) (nI a) (nI b) x4 (fm J L D) Q := by
          intro J Q hJ hh
          have hT := St_told hJ
          unfold wp_X12_slid
          simp only [gK, gI, gL, gR_, g_stI, g_stL, forall_eq, true_and, ad_s, okA_s, okO_s, okN_s, i10, i00, if_true, if_false, reduceCtorEq, Kf_1, Kf_400, m_isLooker hT.1.mL, m_isBall hT.1.mA, if_pos w1, if_pos w2, if_pos w3]
          exact hh
        simp only [gK, gI, gL, gR_, g_stI, g_stL, forall_eq, true_and, ad_s, okA_s, okO_s, okN_s, i10, i00, if_true, if_false, reduceCtorEq, Kf_1, Kf_400, if_pos w1, if_pos w2, if_pos w3, nI_clamp (show l < 2 ^ 31 by omega), nI_clamp (show a < 2 ^ 31 by omega), nI_clamp (show b < 2 ^ 31 by omega), Kf_look hl nL6, Rf_1_15, Kf_ball ha n3, Kf_ball hb n3, Rf_ball ha n3, Rf_ball hb n3]
        have rr : ∀ {J}, St n L D I J → rg (row J a) ∧ rg (row J b) ∧ inN (J 447 l) 16 := fun {J} hJ => ⟨rg_row hJ.1 ha, rg_row hJ.1 hb, (hJ.1.mg hl).2⟩
        by_cases a0 : x4 = 0
        · subst a0
          rw [if_pos rfl]
          refine x_measured (St.refl h) hl ha hb (fun W J hJ hW u1 u2 u3 => ?_)
          rw [x_many (by omega) u1]
          refine hd J _ hJ ?_
          have hT := St_told hJ
          obtain ⟨g1, g2, g3⟩ := rr hT
          rw [m_isIn, if_neg (show ¬ ((32 : Int32) ≤ 0 ∧ (0 : Int32) ≤ 63) by decide), if_pos rfl]
          simp only [gK, gI, gL, gR_, g_stI, g_stL, forall_eq, true_and, ad_s, okA_s, okO_s, okN_s, i10, i00, if_true, if_false, reduceCtorEq, Kf_1, Kf_400, m_isIn]
          rw [if_pos (show (0 : Int32) ≤ 0 ∧ (0 : Int32) ≤ 4 by decide), if_neg (show ¬ (1 : Int32) = 0 by decide), if_neg (show ¬ (0 : Int32) = 3 by decide), if_neg (show ¬ (0 : Int32) = 4 by decide)]
          refine m_bestSlide (by omega) (by omega) (by omega) g1 g2 g3 ?_
          simp only [gK, gI, gL, gR_, g_stI, g_stL, forall_eq, true_and, ad_s, okA_s, okO_s, okN_s, i10, i00, if_true, if_false, reduceCtorEq, Kf_1, Kf_400]
          refine m_manyOf (by omega) (by omega) (by omega) (bestF_lt _ _ _) g1 g2 g3 ?_
          rw [hT.2.row, hT.2.row, hT.2.mg]
          exact ⟨rfl, hT.inv⟩
        · rw [if_neg a0]
          by_cases a1 : x4 = 1
          · subst a1
            rw [if_pos rfl]
            refine x_measured (St.refl h) hl ha hb (fun W J hJ hW u1 u2 u3 => ?_)
            rw [x_slide (by omega) u2]
            refine hd J _ hJ ?_
            have hT := St_told hJ
            obtain ⟨g1, g2, g3⟩ := rr hT
            rw [m_isIn, if_neg (show ¬ ((32 : Int32) ≤ 1 ∧ (1 : Int32) ≤ 63) by decide), if_pos rfl]
            simp only [gK, gI, gL, gR_, g_stI, g_stL, forall_eq, true_and, ad_s, okA_s, okO_s, okN_s, i10, i00, if_true, if_false, reduceCtorEq, Kf_1, Kf_400, m_isIn]
            rw [if_pos (show (0 : Int32) ≤ 1 ∧ (1 : Int32) ≤ 4 by decide), if_neg (show ¬ (1 : Int32) = 0 by decide), if_neg (show ¬ (1 : Int32) = 3 by decide), if_neg (show ¬ (1 : Int32) = 4 by decide)]
            refine m_bestSlide (by omega) (by omega) (by omega) g1 g2 g3 ?_
            rw [hT.2.row, hT.2.row, hT.2.mg]
            exact ⟨rfl, hT.inv⟩
          · rw [if_neg a1]
            by_cases a2 : x4 = 2
            · subst a2
              rw [if_pos rfl]
              refine x_measured (St.refl h) hl ha hb (fun W J hJ hW u1 u2 u3 => ?_)
              rw [x_longest (by omega) u3]
              refine hd J _ hJ ?_
              have hT := St_told hJ
              obtain ⟨g1, g2, g3⟩ := rr hT
              rw [m_isIn, if_neg (show ¬ ((32 : Int32) ≤ 2 ∧ (2 : Int32) ≤ 63) by decide), if_pos rfl]
              simp only [gK, gI, gL, gR_, g_stI, g_stL, forall_eq, true_and, ad_s, okA_s, okO_s, okN_s, i10, i00, if_true, if_false, reduceCtorEq, Kf_1, Kf_400, m_isIn]
              rw [if_pos (show (0 : Int32) ≤ 2 ∧ (2 : Int32) ≤ 4 by decide), if_neg (show ¬ (1 : Int32) = 0 by decide), if_neg (show ¬ (2 : Int32) = 3 by decide), if_neg (show ¬ (2 : Int32) = 4 by decide)]
              refine m_bestSlide (by omega) (by omega) (by omega) g1 g2 g3 ?_
              rw [if_neg (show ¬ (2 : Int32) = 0 by decide), if_neg (show ¬ (2 : Int32) = 1 by decide)]
              refine ⟨rfl, m_longestBy (by omega) (by omega) (by omega) (bestF_lt _ _ _) g1 g2 g3 ?_⟩
              rw [hT.2.row, hT.2.row, hT.2.mg]
              exact ⟨rfl, hT.inv⟩
            · rw [if_neg a2]
              by_cases a3 : x4 = 3
              · subst a3
                rw [if_pos rfl]
                refine x_piecesOf (St.refl h) hl ha hb (fun J hJ => ?_)
                refine hd J _ hJ ?_
                have hT := St_told hJ
                rw [m_isIn, if_neg (show ¬ ((32 : Int32) ≤ 3 ∧ (3 : Int32) ≤ 63) by decide), if_pos rfl]
                simp only [gK, gI, gL, gR_, g_stI, g_stL, forall_eq, true_and, ad_s, okA_s, okO_s, okN_s, i10, i00, if_true, if_false, reduceCtorEq, Kf_1, Kf_400, m_isIn]
                rw [if_pos (show (0 : Int32) ≤ 3 ∧ (3 : Int32) ≤ 4 by decide), if_neg (show ¬ (1 : Int32) = 0 by decide)]
                exact m_pieces_St hT hl ha hb (fun J' hJ' _ => ⟨rfl, hJ'.inv⟩)
              · rw [if_neg a3]
                by_cases a4 : x4 = 4
                · subst a4
                  rw [if_pos rfl]
                  refine x_missing h.2.2.2.2.2.1 ha n3 ?_
                  simp only [gK, gI, gL, gR_, g_stI, g_stL, forall_eq, true_and, ad_s, okA_s, okO_s, okN_s, i10, i00, if_true, if_false, reduceCtorEq, Kf_1, Kf_400, Kf_ball hb n3]
                  refine x_missing h.2.2.2.2.2.1 hb n3 ?_
                  refine hd I _ (St.refl h) ?_
                  have hT := St_told (St.refl h)
                  rw [m_isIn, if_neg (show ¬ ((32 : Int32) ≤ 4 ∧ (4 : Int32) ≤ 63) by decide), if_pos rfl]
                  simp only [gK, gI, gL, gR_, g_stI, g_stL, forall_eq, true_and, ad_s, okA_s, okO_s, okN_s, i10, i00, if_true, if_false, reduceCtorEq, Kf_1, Kf_400, m_isIn]
                  rw [if_pos (show (0 : Int32) ≤ 4 ∧ (4 : Int32) ≤ 4 by decide), if_neg (show ¬ (1 : Int32) = 0 by decide), if_neg (show ¬ (4 : Int32) = 3 by decide)]
                  refine m_lackOf (by omega) (by omega) ?_
                  rw [hT.2.row, hT.2.row, nI_add]
                  exact ⟨rfl, hT.inv⟩
                · rw [if_neg a4]
                  have no4 : ¬ ((0 : Int32) ≤ x4 ∧ x4 ≤ 4) := by
                    rintro ⟨z1, z2⟩
                    obtain ⟨j, hj, e⟩ := nI_of2 (M := 4) (n := 4) (by decide) (Int32.not_lt.mpr z1) z2
                    have : j = 0 ∨ j = 1 ∨ j = 2 ∨ j = 3 ∨ j = 4 := by omega
                    rcases this with q | q | q | q | q <;> subst q
                    · exact a0 e
                    · exact a1 e
                    · exact a2 e
                    · exact a3 e
                    · exact a4 e
                  have hT := St_told (St.refl h)
                  by_cases b1 : x4 < 32
                  · rw [if_pos b1]
                    refine hd I _ (St.refl h) ?_
                    rw [m_isIn, if_neg (show ¬ ((32 : Int32) ≤ x4 ∧ x4 ≤ 63) from fun z => absurd z.1 (Int32.not_le.mpr b1)), if_pos rfl]
                    simp only [gK, gI, gL, gR_, g_stI, g_stL, forall_eq, true_and, ad_s, okA_s, okO_s, okN_s, i10, i00, if_true, if_false, reduceCtorEq, Kf_1, Kf_400, m_isIn]
                    rw [if_neg no4, if_pos rfl]
                    exact hT.inv
                  · rw [if_neg b1]
                    have b1' := Int32.not_lt.mp b1
                    by_cases b2 : x4 < 64
                    · rw [if_pos b2]
                      have b3 : x4 ≤ 63 := by
                        have q1 := Int32.lt_iff_toInt_lt.mp b2
                        have e1 : (64 : Int32).toInt = 64 := by decide
                        have e2 : (63 : Int32).toInt = 63 := by decide
                        rw [Int32.le_iff_toInt_le]; omega
                      obtain ⟨s, hs, es⟩ := w_nl (x := x4) (fun z => absurd (Int32.lt_of_le_of_lt b1' z) (by decide)) b3 b1
                      have hmg := h.mg hl
                      obtain ⟨mg, hmg16, emg⟩ := inN_of (by decide) hmg.2
                      rw [es, hmg.1, emg]
                      refine x_runs (Kf_ballr ha n3) (Kf_ballr hb n3) hs hmg16 (rg_x h ha) (rg_x h hb) ?_
                      rw [j_bitCount, many_set, manyF_cg (row_x h ha) (row_x h hb), ← emg]
                      refine hd I _ (St.refl h) ?_
                      rw [m_isIn, if_pos (show (32 : Int32) ≤ x4 ∧ x4 ≤ 63 from ⟨b1', b3⟩), if_neg (show ¬ (1 : Int32) = 0 by decide), es]
                      obtain ⟨g1, g2, g3⟩ := rr hT
                      refine ⟨rfl, m_manyOf (by omega) (by omega) (by omega) hs g1 g2 g3 ?_⟩
                      rw [hT.2.row, hT.2.row, hT.2.mg]
                      exact ⟨rfl, hT.inv⟩
                    · rw [if_neg b2]
                      refine hd I _ (St.refl h) ?_
                      have b3 : ¬ x4 ≤ 63 := fun z => b2 (Int32.lt_of_le_of_lt z (by decide))
                      rw [m_isIn, if_neg (show ¬ ((32 : Int32) ≤ x4 ∧ x4 ≤ 63) from fun z => b3 z.2), if_pos rfl]
                      simp only [gK, gI, gL, gR_, g_stI, g_stL, forall_eq, true_and, ad_s, okA_s, okO_s, okN_s, i10, i00, if_true, if_false, reduceCtorEq, Kf_1, Kf_400, m_isIn]
                      rw [if_neg no4, if_pos rfl]
                      exact hT.inv
      · have hT := St_told (St.refl h)
        simp only [gK, gI, gL, gR_, g_stI, g_stL, forall_eq, true_and, ad_s, okA_s, okO_s, okN_s, i10, i00, if_true, if_false, reduceCtorEq, Kf_1, Kf_400, if_pos w1, if_pos w2, if_neg w3]
        unfold wp_X12_slid
        simp only [gK, gI, gL, gR_, g_stI, g_stL, forall_eq, true_and, ad_s, okA_s, okO_s, okN_s, i10, i00, if_true, if_false, reduceCtorEq, Kf_1, Kf_400, m_isLooker hT.1.mL, m_isBall hT.1.mA, if_pos w1, if_pos w2, if_neg w3]
        exact hT.inv
    · have hT := St_told (St.refl h)
      simp only [gK, gI, gL, gR_, g_stI, g_stL, forall_eq, true_and, ad_s, okA_s, okO_s, okN_s, i10, i00, if_true, if_false, reduceCtorEq, Kf_1, Kf_400, if_pos w1, if_neg w2]
      unfold wp_X12_slid
      simp only [gK, gI, gL, gR_, g_stI, g_stL, forall_eq, true_and, ad_s, okA_s, okO_s, okN_s, i10, i00, if_true, if_false, reduceCtorEq, Kf_1, Kf_400, m_isLooker hT.1.mL, m_isBall hT.1.mA, if_pos w1, if_neg w2]
      exact hT.inv
  · have hT := St_told (St.refl h)
    simp only [gK, gI, gL, gR_, g_stI, g_stL, forall_eq, true_and, ad_s, okA_s, okO_s, okN_s, i10, i00, if_true, if_false, reduceCtorEq, Kf_1, Kf_400, if_neg w1]
    unfold wp_X12_slid
    simp only [gK, gI, gL, gR_, g_stI, g_stL, forall_eq, true_and, ad_s, okA_s, okO_s, okN_s, i10, i00, if_true, if_false, reduceCtorEq, Kf_1, Kf_400, m_isLooker hT.1.mL, m_isBall hT.1.mA, if_neg w1]
    exact hT.inv
theorem pair_says {n : Nat} {g : Hp} (hI : Inv n g) (x1 x2 x3 x4 : Int32) (hx4 : x4 = 0 ∨ x4 = 1) : wp_X11_says 1 x1 x2 x3 x4 g (fun r h1 => wp_X12_says 400 x1 x2 x3 x4 h1 (fun r' h2 => r' = r ∧ Inv (n + 1) h2)) := by
  obtain ⟨I, L, D, rfl, h⟩ := hI
  have n3 := h.nA40
  have nL6 := h.nL6
  have hT0 := St_told (St.refl h)
  unfold wp_X11_says
  simp only [gK, gI, gL, gR_, g_stI, g_stL, forall_eq, true_and, ad_s, okA_s, okO_s, okN_s, i10, i00, if_true, if_false, reduceCtorEq, Kf_1, Kf_400, x_lookerAt nL6, x_ballAt n3]
  by_cases w1 : inN x1 D.nL
  · obtain ⟨l, hl, rfl⟩ := inN_of (by omega) w1
    by_cases w2 : inN x2 D.nA
    · obtain ⟨a, ha, rfl⟩ := inN_of (by omega) w2
      by_cases w3 : inN x3 D.nA
      · obtain ⟨b, hb, rfl⟩ := inN_of (by omega) w3
        simp only [gK, gI, gL, gR_, g_stI, g_stL, forall_eq, true_and, ad_s, okA_s, okO_s, okN_s, i10, i00, if_true, if_false, reduceCtorEq, Kf_1, Kf_400, if_pos w1, if_pos w2, if_pos w3, nI_clamp (show l < 2 ^ 31 by omega), nI_clamp (show a < 2 ^ 31 by omega), nI_clamp (show b < 2 ^ 31 by omega), Kf_look hl nL6, Rf_1_15]
        rcases hx4 with e | e
        · subst e
          refine x_sayingOf (tl := 0) (St.refl h) hl ha hb (by decide) (fun J hJ => ?_)
          have hT := St_told hJ
          unfold wp_X12_says
          simp only [gK, gI, gL, gR_, g_stI, g_stL, forall_eq, true_and, ad_s, okA_s, okO_s, okN_s, i10, i00, if_true, if_false, reduceCtorEq, Kf_1, Kf_400, m_isLooker hT.1.mL, m_isBall hT.1.mA, if_pos w1, if_pos w2, if_pos w3]
          exact m_saysOf (tl := 0) hT hl ha hb (by decide) (fun J' hJ' => ⟨rfl, hJ'.inv⟩)
        · subst e
          refine x_sayingOf (tl := 1) (St.refl h) hl ha hb (by decide) (fun J hJ => ?_)
          have hT := St_told hJ
          unfold wp_X12_says
          simp only [gK, gI, gL, gR_, g_stI, g_stL, forall_eq, true_and, ad_s, okA_s, okO_s, okN_s, i10, i00, if_true, if_false, reduceCtorEq, Kf_1, Kf_400, m_isLooker hT.1.mL, m_isBall hT.1.mA, if_pos w1, if_pos w2, if_pos w3]
          exact m_saysOf (tl := 1) hT hl ha hb (by decide) (fun J' hJ' => ⟨rfl, hJ'.inv⟩)
      · simp only [gK, gI, gL, gR_, g_stI, g_stL, forall_eq, true_and, ad_s, okA_s, okO_s, okN_s, i10, i00, if_true, if_false, reduceCtorEq, Kf_1, Kf_400, if_pos w1, if_pos w2, if_neg w3]
        unfold wp_X12_says
        simp only [gK, gI, gL, gR_, g_stI, g_stL, forall_eq, true_and, ad_s, okA_s, okO_s, okN_s, i10, i00, if_true, if_false, reduceCtorEq, Kf_1, Kf_400, m_isLooker hT0.1.mL, m_isBall hT0.1.mA, if_pos w1, if_pos w2, if_neg w3]
        exact hT0.inv
    · simp only [gK, gI, gL, gR_, g_stI, g_stL, forall_eq, true_and, ad_s, okA_s, okO_s, okN_s, i10, i00, if_true, if_false, reduceCtorEq, Kf_1, Kf_400, if_pos w1, if_neg w2]
      unfold wp_X12_says
      simp only [gK, gI, gL, gR_, g_stI, g_stL, forall_eq, true_and, ad_s, okA_s, okO_s, okN_s, i10, i00, if_true, if_false, reduceCtorEq, Kf_1, Kf_400, m_isLooker hT0.1.mL, m_isBall hT0.1.mA, if_pos w1, if_neg w2]
      exact hT0.inv
  · simp only [gK, gI, gL, gR_, g_stI, g_stL, forall_eq, true_and, ad_s, okA_s, okO_s, okN_s, i10, i00, if_true, if_false, reduceCtorEq, Kf_1, Kf_400, if_neg w1]
    unfold wp_X12_says
    simp only [gK, gI, gL, gR_, g_stI, g_stL, forall_eq, true_and, ad_s, okA_s, okO_s, okN_s, i10, i00, if_true, if_false, reduceCtorEq, Kf_1, Kf_400, m_isLooker hT0.1.mL, m_isBall hT0.1.mA, if_neg w1]
    exact hT0.inv
