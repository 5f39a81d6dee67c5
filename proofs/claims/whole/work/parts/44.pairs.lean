/-! look, edge, scene (my own) -/
section LK
variable {I : Nat → Nat → Int32} {L : Nat → Nat → Int64} {D : DD}
theorem nFound_le (D : DD) (n : Nat) : nFound D n ≤ n := by
  induction n with
  | zero => exact Nat.le_refl _
  | succ n ih => unfold nFound; split <;> omega
theorem m_look_L {n0 : Nat} (h : InvI n0 I L D) {K Q : Int32 → Hp → Prop} (hK : K (nI (nFound D D.nA)) (fm I L D)) : ∀ (n j : Nat), j ≤ D.nA → D.nA + 1 ≤ n + j → wp_X12_look_L78 400 K Q n (nI (nFound D j)) (nI j) (fm I L D) := by
  have hD := h.1
  have n2 := hD.2.1
  have n3 := hD.2.2.1
  have hA := h.2.2.2.2.2.1
  have cA : I 400 12 = nI D.nA := h.2.1.2.2.2.2.2.1
  intro n
  induction n with
  | zero => intro j h1 h2; omega
  | succ n ih =>
    intro j h1 h2
    rw [wp_X12_look_L78]
    simp only [gK, gI, gL, gR_, g_stI, g_stL, forall_eq, true_and, ad_s, okA_s, okO_s, okN_s, i10, i00, if_true, if_false, reduceCtorEq, Kf_1, Kf_400, cA]
    have c := nFound_le D j
    by_cases hj : j = D.nA
    · subst hj
      rw [if_pos (nI_le (Nat.le_refl _) (by omega))]
      exact hK
    · rw [if_neg (nI_ge (by omega) (by omega)), m_isShot (by omega) (hA j (by omega)).2.2.1 (fun x hx => by have := gun_lt hD (show j < D.nA by omega) x hx; omega)]
      have hs := ih (j + 1) (by omega) (by omega)
      by_cases g1 : D.gun j = none
      · simp only [gK, gI, gL, gR_, g_stI, g_stL, forall_eq, true_and, ad_s, okA_s, okO_s, okN_s, i10, i00, if_true, if_false, reduceCtorEq, Kf_1, Kf_400, if_pos g1, nI_1]
        rw [nFound, if_pos g1] at hs; exact hs
      · simp only [gK, gI, gL, gR_, g_stI, g_stL, forall_eq, true_and, ad_s, okA_s, okO_s, okN_s, i10, i00, if_true, if_false, reduceCtorEq, Kf_1, Kf_400, if_neg g1, nI_1]
        rw [nFound, if_neg g1, Nat.add_zero] at hs; exact hs
end LK
theorem pair_look {n : Nat} {g : Hp} (hI : Inv n g) (x1 : Int32) : wp_X11_look 1 x1 g (fun r h1 => wp_X12_look 400 x1 h1 (fun r' h2 => r' = r ∧ Inv (n + 1) h2)) := by
  obtain ⟨I, L, D, rfl, h⟩ := hI
  have hD := h.1
  have n4 := hD.2.2.2.1
  have h' : InvI n (up2 I 400 0 0) L D := InvI_up h Scr_told
  have fin : Inv (n + 1) (fm (up2 I 400 0 0) L D) := Inv_told h
  obtain ⟨c1, c2, c3, c4, c5, c6, c7, c8, c9, c10, c11⟩ := h.2.1
  obtain ⟨-, d2, -, d4, -, d6, -, d8, -, d10, -⟩ := h'.2.1
  have ht := hD.2.2.2.2.2.2.2.1 1 (by omega)
  obtain ⟨k, z, t1, t2, t3, t4, t5, -⟩ := h.2.2.2.2.2.2.2.2.2.2.1.1
  have e26 : (up2 I 400 0 0) 426 0 = nI k := (up2_o (by omega)).trans t5
  have hkt : Kf D (20 + 8 * D.tx 1) = (25, 0) := by
    have := Kf_text (D := D) (r := 0) ht n4 (by omega)
    rw [Nat.add_zero] at this; exact this
  unfold wp_X11_look
  simp only [gK, gI, gL, gR_, g_stI, g_stL, forall_eq, true_and, ad_s, okA_s, okO_s, okN_s, i10, i00, if_true, if_false, reduceCtorEq, Kf_1, Kf_400, Rf_1_14, hkt, c1, c3, c5, c7, c9, c11, t3]
  unfold wp_X12_look
  by_cases a0 : x1 = 0
  · simp only [gK, gI, gL, gR_, g_stI, g_stL, forall_eq, true_and, ad_s, okA_s, okO_s, okN_s, i10, i00, if_true, if_false, reduceCtorEq, Kf_1, Kf_400, if_pos a0, d2]; exact fin
  · simp only [if_neg a0]
    by_cases a1 : x1 = 1
    · simp only [gK, gI, gL, gR_, g_stI, g_stL, forall_eq, true_and, ad_s, okA_s, okO_s, okN_s, i10, i00, if_true, if_false, reduceCtorEq, Kf_1, Kf_400, if_neg a0, if_pos a1, d4]; exact fin
    · simp only [if_neg a1]
      by_cases a2 : x1 = 2
      · simp only [gK, gI, gL, gR_, g_stI, g_stL, forall_eq, true_and, ad_s, okA_s, okO_s, okN_s, i10, i00, if_true, if_false, reduceCtorEq, Kf_1, Kf_400, if_neg a0, if_neg a1, if_pos a2, d6]; exact fin
      · simp only [if_neg a2]
        by_cases a3 : x1 = 3
        · simp only [gK, gI, gL, gR_, g_stI, g_stL, forall_eq, true_and, ad_s, okA_s, okO_s, okN_s, i10, i00, if_true, if_false, reduceCtorEq, Kf_1, Kf_400, if_neg a0, if_neg a1, if_neg a2, if_pos a3, d8]; exact fin
        · simp only [if_neg a3]
          by_cases a4 : x1 = 4
          · simp only [gK, gI, gL, gR_, g_stI, g_stL, forall_eq, true_and, ad_s, okA_s, okO_s, okN_s, i10, i00, if_true, if_false, reduceCtorEq, Kf_1, Kf_400, if_neg a0, if_neg a1, if_neg a2, if_neg a3, if_pos a4, d10]; exact fin
          · simp only [if_neg a4]
            by_cases a5 : x1 = 5
            · simp only [gK, gI, gL, gR_, g_stI, g_stL, forall_eq, true_and, ad_s, okA_s, okO_s, okN_s, i10, i00, if_true, if_false, reduceCtorEq, Kf_1, Kf_400, if_neg a0, if_neg a1, if_neg a2, if_neg a3, if_neg a4, if_pos a5, Rf_400_25, Kf_426]
              refine ⟨vp_in_nI (n := 0) (by decide) (by decide), ?_, fin⟩
              rw [show (0 : Int32).toNatClampNeg = 0 from by decide]; exact e26
            · simp only [if_neg a5]
              by_cases a6 : x1 = 6
              · simp only [gK, gI, gL, gR_, g_stI, g_stL, forall_eq, true_and, ad_s, okA_s, okO_s, okN_s, i10, i00, if_true, if_false, reduceCtorEq, Kf_1, Kf_400, if_neg a0, if_neg a1, if_neg a2, if_neg a3, if_neg a4, if_neg a5, if_pos a6]
                have := m_look_L h' (K := fun y19 h18 => y19 = nI (nFound D D.nA) ∧ Inv (n + 1) h18) (Q := fun r' h2 => r' = nI (nFound D D.nA) ∧ Inv (n + 1) h2) ⟨rfl, fin⟩ fuel 0 (by omega) (by have := fuel_ge; have := hD.2.2.1; omega)
                exact this
              · simp only [gK, gI, gL, gR_, g_stI, g_stL, forall_eq, true_and, ad_s, okA_s, okO_s, okN_s, i10, i00, if_true, if_false, reduceCtorEq, Kf_1, Kf_400, if_neg a0, if_neg a1, if_neg a2, if_neg a3, if_neg a4, if_neg a5, if_neg a6]
                exact fin
theorem pair_edge {n : Nat} {g : Hp} (hI : Inv n g) (x1 x2 x3 : Int32) : wp_X11_edge 1 x1 x2 x3 g (fun r h1 => wp_X12_edge 400 x1 x2 x3 h1 (fun r' h2 => r' = r ∧ Inv (n + 1) h2)) := by
  obtain ⟨I, L, D, rfl, h⟩ := hI
  have hD := h.1
  have n1 := hD.1
  have cT : ∀ J : Nat → Nat → Int32, J 400 1 = nI D.nT → (up2 J 400 0 0) 400 1 = nI D.nT := fun J q => (up2_o (by omega)).trans q
  have c0 := h.2.1.2.1
  have i63 : (0 ≤ x3 ∧ x3 ≤ 63 ↔ inN x3 64) := inN_le 63 (by decide) (by decide)
  unfold wp_X11_edge
  simp only [gK, gI, gL, gR_, g_stI, g_stL, forall_eq, true_and, ad_s, okA_s, okO_s, okN_s, i10, i00, if_true, if_false, reduceCtorEq, Kf_1, Kf_400, x_toolAt n1]
  by_cases w1 : inN x1 D.nT
  · obtain ⟨i, hi, rfl⟩ := inN_of (by omega) w1
    simp only [if_pos w1, gK, gI, gL, gR_, g_stI, g_stL, forall_eq, true_and, ad_s, okA_s, okO_s, okN_s, i10, i00, if_true, if_false, reduceCtorEq, Kf_1, Kf_400, x_isHair, nI_clamp (show i < 2 ^ 31 by omega)]
    by_cases w2 : inN x2 32
    · obtain ⟨j, hj, rfl⟩ := inN_of (by decide) w2
      simp only [if_pos w2, gK, gI, gL, gR_, g_stI, g_stL, forall_eq, true_and, ad_s, okA_s, okO_s, okN_s, i10, i00, if_true, if_false, reduceCtorEq, Kf_1, Kf_400, x_isHeight]
      by_cases w3 : inN x3 64
      · simp only [if_pos w3, gK, gI, gL, gR_, g_stI, g_stL, forall_eq, true_and, ad_s, okA_s, okO_s, okN_s, i10, i00, if_true, if_false, reduceCtorEq, Kf_1, Kf_400, Kf_tool hi n1, Rf_tool hi n1, Kf_toolr hi n1, vp_in_nI hj (by decide), nI_clamp (show j < 2 ^ 31 by omega)]
        unfold wp_X12_edge
        have c2 : (up2 I (100 + 2 * i + 1) j x3) 400 1 = nI D.nT := (up2_o (by omega)).trans c0
        simp only [gK, gI, gL, gR_, g_stI, g_stL, forall_eq, true_and, ad_s, okA_s, okO_s, okN_s, i10, i00, if_true, if_false, reduceCtorEq, Kf_1, Kf_400, m_isTool (cT _ c2), if_pos w1, m_isHair, if_pos w2, m_isIn, if_pos (i63.mpr w3), Rf_400_2, Kf_403, ix32, vp_in_nI (show 32 * i + j < 192 by omega) (by decide), nI_clamp (show 32 * i + j < 2 ^ 31 by omega)]
        refine Inv_of (InvI_T h ⟨?_, ?_⟩ (fun l k h1 h2 => ?_))
        · intro t ht
          obtain ⟨q1, q2, q3⟩ := h.2.2.1 t ht
          refine ⟨fun u hu => ?_, ?_, ?_⟩
          · by_cases e : t = i ∧ u = j
            · obtain ⟨rfl, rfl⟩ := e
              rw [up2_s, up2_o (by omega), up2_o (by omega), up2_s]
              exact ⟨rfl, w3⟩
            · rw [up2_o (by omega), up2_o (by omega), up2_o (by omega), up2_o (by omega), up2_o (by omega), up2_o (by omega)]
              exact q1 u hu
          · rw [up2_o (by omega), up2_o (by omega), up2_o (by omega), up2_o (by omega), up2_o (by omega), up2_o (by omega)]; exact q2
          · rw [up2_o (by omega), up2_o (by omega), up2_o (by omega), up2_o (by omega), up2_o (by omega), up2_o (by omega)]; exact q3
        · intro t t1 t2
          rw [up2_o (by omega), up2_o (by omega), up2_o (by omega)]
          exact h.2.2.2.1 t t1 t2
        · unfold Scr at h1
          unfold Xs_T at h2
          rw [up2_o (by omega), up2_o (by omega), up2_o (by omega)]
      · simp only [if_neg w3, gK, gI, gL, gR_, g_stI, g_stL, forall_eq, true_and, ad_s, okA_s, okO_s, okN_s, i10, i00, if_true, if_false, reduceCtorEq, Kf_1, Kf_400]
        unfold wp_X12_edge
        simp only [gK, gI, gL, gR_, g_stI, g_stL, forall_eq, true_and, ad_s, okA_s, okO_s, okN_s, i10, i00, if_true, if_false, reduceCtorEq, Kf_1, Kf_400, m_isTool (cT _ c0), if_pos w1, m_isHair, if_pos w2, m_isIn, if_neg (fun q => w3 (i63.mp q))]
        exact Inv_told h
    · simp only [if_neg w2, gK, gI, gL, gR_, g_stI, g_stL, forall_eq, true_and, ad_s, okA_s, okO_s, okN_s, i10, i00, if_true, if_false, reduceCtorEq, Kf_1, Kf_400]
      unfold wp_X12_edge
      simp only [gK, gI, gL, gR_, g_stI, g_stL, forall_eq, true_and, ad_s, okA_s, okO_s, okN_s, i10, i00, if_true, if_false, reduceCtorEq, Kf_1, Kf_400, m_isTool (cT _ c0), if_pos w1, m_isHair, if_neg w2]
      exact Inv_told h
  · simp only [if_neg w1, gK, gI, gL, gR_, g_stI, g_stL, forall_eq, true_and, ad_s, okA_s, okO_s, okN_s, i10, i00, if_true, if_false, reduceCtorEq, Kf_1, Kf_400]
    unfold wp_X12_edge
    simp only [gK, gI, gL, gR_, g_stI, g_stL, forall_eq, true_and, ad_s, okA_s, okO_s, okN_s, i10, i00, if_true, if_false, reduceCtorEq, Kf_1, Kf_400, m_isTool (cT _ c0), if_neg w1]
    exact Inv_told h
