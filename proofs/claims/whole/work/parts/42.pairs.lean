/-! at, of, truth, look, edge (my own) -/
theorem gunI_eq {a b : Option Nat} (ha : ∀ x, a = some x → x < 16) (hb : ∀ x, b = some x → x < 16) (h1 : a ≠ none) (h2 : b ≠ none) : gunI a = gunI b ↔ a = b := by
  cases a with
  | none => exact absurd rfl h1
  | some x =>
    cases b with
    | none => exact absurd rfl h2
    | some y =>
      have := ha x rfl
      have := hb y rfl
      show nI x = nI y ↔ _
      rw [nI_eq (by omega) (by omega)]
      simp
theorem gun_lt {D : DD} (hD : InvD D) {i : Nat} (hi : i < D.nA) : ∀ b, D.gun i = some b → b < D.nB := fun b hb => hD.2.2.2.2.2.1 i b hi hb
theorem pair_at {n : Nat} {g : Hp} (hI : Inv n g) (x1 x2 x3 : Int32) : wp_X11_at 1 x1 x2 x3 g (fun r h1 => wp_X12_at 400 x1 x2 x3 h1 (fun r' h2 => r' = r ∧ Inv (n + 1) h2)) := by
  obtain ⟨I, L, D, rfl, h⟩ := hI
  have hD := h.1
  have n1 := hD.1
  have n2 := hD.2.1
  have n3 := hD.2.2.1
  have e0 : ∀ k, k ≠ 0 → (up2 I 400 0 0) 400 k = I 400 k := fun k hk => up2_o (by omega)
  have e1 : ∀ a k, a ≠ 400 → (up2 I 400 0 0) a k = I a k := fun a k hk => up2_o (by omega)
  have cT : (up2 I 400 0 0) 400 1 = nI D.nT := (e0 1 (by omega)).trans h.2.1.2.1
  have cB : (up2 I 400 0 0) 400 5 = nI D.nB := (e0 5 (by omega)).trans h.2.1.2.2.2.1
  have cA : (up2 I 400 0 0) 400 12 = nI D.nA := (e0 12 (by omega)).trans h.2.1.2.2.2.2.2.1
  unfold wp_X11_at wp_X11_rowOf wp_X12_at
  simp only [gK, gI, gR_, Kf_1, Kf_400, g_stI, forall_eq, true_and, x_toolAt n1, x_barrelAt n2, x_ballAt n3, m_isHair, m_isTool cT, m_isBarrel cB, m_isBall cA, x_isHair]
  by_cases hx3 : inN x3 32
  · obtain ⟨j, hj, rfl⟩ := inN_of (by decide) hx3
    by_cases h0 : x1 = 0
    · simp only [if_pos h0]
      by_cases hw : inN x2 D.nT
      · obtain ⟨i, hi, rfl⟩ := inN_of (by omega) hw
        simp only [if_pos hw, nI_clamp (show i < 2 ^ 31 by omega), nI_clamp (show j < 2 ^ 31 by omega), okO_s, gK, Kf_tool hi n1, ad_s, gR_, Rf_tool hi n1, true_and, if_pos hx3, i10, if_false, okA_s, Kf_toolr hi n1, vp_in_nI hj (by decide), forall_eq, gI, Rf_400_2, Kf_403, ix32, vp_in_nI (show 32 * i + j < 192 by omega) (by decide), nI_clamp (show 32 * i + j < 2 ^ 31 by omega), reduceCtorEq]
        exact ⟨(e1 _ _ (by omega)).trans ((h.2.2.1 i hi).1 j hj).1.symm, Inv_told h⟩
      · simp only [if_neg hw, if_true, if_pos hx3, i10, i00, if_false]
        exact Inv_told h
    · simp only [if_neg h0]
      by_cases h1 : x1 = 1
      · simp only [if_pos h1]
        by_cases hw : inN x2 D.nB
        · obtain ⟨i, hi, rfl⟩ := inN_of (by omega) hw
          simp only [if_pos hw, nI_clamp (show i < 2 ^ 31 by omega), nI_clamp (show j < 2 ^ 31 by omega), okO_s, gK, Kf_bar hi n2, ad_s, gR_, Rf_bar hi n2, true_and, if_pos hx3, i10, if_false, okA_s, Kf_barr hi n2, vp_in_nI hj (by decide), forall_eq, gI, Rf_400_6, Kf_407, ix32, vp_in_nI (show 32 * i + j < 512 by omega) (by decide), nI_clamp (show 32 * i + j < 2 ^ 31 by omega), reduceCtorEq]
          exact ⟨(e1 _ _ (by omega)).trans ((h.2.2.2.2.1 i hi).1 j hj).1.symm, Inv_told h⟩
        · simp only [if_neg hw, if_true, if_pos hx3, i10, i00, if_false]
          exact Inv_told h
      · simp only [if_neg h1]
        by_cases h2 : x1 = 2
        · simp only [if_pos h2]
          by_cases hw : inN x2 D.nA
          · obtain ⟨i, hi, rfl⟩ := inN_of (by omega) hw
            simp only [if_pos hw, nI_clamp (show i < 2 ^ 31 by omega), nI_clamp (show j < 2 ^ 31 by omega), okO_s, gK, Kf_ball hi n3, ad_s, gR_, Rf_ball hi n3, true_and, if_pos hx3, i10, if_false, okA_s, Kf_ballr hi n3, vp_in_nI hj (by decide), forall_eq, gI, Rf_400_13, Kf_414, ix32, vp_in_nI (show 32 * i + j < 1280 by omega) (by decide), nI_clamp (show 32 * i + j < 2 ^ 31 by omega), reduceCtorEq]
            exact ⟨(e1 _ _ (by omega)).trans ((h.2.2.2.2.2.1 i hi).1 j hj).1.symm, Inv_told h⟩
          · simp only [if_neg hw, if_true, if_pos hx3, i10, i00, if_false]
            exact Inv_told h
        · simp only [if_neg h2, if_true, if_pos hx3, i10, if_false]
          exact Inv_told h
  · have fin : Inv (n + 1) (fm (up2 I 400 0 0) L D) := Inv_told h
    simp only [if_neg hx3, i00, if_true]
    by_cases h0 : x1 = 0
    · simp only [if_pos h0]
      by_cases hw : inN x2 D.nT
      · obtain ⟨i, hi, rfl⟩ := inN_of (by omega) hw
        simp only [if_pos hw, nI_clamp (show i < 2 ^ 31 by omega), okO_s, gK, Kf_tool hi n1, ad_s, gR_, Rf_tool hi n1, true_and, reduceCtorEq, if_false]
        exact fin
      · simp only [if_neg hw, if_true]
        exact fin
    · simp only [if_neg h0]
      by_cases h1 : x1 = 1
      · simp only [if_pos h1]
        by_cases hw : inN x2 D.nB
        · obtain ⟨i, hi, rfl⟩ := inN_of (by omega) hw
          simp only [if_pos hw, nI_clamp (show i < 2 ^ 31 by omega), okO_s, gK, Kf_bar hi n2, ad_s, gR_, Rf_bar hi n2, true_and, reduceCtorEq, if_false]
          exact fin
        · simp only [if_neg hw, if_true]
          exact fin
      · simp only [if_neg h1]
        by_cases h2 : x1 = 2
        · simp only [if_pos h2]
          by_cases hw : inN x2 D.nA
          · obtain ⟨i, hi, rfl⟩ := inN_of (by omega) hw
            simp only [if_pos hw, nI_clamp (show i < 2 ^ 31 by omega), okO_s, gK, Kf_ball hi n3, ad_s, gR_, Rf_ball hi n3, true_and, reduceCtorEq, if_false]
            exact fin
          · simp only [if_neg hw, if_true]
            exact fin
        · simp only [if_neg h2, if_true]
          exact fin
