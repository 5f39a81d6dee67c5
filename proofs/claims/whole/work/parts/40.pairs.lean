/-! THE PAIRS: what the class answers, the reference answers (my own) -/
theorem pair_fault {n : Nat} {g : Hp} (hI : Inv n g) (x1 : Int32) : wp_X11_fault 1 x1 g (fun r h1 => wp_X12_fault 400 x1 h1 (fun r' h2 => r' = r ∧ Inv (n + 1) h2)) := by
  obtain ⟨I, L, D, rfl, h⟩ := hI
  have hF := h.2.2.2.2.2.2.2.2.2.1
  unfold wp_X11_fault wp_X12_fault
  simp only [gK, gI, gR_, Kf_1, Rf_1_13, ad_s, okO_s, Kf_12, Kf_400, g_stI, forall_eq, true_and]
  by_cases h0 : x1 = 0
  · simp only [if_pos h0]
    exact ⟨(up2_o (by omega)).trans hF.2.1.symm, Inv_told h⟩
  · simp only [if_neg h0]
    by_cases h1 : x1 = 1
    · simp only [if_pos h1]
      exact ⟨(up2_o (by omega)).trans hF.2.2.symm, Inv_told h⟩
    · simp only [if_neg h1]
      exact Inv_told h
theorem pair_rust {n : Nat} {g : Hp} (hI : Inv n g) (x1 x2 : Int32) : wp_X11_rust 1 x1 x2 g (fun r h1 => wp_X12_rust 400 x1 x2 h1 (fun r' h2 => r' = r ∧ Inv (n + 1) h2)) := by
  obtain ⟨I, L, D, rfl, h⟩ := hI
  have hD := h.1
  have hB16 := hD.2.1
  have cB : I 400 5 = nI D.nB := h.2.1.2.2.2.1
  unfold wp_X11_rust
  simp only [gK, Kf_1, true_and, x_barrelAt hB16]
  have mtl : ∀ J : Nat → Nat → Int32, J 400 5 = nI D.nB → (up2 J 400 0 0) 400 5 = nI D.nB := fun J q => (up2_o (by omega)).trans q
  by_cases hb : inN x1 D.nB
  · obtain ⟨i, hi, rfl⟩ := inN_of (by omega) hb
    rw [if_pos hb, nI_clamp (by omega)]
    have hne : ¬ (some (120 + 2 * i) = (none : Option Nat)) := by simp
    rw [if_neg hne]
    by_cases hv : x2 < 0
    · rw [if_pos hv]
      unfold wp_X12_rust
      simp only [gK, Kf_400, g_stI, forall_eq, true_and, m_isBarrel (mtl I cB), if_pos hb, i10, if_false, m_isIn, if_neg (show ¬ ((0 : Int32) ≤ x2 ∧ x2 ≤ 99) from fun q => absurd q.1 (Int32.not_le.mpr hv)), i00, if_true]
      exact Inv_told h
    · rw [if_neg hv]
      by_cases hv2 : x2 ≤ 99
      · rw [if_pos hv2]
        simp only [okO_s, gK, Kf_bar hi hB16, ad_s, g_stI, forall_eq, true_and]
        unfold wp_X12_rust
        have c2 : (up2 I (120 + 2 * i) 6 x2) 400 5 = nI D.nB := (up2_o (by omega)).trans cB
        simp only [gK, gR_, Kf_400, g_stI, forall_eq, true_and, m_isBarrel (mtl _ c2), if_pos hb, i10, if_false, m_isIn, if_pos (show (0 : Int32) ≤ x2 ∧ x2 ≤ 99 from ⟨Int32.not_lt.mp hv, hv2⟩), Rf_400_11, okA_s, ad_s, Kf_412, vp_in_nI (show i < 16 by omega) (by decide), nI_clamp (show i < 2 ^ 31 by omega)]
        refine Inv_of (InvI_B h ?_ (fun l k h1 h2 => ?_))
        · intro j hj
          obtain ⟨q1, q2, q3, q4, q5, q6, q7, q8⟩ := h.2.2.2.2.1 j hj
          refine ⟨fun t ht => ?_, ?_, ?_, ?_, ?_, ?_, ?_, ?_⟩
          · rw [up2_o (by omega), up2_o (by omega), up2_o (by omega), up2_o (by omega), up2_o (by omega), up2_o (by omega)]; exact q1 t ht
          · rw [up2_o (by omega), up2_o (by omega), up2_o (by omega)]; exact q2
          · rw [up2_o (by omega), up2_o (by omega), up2_o (by omega), up2_o (by omega), up2_o (by omega), up2_o (by omega)]; exact q3
          · rw [up2_o (by omega), up2_o (by omega), up2_o (by omega)]; exact q4
          · rw [up2_o (by omega), up2_o (by omega), up2_o (by omega), up2_o (by omega), up2_o (by omega), up2_o (by omega)]; exact q5
          · rw [up2_o (by omega), up2_o (by omega), up2_o (by omega), up2_o (by omega), up2_o (by omega), up2_o (by omega)]; exact q6
          · rw [up2_o (by omega), up2_o (by omega), up2_o (by omega), up2_o (by omega), up2_o (by omega), up2_o (by omega)]; exact q7
          · by_cases hji : j = i
            · subst hji
              rw [up2_s, up2_o (by omega), up2_o (by omega), up2_s]
            · rw [up2_o (by omega), up2_o (by omega), up2_o (by omega), up2_o (by omega), up2_o (by omega), up2_o (by omega)]; exact q8
        · unfold Scr at h1
          unfold Xs_B at h2
          rw [up2_o (by omega), up2_o (by omega), up2_o (by omega)]
      · rw [if_neg hv2]
        unfold wp_X12_rust
        simp only [gK, Kf_400, g_stI, forall_eq, true_and, m_isBarrel (mtl I cB), if_pos hb, i10, if_false, m_isIn, if_neg (show ¬ ((0 : Int32) ≤ x2 ∧ x2 ≤ 99) from fun q => hv2 q.2), i00, if_true]
        exact Inv_told h
  · rw [if_neg hb, if_pos rfl]
    unfold wp_X12_rust
    simp only [gK, Kf_400, g_stI, forall_eq, true_and, m_isBarrel (mtl I cB), if_neg hb, i00, if_true]
    exact Inv_told h
