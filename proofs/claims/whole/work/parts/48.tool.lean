/-! tool (my own) -/
theorem m_tool_L {L : Nat → Nat → Int64} {D : DD} {x : Int32} {t : Nat} {K : Hp → Prop} {Q : Int32 → Hp → Prop} (ht : t < 6) : ∀ (n j : Nat) (I : Nat → Nat → Int32), I 400 1 = nI t → j ≤ 32 → 33 ≤ n + j → K (fm (fun b k => if b = 403 ∧ 32 * t + j ≤ k ∧ k < 32 * t + 32 then 32 else I b k) L D) → wp_X12_tool_L18 400 x K Q n (nI j) (fm I L D) := by
  intro n
  induction n with
  | zero => intro j I h0 h1 h2; omega
  | succ n ih =>
    intro j I h0 h1 h2 hw
    rw [wp_X12_tool_L18]
    by_cases hj : j = 32
    · subst hj
      rw [if_pos (show (32 : Int32) ≤ nI 32 from by decide)]
      have e : (fun b k => if b = 403 ∧ 32 * t + 32 ≤ k ∧ k < 32 * t + 32 then 32 else I b k) = I := by
        funext b k; rw [if_neg (by omega)]
      rw [e] at hw; exact hw
    · rw [if_neg (show ¬ (32 : Int32) ≤ nI j from nI_ge (b := 32) (by omega) (by decide))]
      simp only [gK, gI, gL, gR_, g_stI, g_stL, forall_eq, true_and, ad_s, okA_s, okO_s, okN_s, i10, i00, if_true, if_false, reduceCtorEq, Kf_1, Kf_400, h0, ix32, Rf_400_2, Kf_403, nI_clamp (show 32 * t + j < 2 ^ 31 by omega), nI_1]
      refine ⟨vp_in_nI (by omega) (by decide), ih (j + 1) _ ((up2_o (by omega)).trans h0) (by omega) (by omega) ?_⟩
      have e : (fun b k => if b = 403 ∧ 32 * t + (j + 1) ≤ k ∧ k < 32 * t + 32 then 32 else (up2 I 403 (32 * t + j) 32) b k) = (fun b k => if b = 403 ∧ 32 * t + j ≤ k ∧ k < 32 * t + 32 then 32 else I b k) := by
        funext b k
        by_cases e1 : b = 403 ∧ 32 * t + (j + 1) ≤ k ∧ k < 32 * t + 32
        · rw [if_pos e1, if_pos (by omega)]
        · rw [if_neg e1]
          by_cases e2 : b = 403 ∧ k = 32 * t + j
          · rw [if_pos (by omega), e2.1, e2.2, up2_s]
          · rw [if_neg (by omega), up2_o e2]
      rw [e]; exact hw
theorem pair_tool {n : Nat} {g : Hp} (hI : Inv n g) (x1 : Int32) : wp_X11_tool 1 x1 g (fun r h1 => wp_X12_tool 400 x1 h1 (fun r' h2 => r' = r ∧ Inv (n + 1) h2)) := by
  obtain ⟨I, L, D, rfl, h⟩ := hI
  have hD := h.1
  obtain ⟨c1, c2, c3, c4, c5, c6, c7, c8, c9, c10, c11⟩ := h.2.1
  have n1 := hD.1
  unfold wp_X11_tool
  simp only [gK, gI, gL, gR_, g_stI, g_stL, forall_eq, true_and, ad_s, okA_s, okO_s, okN_s, i10, i00, if_true, if_false, reduceCtorEq, Kf_1, Kf_400, c1, Rf_1_0, Kf_2]
  by_cases h6 : D.nT = 6
  · have e : ¬ nI D.nT < (6 : Int32) := by rw [h6]; decide
    rw [if_neg e]
    unfold wp_X12_tool
    have e2 : (up2 I 400 0 0) 400 1 = (6 : Int32) := by rw [up2_o (by omega), c2, h6]; rfl
    simp only [gK, gI, gL, gR_, g_stI, g_stL, forall_eq, true_and, ad_s, okA_s, okO_s, okN_s, i10, i00, if_true, if_false, reduceCtorEq, Kf_1, Kf_400, e2]
    exact Inv_told h
  · have h6 : D.nT < 6 := by omega
    rw [if_pos (show nI D.nT < (6 : Int32) from nI_lt (b := 6) h6 (by decide))]
    have k1 : Kf D 1 = (29, 0) := rfl
    have k2 : Kf D 2 = (10, 6) := rfl
    have z1 : Kf D (100 + 2 * D.nT) = (0, 0) := by
      unfold Kf K2
      simp only [if_neg (show ¬ 100 + 2 * D.nT < 20 by omega), if_neg (show ¬ 100 + 2 * D.nT < 84 by omega), if_neg (show ¬ 100 + 2 * D.nT < 100 by omega), if_pos (show 100 + 2 * D.nT < 112 by omega), if_neg (show ¬ (100 + 2 * D.nT - 100) / 2 < D.nT by omega)]
    have z2 : Kf D (100 + 2 * D.nT + 1) = (0, 0) := by
      unfold Kf K2
      simp only [if_neg (show ¬ 100 + 2 * D.nT + 1 < 20 by omega), if_neg (show ¬ 100 + 2 * D.nT + 1 < 84 by omega), if_neg (show ¬ 100 + 2 * D.nT + 1 < 100 by omega), if_pos (show 100 + 2 * D.nT + 1 < 112 by omega), if_neg (show ¬ (100 + 2 * D.nT + 1 - 100) / 2 < D.nT by omega)]
    refine ⟨okP_some (by rw [gK, k1]; decide), okP_some (by rw [gK, k2]; decide), 100 + 2 * D.nT, by rw [z1], ?_⟩
    rw [fm_raw]
    unfold wp_X9_init
    generalize hq : 100 + 2 * D.nT = q at z1 z2 ⊢
    have q1 : q ≠ 1 := by omega
    have q2 : q ≠ 2 := by omega
    have q400 : q ≠ 400 := by omega
    have u1 : ∀ (K : Nat → Nat × Nat) v, upK K q v 1 = K 1 := fun K v => upK_o (Ne.symm q1)
    have u2 : ∀ (K : Nat → Nat × Nat) v, upK K q v 2 = K 2 := fun K v => upK_o (Ne.symm q2)
    have u3 : ∀ (K : Nat → Nat × Nat) v, upK K (q + 1) v 1 = K 1 := fun K v => upK_o (by omega)
    have u4 : ∀ (K : Nat → Nat × Nat) v, upK K (q + 1) v 2 = K 2 := fun K v => upK_o (by omega)
    have u5 : ∀ (K : Nat → Nat × Nat) v, upK K (q + 1) v q = K q := fun K v => upK_o (by omega)
    have u6 : ∀ (K : Nat → Nat × Nat) v, upK K q v (q + 1) = K (q + 1) := fun K v => upK_o (by omega)
    simp only [rI, rL, rR, rK, raw_stI, raw_stL, raw_stR, raw_alc, upK_s, forall_eq, true_and, ad_s, okA_s, okO_s, okN_s, i10, i00, if_true, if_false, reduceCtorEq, u6, z2]
    refine ⟨okP_some (by rw [rK, u1, k1]; decide), okP_some (by rw [rK, upK_s]; exact Nat.succ_ne_zero _), okP_some (by rw [rK, u2, k2]; decide), okP_some (by rw [rK, upK_s]; exact Nat.succ_ne_zero _), q + 1, by rw [u6, z2], ?_⟩
    simp only [rI, rL, rR, rK, raw_stI, raw_stL, raw_stR, raw_alc, upK_s, forall_eq, true_and, ad_s, okA_s, okO_s, okN_s, i10, i00, if_true, if_false, reduceCtorEq, u5]
    refine ⟨okP_some (by rw [rK, upK_s]; exact Nat.succ_ne_zero _), ?_⟩
    rw [up2_s]
    refine j_fill (m := 32) upK_s (by omega) ?_
    simp only [rI, rL, rR, rK, raw_stI, raw_stL, raw_stR, raw_alc, upK_s, forall_eq, true_and, ad_s, okA_s, okO_s, okN_s, i10, i00, if_true, if_false, reduceCtorEq, u1, u2, u3, u4, u5, k1, k2, nI_clamp (show D.nT < 2 ^ 31 by omega), vp_in_nI (show D.nT < 6 by omega) (by decide)]
    rw [raw_fm (D := D.addT)]
    · generalize hJ : up2 (fun b k => if b = q + 1 ∧ k < 32 then (32 : Int32) else up2 (up1 (up1 I q 0) (q + 1) 0) q 1 x1 b k) 1 1 _ = J
      generalize hL' : up1 (up1 L q 0) (q + 1) 0 = L'
      have j0 : ∀ l k, l ≠ q → l ≠ q + 1 → ¬ (l = 1 ∧ k = 1) → J l k = I l k := by
        intro l k a1 a2 a3
        rw [← hJ, up2_o a3, if_neg (by omega), up2_o (by omega), up1_o a2, up1_o a1]
      have j1 : J 1 1 = nI (D.nT + 1) := by
        rw [← hJ, up2_s, if_neg (by omega), up2_o (by omega), up1_o (by omega), up1_o (by omega), c1, nI_1]
      have j2 : ∀ k, k < 32 → J (q + 1) k = 32 := by
        intro k hk
        rw [← hJ, up2_o (by omega), if_pos ⟨rfl, hk⟩]
      have j3 : J q 1 = x1 := by
        rw [← hJ, up2_o (by omega), if_neg (by omega), up2_s]
      have j4 : J q 2 = 0 := by
        rw [← hJ, up2_o (by omega), if_neg (by omega), up2_o (by omega), up1_o (by omega), up1_s]
      have l0 : ∀ l k, l ≠ q → l ≠ q + 1 → L' l k = L l k := by
        intro l k a1 a2
        rw [← hL', up1_o a2, up1_o a1]
      have k0 : (up2 J 400 0 0) 400 1 = nI D.nT := by rw [up2_o (by omega), j0 400 1 (by omega) (by omega) (by omega)]; exact c2
      unfold wp_X12_tool
      simp only [gK, gI, gL, gR_, g_stI, g_stL, forall_eq, true_and, ad_s, okA_s, okO_s, okN_s, i10, i00, if_true, if_false, reduceCtorEq, Kf_1, Kf_400, k0]
      rw [if_neg (show ¬ nI D.nT = (6 : Int32) from fun e => by have := (nI_eq (b := 6) (by omega) (by decide)).mp e; omega)]
      refine m_tool_L h6 fuel 0 _ k0 (by omega) (by have := fuel_ge; omega) ?_
      generalize hM : (fun b k => if b = 403 ∧ 32 * D.nT + 0 ≤ k ∧ k < 32 * D.nT + 32 then (32 : Int32) else (up2 J 400 0 0) b k) = M
      have m0 : ∀ l k, l ≠ 403 → M l k = (up2 J 400 0 0) l k := by
        intro l k a; rw [← hM]; dsimp only; rw [if_neg (by omega)]
      have m1 : ∀ k, k < 32 → M 403 (32 * D.nT + k) = 32 := by
        intro k hk; rw [← hM]; dsimp only; rw [if_pos (by omega)]
      have m2 : ∀ k, ¬ (32 * D.nT ≤ k ∧ k < 32 * D.nT + 32) → M 403 k = I 403 k := by
        intro k hk; rw [← hM]; dsimp only; rw [if_neg (by omega), up2_o (by omega), j0 403 k (by omega) (by omega) (by omega)]
      have ma : M 400 1 = nI D.nT := (m0 400 1 (by omega)).trans k0
      have mb : ∀ v, (up2 M 404 D.nT v) 400 1 = nI D.nT := fun v => (up2_o (by omega)).trans ma
      simp only [gK, gI, gL, gR_, g_stI, g_stL, forall_eq, true_and, ad_s, okA_s, okO_s, okN_s, i10, i00, if_true, if_false, reduceCtorEq, Kf_1, Kf_400, ma, mb, Rf_400_3, Kf_404, vp_in_nI (show D.nT < 6 by omega) (by decide), nI_clamp (show D.nT < 2 ^ 31 by omega), up2_s, nI_1, nI_pred]
      rw [j1, nI_pred]
      refine ⟨rfl, ?_⟩
      have hall : ∀ l k, l ≠ 403 → ¬ (l = 404 ∧ k = D.nT) → ¬ (l = 400 ∧ (k = 0 ∨ k = 1)) → l ≠ q → l ≠ q + 1 → ¬ (l = 1 ∧ k = 1) → (up2 (up2 M 404 D.nT x1) 400 1 (nI (D.nT + 1))) l k = I l k := by
        intro l k b1 b2 b3 b4 b5 b6
        rw [up2_o (by omega), up2_o b2, m0 l k b1, up2_o (by omega), j0 l k b4 b5 b6]
      refine Inv_of (InvI_D1 (t := D.nT + 1) (b := D.nB) h ⟨?_, ?_, ?_, ?_, ?_⟩ ?_ (fun l k h1 h2 => ?_))
      · obtain ⟨w1, w2⟩ := hD
        exact ⟨by show D.nT + 1 ≤ 6; omega, w2⟩
      · refine ⟨?_, ?_, ?_, ?_, ?_, ?_, ?_, ?_, ?_, ?_, ?_⟩
        · rw [up2_o (by omega), up2_o (by omega), m0 1 1 (by omega), up2_o (by omega)]; exact j1
        · exact up2_s
        · rw [hall 1 3 (by omega) (by omega) (by omega) (by omega) (by omega) (by omega)]; exact c3
        · rw [hall 400 5 (by omega) (by omega) (by omega) (by omega) (by omega) (by omega)]; exact c4
        · rw [hall 1 5 (by omega) (by omega) (by omega) (by omega) (by omega) (by omega)]; exact c5
        · rw [hall 400 12 (by omega) (by omega) (by omega) (by omega) (by omega) (by omega)]; exact c6
        · rw [hall 1 8 (by omega) (by omega) (by omega) (by omega) (by omega) (by omega)]; exact c7
        · rw [hall 400 45 (by omega) (by omega) (by omega) (by omega) (by omega) (by omega)]; exact c8
        · rw [hall 1 10 (by omega) (by omega) (by omega) (by omega) (by omega) (by omega)]; exact c9
        · rw [hall 400 53 (by omega) (by omega) (by omega) (by omega) (by omega) (by omega)]; exact c10
        · rw [hall 1 6 (by omega) (by omega) (by omega) (by omega) (by omega) (by omega)]
          have ef : ∀ m, nFound ((D.nT + 1, D.nB, D.1.2.2), D.2) m = nFound D m := by
            intro m; induction m with
            | zero => rfl
            | succ m ih => unfold nFound; rw [ih]
          rw [ef]; exact c11
      · intro i hi
        have hi : i < D.nT + 1 := hi
        by_cases e : i = D.nT
        · subst e
          refine ⟨fun j hj => ?_, ?_, ?_⟩
          · rw [up2_o (by omega), up2_o (by omega), m0 _ _ (by omega), up2_o (by omega), hq, j2 j hj, up2_o (by omega), up2_o (by omega), m1 j hj]
            exact ⟨rfl, by decide, by decide⟩
          · rw [up2_o (by omega), up2_o (by omega), m0 _ _ (by omega), up2_o (by omega), hq, j3, up2_o (by omega), up2_s]
          · rw [up2_o (by omega), up2_o (by omega), m0 _ _ (by omega), up2_o (by omega), hq, j4, hall 405 D.nT (by omega) (by omega) (by omega) (by omega) (by omega) (by omega)]
            exact (h.2.2.2.1 D.nT (by omega) (by omega)).symm
        · obtain ⟨w1, w2, w3⟩ := h.2.2.1 i (by omega)
          refine ⟨fun j hj => ?_, ?_, ?_⟩
          · rw [hall (100 + 2 * i + 1) j (by omega) (by omega) (by omega) (by omega) (by omega) (by omega), up2_o (by omega), up2_o (by omega), m2 _ (by omega)]
            exact w1 j hj
          · rw [hall (100 + 2 * i) 1 (by omega) (by omega) (by omega) (by omega) (by omega) (by omega), hall 404 i (by omega) (by omega) (by omega) (by omega) (by omega) (by omega)]; exact w2
          · rw [hall (100 + 2 * i) 2 (by omega) (by omega) (by omega) (by omega) (by omega) (by omega), hall 405 i (by omega) (by omega) (by omega) (by omega) (by omega) (by omega)]; exact w3
      · intro i e1 e2
        have e1 : D.nT + 1 ≤ i := e1
        rw [hall 405 i (by omega) (by omega) (by omega) (by omega) (by omega) (by omega)]
        exact h.2.2.2.1 i (by omega) e2
      · intro i hi
        have hi : i < D.nB := hi
        have := hD.2.1
        obtain ⟨w1, w2, w3, w4, w5, w6, w7, w8⟩ := h.2.2.2.2.1 i hi
        have ha : ∀ l k, 120 ≤ l → l < 152 → (up2 (up2 M 404 D.nT x1) 400 1 (nI (D.nT + 1))) l k = I l k := fun l k a1 a2 => hall l k (by omega) (by omega) (by omega) (by omega) (by omega) (by omega)
        have hb : ∀ l k, 407 ≤ l → l < 413 → (up2 (up2 M 404 D.nT x1) 400 1 (nI (D.nT + 1))) l k = I l k := fun l k a1 a2 => hall l k (by omega) (by omega) (by omega) (by omega) (by omega) (by omega)
        refine ⟨fun j hj => ?_, ?_, ?_, ?_, ?_, ?_, ?_, ?_⟩
        · rw [ha _ _ (by omega) (by omega), hb _ _ (by omega) (by omega)]; exact w1 j hj
        · rw [ha _ _ (by omega) (by omega)]; exact w2
        · rw [ha _ _ (by omega) (by omega), hb _ _ (by omega) (by omega)]; exact w3
        · rw [hb _ _ (by omega) (by omega)]
          obtain ⟨u, hu, e⟩ := inN_of (by omega) w4
          rw [e]; exact (inN_nI (by omega) (by show D.nT + 1 < _; omega)).mpr (by show u < D.nT + 1; omega)
        · rw [ha _ _ (by omega) (by omega), hb _ _ (by omega) (by omega)]; exact w5
        · rw [ha _ _ (by omega) (by omega), hb _ _ (by omega) (by omega)]; exact w6
        · rw [ha _ _ (by omega) (by omega), hb _ _ (by omega) (by omega)]; exact w7
        · rw [ha _ _ (by omega) (by omega), hb _ _ (by omega) (by omega)]; exact w8
      · intro s hs
        rw [l0 7 s (by omega) (by omega), l0 459 s (by omega) (by omega)]
        exact h.2.2.2.2.2.2.2.2.1 s hs
      · unfold Scr at h1
        unfold Xs_D1 at h2
        exact hall l k (by omega) (by omega) (by omega) (by omega) (by omega) (by omega)
    · funext b j
      rw [Rf_addT h6, hq]
      by_cases e1 : b = 2 ∧ j = D.nT
      · rw [if_pos e1, e1.1, e1.2, up2_s]
      · rw [if_neg e1, up2_o e1]
        by_cases e2 : b = q
        · subst e2
          by_cases e3 : j = 0
          · subst e3; rw [up2_s]; simp
          · rw [up2_o (by omega), up1_o (by omega), up1_s]; simp [e3]
        · rw [up2_o (by omega), if_neg e2]
          by_cases e3 : b = q + 1
          · subst e3
            rw [up1_s]
            have : Rf D (q + 1) j = none := by
              unfold Rf
              simp only [if_neg (show ¬ q + 1 < 20 by omega), if_neg (show ¬ q + 1 < 84 by omega), if_neg (show ¬ q + 1 < 100 by omega), if_pos (show q + 1 < 112 by omega)]
              rw [if_neg (by omega)]
            rw [this]
          · rw [up1_o e3, up1_o e2]
    · funext b
      rw [Kf_addT h6, hq]
      by_cases e2 : b = q
      · subst e2; rw [u5, upK_s, if_pos rfl]
      · rw [if_neg e2]
        by_cases e3 : b = q + 1
        · subst e3; rw [upK_s, if_pos rfl]
        · rw [if_neg e3, upK_o e3, upK_o e2]
