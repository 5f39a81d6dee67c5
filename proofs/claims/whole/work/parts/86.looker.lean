/-! looker (my own) -/
theorem Kf_nolook {D : DD} (h : D.nL < 6) : Kf D (240 + 2 * D.nL) = (0, 0) ∧ Kf D (240 + 2 * D.nL + 1) = (0, 0) ∧ ∀ r, r < 8 → Kf D (36 + 8 * D.nL + r) = (0, 0) := by
  unfold Kf K2
  refine ⟨?_, ?_, fun r hr => ?_⟩
  · simp only [if_neg (show ¬ 240 + 2 * D.nL < 20 by omega), if_neg (show ¬ 240 + 2 * D.nL < 84 by omega), if_neg (show ¬ 240 + 2 * D.nL < 100 by omega), if_neg (show ¬ 240 + 2 * D.nL < 112 by omega), if_neg (show ¬ 240 + 2 * D.nL < 120 by omega), if_neg (show ¬ 240 + 2 * D.nL < 152 by omega), if_neg (show ¬ 240 + 2 * D.nL < 160 by omega), if_neg (show ¬ 240 + 2 * D.nL < 240 by omega), if_pos (show 240 + 2 * D.nL < 252 by omega), if_neg (show ¬ (240 + 2 * D.nL - 240) / 2 < D.nL by omega)]
  · simp only [if_neg (show ¬ 240 + 2 * D.nL + 1 < 20 by omega), if_neg (show ¬ 240 + 2 * D.nL + 1 < 84 by omega), if_neg (show ¬ 240 + 2 * D.nL + 1 < 100 by omega), if_neg (show ¬ 240 + 2 * D.nL + 1 < 112 by omega), if_neg (show ¬ 240 + 2 * D.nL + 1 < 120 by omega), if_neg (show ¬ 240 + 2 * D.nL + 1 < 152 by omega), if_neg (show ¬ 240 + 2 * D.nL + 1 < 160 by omega), if_neg (show ¬ 240 + 2 * D.nL + 1 < 240 by omega), if_pos (show 240 + 2 * D.nL + 1 < 252 by omega), if_neg (show ¬ (240 + 2 * D.nL + 1 - 240) / 2 < D.nL by omega)]
  · simp only [if_neg (show ¬ 36 + 8 * D.nL + r < 20 by omega), if_pos (show 36 + 8 * D.nL + r < 84 by omega), if_neg (show ¬ (36 + 8 * D.nL + r - 20) / 8 < 2 + D.nL by omega)]
theorem Rf_nolook {D : DD} (h : D.nL < 6) : (∀ j, Rf D (240 + 2 * D.nL + 1) j = none) ∧ ∀ r j, r < 8 → Rf D (36 + 8 * D.nL + r) j = none := by
  unfold Rf
  refine ⟨fun j => ?_, fun r j hr => ?_⟩
  · simp only [if_neg (show ¬ 240 + 2 * D.nL + 1 < 20 by omega), if_neg (show ¬ 240 + 2 * D.nL + 1 < 84 by omega), if_neg (show ¬ 240 + 2 * D.nL + 1 < 100 by omega), if_neg (show ¬ 240 + 2 * D.nL + 1 < 112 by omega), if_neg (show ¬ 240 + 2 * D.nL + 1 < 120 by omega), if_neg (show ¬ 240 + 2 * D.nL + 1 < 152 by omega), if_neg (show ¬ 240 + 2 * D.nL + 1 < 160 by omega), if_neg (show ¬ 240 + 2 * D.nL + 1 < 240 by omega), if_pos (show 240 + 2 * D.nL + 1 < 252 by omega)]
    rw [if_neg (by omega)]
  · simp only [if_neg (show ¬ 36 + 8 * D.nL + r < 20 by omega), if_pos (show 36 + 8 * D.nL + r < 84 by omega)]
    rw [if_neg (by omega)]
/-- one looker more, of whom nothing is kept, with an empty judgement -/
theorem Inv_looker {n : Nat} {I M : Nat → Nat → Int32} {L L' : Nat → Nat → Int64} {D : DD} (h : InvI n I L D) (hN : D.nL < 6) {x : Int32} (hx : inN x 16) (hL : CS L') (mx : ∀ l k, ¬ Scr D l k → ¬ Xs_D4 D l k → M l k = I l k) (mL : ∀ l k, l < 240 + 2 * D.nL → 240 ≤ l → M l k = I l k) (m447 : ∀ l, l ≠ D.nL → M 447 l = I 447 l) (m8 : M 1 8 = nI (D.nL + 1)) (m45 : M 400 45 = nI (D.nL + 1)) (mm : M (240 + 2 * D.nL) 0 = x) (mm2 : M 447 D.nL = x) (mk : ∀ k, M (240 + 2 * D.nL + 1) k = 0) (mt : ∀ k, M (36 + 8 * D.nL) k = 0) : Inv (n + 1) (fm M L' D.addL) := by
  have hD := h.1
  have nL6 := h.nL6
  have t0 : D.tx 0 < 8 := tx_lt hD (by omega)
  have t0' := hD.2.2.2.2.2.2.2.1 0 (by omega)
  obtain ⟨c1, c2, c3, c4, c5, c6, c7, c8, c9, c10, c11⟩ := h.2.1
  have e414 : M 414 = I 414 := funext fun k => mx 414 k (by unfold Scr; omega) (by unfold Xs_D4; omega)
  have hr : ∀ a, row M a = row I a := fun a => by unfold row; rw [e414]
  have mT : ∀ r, r < 7 → TSame I M r := fun r hr => ⟨mx _ _ (by unfold Scr; omega) (by unfold Xs_D4; omega), fun i hi => ⟨mx _ _ (by unfold Scr; omega) (by unfold Xs_D4; omega), mx _ _ (by unfold Scr; omega) (by unfold Xs_D4; omega), mx _ _ (by unfold Scr; omega) (by unfold Xs_D4; omega), mx _ _ (by unfold Scr; omega) (by unfold Xs_D4; omega)⟩, fun k hk => ⟨mx _ _ (by unfold Scr; omega) (by unfold Xs_D4; omega), mx _ _ (by unfold Scr; omega) (by unfold Xs_D4; omega)⟩⟩
  have htx : ∀ u, u < 2 + D.nL → u ≠ 0 → (∀ k, M (20 + 8 * D.tx u) k = I (20 + 8 * D.tx u) k) ∧ ∀ j k, 1 ≤ j → j ≤ 5 → M (20 + 8 * D.tx u + j) k = I (20 + 8 * D.tx u + j) k := by
    intro u hu hu0
    have b1 := hD.2.2.2.2.2.2.2.1 u hu
    have b2 := tx_ne hD hu (show 0 < 2 + D.nL by omega) hu0
    refine ⟨fun k => mx _ _ ?_ ?_, fun j k j1 j2 => mx _ _ ?_ ?_⟩
    · unfold Scr; omega
    · unfold Xs_D4; omega
    · unfold Scr; omega
    · unfold Xs_D4; omega
  have hsay : ∀ l a b t, l < D.nL → sayF M l a b t = sayF I l a b t := fun l a b t hl => sayF_cg (CX_of h hl) (mT (1 + l) (by omega)) e414 (m447 l (by omega))
  refine Inv_of (InvI_D4 h ⟨?_, ?_, ?_, ?_, ?_, ?_⟩ hL mx)
  · obtain ⟨d1, d2, d3, d4, d5, d6, d7, d8, d9⟩ := hD
    refine ⟨d1, d2, d3, by show D.nL + 1 ≤ 6; omega, d5, d6, d7, fun u hu => ?_, fun u w hu hw e => ?_⟩
    · have hu : u < 2 + (D.nL + 1) := hu
      show (if u = 2 + D.nL then u else D.tx u) < 2 + (D.nL + 1)
      by_cases z : u = 2 + D.nL
      · rw [if_pos z]; omega
      · rw [if_neg z]; have := d8 u (by omega); omega
    · have hu : u < 2 + (D.nL + 1) := hu
      have hw : w < 2 + (D.nL + 1) := hw
      have e : (if u = 2 + D.nL then u else D.tx u) = (if w = 2 + D.nL then w else D.tx w) := e
      by_cases z : u = 2 + D.nL
      · by_cases z2 : w = 2 + D.nL
        · omega
        · rw [if_pos z, if_neg z2] at e
          have := d8 w (by omega)
          omega
      · by_cases z2 : w = 2 + D.nL
        · rw [if_neg z, if_pos z2] at e
          have := d8 u (by omega)
          omega
        · rw [if_neg z, if_neg z2] at e
          exact d9 u w (by omega) (by omega) e
  · refine ⟨?_, ?_, ?_, ?_, ?_, ?_, m8, m45, ?_, ?_, ?_⟩
    · rw [mx _ _ (by unfold Scr; omega) (by unfold Xs_D4; omega)]; exact c1
    · rw [mx _ _ (by unfold Scr; omega) (by unfold Xs_D4; omega)]; exact c2
    · rw [mx _ _ (by unfold Scr; omega) (by unfold Xs_D4; omega)]; exact c3
    · rw [mx _ _ (by unfold Scr; omega) (by unfold Xs_D4; omega)]; exact c4
    · rw [mx _ _ (by unfold Scr; omega) (by unfold Xs_D4; omega)]; exact c5
    · rw [mx _ _ (by unfold Scr; omega) (by unfold Xs_D4; omega)]; exact c6
    · rw [mx _ _ (by unfold Scr; omega) (by unfold Xs_D4; omega)]; exact c9
    · rw [mx _ _ (by unfold Scr; omega) (by unfold Xs_D4; omega)]; exact c10
    · rw [mx _ _ (by unfold Scr; omega) (by unfold Xs_D4; omega)]
      refine c11.trans (congrArg nI ?_)
      exact (nFound_cg (D := D) (D' := D.addL) D.nA (fun i _ => rfl)).symm
  · intro l
    refine ⟨fun hl => ?_, fun z1 z2 => ?_⟩
    · have hl : l < D.nL + 1 := hl
      by_cases e : l = D.nL
      · subst e; rw [mm, mm2]; exact ⟨rfl, hx⟩
      · rw [mL _ _ (by omega) (by omega), m447 l e]; exact (h.2.2.2.2.2.2.1 l).1 (by omega)
    · have z1 : D.nL + 1 ≤ l := z1
      rw [mx _ _ (by unfold Scr; omega) (by unfold Xs_D4; omega)]; exact (h.2.2.2.2.2.2.1 l).2 (by omega) z2
  · have e1 : D.addL.tx 1 = D.tx 1 := tx_addL (by omega)
    refine ⟨?_, fun l hl => ?_⟩
    · rw [e1]
      exact TR_cg h.2.2.2.2.2.2.2.2.2.2.1.1 (mT 0 (by omega)) (htx 1 (by omega) (by omega)).1 (htx 1 (by omega) (by omega)).2
    · have hl : l < D.nL + 1 := hl
      by_cases e : l = D.nL
      · subst e
        have e2 : D.addL.tx (2 + D.nL) = 2 + D.nL := if_pos rfl
        rw [e2]
        have et : 20 + 8 * (2 + D.nL) = 36 + 8 * D.nL := by omega
        have z26 : M 426 (1 + D.nL) = 0 := by
          rw [mx _ _ (by unfold Scr; omega) (by unfold Xs_D4; omega)]
          exact (h.2.2.2.2.2.2.1 D.nL).2 (Nat.le_refl _) hN
        unfold TR
        rw [et]
        exact ⟨0, 0, by omega, by omega, mt 7, mt 6, z26, fun k hk => by omega, Or.inl (mt 8), fun _ k hk => by omega, fun i hi => by omega⟩
      · rw [tx_addL (show 2 + l ≠ 2 + D.nL by omega)]
        exact TR_cg (CX_of h (by omega)) (mT (1 + l) (by omega)) (htx (2 + l) (by omega) (by omega)).1 (htx (2 + l) (by omega) (by omega)).2
  · intro l a b hl ha hb
    have hl : l < D.nL + 1 := hl
    by_cases e : l = D.nL
    · subst e
      rw [mk]
      exact ⟨fun _ => rfl, fun _ _ => ⟨0, 0, 0, 0, 0, 0, 0, 0, rfl, Or.inl ⟨rfl, rfl, rfl, rfl⟩, Or.inl ⟨rfl, rfl⟩, Or.inl rfl, Or.inl rfl⟩⟩
    · have hl' : l < D.nL := by omega
      obtain ⟨q1, q2⟩ := h.2.2.2.2.2.2.2.2.2.2.2.1 l a b hl' ha hb
      rw [mL _ _ (by omega) (by omega)]
      refine ⟨q1, fun z1 z2 => ?_⟩
      rw [hr, hr, m447 l e, hsay l a b 0 hl', hsay l a b 1 hl']
      exact q2 z1 z2
  · intro z
    have z : M 400 49 = M 400 17 := z
    rw [mx 400 49 (by unfold Scr; omega) (by unfold Xs_D4; omega), mx 400 17 (by unfold Scr; omega) (by unfold Xs_D4; omega)] at z
    obtain ⟨q1, q2⟩ := h.2.2.2.2.2.2.2.2.2.2.2.2.1 z
    refine ⟨fun t l a b ht hl ha hb => ?_, fun l a b hl ha hb => ?_⟩
    · rw [mx 451 _ (by unfold Scr; omega) (by unfold Xs_D4; omega)]
      rcases q1 t l a b ht hl ha hb with w | ⟨w1, w2, w3, w4⟩
      · exact Or.inl w
      · exact Or.inr ⟨by show l < D.nL + 1; omega, w2, w3, by rw [hsay l a b t w1]; exact w4⟩
    · rw [mx 452 _ (by unfold Scr; omega) (by unfold Xs_D4; omega)]
      rcases q2 l a b hl ha hb with w | ⟨w1, w2, w3, w4⟩
      · exact Or.inl w
      · exact Or.inr ⟨by show l < D.nL + 1; omega, w2, w3, by rw [hr, hr, m447 l (by omega)]; exact w4⟩
set_option maxHeartbeats 2000000 in
theorem pair_looker {n : Nat} {g : Hp} (hI : Inv n g) (x1 : Int32) : wp_X11_looker 1 x1 g (fun r h1 => wp_X12_looker 400 x1 h1 (fun r' h2 => r' = r ∧ Inv (n + 1) h2)) := by
  obtain ⟨I, L, D, rfl, h⟩ := hI
  have hD := h.1
  have nL6 := h.nL6
  have hT0 := Inv_told h
  have mL0 : (up2 I 400 0 0) 400 45 = nI D.nL := (up2_o (by omega)).trans h.mL
  have i15 : (0 ≤ x1 ∧ x1 ≤ 15 ↔ inN x1 16) := inN_le 15 (by decide) (by decide)
  unfold wp_X11_looker
  by_cases s0 : x1 < 0
  · rw [if_pos s0]
    unfold wp_X12_looker
    simp only [gK, gI, gL, gR_, g_stI, g_stL, forall_eq, true_and, ad_s, okA_s, okO_s, okN_s, i10, i00, if_true, if_false, reduceCtorEq, Kf_1, Kf_400, m_isIn, if_neg (show ¬ ((0 : Int32) ≤ x1 ∧ x1 ≤ 15) from fun z => absurd z.1 (Int32.not_le.mpr s0))]
    exact hT0
  · rw [if_neg s0]
    by_cases s1 : (15 : Int32) < x1
    · rw [if_pos s1]
      unfold wp_X12_looker
      simp only [gK, gI, gL, gR_, g_stI, g_stL, forall_eq, true_and, ad_s, okA_s, okO_s, okN_s, i10, i00, if_true, if_false, reduceCtorEq, Kf_1, Kf_400, m_isIn, if_neg (show ¬ ((0 : Int32) ≤ x1 ∧ x1 ≤ 15) from fun z => absurd z.2 (Int32.not_le.mpr s1))]
      exact hT0
    · rw [if_neg s1]
      have wx : (0 : Int32) ≤ x1 ∧ x1 ≤ 15 := ⟨Int32.not_lt.mp s0, Int32.not_lt.mp s1⟩
      simp only [gK, gI, gL, gR_, g_stI, g_stL, forall_eq, true_and, ad_s, okA_s, okO_s, okN_s, i10, i00, if_true, if_false, reduceCtorEq, Kf_1, Kf_400, h.xL, Rf_1_7]
      by_cases hN : D.nL = 6
      · rw [if_neg (show ¬ nI D.nL < (6 : Int32) by rw [hN]; decide)]
        unfold wp_X12_looker
        simp only [gK, gI, gL, gR_, g_stI, g_stL, forall_eq, true_and, ad_s, okA_s, okO_s, okN_s, i10, i00, if_true, if_false, reduceCtorEq, Kf_1, Kf_400, m_isIn, if_pos wx, mL0, if_pos (show nI D.nL = (6 : Int32) by rw [hN]; rfl)]
        exact hT0
      · have hN : D.nL < 6 := by omega
        rw [if_pos (show nI D.nL < (6 : Int32) from nI_lt (b := 6) hN (by decide))]
        obtain ⟨z1, z2, z3⟩ := Kf_nolook hN
        obtain ⟨y1, y2⟩ := Rf_nolook hN
        refine ⟨okP_some (by rw [gK, Kf_1]; decide), okP_some (by rw [gK, Kf_5]; decide), 240 + 2 * D.nL, by rw [z1], ?_⟩
        generalize hq : 240 + 2 * D.nL = q at z1 z2 y1 ⊢
        generalize hT : 36 + 8 * D.nL = T at z3 y2
        have u1 : ∀ (K : Nat → Nat × Nat) v, upK K q v 1 = K 1 := fun K v => upK_o (by omega)
        have u5 : ∀ (K : Nat → Nat × Nat) v, upK K q v 5 = K 5 := fun K v => upK_o (by omega)
        have uT : ∀ (K : Nat → Nat × Nat) v r, r < 8 → upK K q v (T + r) = K (T + r) := fun K v r z => upK_o (by omega)
        have uT0 : ∀ (K : Nat → Nat × Nat) v, upK K q v T = K T := fun K v => upK_o (by omega)
        have vT : ∀ (K : Nat → Nat × Nat) v r, 1 ≤ r → upK K T v (T + r) = K (T + r) := fun K v r z => upK_o (by omega)
        have vq : ∀ (K : Nat → Nat × Nat) v, upK K T v q = K q := fun K v => upK_o (by omega)
        have w5 : ∀ (K : Nat → Nat × Nat) v, upK K (q + 1) v q = K q := fun K v => upK_o (by omega)
        have zT := z3 0 (by decide)
        rw [Nat.add_zero] at zT
        rw [fm_raw]
        unfold wp_X3_init
        simp only [rI, rL, rR, rK, raw_stI, raw_stL, raw_stR, raw_alc, upK_s, forall_eq, true_and, ad_s, okA_s, okO_s, okN_s, i10, i00, if_true, if_false, reduceCtorEq]
        refine ⟨okP_some (by rw [rK, u1, Kf_1]; decide), okP_some (by rw [rK, upK_s]; exact Nat.succ_ne_zero _), okP_some (by rw [rK, u5, Kf_5]; decide), okP_some (by rw [rK, upK_s]; exact Nat.succ_ne_zero _), T, by rw [uT0, zT], ?_⟩
        try simp only [rI, rL, rR, rK, raw_stI, raw_stL, raw_stR, raw_alc, upK_s, forall_eq, true_and, ad_s, okA_s, okO_s, okN_s, i10, i00, if_true, if_false, reduceCtorEq]
        refine ⟨okP_some (by rw [rK, vq, upK_s]; exact Nat.succ_ne_zero _), okP_some (by rw [rK, upK_s]; exact Nat.succ_ne_zero _), ?_⟩
        refine x_newText upK_s (fun r r1 r6 => by rw [vT _ _ r r1, uT _ _ r (by omega), z3 r (by omega)]) (fun A L1 R1 K1 f1 f2 f3 f4 f5 f6 f7 f8 f9 => ?_)
        have kq : K1 q = (22, 0) := by rw [f8 q (by omega), vq, upK_s]
        have kT : K1 T = (25, 0) := by rw [f8 T (by omega), upK_s]
        have kq1 : K1 (q + 1) = (0, 0) := by rw [f8 _ (by omega), upK_o (by omega), upK_o (by omega), z2]
        have k1 : K1 1 = (29, 0) := by rw [f8 _ (by omega), upK_o (by omega), upK_o (by omega), Kf_1]
        have k5 : K1 5 = (5, 6) := by rw [f8 _ (by omega), upK_o (by omega), upK_o (by omega), Kf_5]
        simp only [rI, rL, rR, rK, raw_stI, raw_stL, raw_stR, raw_alc, upK_s, forall_eq, true_and, ad_s, okA_s, okO_s, okN_s, i10, i00, if_true, if_false, reduceCtorEq, kq]
        refine ⟨okP_some (by rw [rK, kT]; decide), okP_some (by rw [rK, kq]; decide), q + 1, by rw [kq1], ?_⟩
        simp only [rI, rL, rR, rK, raw_stI, raw_stL, raw_stR, raw_alc, upK_s, forall_eq, true_and, ad_s, okA_s, okO_s, okN_s, i10, i00, if_true, if_false, reduceCtorEq, w5, kq]
        refine ⟨okP_some (by rw [rK, upK_s]; exact Nat.succ_ne_zero _), ?_⟩
        have k1' : ∀ v, upK K1 (q + 1) v 1 = (29, 0) := fun v => (upK_o (by omega)).trans k1
        have k5' : ∀ v, upK K1 (q + 1) v 5 = (5, 6) := fun v => (upK_o (by omega)).trans k5
        simp only [rI, rL, rR, rK, raw_stI, raw_stL, raw_stR, raw_alc, upK_s, forall_eq, true_and, ad_s, okA_s, okO_s, okN_s, i10, i00, if_true, if_false, reduceCtorEq, w5, kq, k1', k5', nI_clamp (show D.nL < 2 ^ 31 by omega), vp_in_nI (show D.nL < 6 by omega) (show 6 < 2 ^ 31 by decide)]
        rw [raw_fm (D := D.addL)]
        · have a1 : ∀ l k, l ≠ q → ¬ (T ≤ l ∧ l ≤ T + 6) → A l k = I l k := by
            intro l k b1 b2
            rw [f1 l k (by omega), up1_o (by omega), up1_o b1]
          have aT : ∀ k, A T k = 0 := fun k => by rw [f1 T k (by omega), up1_s]
          generalize hJ : up2 (up2 (up1 A (q + 1) 0) q 0 x1) 1 8 _ = J
          have j0 : ∀ l k, l ≠ q → l ≠ q + 1 → ¬ (T ≤ l ∧ l ≤ T + 6) → ¬ (l = 1 ∧ k = 8) → J l k = I l k := by
            intro l k b1 b2 b3 b4
            rw [← hJ, up2_o b4, up2_o (by omega), up1_o b2]; exact a1 l k b1 b3
          have j8 : J 1 8 = nI (D.nL + 1) := by
            rw [← hJ, up2_s, up2_o (by omega), up1_o (by omega), a1 1 8 (by omega) (by omega), h.xL, nI_1]
          have jq : J q 0 = x1 := by rw [← hJ, up2_o (by omega), up2_s]
          have jk : ∀ k, J (q + 1) k = 0 := fun k => by rw [← hJ, up2_o (by omega), up2_o (by omega), up1_s]
          have jT : ∀ k, J T k = 0 := fun k => by rw [← hJ, up2_o (by omega), up2_o (by omega), up1_o (by omega)]; exact aT k
          have k0 : (up2 J 400 0 0) 400 45 = nI D.nL := by rw [up2_o (by omega), j0 400 45 (by omega) (by omega) (by omega) (by omega)]; exact h.mL
          have k0' : ∀ v, (up2 (up2 J 400 0 0) 447 D.nL v) 400 45 = nI D.nL := fun v => (up2_o (by omega)).trans k0
          unfold wp_X12_looker
          simp only [gK, gI, gL, gR_, g_stI, g_stL, forall_eq, true_and, ad_s, okA_s, okO_s, okN_s, i10, i00, if_true, if_false, reduceCtorEq, Kf_1, Kf_400, m_isIn, if_pos wx, k0]
          rw [if_neg (show ¬ nI D.nL = (6 : Int32) from fun e => by have := (nI_eq (b := 6) (by omega) (by decide)).mp e; omega)]
          simp only [gK, gI, gL, gR_, g_stI, g_stL, forall_eq, true_and, ad_s, okA_s, okO_s, okN_s, i10, i00, if_true, if_false, reduceCtorEq, Kf_1, Kf_400, Rf_400_46, Kf_447, k0', nI_clamp (show D.nL < 2 ^ 31 by omega), vp_in_nI (show D.nL < 6 by omega) (show 6 < 2 ^ 31 by decide), up2_s, nI_1, nI_pred, j8]
          generalize hM : up2 (up2 (up2 J 400 0 0) 447 D.nL x1) 400 45 (nI (D.nL + 1)) = M
          have mx : ∀ l k, ¬ (l = 400 ∧ (k = 0 ∨ k = 45)) → ¬ (l = 447 ∧ k = D.nL) → M l k = J l k := by
            intro l k b1 b2
            rw [← hM, up2_o (by omega), up2_o (by omega), up2_o (by omega)]
          subst hq
          subst hT
          refine Inv_looker h hN (i15.mp wx) (fun s hs => ?_) (fun l k b0 b1 => ?_) (fun l k b1 b2 => ?_) (fun l hl => ?_) ?_ ?_ ?_ ?_ (fun k => ?_) (fun k => ?_)
          · rw [up1_o (by omega), up1_o (by omega), f3 _ _ (by omega), f3 _ _ (by omega), up1_o (by omega), up1_o (by omega), up1_o (by omega), up1_o (by omega)]
            exact h.2.2.2.2.2.2.2.2.1 s hs
          · unfold Scr at b0
            unfold Xs_D4 at b1
            rw [mx l k (by omega) (by omega)]
            exact j0 l k (by omega) (by omega) (by omega) (by omega)
          · rw [mx l k (by omega) (by omega)]
            exact j0 l k (by omega) (by omega) (by omega) (by omega)
          · rw [mx 447 l (by omega) (by omega)]
            exact j0 447 l (by omega) (by omega) (by omega) (by omega)
          · rw [mx _ _ (by omega) (by omega)]; exact j8
          · rw [← hM, up2_s]
          · rw [mx _ _ (by omega) (by omega)]; exact jq
          · rw [← hM, up2_o (by omega), up2_s]
          · rw [mx _ _ (by omega) (by omega)]; exact jk k
          · rw [mx _ _ (by omega) (by omega)]; exact jT k
        · funext c j
          rw [Rf_addL hN, hq, hT]
          by_cases e1 : c = 5 ∧ j = D.nL
          · rw [if_pos e1, e1.1, e1.2, up2_s]
          · rw [if_neg e1, up2_o e1]
            by_cases e2 : c = q
            · subst e2
              rw [if_pos rfl]
              by_cases e3 : j = 2
              · subst e3; rw [up2_s]; rfl
              · rw [up2_o (by omega), up1_o (by omega)]
                by_cases e4 : j = 1
                · subst e4
                  rw [up2_s]
                  show some T = some (20 + 8 * (2 + D.nL))
                  congr 1
                  omega
                · rw [up2_o (by omega), f4 _ _ (by omega), up1_o (by omega), up1_s]
                  split
                  · exact absurd rfl e4
                  · exact absurd rfl e3
                  · rfl
            · rw [up2_o (by omega), if_neg e2]
              by_cases e3 : c = q + 1
              · subst e3
                rw [up1_s, if_neg (by omega), y1]
              · rw [up1_o e3, up2_o (by omega)]
                by_cases e5 : T ≤ c ∧ c ≤ T + 6
                · by_cases e6 : c = T
                  · subst e6
                    by_cases e7 : j < 6
                    · rw [if_pos ⟨rfl, e7⟩, f6 j e7]
                    · rw [if_neg (fun z => e7 z.2), f7 j (by omega), up1_s]
                      have := y2 0 j (by decide)
                      rw [Nat.add_zero] at this
                      exact this.symm
                  · rw [if_neg (fun z => e6 z.1), f5 c j (by omega) (by omega)]
                    have := y2 (c - T) j (by omega)
                    rw [show T + (c - T) = c by omega] at this
                    exact this.symm
                · rw [if_neg (by omega), f4 c j e5, up1_o (by omega), up1_o e2]
        · funext c
          rw [Kf_addL hN, hq, hT, show 44 + 8 * D.nL = T + 8 by omega]
          by_cases e2 : c = q
          · subst e2; rw [w5, kq, if_pos rfl]
          · rw [if_neg e2]
            by_cases e3 : c = q + 1
            · subst e3; rw [upK_s, if_pos rfl]
            · rw [if_neg e3, upK_o e3]
              by_cases e5 : T ≤ c ∧ c < T + 8
              · rw [if_pos e5]
                by_cases e6 : c = T
                · subst e6
                  rw [kT, show (c - 20) % 8 = 0 by omega]
                  rfl
                · by_cases e7 : c = T + 7
                  · rw [f8 c (by omega), upK_o e6, upK_o e2]
                    have := z3 7 (by decide)
                    rw [← e7] at this
                    rw [this, show (c - 20) % 8 = 7 by omega]
                    rfl
                  · have := f9 (c - T) (by omega) (by omega)
                    rw [show T + (c - T) = c by omega] at this
                    rw [this, show (c - 20) % 8 = c - T by omega]
              · rw [if_neg e5, f8 c (by omega), upK_o (by omega), upK_o e2]
