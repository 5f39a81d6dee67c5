/-! found (my own) -/
theorem okP_none {g : Hp} : okP g none := fun b hb => by cases hb
theorem m_found_L {L : Nat → Nat → Int64} {D : DD} {t : Nat} {K : Hp → Prop} {Q : Int32 → Hp → Prop} (ht : t < 40) : ∀ (n j : Nat) (I : Nat → Nat → Int32), I 400 12 = nI t → j ≤ 32 → 33 ≤ n + j → K (fm (fun b k => if b = 414 ∧ 32 * t + j ≤ k ∧ k < 32 * t + 32 then 0 else I b k) L D) → wp_X12_found_L18 400 K Q n (nI j) (fm I L D) := by
  intro n
  induction n with
  | zero => intro j I h0 h1 h2; omega
  | succ n ih =>
    intro j I h0 h1 h2 hw
    rw [wp_X12_found_L18]
    by_cases hj : j = 32
    · subst hj
      rw [if_pos (show (32 : Int32) ≤ nI 32 from by decide)]
      have e : (fun b k => if b = 414 ∧ 32 * t + 32 ≤ k ∧ k < 32 * t + 32 then 0 else I b k) = I := by
        funext b k; rw [if_neg (by omega)]
      rw [e] at hw; exact hw
    · rw [if_neg (show ¬ (32 : Int32) ≤ nI j from nI_ge (b := 32) (by omega) (by decide))]
      simp only [gK, gI, gL, gR_, g_stI, g_stL, forall_eq, true_and, ad_s, okA_s, okO_s, okN_s, i10, i00, if_true, if_false, reduceCtorEq, Kf_1, Kf_400, h0, ix32, Rf_400_13, Kf_414, nI_clamp (show 32 * t + j < 2 ^ 31 by omega), nI_1]
      refine ⟨vp_in_nI (by omega) (by decide), ih (j + 1) _ ((up2_o (by omega)).trans h0) (by omega) (by omega) ?_⟩
      have e : (fun b k => if b = 414 ∧ 32 * t + (j + 1) ≤ k ∧ k < 32 * t + 32 then 0 else (up2 I 414 (32 * t + j) 0) b k) = (fun b k => if b = 414 ∧ 32 * t + j ≤ k ∧ k < 32 * t + 32 then 0 else I b k) := by
        funext b k
        by_cases e1 : b = 414 ∧ 32 * t + (j + 1) ≤ k ∧ k < 32 * t + 32
        · rw [if_pos e1, if_pos (by omega)]
        · rw [if_neg e1]
          by_cases e2 : b = 414 ∧ k = 32 * t + j
          · rw [if_pos (by omega), e2.1, e2.2, up2_s]
          · rw [if_neg (by omega), up2_o e2]
      rw [e]; exact hw
theorem Kf_noball {D : DD} (h : D.nA < 40) : Kf D (160 + 2 * D.nA) = (0, 0) ∧ Kf D (160 + 2 * D.nA + 1) = (0, 0) := by
  unfold Kf K2
  constructor
  · simp only [if_neg (show ¬ 160 + 2 * D.nA < 20 by omega), if_neg (show ¬ 160 + 2 * D.nA < 84 by omega), if_neg (show ¬ 160 + 2 * D.nA < 100 by omega), if_neg (show ¬ 160 + 2 * D.nA < 112 by omega), if_neg (show ¬ 160 + 2 * D.nA < 120 by omega), if_neg (show ¬ 160 + 2 * D.nA < 152 by omega), if_neg (show ¬ 160 + 2 * D.nA < 160 by omega), if_pos (show 160 + 2 * D.nA < 240 by omega), if_neg (show ¬ (160 + 2 * D.nA - 160) / 2 < D.nA by omega)]
  · simp only [if_neg (show ¬ 160 + 2 * D.nA + 1 < 20 by omega), if_neg (show ¬ 160 + 2 * D.nA + 1 < 84 by omega), if_neg (show ¬ 160 + 2 * D.nA + 1 < 100 by omega), if_neg (show ¬ 160 + 2 * D.nA + 1 < 112 by omega), if_neg (show ¬ 160 + 2 * D.nA + 1 < 120 by omega), if_neg (show ¬ 160 + 2 * D.nA + 1 < 152 by omega), if_neg (show ¬ 160 + 2 * D.nA + 1 < 160 by omega), if_pos (show 160 + 2 * D.nA + 1 < 240 by omega), if_neg (show ¬ (160 + 2 * D.nA + 1 - 160) / 2 < D.nA by omega)]
theorem Rf_noball {D : DD} (h : D.nA < 40) (j : Nat) : Rf D (160 + 2 * D.nA + 1) j = none := by
  unfold Rf
  simp only [if_neg (show ¬ 160 + 2 * D.nA + 1 < 20 by omega), if_neg (show ¬ 160 + 2 * D.nA + 1 < 84 by omega), if_neg (show ¬ 160 + 2 * D.nA + 1 < 100 by omega), if_neg (show ¬ 160 + 2 * D.nA + 1 < 112 by omega), if_neg (show ¬ 160 + 2 * D.nA + 1 < 120 by omega), if_neg (show ¬ 160 + 2 * D.nA + 1 < 152 by omega), if_neg (show ¬ 160 + 2 * D.nA + 1 < 160 by omega), if_pos (show 160 + 2 * D.nA + 1 < 240 by omega)]
  rw [if_neg (by omega)]
/-- a new ball, told by both -/
theorem Inv_ball {n : Nat} {I M : Nat → Nat → Int32} {L L' : Nat → Nat → Int64} {D : DD} {gu : Option Nat} (h : InvI n I L D) (hn : n < 100000) (hA : D.nA < 40) (hgu : ∀ b, gu = some b → b < D.nB) (hL : CS L') (hB : CB M D)
    (mx : ∀ l k, ¬ Scr D l k → ¬ (l = 1 ∧ (k = 5 ∨ k = 6)) → ¬ (120 ≤ l ∧ l < 152) → ¬ (l = 160 + 2 * D.nA ∨ l = 160 + 2 * D.nA + 1) → ¬ (407 ≤ l ∧ l ≤ 412) → ¬ (l = 414 ∧ 32 * D.nA ≤ k ∧ k < 32 * D.nA + 32) → ¬ ((l = 415 ∨ l = 416 ∨ l = 417) ∧ k = D.nA) → ¬ (l = 400 ∧ (k = 12 ∨ k = 17)) → M l k = I l k)
    (m5 : M 1 5 = nI (D.nA + 1)) (m6 : M 1 6 = nI (nFound D D.nA + (if gu = none then 1 else 0))) (m12 : M 400 12 = nI (D.nA + 1)) (m17 : M 400 17 = I 400 17 + 1)
    (mr : ∀ j, j < 32 → M (160 + 2 * D.nA + 1) j = M 414 (32 * D.nA + j) ∧ (-1 ≤ M 414 (32 * D.nA + j) ∧ M 414 (32 * D.nA + j) ≤ 63)) (mn : M (160 + 2 * D.nA) 0 = nI D.nA) (mg : M 415 D.nA = gunI gu) (ms : M (160 + 2 * D.nA) 2 = M 416 D.nA) (mo : M (160 + 2 * D.nA) 3 = M 417 D.nA) : Inv (n + 1) (fm M L' (D.addA gu)) := by
  have hD := h.1
  have nL6 := h.nL6
  have t0 : D.tx 0 < 8 := tx_lt hD (by omega)
  obtain ⟨c1, c2, c3, c4, c5, c6, c7, c8, c9, c10, c11⟩ := h.2.1
  have mT : ∀ r, r < 7 → TSame I M r := fun r hr => ⟨mx _ _ (by unfold Scr; omega) (by omega) (by omega) (by omega) (by omega) (by omega) (by omega) (by omega), fun i hi => ⟨mx _ _ (by unfold Scr; omega) (by omega) (by omega) (by omega) (by omega) (by omega) (by omega) (by omega), mx _ _ (by unfold Scr; omega) (by omega) (by omega) (by omega) (by omega) (by omega) (by omega) (by omega), mx _ _ (by unfold Scr; omega) (by omega) (by omega) (by omega) (by omega) (by omega) (by omega) (by omega), mx _ _ (by unfold Scr; omega) (by omega) (by omega) (by omega) (by omega) (by omega) (by omega) (by omega)⟩, fun k hk => ⟨mx _ _ (by unfold Scr; omega) (by omega) (by omega) (by omega) (by omega) (by omega) (by omega) (by omega), mx _ _ (by unfold Scr; omega) (by omega) (by omega) (by omega) (by omega) (by omega) (by omega) (by omega)⟩⟩
  have V := CKV (I' := M) (gu := (D.addA gu).2.1) (a0 := D.nA + 1) h hn D.nA m17 (mx 400 49 (by unfold Scr; omega) (by omega) (by omega) (by omega) (by omega) (by omega) (by omega) (by omega)) (fun a ha t ht => mx 414 (32 * a + t) (by unfold Scr; omega) (by omega) (by omega) (by omega) (by omega) (by omega) (by omega) (by omega)) (fun l => mx 447 l (by unfold Scr; omega) (by omega) (by omega) (by omega) (by omega) (by omega) (by omega) (by omega)) mT (fun l a c hl ha hc => by
    rw [mx (240 + 2 * l + 1) (40 * a + c) (by unfold Scr; omega) (by omega) (by omega) (by omega) (by omega) (by omega) (by omega) (by omega)]
    by_cases e : a = D.nA ∨ c = D.nA
    · rw [if_pos e]
      exact (h.2.2.2.2.2.2.2.2.2.2.2.1 l a c hl ha hc).1 (by omega)
    · rw [if_neg e]) (by omega) (by omega)
  refine ⟨_, _, _, rfl, InvI_D3 (a := D.nA + 1) (gu := (D.addA gu).2.1) (L' := L') h ⟨?_, ?_, hB, ?_, V⟩ hL (fun l k h1 h2 => ?_)⟩
  · obtain ⟨d1, d2, d3, d4, d5, d6, d7, d8, d9⟩ := hD
    refine ⟨d1, d2, by show D.nA + 1 ≤ 40; omega, d4, d5, fun i b hi hg => ?_, fun k hk => ?_, d8, d9⟩
    · have hi : i < D.nA + 1 := hi
      have hg : (if i = D.nA then gu else D.gun i) = some b := hg
      by_cases e : i = D.nA
      · rw [if_pos e] at hg; exact hgu b hg
      · rw [if_neg e] at hg; exact d6 i b (by omega) hg
    · obtain ⟨q1, q2, q3⟩ := d7 k hk
      exact ⟨by show D.pa k < D.nA + 1; omega, by show D.pb k < D.nA + 1; omega, q3⟩
  · refine ⟨?_, ?_, ?_, ?_, m5, m12, ?_, ?_, ?_, ?_, ?_⟩
    · rw [mx _ _ (by unfold Scr; omega) (by omega) (by omega) (by omega) (by omega) (by omega) (by omega) (by omega)]; exact c1
    · rw [mx _ _ (by unfold Scr; omega) (by omega) (by omega) (by omega) (by omega) (by omega) (by omega) (by omega)]; exact c2
    · rw [mx _ _ (by unfold Scr; omega) (by omega) (by omega) (by omega) (by omega) (by omega) (by omega) (by omega)]; exact c3
    · rw [mx _ _ (by unfold Scr; omega) (by omega) (by omega) (by omega) (by omega) (by omega) (by omega) (by omega)]; exact c4
    · rw [mx _ _ (by unfold Scr; omega) (by omega) (by omega) (by omega) (by omega) (by omega) (by omega) (by omega)]; exact c7
    · rw [mx _ _ (by unfold Scr; omega) (by omega) (by omega) (by omega) (by omega) (by omega) (by omega) (by omega)]; exact c8
    · rw [mx _ _ (by unfold Scr; omega) (by omega) (by omega) (by omega) (by omega) (by omega) (by omega) (by omega)]; exact c9
    · rw [mx _ _ (by unfold Scr; omega) (by omega) (by omega) (by omega) (by omega) (by omega) (by omega) (by omega)]; exact c10
    · refine m6.trans (congrArg nI ?_)
      show _ = nFound (D.addA gu) D.nA + (if (D.addA gu).gun D.nA = none then 1 else 0)
      have e : (D.addA gu).gun D.nA = gu := if_pos rfl
      rw [e, nFound_cg (D := D) (D' := D.addA gu) D.nA (fun i hi => if_neg (by omega))]
  · intro i hi
    have hi : i < D.nA + 1 := hi
    have eg : (D.addA gu).gun i = if i = D.nA then gu else D.gun i := rfl
    show _ ∧ _ ∧ M 415 i = gunI ((D.addA gu).gun i) ∧ _ ∧ _
    rw [eg]
    by_cases e : i = D.nA
    · subst e
      rw [if_pos rfl]
      exact ⟨mr, mn, mg, ms, mo⟩
    · obtain ⟨w1, w2, w3, w4, w5⟩ := h.2.2.2.2.2.1 i (by omega)
      rw [if_neg e]
      have a1 : ∀ l k, 160 ≤ l → l < 160 + 2 * D.nA → M l k = I l k := fun l k z1 z2 => mx _ _ (by unfold Scr; omega) (by omega) (by omega) (by omega) (by omega) (by omega) (by omega) (by omega)
      refine ⟨fun j hj => ?_, ?_, ?_, ?_, ?_⟩
      · rw [a1 _ _ (by omega) (by omega), mx 414 _ (by unfold Scr; omega) (by omega) (by omega) (by omega) (by omega) (by omega) (by omega) (by omega)]; exact w1 j hj
      · rw [a1 _ _ (by omega) (by omega)]; exact w2
      · rw [mx 415 _ (by unfold Scr; omega) (by omega) (by omega) (by omega) (by omega) (by omega) (by omega) (by omega)]; exact w3
      · rw [a1 _ _ (by omega) (by omega), mx 416 _ (by unfold Scr; omega) (by omega) (by omega) (by omega) (by omega) (by omega) (by omega) (by omega)]; exact w4
      · rw [a1 _ _ (by omega) (by omega), mx 417 _ (by unfold Scr; omega) (by omega) (by omega) (by omega) (by omega) (by omega) (by omega) (by omega)]; exact w5
  · unfold Xs_D3 at h2
    exact mx l k h1 (by omega) (by omega) (by omega) (by omega) (by omega) (by omega) (by omega)
set_option maxHeartbeats 2000000 in
theorem pair_found {n : Nat} {g : Hp} (hI : Inv n g) (hn : n < 100000) : wp_X11_found 1 g (fun r h1 => wp_X12_found 400 h1 (fun r' h2 => r' = r ∧ Inv (n + 1) h2)) := by
  obtain ⟨I, L, D, rfl, h⟩ := hI
  have hD := h.1
  have nA40 := h.nA40
  obtain ⟨c1, c2, c3, c4, c5, c6, c7, c8, c9, c10, c11⟩ := h.2.1
  unfold wp_X11_found
  simp only [gK, gI, gL, gR_, g_stI, g_stL, forall_eq, true_and, ad_s, okA_s, okO_s, okN_s, i10, i00, if_true, if_false, reduceCtorEq, Kf_1, Kf_400, c5, Rf_1_4]
  by_cases hA : D.nA = 40
  · rw [if_neg (show ¬ nI D.nA < (40 : Int32) by rw [hA]; decide)]
    unfold wp_X12_found
    have e2 : (up2 I 400 0 0) 400 12 = (40 : Int32) := by rw [up2_o (by omega), c6, hA]; rfl
    simp only [gK, gI, gL, gR_, g_stI, g_stL, forall_eq, true_and, ad_s, okA_s, okO_s, okN_s, i10, i00, if_true, if_false, reduceCtorEq, Kf_1, Kf_400, e2]
    exact Inv_told h
  · have hA : D.nA < 40 := by omega
    rw [if_pos (show nI D.nA < (40 : Int32) from nI_lt (b := 40) hA (by decide))]
    obtain ⟨z1, z2⟩ := Kf_noball hA
    refine ⟨okP_some (by rw [gK, Kf_1]; decide), okP_some (by rw [gK, Kf_4]; decide), 160 + 2 * D.nA, by rw [z1], ?_⟩
    rw [fm_raw]
    unfold wp_X0_init wp_X0_init_J27
    have rnb := Rf_noball hA
    generalize hq : 160 + 2 * D.nA = q at z1 z2 rnb ⊢
    have u1 : ∀ (K : Nat → Nat × Nat) v, upK K q v 1 = K 1 := fun K v => upK_o (by omega)
    have u4 : ∀ (K : Nat → Nat × Nat) v, upK K q v 4 = K 4 := fun K v => upK_o (by omega)
    have u2 : ∀ (K : Nat → Nat × Nat) v, upK K (q + 1) v 1 = K 1 := fun K v => upK_o (by omega)
    have u3 : ∀ (K : Nat → Nat × Nat) v, upK K (q + 1) v 4 = K 4 := fun K v => upK_o (by omega)
    have u5 : ∀ (K : Nat → Nat × Nat) v, upK K (q + 1) v q = K q := fun K v => upK_o (by omega)
    have u6 : ∀ (K : Nat → Nat × Nat) v, upK K q v (q + 1) = K (q + 1) := fun K v => upK_o (by omega)
    simp only [rI, rL, rR, rK, raw_stI, raw_stL, raw_stR, raw_alc, upK_s, forall_eq, true_and, ad_s, okA_s, okO_s, okN_s, i10, i00, if_true, if_false, reduceCtorEq, u1, Kf_1]
    refine ⟨okP_some (by rw [rK, u1, Kf_1]; decide), okP_some (by rw [rK, upK_s]; exact Nat.succ_ne_zero _), okP_some (by rw [rK, u4, Kf_4]; decide), okP_none, okP_some (by rw [rK, upK_s]; exact Nat.succ_ne_zero _), okP_none, q + 1, by rw [u6, z2], ?_⟩
    simp only [rI, rL, rR, rK, raw_stI, raw_stL, raw_stR, raw_alc, upK_s, forall_eq, true_and, ad_s, okA_s, okO_s, okN_s, i10, i00, if_true, if_false, reduceCtorEq, u5]
    refine ⟨okP_some (by rw [rK, upK_s]; exact Nat.succ_ne_zero _), ?_⟩
    simp only [rI, rL, rR, rK, raw_stI, raw_stL, raw_stR, raw_alc, upK_s, forall_eq, true_and, ad_s, okA_s, okO_s, okN_s, i10, i00, if_true, if_false, reduceCtorEq, u1, u2, u3, u4, u5, Kf_1, Kf_4, nI_clamp (show D.nA < 2 ^ 31 by omega), vp_in_nI (show D.nA < 40 by omega) (show 40 < 2 ^ 31 by decide)]
    rw [raw_fm (D := D.addA none)]
    · generalize hL' : up1 (up1 L q 0) (q + 1) 0 = L'
      generalize hJ0 : up1 (up2 (up2 (up2 (up1 I q 0) q 0 _) q 2 (-1)) q 3 (-1)) (q + 1) 0 = J0
      have a0 : ∀ l k, l ≠ q → l ≠ q + 1 → J0 l k = I l k := by
        intro l k a1 a2
        rw [← hJ0, up1_o a2, up2_o (by omega), up2_o (by omega), up2_o (by omega), up1_o a1]
      have a1 : J0 q 0 = nI D.nA := by
        rw [← hJ0, up1_o (by omega), up2_o (by omega), up2_o (by omega), up2_s, up1_o (by omega)]; exact c5
      have a2 : J0 q 2 = -1 ∧ J0 q 3 = -1 := by
        rw [← hJ0]
        exact ⟨by rw [up1_o (by omega), up2_o (by omega), up2_s], by rw [up1_o (by omega), up2_s]⟩
      have a3 : ∀ k, J0 (q + 1) k = 0 := fun k => by rw [← hJ0, up1_s]
      generalize hJ : up2 (up2 J0 1 5 _) 1 6 _ = J
      have j0 : ∀ l k, l ≠ q → l ≠ q + 1 → ¬ (l = 1 ∧ (k = 5 ∨ k = 6)) → J l k = I l k := by
        intro l k b1 b2 b3
        rw [← hJ, up2_o (by omega), up2_o (by omega), a0 l k b1 b2]
      have j5 : J 1 5 = nI (D.nA + 1) := by
        rw [← hJ, up2_o (by omega), up2_s, a0 1 5 (by omega) (by omega), c5, nI_1]
      have j6 : J 1 6 = nI (nFound D D.nA + 1) := by
        rw [← hJ, up2_s, up2_o (by omega), a0 1 6 (by omega) (by omega), c11, nI_1]
      have jq : ∀ k, J q k = J0 q k := fun k => by rw [← hJ, up2_o (by omega), up2_o (by omega)]
      have jr : ∀ k, J (q + 1) k = 0 := fun k => by rw [← hJ, up2_o (by omega), up2_o (by omega), a3]
      have k0 : (up2 J 400 0 0) 400 12 = nI D.nA := by rw [up2_o (by omega), j0 400 12 (by omega) (by omega) (by omega)]; exact c6
      unfold wp_X12_found
      simp only [gK, gI, gL, gR_, g_stI, g_stL, forall_eq, true_and, ad_s, okA_s, okO_s, okN_s, i10, i00, if_true, if_false, reduceCtorEq, Kf_1, Kf_400, k0]
      rw [if_neg (show ¬ nI D.nA = (40 : Int32) from fun e => by have := (nI_eq (b := 40) (by omega) (by decide)).mp e; omega)]
      refine m_found_L hA fuel 0 _ k0 (by omega) (by have := fuel_ge; omega) ?_
      generalize hM0 : (fun b k => if b = 414 ∧ 32 * D.nA + 0 ≤ k ∧ k < 32 * D.nA + 32 then (0 : Int32) else (up2 J 400 0 0) b k) = M0
      have m0 : ∀ l k, ¬ (l = 414 ∧ 32 * D.nA ≤ k ∧ k < 32 * D.nA + 32) → M0 l k = (up2 J 400 0 0) l k := by
        intro l k a; rw [← hM0]; dsimp only; rw [if_neg (by omega)]
      have m1 : ∀ k, k < 32 → M0 414 (32 * D.nA + k) = 0 := by
        intro k hk; rw [← hM0]; dsimp only; rw [if_pos (by omega)]
      have e0 : M0 400 12 = nI D.nA := (m0 400 12 (by omega)).trans k0
      have e1 : ∀ v, (up2 M0 415 D.nA v) 400 12 = nI D.nA := fun v => (up2_o (by omega)).trans e0
      have e2 : ∀ v w, (up2 (up2 M0 415 D.nA v) 416 D.nA w) 400 12 = nI D.nA := fun v w => (up2_o (by omega)).trans (e1 v)
      have e3 : ∀ v w u, (up2 (up2 (up2 M0 415 D.nA v) 416 D.nA w) 417 D.nA u) 400 12 = nI D.nA := fun v w u => (up2_o (by omega)).trans (e2 v w)
      have e4 : ∀ (K : Nat → Nat → Int32) v w, (up2 (up2 K 400 12 v) 400 17 w) 400 12 = v := fun K v w => (up2_o (by omega)).trans up2_s
      simp only [gK, gI, gL, gR_, g_stI, g_stL, forall_eq, true_and, ad_s, okA_s, okO_s, okN_s, i10, i00, if_true, if_false, reduceCtorEq, Kf_1, Kf_400, Rf_400_14, Rf_400_15, Rf_400_16, Kf_415, Kf_416, Kf_417, e0, e1, e2, e3, nI_clamp (show D.nA < 2 ^ 31 by omega), vp_in_nI (show D.nA < 40 by omega) (show 40 < 2 ^ 31 by decide), nI_1, e4, j5, nI_pred]
      generalize hM : up2 (up2 (up2 (up2 (up2 M0 415 D.nA (-1)) 416 D.nA (-1)) 417 D.nA (-1)) 400 12 (nI (D.nA + 1))) 400 17 _ = M
      have mx0 : ∀ l k, ¬ ((l = 415 ∨ l = 416 ∨ l = 417) ∧ k = D.nA) → ¬ (l = 400 ∧ (k = 12 ∨ k = 17)) → M l k = M0 l k := by
        intro l k b1 b2
        rw [← hM, up2_o (by omega), up2_o (by omega), up2_o (by omega), up2_o (by omega), up2_o (by omega)]
      have mx1 : ∀ l k, ¬ (l = 414 ∧ 32 * D.nA ≤ k ∧ k < 32 * D.nA + 32) → ¬ ((l = 415 ∨ l = 416 ∨ l = 417) ∧ k = D.nA) → ¬ (l = 400 ∧ (k = 0 ∨ k = 12 ∨ k = 17)) → M l k = J l k := by
        intro l k b1 b2 b3
        rw [mx0 l k b2 (by omega), m0 l k b1, up2_o (by omega)]
      subst hq
      refine Inv_ball h hn hA (fun b hb => by cases hb) (fun s hs => ?_) ?_ (fun l k b0 b1 b2 b3 b4 b5 b6 b7 => ?_) ?_ ?_ ?_ ?_ (fun j hj => ?_) ?_ ?_ ?_ ?_
      · rw [← hL', up1_o (by omega), up1_o (by omega), up1_o (by omega), up1_o (by omega)]
        exact h.2.2.2.2.2.2.2.2.1 s hs
      · intro i hi
        have := h.1.2.1
        obtain ⟨w1, w2, w3, w4, w5, w6, w7, w8⟩ := h.2.2.2.2.1 i hi
        have ha : ∀ l k, 120 ≤ l → l < 152 → M l k = I l k := fun l k a1 a2 => (mx1 l k (by omega) (by omega) (by omega)).trans (j0 l k (by omega) (by omega) (by omega))
        have hb : ∀ l k, 407 ≤ l → l < 413 → M l k = I l k := fun l k a1 a2 => (mx1 l k (by omega) (by omega) (by omega)).trans (j0 l k (by omega) (by omega) (by omega))
        refine ⟨fun j hj => ?_, ?_, ?_, ?_, ?_, ?_, ?_, ?_⟩
        · rw [ha _ _ (by omega) (by omega), hb _ _ (by omega) (by omega)]; exact w1 j hj
        · rw [ha _ _ (by omega) (by omega)]; exact w2
        · rw [ha _ _ (by omega) (by omega), hb _ _ (by omega) (by omega)]; exact w3
        · rw [hb _ _ (by omega) (by omega)]; exact w4
        · rw [ha _ _ (by omega) (by omega), hb _ _ (by omega) (by omega)]; exact w5
        · rw [ha _ _ (by omega) (by omega), hb _ _ (by omega) (by omega)]; exact w6
        · rw [ha _ _ (by omega) (by omega), hb _ _ (by omega) (by omega)]; exact w7
        · rw [ha _ _ (by omega) (by omega), hb _ _ (by omega) (by omega)]; exact w8
      · unfold Scr at b0
        rw [mx1 l k b5 b6 (by omega), j0 l k (by omega) (by omega) b1]
      · rw [mx1 1 5 (by omega) (by omega) (by omega)]; exact j5
      · rw [mx1 1 6 (by omega) (by omega) (by omega)]; exact j6
      · rw [← hM, up2_o (by omega), up2_s]
      · rw [← hM, up2_s, up2_o (by omega), up2_o (by omega), up2_o (by omega), up2_o (by omega), m0 400 17 (by omega), up2_o (by omega), j0 400 17 (by omega) (by omega) (by omega)]
      · rw [mx1 _ _ (by omega) (by omega) (by omega), jr, mx0 _ _ (by omega) (by omega), m1 j hj]
        exact ⟨rfl, by decide, by decide⟩
      · rw [mx1 _ _ (by omega) (by omega) (by omega), jq]; exact a1
      · rw [← hM, up2_o (by omega), up2_o (by omega), up2_o (by omega), up2_o (by omega), up2_s]; rfl
      · rw [mx1 _ _ (by omega) (by omega) (by omega), jq, a2.1, ← hM, up2_o (by omega), up2_o (by omega), up2_o (by omega), up2_s]
      · rw [mx1 _ _ (by omega) (by omega) (by omega), jq, a2.2, ← hM, up2_o (by omega), up2_o (by omega), up2_s]
    · funext c j
      rw [Rf_addA hA, hq]
      by_cases e1 : c = 4 ∧ j = D.nA
      · rw [if_pos e1, e1.1, e1.2, up2_s]
      · rw [if_neg e1, up2_o e1]
        by_cases e2 : c = q
        · subst e2
          rw [if_pos rfl]
          by_cases e3 : j = 4
          · subst e3; rw [up2_s]; rfl
          · rw [up2_o (by omega), up1_o (by omega)]
            by_cases e4 : j = 1
            · subst e4; rw [up2_s]; rfl
            · rw [up2_o (by omega), up1_s]
              split
              · exact absurd rfl e4
              · exact absurd rfl e3
              · rfl
        · rw [up2_o (by omega), if_neg e2]
          by_cases e3 : c = q + 1
          · subst e3
            rw [up1_s, rnb]
          · rw [up1_o e3, up2_o (by omega), up1_o e2]
    · funext c
      rw [Kf_addA hA, hq]
      by_cases e2 : c = q
      · subst e2; rw [u5, upK_s, if_pos rfl]
      · rw [if_neg e2]
        by_cases e3 : c = q + 1
        · subst e3; rw [upK_s, if_pos rfl]
        · rw [if_neg e3, upK_o e3, upK_o e2]
