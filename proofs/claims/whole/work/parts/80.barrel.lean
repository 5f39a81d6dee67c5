/-! barrel (my own) -/
section BA
variable {L : Nat → Nat → Int64} {D : DD}
theorem x_newBarrel {I : Nat → Nat → Int32} {q t : Nat} {x : Int32} (hq : q = 120 + 2 * D.nB) (hB : D.nB < 16) (z2 : Kf D (q + 1) = (0, 0)) (ht : t < D.nT) (nT6 : D.nT ≤ 6) {Q : Hp → Prop} (hQ : ∀ A : Nat → Nat → Int32, (∀ l k, l ≠ q → l ≠ q + 1 → A l k = I l k) → A q 0 = x → A q 1 = nI t → A q 2 = I (100 + 2 * t) 2 → (∀ j, A (q + 1) j = I (100 + 2 * t + 1) j) → A q 4 = I (100 + 2 * t) 1 → A q 5 = 0 → A q 6 = 0 → Q (raw A (up1 (up1 L q 0) (q + 1) 0) (up2 (up1 (up1 (Rf D) q none) (q + 1) none) q 3 (some (q + 1))) (upK (upK (Kf D) q (21, 0)) (q + 1) (1, 32)))) : wp_X1_init q x (nI t) (some (100 + 2 * t)) (raw (up1 I q 0) (up1 L q 0) (up1 (Rf D) q none) (upK (Kf D) q (21, 0))) Q := by
  have ut : ∀ (K : Nat → Nat × Nat) v, upK K q v (100 + 2 * t) = K (100 + 2 * t) := fun K v => upK_o (by omega)
  have ur : ∀ (K : Nat → Nat × Nat) v, upK K q v (100 + 2 * t + 1) = K (100 + 2 * t + 1) := fun K v => upK_o (by omega)
  have u6 : ∀ (K : Nat → Nat × Nat) v, upK K q v (q + 1) = K (q + 1) := fun K v => upK_o (by omega)
  have u5 : ∀ (K : Nat → Nat × Nat) v, upK K (q + 1) v q = K q := fun K v => upK_o (by omega)
  have us : ∀ (K : Nat → Nat × Nat) v, upK K (q + 1) v (100 + 2 * t) = K (100 + 2 * t) := fun K v => upK_o (by omega)
  have rt : ∀ (R : Nat → Nat → Option Nat), up1 R q none (100 + 2 * t) 0 = R (100 + 2 * t) 0 := fun R => up1_o (by omega)
  unfold wp_X1_init
  simp only [rI, rL, rR, rK, raw_stI, raw_stL, raw_stR, raw_alc, upK_s, forall_eq, true_and, ad_s, okA_s, okO_s, okN_s, i10, i00, if_true, if_false, reduceCtorEq, ut, ur, Kf_tool ht nT6, Kf_toolr ht nT6, rt, Rf_tool ht nT6]
  refine ⟨okP_some (by rw [rK, upK_s]; exact Nat.succ_ne_zero _), okP_some (by rw [rK, ut, Kf_tool ht nT6]; decide), q + 1, by rw [u6, z2], ?_⟩
  simp only [raw_cl, rI, rL, rR, rK, raw_stI, raw_stL, raw_stR, raw_alc, upK_s, forall_eq, true_and, ad_s, okA_s, okO_s, okN_s, i10, i00, if_true, if_false, reduceCtorEq, ur, Kf_toolr ht nT6, u5]
  refine ⟨okP_some (by rw [rK, upK_s]; exact Nat.succ_ne_zero _), ?_⟩
  simp only [rI, rL, rR, rK, raw_stI, raw_stL, raw_stR, raw_alc, upK_s, forall_eq, true_and, ad_s, okA_s, okO_s, okN_s, i10, i00, if_true, if_false, reduceCtorEq, us, ut, u5, Kf_tool ht nT6]
  refine hQ _ (fun l k a1 a2 => ?_) ?_ ?_ ?_ (fun j => ?_) ?_ ?_ ?_
  · rw [up2_o (by omega), if_neg a2, up2_o (by omega), up2_o (by omega), up2_o (by omega), up1_o a1]
  · rw [up2_o (by omega), if_neg (by omega), up2_o (by omega), up2_o (by omega), up2_s]
  · rw [up2_o (by omega), if_neg (by omega), up2_o (by omega), up2_s]
  · rw [up2_o (by omega), if_neg (by omega), up2_s, up2_o (by omega), up2_o (by omega), up1_o (by omega)]
  · rw [up2_o (by omega), if_pos rfl, up2_o (by omega), up2_o (by omega), up2_o (by omega), up1_o (by omega)]
  · rw [up2_s, if_neg (by omega), up2_o (by omega), up2_o (by omega), up2_o (by omega), up1_o (by omega)]
  · rw [up2_o (by omega), if_neg (by omega), up2_o (by omega), up2_o (by omega), up2_o (by omega), up1_s]
  · rw [up2_o (by omega), if_neg (by omega), up2_o (by omega), up2_o (by omega), up2_o (by omega), up1_s]
theorem m_bar_L31 {t b : Nat} (ht : t < 6) (hb : b < 16) {K : Hp → Prop} {Q : Int32 → Hp → Prop} : ∀ (N j : Nat) (I : Nat → Nat → Int32), j ≤ 32 → 33 ≤ N + j → (∀ I' : Nat → Nat → Int32, (∀ l k, ¬ (l = 407 ∧ 32 * b + j ≤ k ∧ k < 32 * b + 32) → I' l k = I l k) → (∀ i, j ≤ i → i < 32 → I' 407 (32 * b + i) = I 403 (32 * t + i)) → K (fm I' L D)) → wp_X12_barrel_L31 400 (nI t) (nI b) K Q N (nI j) (fm I L D) := by
  intro N
  induction N with
  | zero => intro j I h1 h2; omega
  | succ N ih =>
    intro j I h1 h2 hK
    rw [wp_X12_barrel_L31]
    by_cases e : j = 32
    · subst e
      rw [if_pos (show (32 : Int32) ≤ nI 32 from by decide)]
      exact hK I (fun _ _ _ => rfl) (fun i a1 a2 => by omega)
    · rw [if_neg (show ¬ (32 : Int32) ≤ nI j from nI_ge (b := 32) (by omega) (by decide))]
      simp only [gK, gI, gL, gR_, g_stI, g_stL, forall_eq, true_and, ad_s, okA_s, okO_s, okN_s, i10, i00, if_true, if_false, reduceCtorEq, Kf_1, Kf_400, Rf_400_2, Kf_403, Rf_400_6, Kf_407, ix32, vp_in_nI (show 32 * t + j < 192 by omega) (show 192 < 2 ^ 31 by decide), vp_in_nI (show 32 * b + j < 512 by omega) (show 512 < 2 ^ 31 by decide), nI_clamp (show 32 * t + j < 2 ^ 31 by omega), nI_clamp (show 32 * b + j < 2 ^ 31 by omega), nI_1]
      refine ih (j + 1) _ (by omega) (by omega) (fun I' f1 f2 => hK I' (fun l k z => ?_) (fun i a1 a2 => ?_))
      · rw [f1 l k (by omega), up2_o (by omega)]
      · by_cases ei : i = j
        · subst ei; rw [f1 _ _ (by omega), up2_s]
        · rw [f2 i (by omega) a2, up2_o (by omega)]
theorem m_bar_L177 {t : Nat} (ht : t < 6) {x2 : Int32} {K : Hp → Prop} {Q : Int32 → Hp → Prop} : ∀ (N j : Nat) (I : Nat → Nat → Int32), j ≤ 32 → 33 ≤ N + j → (∀ I' : Nat → Nat → Int32, (∀ l k, ¬ (l = 403 ∧ 32 * t + j ≤ k ∧ k < 32 * t + 32) → I' l k = I l k) → (∀ i, j ≤ i → i < 32 → I' 403 (32 * t + i) = I 445 i) → K (fm I' L D)) → wp_X12_barrel_L177 400 (nI t) x2 K Q N (nI j) (fm I L D) := by
  intro N
  induction N with
  | zero => intro j I h1 h2; omega
  | succ N ih =>
    intro j I h1 h2 hK
    rw [wp_X12_barrel_L177]
    by_cases e : j = 32
    · subst e
      rw [if_pos (show (32 : Int32) ≤ nI 32 from by decide)]
      exact hK I (fun _ _ _ => rfl) (fun i a1 a2 => by omega)
    · rw [if_neg (show ¬ (32 : Int32) ≤ nI j from nI_ge (b := 32) (by omega) (by decide))]
      simp only [gK, gI, gL, gR_, g_stI, g_stL, forall_eq, true_and, ad_s, okA_s, okO_s, okN_s, i10, i00, if_true, if_false, reduceCtorEq, Kf_1, Kf_400, Rf_400_2, Kf_403, Rf_400_44, Kf_445, ix32, vp_in_nI (show 32 * t + j < 192 by omega) (show 192 < 2 ^ 31 by decide), vp_in_nI (show j < 32 by omega) (show 32 < 2 ^ 31 by decide), nI_clamp (show 32 * t + j < 2 ^ 31 by omega), nI_clamp (show j < 2 ^ 31 by omega), nI_1]
      refine ih (j + 1) _ (by omega) (by omega) (fun I' f1 f2 => hK I' (fun l k z => ?_) (fun i a1 a2 => ?_))
      · rw [f1 l k (by omega), up2_o (by omega)]
      · by_cases ei : i = j
        · subst ei; rw [f1 _ _ (by omega), up2_s]
        · rw [f2 i (by omega) a2, up2_o (by omega)]
theorem x_tellShot {I : Nat → Nat → Int32} {a b c : Int32} {Q : Hp → Prop} (hQ : ∀ I' : Nat → Nat → Int32, (∀ l k, ¬ (l = 14 ∧ 5 ≤ k ∧ k < 8) → I' l k = I l k) → I' 14 5 = a → I' 14 6 = b → I' 14 7 = c → Q (fm I' L D)) : wp_X10_tellShot 13 a b c (fm I L D) Q := by
  unfold wp_X10_tellShot
  simp only [gK, gI, gL, gR_, g_stI, g_stL, forall_eq, true_and, ad_s, okA_s, okO_s, okN_s, i10, i00, if_true, if_false, reduceCtorEq, Kf_1, Kf_400, Kf_13, Rf_13_0, Kf_14, show vp_in (5 : Int32) 14 from vp_in_nI (n := 5) (by decide) (by decide), show vp_in (6 : Int32) 14 from vp_in_nI (n := 6) (by decide) (by decide), show vp_in (7 : Int32) 14 from vp_in_nI (n := 7) (by decide) (by decide), show (5 : Int32).toNatClampNeg = 5 from by decide, show (6 : Int32).toNatClampNeg = 6 from by decide, show (7 : Int32).toNatClampNeg = 7 from by decide]
  refine hQ _ (fun l k z => ?_) ?_ ?_ up2_s
  · rw [up2_o (by omega), up2_o (by omega), up2_o (by omega)]
  · rw [up2_o (by omega), up2_o (by omega), up2_s]
  · rw [up2_o (by omega), up2_s]
theorem Kf_nobar (h : D.nB < 16) : Kf D (120 + 2 * D.nB) = (0, 0) ∧ Kf D (120 + 2 * D.nB + 1) = (0, 0) := by
  unfold Kf K2
  constructor
  · simp only [if_neg (show ¬ 120 + 2 * D.nB < 20 by omega), if_neg (show ¬ 120 + 2 * D.nB < 84 by omega), if_neg (show ¬ 120 + 2 * D.nB < 100 by omega), if_neg (show ¬ 120 + 2 * D.nB < 112 by omega), if_neg (show ¬ 120 + 2 * D.nB < 120 by omega), if_pos (show 120 + 2 * D.nB < 152 by omega), if_neg (show ¬ (120 + 2 * D.nB - 120) / 2 < D.nB by omega)]
  · simp only [if_neg (show ¬ 120 + 2 * D.nB + 1 < 20 by omega), if_neg (show ¬ 120 + 2 * D.nB + 1 < 84 by omega), if_neg (show ¬ 120 + 2 * D.nB + 1 < 100 by omega), if_neg (show ¬ 120 + 2 * D.nB + 1 < 112 by omega), if_neg (show ¬ 120 + 2 * D.nB + 1 < 120 by omega), if_pos (show 120 + 2 * D.nB + 1 < 152 by omega), if_neg (show ¬ (120 + 2 * D.nB + 1 - 120) / 2 < D.nB by omega)]
theorem Rf_nobar (h : D.nB < 16) (j : Nat) : Rf D (120 + 2 * D.nB + 1) j = none := by
  unfold Rf
  simp only [if_neg (show ¬ 120 + 2 * D.nB + 1 < 20 by omega), if_neg (show ¬ 120 + 2 * D.nB + 1 < 84 by omega), if_neg (show ¬ 120 + 2 * D.nB + 1 < 100 by omega), if_neg (show ¬ 120 + 2 * D.nB + 1 < 112 by omega), if_neg (show ¬ 120 + 2 * D.nB + 1 < 120 by omega), if_pos (show 120 + 2 * D.nB + 1 < 152 by omega)]
  rw [if_neg (by omega)]
end BA
theorem text1 {n : Nat} {I : Nat → Nat → Int32} {L : Nat → Nat → Int64} {D : DD} (h : InvI n I L D) : ∃ n0, n0 ≤ 16 ∧ I 426 0 = nI n0 := by
  obtain ⟨k, z, t1, t2, t3, t4, t5, -⟩ := h.2.2.2.2.2.2.2.2.2.2.1.1
  exact ⟨k, t1, t5⟩
set_option maxHeartbeats 4000000 in
theorem pair_barrel {n : Nat} {g : Hp} (hI : Inv n g) (x1 : Int32) : wp_X11_barrel 1 x1 g (fun r h1 => wp_X12_barrel 400 x1 h1 (fun r' h2 => r' = r ∧ Inv (n + 1) h2)) := by
  obtain ⟨I, L, D, rfl, h⟩ := hI
  have hD := h.1
  have nT6 := hD.1
  have nB16 := hD.2.1
  have nL6 := h.nL6
  have htx := hD.2.2.2.2.2.2.2.1 1 (by omega)
  obtain ⟨c1, c2, c3, c4, c5, c6, c7, c8, c9, c10, c11⟩ := h.2.1
  have cT : (up2 I 400 0 0) 400 1 = nI D.nT := (up2_o (by omega)).trans c2
  have cB : (up2 I 400 0 0) 400 5 = nI D.nB := (up2_o (by omega)).trans c4
  obtain ⟨n0, hn0, e26⟩ := text1 h
  have hTR := h.2.2.2.2.2.2.2.2.2.2.1.1
  unfold wp_X11_barrel
  simp only [gK, gI, gL, gR_, g_stI, g_stL, forall_eq, true_and, ad_s, okA_s, okO_s, okN_s, i10, i00, if_true, if_false, reduceCtorEq, Kf_1, Kf_400, x_toolAt nT6]
  by_cases w1 : inN x1 D.nT
  · obtain ⟨t, ht, rfl⟩ := inN_of (by omega) w1
    simp only [gK, gI, gL, gR_, g_stI, g_stL, forall_eq, true_and, ad_s, okA_s, okO_s, okN_s, i10, i00, if_true, if_false, reduceCtorEq, Kf_1, Kf_400, if_pos w1, nI_clamp (show t < 2 ^ 31 by omega), c3, Rf_1_2]
    by_cases hB : D.nB = 16
    · rw [if_neg (show ¬ nI D.nB < (16 : Int32) by rw [hB]; decide)]
      unfold wp_X12_barrel
      simp only [gK, gI, gL, gR_, g_stI, g_stL, forall_eq, true_and, ad_s, okA_s, okO_s, okN_s, i10, i00, if_true, if_false, reduceCtorEq, Kf_1, Kf_400, m_isTool cT, if_pos w1, cB, if_pos (show nI D.nB = (16 : Int32) by rw [hB]; rfl)]
      exact Inv_told h
    · have hB : D.nB < 16 := by omega
      rw [if_pos (show nI D.nB < (16 : Int32) from nI_lt (b := 16) hB (by decide))]
      obtain ⟨z1, z2⟩ := Kf_nobar hB
      refine ⟨okP_some (by rw [gK, Kf_tool ht nT6]; decide), okP_some (by rw [gK, Kf_1]; decide), okP_some (by rw [gK, Kf_3]; decide), 120 + 2 * D.nB, by rw [z1], ?_⟩
      have rnb := Rf_nobar hB
      generalize hq : 120 + 2 * D.nB = q at z1 z2 rnb ⊢
      have u1 : ∀ (K : Nat → Nat × Nat) v, upK K q v 1 = K 1 := fun K v => upK_o (by omega)
      have u3 : ∀ (K : Nat → Nat × Nat) v, upK K q v 3 = K 3 := fun K v => upK_o (by omega)
      have ut : ∀ (K : Nat → Nat × Nat) v, upK K q v (100 + 2 * t) = K (100 + 2 * t) := fun K v => upK_o (by omega)
      have v3 : ∀ (K : Nat → Nat × Nat) v, upK K (q + 1) v 3 = K 3 := fun K v => upK_o (by omega)
      have u5 : ∀ (K : Nat → Nat × Nat) v, upK K (q + 1) v q = K q := fun K v => upK_o (by omega)
      have i3 : up1 I q 0 1 3 = nI D.nB := (up1_o (by omega)).trans c3
      rw [fm_raw]
      simp only [rI, rL, rR, rK, raw_stI, raw_stL, raw_stR, raw_alc, upK_s, forall_eq, true_and, ad_s, okA_s, okO_s, okN_s, i10, i00, if_true, if_false, reduceCtorEq, u1, Kf_1, i3]
      refine ⟨okP_some (by rw [rK, ut, Kf_tool ht nT6]; decide), okP_some (by rw [rK, u1, Kf_1]; decide), okP_some (by rw [rK, upK_s]; exact Nat.succ_ne_zero _), okP_some (by rw [rK, u3, Kf_3]; decide), ?_⟩
      refine x_newBarrel hq.symm hB z2 ht nT6 (fun A a0 a1 a2 a3 a4 a5 a6 a7 => ?_)
      simp only [rI, rL, rR, rK, raw_stI, raw_stL, raw_stR, raw_alc, upK_s, forall_eq, true_and, ad_s, okA_s, okO_s, okN_s, i10, i00, if_true, if_false, reduceCtorEq, u5, u3, v3, Kf_3, nI_clamp (show D.nB < 2 ^ 31 by omega), vp_in_nI (show D.nB < 16 by omega) (show 16 < 2 ^ 31 by decide)]
      generalize hR' : up2 (up2 (up1 (up1 (Rf D) q none) (q + 1) none) q 3 (some (q + 1))) 3 D.nB (some q) = R'
      generalize hK' : upK (upK (Kf D) q (21, 0)) (q + 1) (1, 32) = K'
      generalize hL' : up1 (up1 L q 0) (q + 1) 0 = L'
      have eR : R' = Rf D.addB := by
        rw [← hR']
        funext c j
        rw [Rf_addB hB, hq]
        by_cases e1 : c = 3 ∧ j = D.nB
        · rw [if_pos e1, e1.1, e1.2, up2_s]
        · rw [if_neg e1, up2_o e1]
          by_cases e2 : c = q
          · subst e2
            rw [if_pos rfl]
            by_cases e3 : j = 3
            · subst e3; rw [up2_s]; rfl
            · rw [up2_o (by omega), up1_o (by omega), up1_s, if_neg e3]
          · rw [up2_o (by omega), if_neg e2]
            by_cases e3 : c = q + 1
            · subst e3
              rw [up1_s, rnb]
            · rw [up1_o e3, up1_o e2]
      have eK : K' = Kf D.addB := by
        rw [← hK']
        funext c
        rw [Kf_addB hB, hq]
        by_cases e2 : c = q
        · subst e2; rw [u5, upK_s, if_pos rfl]
        · rw [if_neg e2]
          by_cases e3 : c = q + 1
          · subst e3; rw [upK_s, if_pos rfl]
          · rw [if_neg e3, upK_o e3, upK_o e2]
      subst eR
      subst eK
      have Lx : ∀ l k, l ≠ q → l ≠ q + 1 → L' l k = L l k := by
        intro l k b1 b2
        rw [← hL', up1_o b2, up1_o b1]
      have ht' : t < (D.addB).nT := ht
      have nT6' : (D.addB).nT ≤ 6 := nT6
      simp only [← fm_raw, gK, gI, gL, gR_, g_stI, g_stL, forall_eq, true_and, ad_s, okA_s, okO_s, okN_s, i10, i00, if_true, if_false, reduceCtorEq, Kf_1, Kf_400, Kf_tool ht' nT6', Rf_tool ht' nT6', Rf_1_15, Rf_1_14, Kf_13]
      generalize hJ0 : up2 (up2 A 1 3 _) (100 + 2 * t) 2 _ = J0
      have j0 : ∀ l k, l ≠ q → l ≠ q + 1 → ¬ (l = 1 ∧ k = 3) → ¬ (l = 100 + 2 * t ∧ k = 2) → J0 l k = I l k := by
        intro l k b1 b2 b3 b4
        rw [← hJ0, up2_o b4, up2_o b3, a0 l k b1 b2]
      have j3 : J0 1 3 = nI (D.nB + 1) := by
        rw [← hJ0, up2_o (by omega), up2_s, a0 1 3 (by omega) (by omega), c3, nI_1]
      have jc : J0 (100 + 2 * t) 2 = I (100 + 2 * t) 2 + 1 := by
        rw [← hJ0, up2_s, up2_o (by omega), a0 _ _ (by omega) (by omega)]
      have jq : ∀ l k, l = q ∨ l = q + 1 → J0 l k = A l k := by
        intro l k z
        rw [← hJ0, up2_o (by omega), up2_o (by omega)]
      refine x_tellShot (fun J1 f1 g5 g6 g7 => ?_)
      have kT : Kf D.addB (20 + 8 * D.tx 1) = (25, 0) := Kf_text (D := D.addB) (r := 0) (t := D.tx 1) htx nL6 (by decide)
      simp only [gK, gI, gL, gR_, g_stI, g_stL, forall_eq, true_and, ad_s, okA_s, okO_s, okN_s, i10, i00, if_true, if_false, reduceCtorEq, Kf_1, Kf_400, Kf_tool ht' nT6', Rf_tool ht' nT6', Rf_1_15, Rf_1_14, kT]
      obtain ⟨wt1, wt2, wt3⟩ := h.2.2.1 t ht
      have b8 := tx_lt hD (show 1 < 2 + D.nL by omega)
      have fr1 : ∀ l k, l ≠ q → l ≠ q + 1 → ¬ (l = 1 ∧ k = 3) → ¬ (l = 100 + 2 * t ∧ k = 2) → l ≠ 14 → J1 l k = I l k := fun l k b1 b2 b3 b4 b5 => (f1 l k (by omega)).trans (j0 l k b1 b2 b3 b4)
      have T1 : TR J1 (D.tx 1) 0 0 8 0 3 := TR_cg hTR ⟨fr1 _ _ (by omega) (by omega) (by omega) (by omega) (by omega), fun i hi => ⟨fr1 _ _ (by omega) (by omega) (by omega) (by omega) (by omega), fr1 _ _ (by omega) (by omega) (by omega) (by omega) (by omega), fr1 _ _ (by omega) (by omega) (by omega) (by omega) (by omega), fr1 _ _ (by omega) (by omega) (by omega) (by omega) (by omega)⟩, fun k hk => ⟨fr1 _ _ (by omega) (by omega) (by omega) (by omega) (by omega), fr1 _ _ (by omega) (by omega) (by omega) (by omega) (by omega)⟩⟩ (fun k => fr1 _ _ (by omega) (by omega) (by omega) (by omega) (by omega)) (fun j k _ _ => fr1 _ _ (by omega) (by omega) (by omega) (by omega) (by omega))
      have s1 : J1 (100 + 2 * t) 1 = I 404 t := (fr1 _ _ (by omega) (by omega) (by omega) (by omega) (by omega)).trans wt2
      have sc : J0 (100 + 2 * t) 2 = I 405 t + 1 := by rw [jc, wt3]
      rw [s1]
      rw [sc] at g5
      refine x_change (D := D.addB) (law := 0) (p := fun j => I 403 (32 * t + j)) (n0 := n0) htx nL6 T1 ((fr1 _ _ (by omega) (by omega) (by omega) (by omega) (by omega)).trans e26) hn0 (by decide) (Kf_toolr ht' nT6') (by omega) (fun j hj => (fr1 _ _ (by omega) (by omega) (by omega) (by omega) (by omega)).trans (wt1 j hj).1) g5 g6 g7 (fun J2 f2 r2 _ _ _ => ?_)
      generalize hNH : nhF J1 (fun j => I 403 (32 * t + j)) (I 405 t + 1) 0 0 (nI 0) (I 404 t) n0 = NH at r2
      have eNH : NH = nhF I (fun j => I 403 (32 * t + j)) (I 405 t + 1) 0 0 (nI 0) (I 404 t) n0 := by
        rw [← hNH]
        funext j
        exact nhF_fun (fun l a1 a2 => funext fun k => fr1 l k (by omega) (by omega) (by omega) (by omega) (by omega)) _ _ _ _ _ _ _ _
      have NHin : ∀ j, j < 32 → inN (NH j) 64 := fun j hj => by
        rw [eNH]
        exact hgL_in (wt1 j hj).2 _ _
      have e13 : J2 1 3 = nI (D.nB + 1) := by rw [f2 _ _ (by omega), f1 _ _ (by omega)]; exact j3
      simp only [gK, gI, gL, gR_, g_stI, g_stL, forall_eq, true_and, ad_s, okA_s, okO_s, okN_s, i10, i00, if_true, if_false, reduceCtorEq, Kf_1, Kf_400, Kf_tool ht' nT6']
      generalize hJ : up2 J2 (100 + 2 * t) 1 (drN (I 404 t) 32) = J
      have jx : ∀ l k, l ≠ q → l ≠ q + 1 → ¬ (l = 1 ∧ k = 3) → ¬ (l = 100 + 2 * t ∧ (k = 1 ∨ k = 2)) → l ≠ 100 + 2 * t + 1 → l ≠ 14 → l ≠ 15 → l ≠ 20 + 8 * D.tx 1 + 6 → J l k = I l k := by
        intro l k b1 b2 b3 b4 b5 b6 b7 b8
        rw [← hJ, up2_o (by omega), f2 l k (by omega), fr1 l k b1 b2 b3 (by omega) b6]
      have jr : ∀ j, j < 32 → J (100 + 2 * t + 1) j = NH j := fun j hj => by rw [← hJ, up2_o (by omega)]; exact r2 j hj
      have js : J (100 + 2 * t) 1 = drN (I 404 t) 32 := by rw [← hJ, up2_s]
      have jcu : J (100 + 2 * t) 2 = I 405 t + 1 := by rw [← hJ, up2_o (by omega), f2 _ _ (by omega), f1 _ _ (by omega)]; exact sc
      have jqA : ∀ l k, l = q ∨ l = q + 1 → J l k = A l k := by
        intro l k z
        rw [← hJ, up2_o (by omega), f2 _ _ (by omega), f1 _ _ (by omega)]; exact jq l k z
      have j13 : J 1 3 = nI (D.nB + 1) := by rw [← hJ, up2_o (by omega)]; exact e13
      rw [j13, nI_pred]
      -- the reference
      have kT0 : (up2 J 400 0 0) 400 1 = nI D.nT := by rw [up2_o (by omega), jx 400 1 (by omega) (by omega) (by omega) (by omega) (by omega) (by omega) (by omega) (by omega)]; exact c2
      have kB0 : (up2 J 400 0 0) 400 5 = nI D.nB := by rw [up2_o (by omega), jx 400 5 (by omega) (by omega) (by omega) (by omega) (by omega) (by omega) (by omega) (by omega)]; exact c4
      unfold wp_X12_barrel
      simp only [gK, gI, gL, gR_, g_stI, g_stL, forall_eq, true_and, ad_s, okA_s, okO_s, okN_s, i10, i00, if_true, if_false, reduceCtorEq, Kf_1, Kf_400, m_isTool kT0, if_pos w1, kB0]
      rw [if_neg (show ¬ nI D.nB = (16 : Int32) from fun z => by have := (nI_eq (b := 16) (by omega) (by decide)).mp z; omega)]
      refine m_bar_L31 (show t < 6 by omega) hB fuel 0 _ (by omega) (by have := fuel_ge; omega) (fun M1 m1 m1r => ?_)
      have n5 : (5 : Int32).toNatClampNeg = 5 := by decide
      have n6 : (6 : Int32).toNatClampNeg = 6 := by decide
      have n7 : (7 : Int32).toNatClampNeg = 7 := by decide
      have p5 : vp_in (5 : Int32) 14 := vp_in_nI (n := 5) (by decide) (by decide)
      have p6 : vp_in (6 : Int32) 14 := vp_in_nI (n := 6) (by decide) (by decide)
      have p7 : vp_in (7 : Int32) 14 := vp_in_nI (n := 7) (by decide) (by decide)
      have e32 : (32 : Int32) * nI t = nI (32 * t) := by rw [show (32 : Int32) = nI 32 from rfl, pk_mul]
      simp only [gK, gI, gL, gR_, g_stI, g_stL, forall_eq, true_and, ad_s, okA_s, okO_s, okN_s, i10, i00, if_true, if_false, reduceCtorEq, Kf_1, Kf_400, Rf_400_2, Rf_400_3, Rf_400_4, Rf_400_7, Rf_400_8, Rf_400_9, Rf_400_10, Rf_400_11, Rf_400_41, Kf_404, Kf_405, Kf_408, Kf_409, Kf_410, Kf_411, Kf_412, Kf_442, vp_in_nI (show t < 6 by omega) (show 6 < 2 ^ 31 by decide), vp_in_nI (show D.nB < 16 by omega) (show 16 < 2 ^ 31 by decide), nI_clamp (show t < 2 ^ 31 by omega), nI_clamp (show D.nB < 2 ^ 31 by omega), n5, n6, n7, p5, p6, p7, e32]
      generalize hM : up2 (up2 (up2 (up2 (up2 (up2 (up2 (up2 (up2 (up2 M1 408 D.nB _) 409 D.nB _) 410 D.nB _) 411 D.nB 0) 412 D.nB 0) 405 t _) 442 5 _) 442 6 0) 442 7 0) 400 43 _ = M
      have m1x : ∀ l k, ¬ (l = 407 ∧ 32 * D.nB ≤ k ∧ k < 32 * D.nB + 32) → ¬ (l = 400 ∧ k = 0) → M1 l k = J l k := by
        intro l k b1 b2
        rw [m1 l k (by omega), up2_o b2]
      have jm : ∀ l k, 401 ≤ l → J l k = I l k := fun l k z => jx l k (by omega) (by omega) (by omega) (by omega) (by omega) (by omega) (by omega) (by omega)
      have mx : ∀ l k, ¬ (l = 407 ∧ 32 * D.nB ≤ k ∧ k < 32 * D.nB + 32) → ¬ (l = 400 ∧ (k = 0 ∨ k = 43)) → ¬ (408 ≤ l ∧ l ≤ 412 ∧ k = D.nB) → ¬ (l = 405 ∧ k = t) → l ≠ 442 → M l k = J l k := by
        intro l k b1 b2 b3 b4 b5
        rw [← hM, up2_o (by omega), up2_o (by omega), up2_o (by omega), up2_o (by omega), up2_o (by omega), up2_o (by omega), up2_o (by omega), up2_o (by omega), up2_o (by omega), up2_o (by omega), m1x l k b1 (by omega)]
      have m408 : M 408 D.nB = I 404 t := by
        rw [← hM, up2_o (by omega), up2_o (by omega), up2_o (by omega), up2_o (by omega), up2_o (by omega), up2_o (by omega), up2_o (by omega), up2_o (by omega), up2_o (by omega), up2_s, m1x _ _ (by omega) (by omega), jm _ _ (by omega)]
      have m409 : M 409 D.nB = nI t := by
        rw [← hM, up2_o (by omega), up2_o (by omega), up2_o (by omega), up2_o (by omega), up2_o (by omega), up2_o (by omega), up2_o (by omega), up2_o (by omega), up2_s]
      have m410 : M 410 D.nB = I 405 t := by
        rw [← hM, up2_o (by omega), up2_o (by omega), up2_o (by omega), up2_o (by omega), up2_o (by omega), up2_o (by omega), up2_o (by omega), up2_s, up2_o (by omega), up2_o (by omega), m1x _ _ (by omega) (by omega), jm _ _ (by omega)]
      have m411 : M 411 D.nB = 0 := by
        rw [← hM, up2_o (by omega), up2_o (by omega), up2_o (by omega), up2_o (by omega), up2_o (by omega), up2_o (by omega), up2_s]
      have m412 : M 412 D.nB = 0 := by
        rw [← hM, up2_o (by omega), up2_o (by omega), up2_o (by omega), up2_o (by omega), up2_o (by omega), up2_s]
      have m405 : M 405 t = I 405 t + 1 := by
        rw [← hM, up2_o (by omega), up2_o (by omega), up2_o (by omega), up2_o (by omega), up2_s, up2_o (by omega), up2_o (by omega), up2_o (by omega), up2_o (by omega), up2_o (by omega), m1x _ _ (by omega) (by omega), jm _ _ (by omega)]
      have q5 : M 442 5 = I 405 t + 1 := by
        rw [← hM, up2_o (by omega), up2_o (by omega), up2_o (by omega), up2_s, up2_s, up2_o (by omega), up2_o (by omega), up2_o (by omega), up2_o (by omega), up2_o (by omega), m1x _ _ (by omega) (by omega), jm _ _ (by omega)]
      have q6 : M 442 6 = 0 := by rw [← hM, up2_o (by omega), up2_o (by omega), up2_s]
      have q7 : M 442 7 = 0 := by rw [← hM, up2_o (by omega), up2_s]
      have qs : M 400 43 = I 404 t := by
        rw [← hM, up2_s, up2_o (by omega), up2_o (by omega), up2_o (by omega), up2_o (by omega), up2_o (by omega), up2_o (by omega), up2_o (by omega), up2_o (by omega), up2_o (by omega), m1x _ _ (by omega) (by omega), jm _ _ (by omega)]
      have mI : ∀ l k, ¬ (l = 407 ∧ 32 * D.nB ≤ k ∧ k < 32 * D.nB + 32) → ¬ (408 ≤ l ∧ l ≤ 412 ∧ k = D.nB) → ¬ (l = 405 ∧ k = t) → l ≠ 442 → 401 ≤ l → M l k = I l k := fun l k b1 b2 b3 b4 b5 => (mx l k b1 (by omega) b2 b3 b4).trans (jm l k b5)
      have mt : ∀ l k, l = 20 + 8 * D.tx 1 ∨ (20 + 8 * D.tx 1 + 1 ≤ l ∧ l ≤ 20 + 8 * D.tx 1 + 5) → M l k = I l k := fun l k z => (mx l k (by omega) (by omega) (by omega) (by omega) (by omega)).trans (jx l k (by omega) (by omega) (by omega) (by omega) (by omega) (by omega) (by omega) (by omega))
      have T2 : TR M (D.tx 1) 0 0 8 0 3 := TR_cg hTR ⟨mI _ _ (by omega) (by omega) (by omega) (by omega) (by omega), fun i hi => ⟨mI _ _ (by omega) (by omega) (by omega) (by omega) (by omega), mI _ _ (by omega) (by omega) (by omega) (by omega) (by omega), mI _ _ (by omega) (by omega) (by omega) (by omega) (by omega), mI _ _ (by omega) (by omega) (by omega) (by omega) (by omega)⟩, fun k hk => ⟨mI _ _ (by omega) (by omega) (by omega) (by omega) (by omega), mI _ _ (by omega) (by omega) (by omega) (by omega) (by omega)⟩⟩ (fun k => mt _ _ (by omega)) (fun j k _ _ => mt _ _ (by omega))
      refine m_changes (law := 0) (bs := 32 * t) (m := 192) (p := fun j => I 403 (32 * t + j)) (sh := I 405 t + 1) (ru := 0) (so := 0) (s := I 404 t) (n0 := n0) T2 b8 ((mI _ _ (by omega) (by omega) (by omega) (by omega) (by omega)).trans e26) hn0 (by decide) Kf_403 (by omega) (by omega) (by omega) (fun j hj => mI _ _ (by omega) (by omega) (by omega) (by omega) (by omega)) q5 q6 q7 qs (fun M2 g2 gr gs _ _ _ => ?_)
      have gr' : ∀ j, j < 32 → M2 445 j = NH j := by
        intro j hj
        rw [gr j hj, eNH]
        exact nhF_fun (fun l a1 a2 => funext fun k => mI l k (by omega) (by omega) (by omega) (by omega) (by omega)) _ _ _ _ _ _ _ _
      refine m_bar_L177 (show t < 6 by omega) fuel 0 _ (by omega) (by have := fuel_ge; omega) (fun M3 g3 g3r => ?_)
      simp only [gK, gI, gL, gR_, g_stI, g_stL, forall_eq, true_and, ad_s, okA_s, okO_s, okN_s, i10, i00, if_true, if_false, reduceCtorEq, Kf_1, Kf_400, Rf_400_3, Kf_404, vp_in_nI (show t < 6 by omega) (show 6 < 2 ^ 31 by decide), nI_clamp (show t < 2 ^ 31 by omega)]
      generalize hF : up2 (up2 M3 404 t _) 400 5 _ = F
      have f3 : ∀ l k, ¬ (l = 403 ∧ 32 * t ≤ k ∧ k < 32 * t + 32) → l ≠ 442 → l ≠ 443 → l ≠ 445 → ¬ (l = 400 ∧ k = 43) → M3 l k = M l k := by
        intro l k b1 b2 b3 b4 b5
        rw [g3 l k (by omega), g2 l k (by omega)]
      have fx : ∀ l k, ¬ (l = 403 ∧ 32 * t ≤ k ∧ k < 32 * t + 32) → l ≠ 442 → l ≠ 443 → l ≠ 445 → ¬ (l = 400 ∧ (k = 5 ∨ k = 43)) → ¬ (l = 404 ∧ k = t) → F l k = M l k := by
        intro l k b1 b2 b3 b4 b5 b6
        rw [← hF, up2_o (by omega), up2_o b6, f3 l k b1 b2 b3 b4 (by omega)]
      have fr3 : ∀ j, j < 32 → F 403 (32 * t + j) = NH j := by
        intro j hj
        rw [← hF, up2_o (by omega), up2_o (by omega), g3r j (by omega) hj, gr' j hj]
      have f404 : F 404 t = drN (I 404 t) 32 := by
        rw [← hF, up2_o (by omega), up2_s, g3 _ _ (by omega)]; exact gs
      have f5 : F 400 5 = nI (D.nB + 1) := by
        rw [← hF, up2_s, up2_o (by omega), f3 _ _ (by omega) (by omega) (by omega) (by omega) (by omega), mx _ _ (by omega) (by omega) (by omega) (by omega) (by omega), jx 400 5 (by omega) (by omega) (by omega) (by omega) (by omega) (by omega) (by omega) (by omega), c4, nI_1]
      have fJ : ∀ l k, l < 400 → F l k = J l k := fun l k z => (fx l k (by omega) (by omega) (by omega) (by omega) (by omega) (by omega)).trans (mx l k (by omega) (by omega) (by omega) (by omega) (by omega))
      have fI : ∀ l k, ¬ (l = 403 ∧ 32 * t ≤ k ∧ k < 32 * t + 32) → ¬ (l = 404 ∧ k = t) → ¬ (l = 405 ∧ k = t) → ¬ (l = 407 ∧ 32 * D.nB ≤ k ∧ k < 32 * D.nB + 32) → ¬ (408 ≤ l ∧ l ≤ 412 ∧ k = D.nB) → l ≠ 442 → l ≠ 443 → l ≠ 445 → 401 ≤ l → F l k = I l k := fun l k b1 b2 b3 b4 b5 b6 b7 b8 b9 => (fx l k b1 b6 b7 b8 (by omega) b2).trans (mI l k b4 b5 b3 b6 b9)
      have fI4 : ∀ k, k ≠ 0 → k ≠ 5 → k ≠ 43 → F 400 k = I 400 k := fun k b1 b2 b3 => (fx 400 k (by omega) (by omega) (by omega) (by omega) (by omega) (by omega)).trans ((mx 400 k (by omega) (by omega) (by omega) (by omega) (by omega)).trans (jx 400 k (by omega) (by omega) (by omega) (by omega) (by omega) (by omega) (by omega) (by omega)))
      have fI1 : ∀ l k, l < 400 → l ≠ q → l ≠ q + 1 → ¬ (l = 1 ∧ k = 3) → ¬ (l = 100 + 2 * t ∧ (k = 1 ∨ k = 2)) → l ≠ 100 + 2 * t + 1 → l ≠ 14 → l ≠ 15 → l ≠ 20 + 8 * D.tx 1 + 6 → F l k = I l k := fun l k b0 b1 b2 b3 b4 b5 b6 b7 b8 => (fJ l k b0).trans (jx l k b1 b2 b3 b4 b5 b6 b7 b8)
      refine Inv_of (InvI_D1 (t := D.nT) (b := D.nB + 1) h ⟨?_, ?_, ?_, ?_, ?_⟩ (fun s hs => ?_) (fun l k h1 h2 => ?_))
      · obtain ⟨d1, d2, d3, d4, d5, d6, d7, d8, d9⟩ := hD
        refine ⟨d1, by show D.nB + 1 ≤ 16; omega, d3, d4, d5, fun i b hi hg => ?_, d7, d8, d9⟩
        have := d6 i b hi hg
        show b < D.nB + 1
        omega
      · refine ⟨?_, ?_, ?_, f5, ?_, ?_, ?_, ?_, ?_, ?_, ?_⟩
        · rw [fI1 1 1 (by omega) (by omega) (by omega) (by omega) (by omega) (by omega) (by omega) (by omega) (by omega)]; exact c1
        · rw [fI4 1 (by omega) (by omega) (by omega)]; exact c2
        · rw [fJ 1 3 (by omega)]; exact j13
        · rw [fI1 1 5 (by omega) (by omega) (by omega) (by omega) (by omega) (by omega) (by omega) (by omega) (by omega)]; exact c5
        · rw [fI4 12 (by omega) (by omega) (by omega)]; exact c6
        · rw [fI1 1 8 (by omega) (by omega) (by omega) (by omega) (by omega) (by omega) (by omega) (by omega) (by omega)]; exact c7
        · rw [fI4 45 (by omega) (by omega) (by omega)]; exact c8
        · rw [fI1 1 10 (by omega) (by omega) (by omega) (by omega) (by omega) (by omega) (by omega) (by omega) (by omega)]; exact c9
        · rw [fI4 53 (by omega) (by omega) (by omega)]; exact c10
        · rw [fI1 1 6 (by omega) (by omega) (by omega) (by omega) (by omega) (by omega) (by omega) (by omega) (by omega)]
          refine c11.trans (congrArg nI ?_)
          exact (nFound_cg (D := D) (D' := D.addB) D.nA (fun i _ => rfl)).symm
      · intro i hi
        have hi : i < D.nT := hi
        by_cases e : i = t
        · subst e
          refine ⟨fun j hj => ?_, ?_, ?_⟩
          · rw [fJ _ _ (by omega), jr j hj, fr3 j hj]; exact ⟨rfl, NHin j hj⟩
          · rw [fJ _ _ (by omega), js, f404]
          · rw [fJ _ _ (by omega), jcu, fx _ _ (by omega) (by omega) (by omega) (by omega) (by omega) (by omega), m405]
        · obtain ⟨w1, w2, w3⟩ := h.2.2.1 i hi
          have r1 : ∀ k, F (100 + 2 * i) k = I (100 + 2 * i) k := fun k => fI1 _ _ (by omega) (by omega) (by omega) (by omega) (by omega) (by omega) (by omega) (by omega) (by omega)
          refine ⟨fun j hj => ?_, ?_, ?_⟩
          · rw [fI1 (100 + 2 * i + 1) j (by omega) (by omega) (by omega) (by omega) (by omega) (by omega) (by omega) (by omega) (by omega), fI 403 _ (by omega) (by omega) (by omega) (by omega) (by omega) (by omega) (by omega) (by omega) (by omega)]; exact w1 j hj
          · rw [r1, fI 404 _ (by omega) (by omega) (by omega) (by omega) (by omega) (by omega) (by omega) (by omega) (by omega)]; exact w2
          · rw [r1, fI 405 _ (by omega) (by omega) (by omega) (by omega) (by omega) (by omega) (by omega) (by omega) (by omega)]; exact w3
      · intro i e1 e2
        have e1 : D.nT ≤ i := e1
        rw [fI 405 i (by omega) (by omega) (by omega) (by omega) (by omega) (by omega) (by omega) (by omega) (by omega)]
        exact h.2.2.2.1 i e1 e2
      · intro i hi
        have hi : i < D.nB + 1 := hi
        show _ ∧ _ ∧ _ ∧ inN (F 409 i) D.nT ∧ _
        by_cases e : i = D.nB
        · subst e
          rw [hq]
          have g1 : ∀ k, F q k = A q k := fun k => (fJ q k (by omega)).trans (jqA q k (Or.inl rfl))
          have mF : ∀ l k, 407 ≤ l → l ≤ 412 → F l k = M l k := fun l k b1 b2 => fx l k (by omega) (by omega) (by omega) (by omega) (by omega) (by omega)
          refine ⟨fun j hj => ?_, ?_, ?_, ?_, ?_, ?_, ?_, ?_⟩
          · have e7 : F 407 (32 * D.nB + j) = I 403 (32 * t + j) := by
              rw [mF _ _ (by omega) (by omega), ← hM, up2_o (by omega), up2_o (by omega), up2_o (by omega), up2_o (by omega), up2_o (by omega), up2_o (by omega), up2_o (by omega), up2_o (by omega), up2_o (by omega), up2_o (by omega), m1r j (by omega) hj, up2_o (by omega), jm _ _ (by omega)]
            rw [e7, fJ (q + 1) j (by omega), jqA (q + 1) j (Or.inr rfl), a4]
            exact wt1 j hj
          · rw [g1]; exact a1
          · rw [g1, a2, mF _ _ (by omega) (by omega), m409]
          · rw [mF _ _ (by omega) (by omega), m409]; exact w1
          · rw [g1, a3, mF _ _ (by omega) (by omega), m410]; exact wt3
          · rw [g1, a5, mF _ _ (by omega) (by omega), m408]; exact wt2
          · rw [g1, a6, mF _ _ (by omega) (by omega), m411]
          · rw [g1, a7, mF _ _ (by omega) (by omega), m412]
        · obtain ⟨w1, w2, w3, w4, w5, w6, w7, w8⟩ := h.2.2.2.2.1 i (by omega)
          have ha : ∀ l k, 120 ≤ l → l < q → F l k = I l k := fun l k a1 a2 => fI1 l k (by omega) (by omega) (by omega) (by omega) (by omega) (by omega) (by omega) (by omega) (by omega)
          have hb : ∀ l k, 408 ≤ l → l ≤ 412 → k ≠ D.nB → F l k = I l k := fun l k a1 a2 a3 => fI l k (by omega) (by omega) (by omega) (by omega) (by omega) (by omega) (by omega) (by omega) (by omega)
          refine ⟨fun j hj => ?_, ?_, ?_, ?_, ?_, ?_, ?_, ?_⟩
          · rw [ha _ _ (by omega) (by omega), fI 407 _ (by omega) (by omega) (by omega) (by omega) (by omega) (by omega) (by omega) (by omega) (by omega)]; exact w1 j hj
          · rw [ha _ _ (by omega) (by omega)]; exact w2
          · rw [ha _ _ (by omega) (by omega), hb _ _ (by omega) (by omega) e]; exact w3
          · rw [hb _ _ (by omega) (by omega) e]; exact w4
          · rw [ha _ _ (by omega) (by omega), hb _ _ (by omega) (by omega) e]; exact w5
          · rw [ha _ _ (by omega) (by omega), hb _ _ (by omega) (by omega) e]; exact w6
          · rw [ha _ _ (by omega) (by omega), hb _ _ (by omega) (by omega) e]; exact w7
          · rw [ha _ _ (by omega) (by omega), hb _ _ (by omega) (by omega) e]; exact w8
      · rw [Lx _ _ (by omega) (by omega), Lx _ _ (by omega) (by omega)]
        exact h.2.2.2.2.2.2.2.2.1 s hs
      · unfold Scr at h1
        unfold Xs_D1 at h2
        by_cases z : l < 400
        · exact fI1 l k z (by omega) (by omega) (by omega) (by omega) (by omega) (by omega) (by omega) (by omega)
        · by_cases z4 : l = 400
          · subst z4; exact fI4 k (by omega) (by omega) (by omega)
          · exact fI l k (by omega) (by omega) (by omega) (by omega) (by omega) (by omega) (by omega) (by omega) (by omega)
  · simp only [gK, gI, gL, gR_, g_stI, g_stL, forall_eq, true_and, ad_s, okA_s, okO_s, okN_s, i10, i00, if_true, if_false, reduceCtorEq, Kf_1, Kf_400, if_neg w1]
    unfold wp_X12_barrel
    simp only [gK, gI, gL, gR_, g_stI, g_stL, forall_eq, true_and, ad_s, okA_s, okO_s, okN_s, i10, i00, if_true, if_false, reduceCtorEq, Kf_1, Kf_400, m_isTool cT, if_neg w1]
    exact Inv_told h
