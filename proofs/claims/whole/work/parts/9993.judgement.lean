/-! judgement: the pair (my own) -/
theorem nL_pred : ∀ m : Nat, m < 7 → (nI m - 1).toInt + 1 = (m : Int) := by decide +kernel
theorem isIn_L {m : Nat} (hm : m ≤ 6) {v : Int32} : (0 ≤ v ∧ v ≤ nI m - 1) ↔ inN v m := inN_le _ (nL_pred m (by omega)) (by omega)
theorem TS_cg {I J M : Nat → Nat → Int32} {r : Nat} (e : ∀ l k, 400 ≤ l → J l k = I l k) (h : TSame J M r) : TSame I M r := by
  refine ⟨h.1.trans (e _ _ (by decide)), fun i hi => ?_, fun k hk => ?_⟩
  · obtain ⟨a1, a2, a3, a4⟩ := h.2.1 i hi
    exact ⟨a1.trans (e _ _ (by decide)), a2.trans (e _ _ (by decide)), a3.trans (e _ _ (by decide)), a4.trans (e _ _ (by decide))⟩
  · obtain ⟨a1, a2⟩ := h.2.2 k hk
    exact ⟨a1.trans (e _ _ (by decide)), a2.trans (e _ _ (by decide))⟩
/-- a text that can't be read, or no looker -/
theorem judge_none {n : Nat} {I M : Nat → Nat → Int32} {L : Nat → Nat → Int64} {D : DD} (h : InvI n I L D) (mf : ∀ l k, ¬ (l = 400 ∧ (k = 0 ∨ k = 19 ∨ k = 32 ∨ k = 39 ∨ k = 40)) → ¬ (l = 12 ∧ k < 2) → ¬ (l = 8 ∧ k = 1) → M l k = I l k) (m8 : M 8 1 = 0) (m19 : M 400 19 = 0) (m0 : M 12 0 = M 400 39) (m1 : M 12 1 = M 400 40) : Inv (n + 1) (fm M L D) := by
  refine Inv_of (InvI_F h ⟨⟨0, by omega, m8, m19, fun j hj => by omega⟩, m0, m1⟩ (fun l k h1 h2 => mf l k ?_ ?_ ?_))
  · rintro ⟨a, c⟩
    subst a
    by_cases w : k = 19 ∨ k = 39 ∨ k = 40
    · exact h2 (by clear h1 h2; unfold Xs_F; omega)
    · exact h1 (by clear h1 h2; unfold Scr; omega)
  · intro z
    exact h2 (by clear h1 h2; unfold Xs_F; omega)
  · intro z
    exact h2 (by clear h1 h2; unfold Xs_F; omega)
set_option maxHeartbeats 2000000 in
theorem pair_judgement {n : Nat} {g : Hp} (hI : Inv n g) (hn : n < 100000) (x1 : Int32) : wp_X11_judgement 1 x1 g (fun r h1 => wp_X12_judgement 400 x1 h1 (fun r' h2 => r' = r ∧ Inv (n + 1) h2)) := by
  obtain ⟨I, L, D, rfl, h⟩ := hI
  have hD := h.1
  have nL6 := h.nL6
  have cL : I 400 45 = nI D.nL := h.2.1.2.2.2.2.2.2.2.1
  obtain ⟨⟨t, q1, q2, q3, q4⟩, q5, q6⟩ := h.2.2.2.2.2.2.2.2.2.1
  have hW := h.2.2.2.2.2.2.2.2.2.2.2.2.2.2
  have t8 : D.tx 0 < 8 := tx_lt hD (by omega)
  have t0b := hD.2.2.2.2.2.2.2.1 0 (by omega)
  have kT0 : Kf D (20 + 8 * D.tx 0) = (25, 0) := Kf_text (r := 0) t0b nL6 (by decide)
  obtain ⟨b, hb⟩ : ∃ b : Nat → Nat, b = fun j => (I 419 j).toNatClampNeg := ⟨_, rfl⟩
  have hby : ∀ j, j < t → I 9 j = nI (b j) ∧ I 419 j = nI (b j) ∧ b j < 256 := fun j hj => by rw [hb]; exact CF_bytes q4 j hj
  have hB : XB I t b := ⟨q1, q2, fun j hj => ⟨(hby j hj).1, (hby j hj).2.2⟩⟩
  have hMB : ∀ J : Nat → Nat → Int32, (∀ l k, 400 ≤ l → J l k = I l k) → MB (up2 J 400 0 0) t b := fun J hJ => ⟨q1, (up2_o (by omega)).trans ((hJ _ _ (by decide)).trans q3), fun j hj => by rw [up2_a (by decide), hJ 419 j (by decide)]; exact (hby j hj).2, fun j hj => (up2_a (by decide)).trans ((hJ 425 j (by decide)).trans (hW j hj))⟩
  have c45 : ∀ J : Nat → Nat → Int32, (∀ l k, 400 ≤ l → J l k = I l k) → up2 J 400 0 0 400 45 = nI D.nL := fun J hJ => (up2_o (by omega)).trans ((hJ _ _ (by decide)).trans cL)
  unfold wp_X11_judgement
  simp only [gK, gI, gL, gR_, g_stI, g_stL, forall_eq, true_and, ad_s, okA_s, okO_s, okN_s, i10, i00, if_true, if_false, reduceCtorEq, Kf_1, Kf_400, x_lookerAt nL6]
  by_cases w1 : inN x1 D.nL
  · obtain ⟨l, hl, rfl⟩ := inN_of (by omega) w1
    have t1b := hD.2.2.2.2.2.2.2.1 (2 + l) (by omega)
    have kT1 : Kf D (20 + 8 * D.tx (2 + l)) = (25, 0) := Kf_text (r := 0) t1b nL6 (by decide)
    have one : (1 : Int32) + nI l = nI (1 + l) := by rw [show (1 : Int32) = nI 1 from rfl, nI_add]
    simp only [if_pos w1, gK, gI, gL, gR_, g_stI, g_stL, forall_eq, true_and, ad_s, okA_s, okO_s, okN_s, i10, i00, if_true, if_false, reduceCtorEq, Kf_1, Kf_400, nI_clamp (show l < 2 ^ 31 by omega), Rf_1_13, Kf_12]
    refine x_read hB rfl t0b nL6 (lw := false) rfl (fun c KS C Ls J hT e hf j81 j0 j1 hx => ?_) (fun c KS k j J hT e hf j81 j0 j1 k0 k4 => ?_)
    · rw [if_neg (by decide)]
      unfold wp_X5_exchange
      rw [fm_raw]
      simp only [rI, rL, rR, rK, raw_stI, raw_stL, raw_stR, raw_alc, upK_s, forall_eq, true_and, ad_s, okA_s, okO_s, okN_s, i10, i00, if_true, if_false, reduceCtorEq, Kf_1, Kf_12, Rf_1_13, look_tx hl nL6, Rf_12_3, up2_s, kT0, Kf_look hl nL6]
      refine ⟨okP_some (by rw [rK, kT1]; decide), okP_some (by rw [rK, kT0]; decide), ?_⟩
      rw [swp_raw2 hl nL6]
      refine x_forgetSaid (D := D.swp (2 + l)) hl nL6 (fun J2 f1 f2 => ?_)
      have kS : Kf (D.swp (2 + l)) (20 + 8 * D.tx 0) = (25, 0) := kT0
      have kL : Kf (D.swp (2 + l)) (240 + 2 * l) = (22, 0) := Kf_look hl nL6
      have rL : Rf (D.swp (2 + l)) (240 + 2 * l) 1 = some (20 + 8 * D.tx 0) := by
        rw [look_tx (D := D.swp (2 + l)) hl nL6, swp_u (by omega)]
      have h4 : ∀ a k, 400 ≤ a → J2 a k = I a k := fun a k ha => (f1 a k (by omega)).trans (XF_hi t8 hf a k (by omega))
      simp only [gK, gI, gL, gR_, g_stI, g_stL, forall_eq, true_and, ad_s, okA_s, okO_s, okN_s, i10, i00, if_true, if_false, reduceCtorEq, Kf_1, Kf_400, kL, rL, kS]
      unfold wp_X12_judgement
      simp only [gK, gI, gL, gR_, g_stI, g_stL, forall_eq, true_and, ad_s, okA_s, okO_s, okN_s, i10, i00, if_true, if_false, reduceCtorEq, Kf_1, Kf_400, m_isIn, c45 J2 h4, isIn_L nL6, if_pos w1, one]
      refine m_takes (row := 1 + l) (lw := false) (hMB J2 h4) hT (by omega) ⟨fun z => absurd z (by decide), fun z => absurd z (by omega)⟩ (fun C' Ls' M e' mf m19 m39 m40 m17 m426 ml mc => ?_) (fun k j M e' _ _ _ _ => ?_)
      · rw [e] at e'
        cases e'
        have eM : ∀ a k, a < 400 → M a k = J2 a k := fun a k ha => text_lo mf a k ha
        have eJ : ∀ a k, a < 100 → M a k = J a k := fun a k ha => (eM a k (by omega)).trans (f1 a k (by omega))
        have hx' : XTX M (D.tx 0) C Ls := XTX_cg hx (fun k => eJ _ k (by omega)) (fun j k _ _ => eJ _ k (by omega))
        have hLn : ∀ q, q ∈ Ls → LnOK false C q := Ln_text 18 0 [] [] C Ls (fun q hq => by simp at hq) e
        have hTR := TR_new hx' m426 ml mc hLn
        have fin : InvI (n + 1) M L (D.swp (1 + (1 + l))) := by
          refine Inv_text (rw0 := 1 + l) (lw := false) h hn (by omega) ⟨fun z => absurd z (by decide), fun z => absurd z (by omega)⟩ (fun a k z1 z2 => ?_) (fun r hr hr0 => ?_) (fun l' k hl' z => ?_) (fun l' k hl' z hk => ?_) ?_ m19 ?_ ?_ ?_ hTR
          · have na : a ≠ 240 + 2 * l + 1 := fun z => z2 (by clear z1 z2; unfold Xs_D5; omega)
            rw [text_fr (I := J2) (by omega) (fun _ _ _ => rfl) mf a k z1 z2, f1 a k na, hf a k (XF_D5 z1 z2)]
          · exact TS_cg h4 (text_TS (I := J2) t8 (fun _ _ _ => rfl) mf r hr hr0)
          · rw [eM _ k (by omega), f1 _ k (by omega), XF_hi t8 hf _ k (by omega)]
          · have el : l' = l := by omega
            subst el
            rw [eM _ k (by omega), f2 k hk, XF_hi t8 hf _ k (by omega)]
          · rw [eJ 8 1 (by decide)]; exact j81
          · rw [eJ 12 0 (by decide), j0, m39]
          · rw [eJ 12 1 (by decide), j1, m40]
          · rw [m17, up2_o (by omega), h4 400 17 (by decide)]
        rw [show 1 + (1 + l) = 2 + l by omega] at fin
        exact ⟨((f1 _ _ (by omega)).trans hx.2.2.2.2.2.1).symm, M, L, D.swp (2 + l), rfl, fin⟩
      · rw [e] at e'; cases e'
    · rw [if_pos rfl]
      have h4 : ∀ a k, 400 ≤ a → J a k = I a k := fun a k ha => XF_hi t8 hf a k (by omega)
      unfold wp_X12_judgement
      simp only [gK, gI, gL, gR_, g_stI, g_stL, forall_eq, true_and, ad_s, okA_s, okO_s, okN_s, i10, i00, if_true, if_false, reduceCtorEq, Kf_1, Kf_400, m_isIn, c45 J h4, isIn_L nL6, if_pos w1, one]
      refine m_takes (row := 1 + l) (lw := false) (hMB J h4) hT (by omega) ⟨fun z => absurd z (by decide), fun z => absurd z (by omega)⟩ (fun C' Ls' M e' _ _ _ _ _ _ _ _ => ?_) (fun k' j' M e' mf m19 m39 m40 => ?_)
      · rw [e] at e'; cases e'
      · rw [e] at e'
        cases e'
        exact ⟨rfl, text_bad h hf mf j81 j0 j1 m19 m39 m40⟩
  · simp only [if_neg w1, gK, gI, gL, gR_, g_stI, g_stL, forall_eq, true_and, ad_s, okA_s, okO_s, okN_s, i10, i00, if_true, if_false, reduceCtorEq, Kf_1, Kf_400, Rf_1_13, Kf_12]
    unfold wp_X5_pass
    simp only [gK, gI, gL, gR_, g_stI, g_stL, forall_eq, true_and, ad_s, okA_s, okO_s, okN_s, i10, i00, if_true, if_false, reduceCtorEq, Kf_1, Kf_400, Kf_12, Rf_12_2, Kf_8]
    generalize hJ : up2 (up2 (up2 I 12 0 0) 12 1 (-1)) 8 1 0 = J
    have h4 : ∀ a k, 400 ≤ a → J a k = I a k := fun a k ha => by rw [← hJ, up2_o (by omega), up2_o (by omega), up2_o (by omega)]
    unfold wp_X12_judgement
    simp only [gK, gI, gL, gR_, g_stI, g_stL, forall_eq, true_and, ad_s, okA_s, okO_s, okN_s, i10, i00, if_true, if_false, reduceCtorEq, Kf_1, Kf_400, m_isIn, c45 J h4, isIn_L nL6, if_neg w1]
    refine m_takesN (fun M mf m19 m39 m40 => ⟨rfl, ?_⟩)
    have eM : ∀ a k, a < 400 → M a k = J a k := fun a k ha => (mf a k (by omega)).trans (up2_o (by omega))
    refine judge_none h (fun a k z1 z2 z3 => ?_) ?_ m19 ?_ ?_
    · rw [mf a k (by omega), up2_o (by omega), ← hJ, up2_o (by omega), up2_o (by omega), up2_o (by omega)]
    · rw [eM 8 1 (by decide), ← hJ, up2_s]
    · rw [eM 12 0 (by decide), m39, ← hJ, up2_o (by omega), up2_o (by omega), up2_s]
    · rw [eM 12 1 (by decide), m40, ← hJ, up2_o (by omega), up2_s]
