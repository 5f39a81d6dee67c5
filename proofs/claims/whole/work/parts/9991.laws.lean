/-! laws: the pair (my own) -/
theorem XTX_cg {I M : Nat → Nat → Int32} {t : Nat} {C : CD} {Ls : List LR} (h : XTX I t C Ls) (h0 : ∀ k, M (20 + 8 * t) k = I (20 + 8 * t) k) (hj : ∀ j k, 1 ≤ j → j ≤ 5 → M (20 + 8 * t + j) k = I (20 + 8 * t + j) k) : XTX M t C Ls := by
  obtain ⟨x1, x2, x3, x4, x5, x6, x7, x8⟩ := h
  refine ⟨x1, (h0 6).trans x2, fun j e he => (hj 5 j (by decide) (by decide)).trans (x3 j e he), ?_, fun z => x5 ((h0 8).symm.trans z), (h0 7).trans x6, x7, fun x q hq => ?_⟩
  · rw [h0 8]; exact x4
  · rw [hj 1 x (by decide) (by decide), hj 2 x (by decide) (by decide), hj 3 x (by decide) (by decide), hj 4 x (by decide) (by decide)]; exact x8 x q hq
theorem text_bad {n : Nat} {I J M : Nat → Nat → Int32} {L : Nat → Nat → Int64} {D : DD} {a b : Int32} (h : InvI n I L D) (hf : XF (D.tx 0) I J) (mf : MF0 (up2 J 400 0 0) M) (j81 : J 8 1 = 0) (j0 : J 12 0 = a) (j1 : J 12 1 = b) (m19 : M 400 19 = 0) (m39 : M 400 39 = a) (m40 : M 400 40 = b) : Inv (n + 1) (fm M L D) := by
  have t8 : D.tx 0 < 8 := tx_lt h.1 (by omega)
  have e : ∀ l k, l < 400 → M l k = J l k := fun l k hl => (mf l k (by rintro (⟨a, -⟩ | ⟨a, -⟩ | a | ⟨a, -⟩) <;> omega)).trans (up2_o (fun z => by have := z.1; omega))
  refine Inv_of (InvI_F h ⟨⟨0, by omega, (e 8 1 (by decide)).trans j81, m19, fun j hj => by omega⟩, ?_, ?_⟩ (fun l k h1 h2 => ?_))
  · rw [e 12 0 (by decide), j0, m39]
  · rw [e 12 1 (by decide), j1, m40]
  · rw [mf l k (MF0_F h1 h2), up2_o (told_ne h1), hf l k (XF_F h1 h2)]
set_option maxHeartbeats 2000000 in
theorem pair_laws {n : Nat} {g : Hp} (hI : Inv n g) (hn : n < 100000) : wp_X11_laws 1 g (fun r h1 => wp_X12_laws 400 h1 (fun r' h2 => r' = r ∧ Inv (n + 1) h2)) := by
  obtain ⟨I, L, D, rfl, h⟩ := hI
  have hD := h.1
  have nL6 := h.nL6
  obtain ⟨⟨t, q1, q2, q3, q4⟩, q5, q6⟩ := h.2.2.2.2.2.2.2.2.2.1
  have hW := h.2.2.2.2.2.2.2.2.2.2.2.2.2.2
  have t8 : D.tx 0 < 8 := tx_lt hD (by omega)
  have t0b := hD.2.2.2.2.2.2.2.1 0 (by omega)
  have t1b := hD.2.2.2.2.2.2.2.1 1 (by omega)
  have kT0 : Kf D (20 + 8 * D.tx 0) = (25, 0) := Kf_text (r := 0) t0b nL6 (by decide)
  have kT1 : Kf D (20 + 8 * D.tx 1) = (25, 0) := Kf_text (r := 0) t1b nL6 (by decide)
  obtain ⟨b, hb⟩ : ∃ b : Nat → Nat, b = fun j => (I 419 j).toNatClampNeg := ⟨_, rfl⟩
  have hby : ∀ j, j < t → I 9 j = nI (b j) ∧ I 419 j = nI (b j) ∧ b j < 256 := fun j hj => by rw [hb]; exact CF_bytes q4 j hj
  have hB : XB I t b := ⟨q1, q2, fun j hj => ⟨(hby j hj).1, (hby j hj).2.2⟩⟩
  have hMB : ∀ J, XF (D.tx 0) I J → MB (up2 J 400 0 0) t b := fun J hJ => ⟨q1, (up2_o (by omega)).trans ((XF_hi t8 hJ _ _ (by decide)).trans q3), fun j hj => by rw [up2_a (by decide), XF_hi t8 hJ 419 j (by decide)]; exact (hby j hj).2, fun j hj => (up2_a (by decide)).trans ((XF_hi t8 hJ 425 j (by decide)).trans (hW j hj))⟩
  unfold wp_X11_laws
  simp only [gK, gI, gL, gR_, g_stI, g_stL, forall_eq, true_and, ad_s, okA_s, okO_s, okN_s, i10, i00, if_true, if_false, reduceCtorEq, Kf_1, Kf_400, Rf_1_13, Kf_12]
  refine x_read hB rfl t0b nL6 (lw := true) rfl (fun c KS C Ls J hT e hf j81 j0 j1 hx => ?_) (fun c KS k j J hT e hf j81 j0 j1 k0 k4 => ?_)
  · rw [if_neg (by decide)]
    unfold wp_X5_exchange
    rw [fm_raw]
    simp only [rI, rL, rR, rK, raw_stI, raw_stL, raw_stR, raw_alc, upK_s, forall_eq, true_and, ad_s, okA_s, okO_s, okN_s, i10, i00, if_true, if_false, reduceCtorEq, Kf_1, Kf_12, Rf_1_13, Rf_1_14, Rf_12_3, up2_s, kT0]
    refine ⟨okP_some (by rw [rK, kT1]; decide), okP_some (by rw [rK, kT0]; decide), ?_⟩
    rw [swp_raw1]
    unfold wp_X12_laws
    simp only [gK, gI, gL, gR_, g_stI, g_stL, forall_eq, true_and, ad_s, okA_s, okO_s, okN_s, i10, i00, if_true, if_false, reduceCtorEq, Kf_1, Kf_400]
    refine m_takes (row := 0) (lw := true) (hMB J hf) hT (by omega) ⟨fun _ => rfl, fun _ => rfl⟩ (fun C' Ls' M e' mf m19 m39 m40 m17 m426 ml mc => ?_) (fun k j M e' _ _ _ _ => ?_)
    · rw [e] at e'
      cases e'
      have eM : ∀ l k, l < 400 → M l k = J l k := fun l k hl => text_lo mf l k hl
      have hx' : XTX M (D.tx 0) C Ls := XTX_cg hx (fun k => eM _ k (by omega)) (fun j k _ _ => eM _ k (by omega))
      have hLn : ∀ q, q ∈ Ls → LnOK true C q := Ln_text 18 0 [] [] C Ls (fun q hq => by simp at hq) e
      have hTR := TR_new hx' m426 ml mc hLn
      refine ⟨hx.2.2.2.2.2.1.symm, M, L, D.swp 1, rfl, Inv_text (rw0 := 0) (lw := true) h hn (by omega) ⟨fun _ => rfl, fun _ => rfl⟩ (fun l k z1 z2 => ?_) (fun r hr hr0 => ?_) (fun l k hl _ => ?_) (fun l k hl z => absurd z (by omega)) ?_ m19 ?_ ?_ ?_ hTR⟩
      · exact text_fr (by omega) hf mf l k z1 z2
      · exact text_TS t8 hf mf r hr hr0
      · rw [eM _ k (by omega), XF_hi t8 hf _ k (by omega)]
      · rw [eM 8 1 (by decide)]; exact j81
      · rw [eM 12 0 (by decide), j0, m39]
      · rw [eM 12 1 (by decide), j1, m40]
      · rw [m17, up2_o (by omega), XF_hi t8 hf 400 17 (by decide)]
    · rw [e] at e'; cases e'
  · rw [if_pos rfl]
    unfold wp_X12_laws
    simp only [gK, gI, gL, gR_, g_stI, g_stL, forall_eq, true_and, ad_s, okA_s, okO_s, okN_s, i10, i00, if_true, if_false, reduceCtorEq, Kf_1, Kf_400]
    refine m_takes (row := 0) (lw := true) (hMB J hf) hT (by omega) ⟨fun _ => rfl, fun _ => rfl⟩ (fun C' Ls' M e' _ _ _ _ _ _ _ _ => ?_) (fun k' j' M e' mf m19 m39 m40 => ?_)
    · rw [e] at e'; cases e'
    · rw [e] at e'
      cases e'
      exact ⟨rfl, text_bad h hf mf j81 j0 j1 m19 m39 m40⟩
