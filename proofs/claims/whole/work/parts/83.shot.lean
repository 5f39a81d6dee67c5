/-! shot: the reference, and both (my own) -/
set_option maxHeartbeats 4000000 in
theorem m_shot {n : Nat} {I J : Nat → Nat → Int32} {L L' : Nat → Nat → Int64} {D : DD} (h : InvI n I L D) (hn : n < 100000) {b n0 : Nat} (hb : b < D.nB) (hA : D.nA < 40) (hn0 : n0 ≤ 16) (e26 : I 426 0 = nI n0) {so : Int32} (s0 : ¬ so < 0) (s9 : ¬ (9 : Int32) < so) (l0 : ∀ s k, s = 7 ∨ s = 459 → L' s k = L s k) (jx : ∀ l k, ¬ Scr D l k → ¬ (l = 1 ∧ k = 5) → ¬ (l = 160 + 2 * D.nA ∨ l = 160 + 2 * D.nA + 1) → ¬ (l = 120 + 2 * b ∧ (k = 4 ∨ k = 5)) → l ≠ 120 + 2 * b + 1 → J l k = I l k) (jm : ∀ l k, 400 ≤ l → J l k = I l k) (j5 : J 1 5 = nI (D.nA + 1)) (jn : J (160 + 2 * D.nA) 0 = nI D.nA) (j2 : J (160 + 2 * D.nA) 2 = I 411 b) (j3 : J (160 + 2 * D.nA) 3 = so) (jr : ∀ j, j < 32 → J (160 + 2 * D.nA + 1) j = shA I b n0 so j) (js : J (120 + 2 * b) 4 = drN (drN (I 408 b) 32) 32) (jc : J (120 + 2 * b) 5 = I 411 b + 1) (jbr : ∀ j, j < 32 → J (120 + 2 * b + 1) j = shB I b n0 so j) : wp_X12_shot 400 (nI b) so (fm J L' (D.addA (some b))) (fun r' h2 => r' = nI D.nA ∧ Inv (n + 1) h2) := by
  have hD := h.1
  have nB16 := hD.2.1
  have nL6 := h.nL6
  have t0 : D.tx 0 < 8 := tx_lt hD (by omega)
  have t8 := tx_lt hD (show 1 < 2 + D.nL by omega)
  have tne := tx_ne hD (show 1 < 2 + D.nL by omega) (show 0 < 2 + D.nL by omega) (by decide)
  have hTR := h.2.2.2.2.2.2.2.2.2.2.1.1
  obtain ⟨c1, c2, c3, c4, c5, c6, c7, c8, c9, c10, c11⟩ := h.2.1
  obtain ⟨wb1, wb2, wb3, wb4, wb5, wb6, wb7, wb8⟩ := h.2.2.2.2.1 b hb
  have w1 : inN (nI b) D.nB := (inN_nI (by omega) (by omega)).mpr hb
  have w2 : (0 : Int32) ≤ so ∧ so ≤ 9 := ⟨Int32.not_lt.mp s0, Int32.not_lt.mp s9⟩
  have kB : (up2 J 400 0 0) 400 5 = nI D.nB := by rw [up2_o (by omega), jm _ _ (by omega)]; exact c4
  have kA : (up2 J 400 0 0) 400 12 = nI D.nA := by rw [up2_o (by omega), jm _ _ (by omega)]; exact c6
  have n5 : (5 : Int32).toNatClampNeg = 5 := by decide
  have n6 : (6 : Int32).toNatClampNeg = 6 := by decide
  have n7 : (7 : Int32).toNatClampNeg = 7 := by decide
  have p5 : vp_in (5 : Int32) 14 := vp_in_nI (n := 5) (by decide) (by decide)
  have p6 : vp_in (6 : Int32) 14 := vp_in_nI (n := 6) (by decide) (by decide)
  have p7 : vp_in (7 : Int32) 14 := vp_in_nI (n := 7) (by decide) (by decide)
  have e32 : (32 : Int32) * nI b = nI (32 * b) := by rw [show (32 : Int32) = nI 32 from rfl, pk_mul]
  have vb := vp_in_nI (show b < 16 by omega) (show 16 < 2 ^ 31 by decide)
  have cb := nI_clamp (show b < 2 ^ 31 by omega)
  have va := vp_in_nI (show D.nA < 40 by omega) (show 40 < 2 ^ 31 by decide)
  have ca := nI_clamp (show D.nA < 2 ^ 31 by omega)
  unfold wp_X12_shot
  simp only [gK, gI, gL, gR_, g_stI, g_stL, forall_eq, true_and, ad_s, okA_s, okO_s, okN_s, i10, i00, if_true, if_false, reduceCtorEq, Kf_1, Kf_400, m_isBarrel kB, if_pos w1, m_isIn, if_pos w2, kA]
  rw [if_neg (show ¬ nI D.nA = (40 : Int32) from fun z => by have := (nI_eq (b := 40) (by omega) (by decide)).mp z; omega)]
  simp only [gK, gI, gL, gR_, g_stI, g_stL, forall_eq, true_and, ad_s, okA_s, okO_s, okN_s, i10, i00, if_true, if_false, reduceCtorEq, Kf_1, Kf_400, Rf_400_6, Rf_400_7, Rf_400_10, Rf_400_11, Rf_400_41, Kf_408, Kf_411, Kf_412, Kf_442, vb, cb, n5, n6, n7, p5, p6, p7, e32]
  generalize hM : up2 (up2 (up2 (up2 (up2 J 400 0 0) 442 5 _) 442 6 _) 442 7 _) 400 43 _ = M
  have mx : ∀ l k, ¬ (l = 400 ∧ (k = 0 ∨ k = 43)) → l ≠ 442 → M l k = J l k := by
    intro l k b1 b2
    rw [← hM, up2_o (by omega), up2_o (by omega), up2_o (by omega), up2_o (by omega), up2_o (by omega)]
  have q5 : M 442 5 = I 411 b := by
    rw [← hM, up2_o (by omega), up2_o (by omega), up2_o (by omega), up2_s, up2_o (by omega), jm _ _ (by omega)]
  have q6 : M 442 6 = I 412 b := by
    rw [← hM, up2_o (by omega), up2_o (by omega), up2_s, up2_o (by omega), up2_o (by omega), jm _ _ (by omega)]
  have q7 : M 442 7 = so := by rw [← hM, up2_o (by omega), up2_s]
  have qs : M 400 43 = I 408 b := by
    rw [← hM, up2_s, up2_o (by omega), up2_o (by omega), up2_o (by omega), up2_o (by omega), jm _ _ (by omega)]
  have mI : ∀ l k, l ≠ 442 → 401 ≤ l → M l k = I l k := fun l k b1 b2 => (mx l k (by omega) b1).trans (jm l k (by omega))
  have mt : ∀ l k, l = 20 + 8 * D.tx 1 ∨ (20 + 8 * D.tx 1 + 1 ≤ l ∧ l ≤ 20 + 8 * D.tx 1 + 5) → M l k = I l k := fun l k z => (mx l k (by omega) (by omega)).trans (jx l k (by unfold Scr; omega) (by omega) (by omega) (by omega) (by omega))
  have T1 : TR M (D.tx 1) 0 0 8 0 3 := TR_cg hTR ⟨mI _ _ (by omega) (by omega), fun i hi => ⟨mI _ _ (by omega) (by omega), mI _ _ (by omega) (by omega), mI _ _ (by omega) (by omega), mI _ _ (by omega) (by omega)⟩, fun k hk => ⟨mI _ _ (by omega) (by omega), mI _ _ (by omega) (by omega)⟩⟩ (fun k => mt _ _ (by omega)) (fun j k _ _ => mt _ _ (by omega))
  refine m_changes (law := 2) (bs := 32 * b) (m := 512) (p := fun j => I 407 (32 * b + j)) (sh := I 411 b) (ru := I 412 b) (so := so) (s := I 408 b) (n0 := n0) T1 t8 ((mI _ _ (by omega) (by omega)).trans e26) hn0 (by decide) Kf_407 (by omega) (by omega) (by omega) (fun j hj => mI _ _ (by omega) (by omega)) q5 q6 q7 qs (fun M2 g2 r2 st2 h5 h6 h7 => ?_)
  have r2' : ∀ j, j < 32 → M2 445 j = shA I b n0 so j := by
    intro j hj
    rw [r2 j hj]
    exact nhF_fun (fun l z1 z2 => funext fun k => mI l k (by omega) (by omega)) _ _ _ _ _ _ _ _
  have kA2 : M2 400 12 = nI D.nA := by rw [g2 _ _ (by omega), mx _ _ (by omega) (by omega), jm _ _ (by omega)]; exact c6
  refine m_shot_L93 hA fuel 0 M2 kA2 (by omega) (by have := fuel_ge; omega) (fun M3 g3 r3 => ?_)
  simp only [gK, gI, gL, gR_, g_stI, g_stL, forall_eq, true_and, ad_s, okA_s, okO_s, okN_s, i10, i00, if_true, if_false, reduceCtorEq, Kf_1, Kf_400, Rf_400_6, e32]
  have m3x : ∀ l k, ¬ (l = 400 ∧ (k = 0 ∨ k = 43)) → l ≠ 442 → l ≠ 443 → l ≠ 445 → ¬ (l = 414 ∧ 32 * D.nA ≤ k ∧ k < 32 * D.nA + 32) → M3 l k = J l k := fun l k b1 b2 b3 b4 b5 => (g3 l k (by omega)).trans ((g2 l k (by omega)).trans (mx l k b1 b2))
  have m3I : ∀ l k, 401 ≤ l → l ≠ 442 → l ≠ 443 → l ≠ 445 → ¬ (l = 414 ∧ 32 * D.nA ≤ k ∧ k < 32 * D.nA + 32) → M3 l k = I l k := fun l k b1 b2 b3 b4 b5 => (m3x l k (by omega) b2 b3 b4 b5).trans (jm l k (by omega))
  have m3t : ∀ l k, l = 20 + 8 * D.tx 1 ∨ (20 + 8 * D.tx 1 + 1 ≤ l ∧ l ≤ 20 + 8 * D.tx 1 + 5) → M3 l k = I l k := fun l k z => (m3x l k (by omega) (by omega) (by omega) (by omega) (by omega)).trans (jx l k (by unfold Scr; omega) (by omega) (by omega) (by omega) (by omega))
  have T3 : TR M3 (D.tx 1) 0 0 8 0 3 := TR_cg hTR ⟨m3I _ _ (by omega) (by omega) (by omega) (by omega) (by omega), fun i hi => ⟨m3I _ _ (by omega) (by omega) (by omega) (by omega) (by omega), m3I _ _ (by omega) (by omega) (by omega) (by omega) (by omega), m3I _ _ (by omega) (by omega) (by omega) (by omega) (by omega), m3I _ _ (by omega) (by omega) (by omega) (by omega) (by omega)⟩, fun k hk => ⟨m3I _ _ (by omega) (by omega) (by omega) (by omega) (by omega), m3I _ _ (by omega) (by omega) (by omega) (by omega) (by omega)⟩⟩ (fun k => m3t _ _ (by omega)) (fun j k _ _ => m3t _ _ (by omega))
  refine m_changes (law := 1) (bs := 32 * b) (m := 512) (p := fun j => I 407 (32 * b + j)) (sh := I 411 b) (ru := I 412 b) (so := so) (s := drN (I 408 b) 32) (n0 := n0) T3 t8 ((m3I _ _ (by omega) (by omega) (by omega) (by omega) (by omega)).trans e26) hn0 (by decide) Kf_407 (by omega) (by omega) (by omega) (fun j hj => m3I _ _ (by omega) (by omega) (by omega) (by omega) (by omega)) ((g3 _ _ (by omega)).trans h5) ((g3 _ _ (by omega)).trans h6) ((g3 _ _ (by omega)).trans h7) ((g3 _ _ (by omega)).trans st2) (fun M4 g4 r4 st4 _ _ _ => ?_)
  have r4' : ∀ j, j < 32 → M4 445 j = shB I b n0 so j := by
    intro j hj
    rw [r4 j hj]
    exact nhF_fun (fun l z1 z2 => funext fun k => m3I l k (by omega) (by omega) (by omega) (by omega) (by omega)) _ _ _ _ _ _ _ _
  refine m_shot_L140 (show b < 16 by omega) fuel 0 M4 (by omega) (by have := fuel_ge; omega) (fun M5 g5 r5 => ?_)
  have m5x : ∀ l k, ¬ (l = 400 ∧ (k = 0 ∨ k = 43)) → l ≠ 442 → l ≠ 443 → l ≠ 445 → ¬ (l = 414 ∧ 32 * D.nA ≤ k ∧ k < 32 * D.nA + 32) → ¬ (l = 407 ∧ 32 * b ≤ k ∧ k < 32 * b + 32) → M5 l k = J l k := fun l k b1 b2 b3 b4 b5 b6 => (g5 l k (by omega)).trans ((g4 l k (by omega)).trans (m3x l k b1 b2 b3 b4 b5))
  have st5 : M5 400 43 = drN (drN (I 408 b) 32) 32 := (g5 _ _ (by omega)).trans st4
  have r5' : ∀ j, j < 32 → M5 407 (32 * b + j) = shB I b n0 so j := fun j hj => (r5 j (by omega) hj).trans (r4' j hj)
  have r3' : ∀ j, j < 32 → M5 414 (32 * D.nA + j) = shA I b n0 so j := fun j hj => by
    rw [g5 _ _ (by omega), g4 _ _ (by omega), r3 j (by omega) hj]; exact r2' j hj
  have a5 : M5 400 12 = nI D.nA := by rw [m5x _ _ (by omega) (by omega) (by omega) (by omega) (by omega) (by omega), jm _ _ (by omega)]; exact c6
  have o12 : ∀ (K : Nat → Nat → Int32) l k v, l ≠ 400 → up2 K l k v 400 12 = K 400 12 := fun K l k v z => up2_o (by omega)
  have o408 : ∀ (K : Nat → Nat → Int32) k v, up2 K 408 k v 400 12 = K 400 12 := fun K k v => o12 K 408 k v (by decide)
  have o415 : ∀ (K : Nat → Nat → Int32) k v, up2 K 415 k v 400 12 = K 400 12 := fun K k v => o12 K 415 k v (by decide)
  have o416 : ∀ (K : Nat → Nat → Int32) k v, up2 K 416 k v 400 12 = K 400 12 := fun K k v => o12 K 416 k v (by decide)
  have o417 : ∀ (K : Nat → Nat → Int32) k v, up2 K 417 k v 400 12 = K 400 12 := fun K k v => o12 K 417 k v (by decide)
  have o411 : ∀ (K : Nat → Nat → Int32) k v, up2 K 411 k v 400 12 = K 400 12 := fun K k v => o12 K 411 k v (by decide)
  have o17 : ∀ (K : Nat → Nat → Int32) v w, (up2 (up2 K 400 12 v) 400 17 w) 400 12 = v := fun K v w => (up2_o (by omega)).trans up2_s
  simp only [gK, gI, gL, gR_, g_stI, g_stL, forall_eq, true_and, ad_s, okA_s, okO_s, okN_s, i10, i00, if_true, if_false, reduceCtorEq, Kf_1, Kf_400, Rf_400_7, Rf_400_10, Rf_400_14, Rf_400_15, Rf_400_16, Kf_408, Kf_411, Kf_415, Kf_416, Kf_417, vb, cb, va, ca, o408, o415, o416, o417, o411, a5, st5, nI_1, o17, nI_pred]
  generalize hF : up2 (up2 (up2 (up2 (up2 (up2 (up2 M5 408 b _) 415 D.nA _) 416 D.nA _) 417 D.nA so) 411 b _) 400 12 _) 400 17 _ = F
  have fx0 : ∀ l k, ¬ (l = 408 ∧ k = b) → ¬ ((l = 415 ∨ l = 416 ∨ l = 417) ∧ k = D.nA) → ¬ (l = 411 ∧ k = b) → ¬ (l = 400 ∧ (k = 12 ∨ k = 17)) → F l k = M5 l k := by
    intro l k b1 b2 b3 b4
    rw [← hF, up2_o (by omega), up2_o (by omega), up2_o (by omega), up2_o (by omega), up2_o (by omega), up2_o (by omega), up2_o (by omega)]
  have f408 : F 408 b = drN (drN (I 408 b) 32) 32 := by
    rw [← hF, up2_o (by omega), up2_o (by omega), up2_o (by omega), up2_o (by omega), up2_o (by omega), up2_o (by omega), up2_s]
  have f415 : F 415 D.nA = nI b := by
    rw [← hF, up2_o (by omega), up2_o (by omega), up2_o (by omega), up2_o (by omega), up2_o (by omega), up2_s]
  have e411 : M5 411 b = I 411 b := by rw [m5x _ _ (by omega) (by omega) (by omega) (by omega) (by omega) (by omega), jm _ _ (by omega)]
  have f416 : F 416 D.nA = I 411 b := by
    rw [← hF, up2_o (by omega), up2_o (by omega), up2_o (by omega), up2_o (by omega), up2_s, up2_o (by omega), up2_o (by omega), e411]
  have f417 : F 417 D.nA = so := by
    rw [← hF, up2_o (by omega), up2_o (by omega), up2_o (by omega), up2_s]
  have f411 : F 411 b = I 411 b + 1 := by
    rw [← hF, up2_o (by omega), up2_o (by omega), up2_s, up2_o (by omega), up2_o (by omega), up2_o (by omega), up2_o (by omega), e411]
  have f12 : F 400 12 = nI (D.nA + 1) := by rw [← hF, up2_o (by omega), up2_s]
  have f17 : F 400 17 = I 400 17 + 1 := by
    rw [← hF, up2_s, up2_o (by omega), up2_o (by omega), up2_o (by omega), up2_o (by omega), up2_o (by omega), up2_o (by omega), m5x _ _ (by omega) (by omega) (by omega) (by omega) (by omega) (by omega), jm _ _ (by omega)]
  have fJ : ∀ l k, l < 400 → F l k = J l k := fun l k z => (fx0 l k (by omega) (by omega) (by omega) (by omega)).trans (m5x l k (by omega) (by omega) (by omega) (by omega) (by omega) (by omega))
  have fI : ∀ l k, 400 ≤ l → ¬ (l = 400 ∧ (k = 0 ∨ k = 12 ∨ k = 17 ∨ k = 43)) → ¬ ((l = 408 ∨ l = 411) ∧ k = b) → ¬ ((l = 415 ∨ l = 416 ∨ l = 417) ∧ k = D.nA) → l ≠ 442 → l ≠ 443 → l ≠ 445 → ¬ (l = 414 ∧ 32 * D.nA ≤ k ∧ k < 32 * D.nA + 32) → ¬ (l = 407 ∧ 32 * b ≤ k ∧ k < 32 * b + 32) → F l k = I l k := fun l k b0 b1 b2 b3 b4 b5 b6 b7 b8 => (fx0 l k (by omega) (by omega) (by omega) (by omega)).trans ((m5x l k (by omega) b4 b5 b6 b7 b8).trans (jm l k b0))
  refine Inv_ball h hn hA (fun b' hb' => by cases hb'; exact hb) (fun s hs => ?_) ?_ (fun l k b0 b1 b2 b3 b4 b5 b6 b7 => ?_) ?_ ?_ f12 f17 (fun j hj => ?_) ?_ f415 ?_ ?_
  · rw [l0 _ _ (Or.inl rfl), l0 _ _ (Or.inr rfl)]
    exact h.2.2.2.2.2.2.2.2.1 s hs
  · intro i hi
    obtain ⟨v1, v2, v3, v4, v5, v6, v7, v8⟩ := h.2.2.2.2.1 i hi
    by_cases e : i = b
    · subst e
      have g1 : ∀ k, k ≠ 4 → k ≠ 5 → F (120 + 2 * i) k = I (120 + 2 * i) k := fun k z1 z2 => (fJ _ _ (by omega)).trans (jx _ _ (by unfold Scr; omega) (by omega) (by omega) (by omega) (by omega))
      refine ⟨fun j hj => ?_, ?_, ?_, ?_, ?_, ?_, ?_, ?_⟩
      · rw [fJ _ _ (by omega), jbr j hj, fx0 _ _ (by omega) (by omega) (by omega) (by omega), r5' j hj]
        exact ⟨rfl, hgL_in (v1 j hj).2 _ _⟩
      · rw [g1 0 (by omega) (by omega)]; exact v2
      · rw [g1 1 (by omega) (by omega), fI 409 _ (by omega) (by omega) (by omega) (by omega) (by omega) (by omega) (by omega) (by omega) (by omega)]; exact v3
      · rw [fI 409 _ (by omega) (by omega) (by omega) (by omega) (by omega) (by omega) (by omega) (by omega) (by omega)]; exact v4
      · rw [g1 2 (by omega) (by omega), fI 410 _ (by omega) (by omega) (by omega) (by omega) (by omega) (by omega) (by omega) (by omega) (by omega)]; exact v5
      · rw [fJ _ _ (by omega), js, f408]
      · rw [fJ _ _ (by omega), jc, f411]
      · rw [g1 6 (by omega) (by omega), fI 412 _ (by omega) (by omega) (by omega) (by omega) (by omega) (by omega) (by omega) (by omega) (by omega)]; exact v8
    · have g1 : ∀ l k, l = 120 + 2 * i ∨ l = 120 + 2 * i + 1 → F l k = I l k := fun l k z => (fJ _ _ (by omega)).trans (jx _ _ (by unfold Scr; omega) (by omega) (by omega) (by omega) (by omega))
      have g2 : ∀ l, 408 ≤ l → l ≤ 412 → F l i = I l i := fun l z1 z2 => fI l i (by omega) (by omega) (by omega) (by omega) (by omega) (by omega) (by omega) (by omega) (by omega)
      refine ⟨fun j hj => ?_, ?_, ?_, ?_, ?_, ?_, ?_, ?_⟩
      · rw [g1 _ _ (Or.inr rfl), fI 407 _ (by omega) (by omega) (by omega) (by omega) (by omega) (by omega) (by omega) (by omega) (by omega)]; exact v1 j hj
      · rw [g1 _ _ (Or.inl rfl)]; exact v2
      · rw [g1 _ _ (Or.inl rfl), g2 _ (by omega) (by omega)]; exact v3
      · rw [g2 _ (by omega) (by omega)]; exact v4
      · rw [g1 _ _ (Or.inl rfl), g2 _ (by omega) (by omega)]; exact v5
      · rw [g1 _ _ (Or.inl rfl), g2 _ (by omega) (by omega)]; exact v6
      · rw [g1 _ _ (Or.inl rfl), g2 _ (by omega) (by omega)]; exact v7
      · rw [g1 _ _ (Or.inl rfl), g2 _ (by omega) (by omega)]; exact v8
  · by_cases z : l < 400
    · rw [fJ l k z]
      exact jx l k b0 (by omega) b3 (by omega) (by omega)
    · unfold Scr at b0
      exact fI l k (by omega) (by omega) (by omega) (by omega) (by omega) (by omega) (by omega) (by omega) (by omega)
  · rw [fJ _ _ (by omega)]; exact j5
  · rw [fJ 1 6 (by omega), jx 1 6 (by unfold Scr; omega) (by omega) (by omega) (by omega) (by omega)]; exact c11
  · rw [fJ _ _ (by omega), jr j hj, fx0 _ _ (by omega) (by omega) (by omega) (by omega), r3' j hj]
    exact ⟨rfl, h63.mpr (Or.inr (hgL_in (wb1 j hj).2 _ _))⟩
  · rw [fJ _ _ (by omega)]; exact jn
  · rw [fJ _ _ (by omega), j2, f416]
  · rw [fJ _ _ (by omega), j3, f417]
theorem pair_shot {n : Nat} {g : Hp} (hI : Inv n g) (hn : n < 100000) (x1 x2 : Int32) : wp_X11_shot 1 x1 x2 g (fun r h1 => wp_X12_shot 400 x1 x2 h1 (fun r' h2 => r' = r ∧ Inv (n + 1) h2)) := by
  obtain ⟨I, L, D, rfl, h⟩ := hI
  have nB16 := h.1.2.1
  have nA40 := h.nA40
  obtain ⟨c1, c2, c3, c4, c5, c6, c7, c8, c9, c10, c11⟩ := h.2.1
  have cB : (up2 I 400 0 0) 400 5 = nI D.nB := (up2_o (by omega)).trans c4
  have cA : (up2 I 400 0 0) 400 12 = nI D.nA := (up2_o (by omega)).trans c6
  obtain ⟨n0, hn0, e26⟩ := text1 h
  by_cases w1 : inN x1 D.nB
  · obtain ⟨b, hb, rfl⟩ := inN_of (by omega) w1
    by_cases s0 : x2 < 0
    · unfold wp_X11_shot
      simp only [gK, gI, gL, gR_, g_stI, g_stL, forall_eq, true_and, ad_s, okA_s, okO_s, okN_s, i10, i00, if_true, if_false, reduceCtorEq, Kf_1, Kf_400, x_barrelAt nB16, if_pos w1, if_pos s0]
      unfold wp_X12_shot
      simp only [gK, gI, gL, gR_, g_stI, g_stL, forall_eq, true_and, ad_s, okA_s, okO_s, okN_s, i10, i00, if_true, if_false, reduceCtorEq, Kf_1, Kf_400, m_isBarrel cB, if_pos w1, m_isIn, if_neg (show ¬ ((0 : Int32) ≤ x2 ∧ x2 ≤ 9) from fun z => absurd z.1 (Int32.not_le.mpr s0))]
      exact Inv_told h
    · by_cases s9 : (9 : Int32) < x2
      · unfold wp_X11_shot
        simp only [gK, gI, gL, gR_, g_stI, g_stL, forall_eq, true_and, ad_s, okA_s, okO_s, okN_s, i10, i00, if_true, if_false, reduceCtorEq, Kf_1, Kf_400, x_barrelAt nB16, if_pos w1, if_neg s0, if_pos s9]
        unfold wp_X12_shot
        simp only [gK, gI, gL, gR_, g_stI, g_stL, forall_eq, true_and, ad_s, okA_s, okO_s, okN_s, i10, i00, if_true, if_false, reduceCtorEq, Kf_1, Kf_400, m_isBarrel cB, if_pos w1, m_isIn, if_neg (show ¬ ((0 : Int32) ≤ x2 ∧ x2 ≤ 9) from fun z => absurd z.2 (Int32.not_le.mpr s9))]
        exact Inv_told h
      · by_cases hA : D.nA = 40
        · unfold wp_X11_shot
          simp only [gK, gI, gL, gR_, g_stI, g_stL, forall_eq, true_and, ad_s, okA_s, okO_s, okN_s, i10, i00, if_true, if_false, reduceCtorEq, Kf_1, Kf_400, x_barrelAt nB16, if_pos w1, if_neg s0, if_neg s9, c5, if_neg (show ¬ nI D.nA < (40 : Int32) by rw [hA]; decide)]
          unfold wp_X12_shot
          simp only [gK, gI, gL, gR_, g_stI, g_stL, forall_eq, true_and, ad_s, okA_s, okO_s, okN_s, i10, i00, if_true, if_false, reduceCtorEq, Kf_1, Kf_400, m_isBarrel cB, if_pos w1, m_isIn, if_pos (show (0 : Int32) ≤ x2 ∧ x2 ≤ 9 from ⟨Int32.not_lt.mp s0, Int32.not_lt.mp s9⟩), cA, if_pos (show nI D.nA = (40 : Int32) by rw [hA]; rfl)]
          exact Inv_told h
        · have hA : D.nA < 40 := by omega
          exact x_shot h hb hA hn0 e26 s0 s9 (fun J L' l0 jx jm j5 jn j2 j3 jr js jc jbr => m_shot h hn hb hA hn0 e26 s0 s9 l0 jx jm j5 jn j2 j3 jr js jc jbr)
  · unfold wp_X11_shot
    simp only [gK, gI, gL, gR_, g_stI, g_stL, forall_eq, true_and, ad_s, okA_s, okO_s, okN_s, i10, i00, if_true, if_false, reduceCtorEq, Kf_1, Kf_400, x_barrelAt nB16, if_neg w1]
    unfold wp_X12_shot
    simp only [gK, gI, gL, gR_, g_stI, g_stL, forall_eq, true_and, ad_s, okA_s, okO_s, okN_s, i10, i00, if_true, if_false, reduceCtorEq, Kf_1, Kf_400, m_isBarrel cB, if_neg w1]
    exact Inv_told h
