/-! WHAT THE REFERENCE KEEPS (my own) -/
theorem ix1600 (i j k : Nat) : ((1600 : Int32) * nI i) + ((40 : Int32) * nI j) + nI k = nI (1600 * i + 40 * j + k) := by rw [show (1600 : Int32) = nI 1600 from rfl, show (40 : Int32) = nI 40 from rfl, pk_mul, pk_mul, nI_add, nI_add]
theorem ix9600 (t i j k : Nat) : ((((9600 : Int32) * nI t) + ((1600 : Int32) * nI i)) + ((40 : Int32) * nI j)) + nI k = nI (9600 * t + 1600 * i + 40 * j + k) := by rw [show (9600 : Int32) = nI 9600 from rfl, show (1600 : Int32) = nI 1600 from rfl, show (40 : Int32) = nI 40 from rfl, pk_mul, pk_mul, pk_mul, nI_add, nI_add, nI_add]
theorem Same_V {D : DD} {I I' : Nat → Nat → Int32} (ht : D.tx 0 < 8) (h : ∀ l k, ¬ Xs_V l k → I' l k = I l k) : Same D I I' := ⟨ht, fun l k _ _ h3 => h l k h3⟩
section KV
variable {n : Nat} {I0 I : Nat → Nat → Int32} {L : Nat → Nat → Int64} {D : DD} {l a b : Nat}
theorem CV_set51 (h : InvI n I L D) (hv : I 400 49 = I 400 17) {t : Nat} (ht : t < 2) (hl : l < D.nL) (ha : a < D.nA) (hb : b < D.nA) : InvI n (up2 I 451 (9600 * t + 1600 * l + 40 * a + b) (nI (1 + sayF I l a b t))) L D := by
  have nL6 := h.1.2.2.2.1
  have nA40 := h.1.2.2.1
  have hs : Same D I (up2 I 451 (9600 * t + 1600 * l + 40 * a + b) (nI (1 + sayF I l a b t))) := Same_V (tx_lt h.1 (by omega)) (fun l' k' z => up2_o (fun ⟨e1, e2⟩ => z (by unfold Xs_V; omega)))
  obtain ⟨q1, q2⟩ := h.2.2.2.2.2.2.2.2.2.2.2.2.1 hv
  refine InvI_V h ⟨fun _ => ⟨fun t' l' a' b' ht' hl' ha' hb' => ?_, fun l' a' b' hl' ha' hb' => ?_⟩, ?_⟩ (fun l' k' h1 h2 => up2_o (fun ⟨e1, e2⟩ => h2 (by unfold Xs_V; omega)))
  · by_cases e : t' = t ∧ l' = l ∧ a' = a ∧ b' = b
    · obtain ⟨rfl, rfl, rfl, rfl⟩ := e
      rw [up2_s, hs.say h hl]
      exact Or.inr ⟨hl, ha, hb, rfl⟩
    · rw [up2_o (by omega)]
      rcases q1 t' l' a' b' ht' hl' ha' hb' with q | ⟨q3, q4, q5, q6⟩
      · exact Or.inl q
      · rw [hs.say h q3]
        exact Or.inr ⟨q3, q4, q5, q6⟩
  · rw [up2_o (by omega), hs.row, hs.row, hs.mg]
    exact q2 l' a' b' hl' ha' hb'
  · obtain ⟨v, w1, w2, w3⟩ := h.2.2.2.2.2.2.2.2.2.2.2.2.2.1
    refine ⟨v, w1, ?_, ?_⟩
    · rw [up2_o (by omega)]; exact w2
    · rw [up2_o (by omega)]; exact w3
theorem CV_set52 (h : InvI n I L D) (hv : I 400 49 = I 400 17) (hl : l < D.nL) (ha : a < D.nA) (hb : b < D.nA) : InvI n (up2 I 452 (1600 * l + 40 * a + b) (nI (1 + longF (row I a) (row I b) (I 447 l)))) L D := by
  have nL6 := h.1.2.2.2.1
  have nA40 := h.1.2.2.1
  have hs : Same D I (up2 I 452 (1600 * l + 40 * a + b) (nI (1 + longF (row I a) (row I b) (I 447 l)))) := Same_V (tx_lt h.1 (by omega)) (fun l' k' z => up2_o (fun ⟨e1, e2⟩ => z (by unfold Xs_V; omega)))
  obtain ⟨q1, q2⟩ := h.2.2.2.2.2.2.2.2.2.2.2.2.1 hv
  refine InvI_V h ⟨fun _ => ⟨fun t' l' a' b' ht' hl' ha' hb' => ?_, fun l' a' b' hl' ha' hb' => ?_⟩, ?_⟩ (fun l' k' h1 h2 => up2_o (fun ⟨e1, e2⟩ => h2 (by unfold Xs_V; omega)))
  · rw [up2_o (by omega)]
    rcases q1 t' l' a' b' ht' hl' ha' hb' with q | ⟨q3, q4, q5, q6⟩
    · exact Or.inl q
    · rw [hs.say h q3]
      exact Or.inr ⟨q3, q4, q5, q6⟩
  · rw [hs.row, hs.row, hs.mg]
    by_cases e : l' = l ∧ a' = a ∧ b' = b
    · obtain ⟨rfl, rfl, rfl⟩ := e
      rw [up2_s]
      exact Or.inr ⟨hl, ha, hb, rfl⟩
    · rw [up2_o (by omega)]
      exact q2 l' a' b' hl' ha' hb'
  · obtain ⟨v, w1, w2, w3⟩ := h.2.2.2.2.2.2.2.2.2.2.2.2.2.1
    refine ⟨v, w1, ?_, ?_⟩
    · rw [up2_o (by omega)]; exact w2
    · rw [up2_o (by omega)]; exact w3
theorem m_fz_L22 {K Q : Hp → Prop} : ∀ (n j : Nat) (I : Nat → Nat → Int32), j ≤ 19200 → 19201 ≤ n + j → (∀ I' : Nat → Nat → Int32, (∀ l k, ¬ (l = 451 ∧ j ≤ k) → I' l k = I l k) → (∀ k, j ≤ k → k < 19200 → I' 451 k = 0) → K (fm I' L D)) → wp_X12_forgets_L22 400 K Q n (nI j) (fm I L D) := by
  intro n
  induction n with
  | zero => intro j I h1 h2; omega
  | succ n ih =>
    intro j I h1 h2 hK
    rw [wp_X12_forgets_L22]
    by_cases hj : j = 19200
    · subst hj
      rw [if_pos (show (19200 : Int32) ≤ nI 19200 from by decide)]
      exact hK I (fun _ _ _ => rfl) (fun k _ _ => by omega)
    · rw [if_neg (show ¬ (19200 : Int32) ≤ nI j from nI_ge (b := 19200) (by omega) (by decide))]
      simp only [gK, gI, gL, gR_, g_stI, g_stL, forall_eq, true_and, ad_s, okA_s, okO_s, okN_s, i10, i00, if_true, if_false, reduceCtorEq, Kf_1, Kf_400, Rf_400_50, Kf_451, vp_in_nI (show j < 19200 by omega) (by decide), nI_clamp (show j < 2 ^ 31 by omega), nI_1]
      refine ih (j + 1) _ (by omega) (by omega) (fun I' hf h3 => hK I' (fun l k hl => ?_) (fun k h5 h6 => ?_))
      · rw [hf l k (by omega), up2_o (by omega)]
      · by_cases e : k = j
        · subst e; rw [hf _ _ (by omega), up2_s]
        · exact h3 k (by omega) h6
theorem m_fz_L44 {K Q : Hp → Prop} : ∀ (n j : Nat) (I : Nat → Nat → Int32), j ≤ 9600 → 9601 ≤ n + j → (∀ I' : Nat → Nat → Int32, (∀ l k, ¬ (l = 452 ∧ j ≤ k) → I' l k = I l k) → (∀ k, j ≤ k → k < 9600 → I' 452 k = 0) → K (fm I' L D)) → wp_X12_forgets_L44 400 K Q n (nI j) (fm I L D) := by
  intro n
  induction n with
  | zero => intro j I h1 h2; omega
  | succ n ih =>
    intro j I h1 h2 hK
    rw [wp_X12_forgets_L44]
    by_cases hj : j = 9600
    · subst hj
      rw [if_pos (show (9600 : Int32) ≤ nI 9600 from by decide)]
      exact hK I (fun _ _ _ => rfl) (fun k _ _ => by omega)
    · rw [if_neg (show ¬ (9600 : Int32) ≤ nI j from nI_ge (b := 9600) (by omega) (by decide))]
      simp only [gK, gI, gL, gR_, g_stI, g_stL, forall_eq, true_and, ad_s, okA_s, okO_s, okN_s, i10, i00, if_true, if_false, reduceCtorEq, Kf_1, Kf_400, Rf_400_51, Kf_452, vp_in_nI (show j < 9600 by omega) (by decide), nI_clamp (show j < 2 ^ 31 by omega), nI_1]
      refine ih (j + 1) _ (by omega) (by omega) (fun I' hf h3 => hK I' (fun l k hl => ?_) (fun k h5 h6 => ?_))
      · rw [hf l k (by omega), up2_o (by omega)]
      · by_cases e : k = j
        · subst e; rw [hf _ _ (by omega), up2_s]
        · exact h3 k (by omega) h6
theorem m_forgetsF (h : St n L D I0 I) {Q : Hp → Prop} (hQ : ∀ I' : Nat → Nat → Int32, St n L D I0 I' → (∀ l k, ¬ Xs_V l k → I' l k = I l k) → I' 400 49 = I' 400 17 → Q (fm I' L D)) : wp_X12_forgets 400 (fm I L D) Q := by
  unfold wp_X12_forgets
  simp only [gK, gI, gL, gR_, g_stI, g_stL, forall_eq, true_and, ad_s, okA_s, okO_s, okN_s, i10, i00, if_true, if_false, reduceCtorEq, Kf_1, Kf_400]
  by_cases e : I 400 49 = I 400 17
  · rw [if_pos e]
    exact hQ I h (fun _ _ _ => rfl) e
  · rw [if_neg e]
    refine m_fz_L22 fuel 0 _ (by omega) (by have := fuel_ge; omega) (fun I1 f1 h3 => ?_)
    refine m_fz_L44 fuel 0 _ (by omega) (by have := fuel_ge; omega) (fun I2 f2 h4 => ?_)
    have fr : ∀ l' k', ¬ Xs_V l' k' → I2 l' k' = I l' k' := fun l' k' z => by
      unfold Xs_V at z
      rw [f2 _ _ (by omega), f1 _ _ (by omega), up2_o (by omega)]
    have e1 : I2 400 49 = I 400 17 := by rw [f2 _ _ (by omega), f1 _ _ (by omega), up2_s]
    have e2 : I2 400 17 = I 400 17 := fr _ _ (by unfold Xs_V; omega)
    refine hQ I2 ⟨InvI_V h.1 ⟨fun _ => ⟨fun t' l' a' b' ht' hl' ha' hb' => Or.inl ?_, fun l' a' b' hl' ha' hb' => Or.inl ?_⟩, ?_⟩ (fun l' k' _ z => fr l' k' z), h.2.trans (Same_V h.2.1 fr)⟩ fr (e1.trans e2.symm)
    · rw [f2 _ _ (by omega)]; exact h3 _ (by omega) (by omega)
    · exact h4 _ (by omega) (by omega)
    · obtain ⟨v, w1, w2, w3⟩ := h.1.2.2.2.2.2.2.2.2.2.2.2.2.2.1
      exact ⟨v, w1, e2.trans w2, Or.inr ⟨v, Nat.le_refl _, e1.trans w2⟩⟩
theorem m_longestF (h : St n L D I0 I) (hl : l < D.nL) (ha : a < D.nA) (hb : b < D.nA) {Q : Int32 → Hp → Prop} (hQ : ∀ I' : Nat → Nat → Int32, St n L D I0 I' → (∀ l k, ¬ Xs_V l k → I' l k = I l k) → Q (nI (longF (row I0 a) (row I0 b) (I0 447 l))) (fm I' L D)) : wp_X12_longest 400 (nI l) (nI a) (nI b) (fm I L D) Q := by
  have n3 := h.1.1.2.2.1
  have nL6 := h.1.1.2.2.2.1
  unfold wp_X12_longest
  simp only [gK, gI, gL, gR_, g_stI, g_stL, forall_eq, true_and, ad_s, okA_s, okO_s, okN_s, i10, i00, if_true, if_false, reduceCtorEq, Kf_1, Kf_400]
  refine m_forgetsF h (fun J hJ fJ hv => ?_)
  have g3 : longF (row I0 a) (row I0 b) (I0 447 l) ≤ 32 := longS_le _ _ _ _
  have j51 : ∀ J' : Nat → Nat → Int32, St n L D I0 J' → (∀ l k, ¬ Xs_V l k → J' l k = I l k) → J' 452 (1600 * l + 40 * a + b) = nI (1 + longF (row I0 a) (row I0 b) (I0 447 l)) → wp_X12_longest_J51 400 (nI (1600 * l + 40 * a + b)) Q (fm J' L D) := by
    intro J' hJ' fJ' e
    unfold wp_X12_longest_J51
    simp only [gK, gI, gL, gR_, g_stI, g_stL, forall_eq, true_and, ad_s, okA_s, okO_s, okN_s, i10, i00, if_true, if_false, reduceCtorEq, Kf_1, Kf_400, Rf_400_51, Kf_452, vp_in_nI (show 1600 * l + 40 * a + b < 9600 by omega) (by decide), nI_clamp (show 1600 * l + 40 * a + b < 2 ^ 31 by omega), e]
    rw [Nat.add_comm, nI_pred]
    exact hQ J' hJ' fJ'
  simp only [gK, gI, gL, gR_, g_stI, g_stL, forall_eq, true_and, ad_s, okA_s, okO_s, okN_s, i10, i00, if_true, if_false, reduceCtorEq, Kf_1, Kf_400, ix1600, Rf_400_51, Kf_452, vp_in_nI (show 1600 * l + 40 * a + b < 9600 by omega) (by decide), nI_clamp (show 1600 * l + 40 * a + b < 2 ^ 31 by omega)]
  by_cases e0 : J 452 (1600 * l + 40 * a + b) = 0
  · rw [if_pos e0]
    have ra := rg_row hJ.1 ha
    have rb := rg_row hJ.1 hb
    have hm := ((hJ.1.2.2.2.2.2.2.1 l).1 hl).2
    refine m_bestSlide (by omega) (by omega) (by omega) ra rb hm ?_
    simp only [gK, gI, gL, gR_, g_stI, g_stL, forall_eq, true_and, ad_s, okA_s, okO_s, okN_s, i10, i00, if_true, if_false, reduceCtorEq, Kf_1, Kf_400]
    refine m_longestBy (by omega) (by omega) (by omega) (bestF_lt _ _ _) ra rb hm ?_
    simp only [gK, gI, gL, gR_, g_stI, g_stL, forall_eq, true_and, ad_s, okA_s, okO_s, okN_s, i10, i00, if_true, if_false, reduceCtorEq, Kf_1, Kf_400, Kf_452, vp_in_nI (show 1600 * l + 40 * a + b < 9600 by omega) (by decide), nI_clamp (show 1600 * l + 40 * a + b < 2 ^ 31 by omega)]
    have e1 : (1 : Int32) + nI (longS (row J a) (row J b) (J 447 l) (bestF (row J a) (row J b) (J 447 l))) = nI (1 + longF (row J a) (row J b) (J 447 l)) := by
      rw [show (1 : Int32) = nI 1 from rfl, nI_add]; rfl
    rw [e1]
    refine j51 _ ⟨CV_set52 hJ.1 hv hl ha hb, hJ.2.trans (Same_V hJ.2.1 (fun l' k' z => up2_o (fun ⟨e1, e2⟩ => z (by unfold Xs_V; omega))))⟩ (fun l' k' z => (up2_o (fun ⟨e1, e2⟩ => z (by unfold Xs_V; omega))).trans (fJ l' k' z)) ?_
    rw [up2_s, hJ.2.row, hJ.2.row, hJ.2.mg]
  · rw [if_neg e0]
    refine j51 J hJ fJ ?_
    rcases (hJ.1.2.2.2.2.2.2.2.2.2.2.2.2.1 hv).2 l a b (by omega) (by omega) (by omega) with q | ⟨-, -, -, q⟩
    · exact absurd q e0
    · rw [q, hJ.2.row, hJ.2.row, hJ.2.mg]
theorem m_forgets (h : St n L D I0 I) {Q : Hp → Prop} (hQ : ∀ I' : Nat → Nat → Int32, St n L D I0 I' → I' 400 49 = I' 400 17 → Q (fm I' L D)) : wp_X12_forgets 400 (fm I L D) Q := m_forgetsF h (fun I' h1 _ h3 => hQ I' h1 h3)
theorem m_longest (h : St n L D I0 I) (hl : l < D.nL) (ha : a < D.nA) (hb : b < D.nA) {Q : Int32 → Hp → Prop} (hQ : ∀ I' : Nat → Nat → Int32, St n L D I0 I' → Q (nI (longF (row I0 a) (row I0 b) (I0 447 l))) (fm I' L D)) : wp_X12_longest 400 (nI l) (nI a) (nI b) (fm I L D) Q := m_longestF h hl ha hb (fun I' h1 _ => hQ I' h1)
end KV
