/-! queries of balls and barrels (my own) -/
theorem ix32 (i j : Nat) : (32 : Int32) * nI i + nI j = nI (32 * i + j) := by rw [show (32 : Int32) = nI 32 from rfl, pk_mul, nI_add]
theorem fuel_ge : 90000 ≤ fuel := by decide
theorem cnt_le (f : Nat → Bool) (n : Nat) : cnt f n ≤ n := by
  induction n with
  | zero => exact Nat.le_refl _
  | succ n ih => unfold cnt; split <;> omega
theorem cnt_cg {f g : Nat → Bool} {n : Nat} (h : ∀ i, i < n → f i = g i) : cnt f n = cnt g n := by
  induction n with
  | zero => rfl
  | succ n ih => unfold cnt; rw [ih (fun i hi => h i (by omega)), h n (by omega)]
section Q1
variable {I : Nat → Nat → Int32} {L : Nat → Nat → Int64} {D : DD}
theorem x_missing_L {i : Nat} (hi : i < D.nA) (hA : D.nA ≤ 40) {K Q : Int32 → Hp → Prop} (f : Nat → Bool) (hf : ∀ j, j < 32 → f j = decide (I (160 + 2 * i + 1) j = -1)) (hK : K (nI (cnt f 32)) (fm I L D)) : ∀ (n j : Nat), j ≤ 32 → 33 ≤ n + j → wp_X0_missing_L4 (160 + 2 * i) K Q n (nI (cnt f j)) (nI j) (fm I L D) := by
  intro n
  induction n with
  | zero => intro j h1 h2; omega
  | succ n ih =>
    intro j h1 h2
    rw [wp_X0_missing_L4]
    have c := cnt_le f j
    by_cases hj : j = 32
    · subst hj
      rw [if_pos (show (32 : Int32) ≤ nI 32 from by decide)]
      exact hK
    · rw [if_neg (show ¬ (32 : Int32) ≤ nI j from nI_ge (b := 32) (by omega) (by decide))]
      simp only [gK, gI, gR_, Kf_ball hi hA, Rf_ball hi hA, okA_s, ad_s, Kf_ballr hi hA, forall_eq, true_and, nI_clamp (show j < 2 ^ 31 by omega)]
      refine ⟨vp_in_nI (by omega) (by decide), ?_⟩
      have hs := ih (j + 1) (by omega) (by omega)
      by_cases hv : I (160 + 2 * i + 1) j = -1
      · rw [if_pos hv, nI_1, nI_1]
        have e : cnt f (j + 1) = cnt f j + 1 := by rw [cnt, hf j (by omega), if_pos (by simp [hv])]
        rw [e] at hs; exact hs
      · rw [if_neg hv, nI_1]
        have e : cnt f (j + 1) = cnt f j := by rw [cnt, hf j (by omega), if_neg (by simp [hv]), Nat.add_zero]
        rw [e] at hs; exact hs
theorem m_missing_L {i : Nat} (hi : i < 40) {K Q : Int32 → Hp → Prop} (hK : K (nI (missF (row I i))) (fm I L D)) : ∀ (n j : Nat), j ≤ 32 → 33 ≤ n + j → wp_X12_missingOf_L4 400 (nI i) K Q n (nI (cnt (fun k => decide (row I i k = -1)) j)) (nI j) (fm I L D) := by
  intro n
  induction n with
  | zero => intro j h1 h2; omega
  | succ n ih =>
    intro j h1 h2
    rw [wp_X12_missingOf_L4]
    by_cases hj : j = 32
    · subst hj
      rw [if_pos (show (32 : Int32) ≤ nI 32 from by decide)]
      exact hK
    · rw [if_neg (show ¬ (32 : Int32) ≤ nI j from nI_ge (b := 32) (by omega) (by decide))]
      simp only [gK, gI, gR_, Kf_400, Rf_400_13, okA_s, ad_s, Kf_414, forall_eq, true_and, ix32, nI_clamp (show 32 * i + j < 2 ^ 31 by omega)]
      refine ⟨vp_in_nI (by omega) (by decide), ?_⟩
      have hs := ih (j + 1) (by omega) (by omega)
      by_cases hv : I 414 (32 * i + j) = -1
      · rw [if_pos hv, nI_1, nI_1]
        have e : cnt (fun k => decide (row I i k = -1)) (j + 1) = cnt (fun k => decide (row I i k = -1)) j + 1 := by rw [cnt, if_pos (by simp [row, hv])]
        rw [e] at hs; exact hs
      · rw [if_neg hv, nI_1]
        have e : cnt (fun k => decide (row I i k = -1)) (j + 1) = cnt (fun k => decide (row I i k = -1)) j := by rw [cnt, if_neg (by simp [row, hv]), Nat.add_zero]
        rw [e] at hs; exact hs
theorem x_missing {i : Nat} (hA : CA I D) (hi : i < D.nA) (hA40 : D.nA ≤ 40) {Q : Int32 → Hp → Prop} (hQ : Q (nI (missF (row I i))) (fm I L D)) : wp_X0_missing (160 + 2 * i) (fm I L D) Q := by
  unfold wp_X0_missing
  exact x_missing_L hi hA40 (fun k => decide (row I i k = -1)) (fun j hj => by rw [((hA i hi).1 j hj).1]; rfl) hQ fuel 0 (by omega) (by have := fuel_ge; omega)
theorem m_missing {i : Nat} (hi : i < 40) {Q : Int32 → Hp → Prop} (hQ : Q (nI (missF (row I i))) (fm I L D)) : wp_X12_missingOf 400 (nI i) (fm I L D) Q := by
  unfold wp_X12_missingOf
  exact m_missing_L hi hQ fuel 0 (by omega) (by have := fuel_ge; omega)
theorem m_isShot {i : Nat} (hi : i < 40) (hg : I 415 i = gunI (D.gun i)) (hb : ∀ b, D.gun i = some b → b < 16) {Q : Int32 → Hp → Prop} : wp_X12_isShot 400 (nI i) (fm I L D) Q ↔ Q (if D.gun i = none then 0 else 1) (fm I L D) := by
  unfold wp_X12_isShot
  simp only [gK, gI, gR_, Kf_400, Rf_400_14, okA_s, ad_s, Kf_415, forall_eq, true_and, nI_clamp (show i < 2 ^ 31 by omega), vp_in_nI (show i < 40 by omega) (by decide), hg]
  cases hgi : D.gun i with
  | none => simp [gunI]
  | some b =>
    have := hb b hgi
    have e : ¬ nI b = (-1 : Int32) := fun e => by
      have := congrArg Int32.toInt e
      rw [nI_toInt (by omega)] at this
      have h2 : ((-1 : Int32)).toInt = -1 := by decide
      omega
    simp [gunI, e]
end Q1
theorem nI_inj {a b : Nat} (ha : a < 2 ^ 31) (hb : b < 2 ^ 31) : nI a = nI b ↔ a = b := nI_eq ha hb
theorem pair_end {n : Nat} {g : Hp} (hI : Inv n g) (x1 : Int32) : wp_X11_end 1 x1 g (fun r h1 => wp_X12_end 400 x1 h1 (fun r' h2 => r' = r ∧ Inv (n + 1) h2)) := by
  obtain ⟨I, L, D, rfl, h⟩ := hI
  obtain ⟨⟨t, q1, q2, q3, q4⟩, q5, q6⟩ := h.2.2.2.2.2.2.2.2.2.1
  have e19 : ∀ J : Nat → Nat → Int32, (up2 J 400 0 0) 400 19 = J 400 19 := fun J => up2_o (by omega)
  unfold wp_X11_end wp_X12_end
  simp only [gK, gI, gR_, Kf_1, Rf_1_12, ad_s, okO_s, Kf_8, Kf_400, g_stI, forall_eq, true_and, m_isIn, e19, q2, q3]
  by_cases h0 : x1 < 0
  · rw [if_pos h0]
    simp only [q3, if_neg (show ¬ ((0 : Int32) ≤ x1 ∧ x1 ≤ nI t) from fun q => absurd q.1 (Int32.not_le.mpr h0)), i00, if_true]
    exact Inv_told h
  · rw [if_neg h0]
    by_cases h1 : x1 ≤ nI t
    · rw [if_pos h1]
      have e2 : (up2 I 8 1 x1) 400 19 = nI t := (up2_o (by omega)).trans q3
      simp only [e2, if_pos (show (0 : Int32) ≤ x1 ∧ x1 ≤ nI t from ⟨Int32.not_lt.mp h0, h1⟩), i10, if_false]
      obtain ⟨k, hk, rfl⟩ : ∃ k : Nat, k ≤ t ∧ x1 = nI k := nI_of2 (nI_toInt (by omega)) h0 h1
      refine Inv_of (InvI_F h ⟨⟨k, by omega, ?_, ?_, fun j hj => ?_⟩, ?_, ?_⟩ (fun l k' h1 h2 => ?_))
      · rw [up2_o (by omega), up2_o (by omega), up2_s]
      · rw [up2_s]
      · rw [up2_o (by omega), up2_o (by omega), up2_o (by omega), up2_o (by omega), up2_o (by omega), up2_o (by omega)]; exact q4 j (by omega)
      · rw [up2_o (by omega), up2_o (by omega), up2_o (by omega), up2_o (by omega), up2_o (by omega), up2_o (by omega)]; exact q5
      · rw [up2_o (by omega), up2_o (by omega), up2_o (by omega), up2_o (by omega), up2_o (by omega), up2_o (by omega)]; exact q6
      · unfold Scr at h1
        unfold Xs_F at h2
        rw [up2_o (by omega), up2_o (by omega), up2_o (by omega)]
    · rw [if_neg h1]
      simp only [q3, if_neg (show ¬ ((0 : Int32) ≤ x1 ∧ x1 ≤ nI t) from fun q => h1 q.2), i00, if_true]
      exact Inv_told h
