/-! THE MEASURES OF THE REFERENCE (my own) -/
def rg (p : Nat → Int32) : Prop := ∀ j, j < 32 → -1 ≤ p j ∧ p j ≤ 63
theorem rg_of {x : Int32} (h1 : -1 ≤ x) (h2 : x ≤ 63) (h3 : ¬ x = -1) : ∃ u : Nat, u < 64 ∧ x = nI u := by
  have a1 := Int32.le_iff_toInt_le.mp h1
  have a2 := Int32.le_iff_toInt_le.mp h2
  have e1 : (-1 : Int32).toInt = -1 := by decide
  have e2 : (63 : Int32).toInt = 63 := by decide
  have h0 : ¬ x.toInt = -1 := fun e => h3 (Int32.toInt_inj.mp (e.trans e1.symm))
  refine ⟨x.toInt.toNat, by omega, Int32.toInt_inj.mp ?_⟩
  rw [nI_toInt (by omega)]
  omega
theorem rem32 {a : Nat} (ha : a < 2 ^ 31) : nI a - nI a / (32 : Int32) * (32 : Int32) = nI (a % 32) := pk_rem (d := 32) ha (by decide) (by decide)
theorem nI_m1 {u : Nat} (hu : u < 2 ^ 31) : ¬ nI u = (-1 : Int32) := fun e => by
  have := congrArg Int32.toInt e
  rw [nI_toInt hu] at this
  have h2 : (-1 : Int32).toInt = -1 := by decide
  omega
theorem rn_nI {p q : Nat → Int32} {mg : Int32} {s i u w m : Nat} (hp : p i = nI u) (hq : q ((i + s) % 32) = nI w) (hm : mg = nI m) (hu : u < 64) (hw : w < 64) (hm16 : m < 16) : rn p q mg s i = decide (u ≤ w + m ∧ w ≤ u + m) := by
  unfold rn
  rw [hp, hq, hm, nI_toInt (by omega), nI_toInt (by omega), nI_toInt (by omega), decide_eq_true (nI_m1 (by omega)), decide_eq_true (nI_m1 (by omega))]
  simp only [Bool.true_and]
  rw [← Bool.decide_and]
  congr 1
  apply propext
  omega
section ME
variable {I : Nat → Nat → Int32} {L : Nat → Nat → Int64} {D : DD} {l a b : Nat}
theorem m_runs {i s : Nat} (hl : l < 6) (ha : a < 40) (hb : b < 40) (hi : i < 32) (hs : s < 32) (ra : rg (row I a)) (rb : rg (row I b)) (hm : inN (I 447 l) 16) {Q : Int32 → Hp → Prop} : wp_X12_runs 400 (nI l) (nI a) (nI b) (nI i) (nI s) (fm I L D) Q ↔ Q (if rn (row I a) (row I b) (I 447 l) s i then 1 else 0) (fm I L D) := by
  obtain ⟨m, hm16, em⟩ := inN_of (by decide) hm
  have hj : (i + s) % 32 < 32 := Nat.mod_lt _ (by decide)
  unfold wp_X12_runs wp_X12_runs_J66
  simp only [gK, gI, gL, gR_, g_stI, g_stL, forall_eq, true_and, ad_s, okA_s, okO_s, okN_s, i10, i00, if_true, if_false, reduceCtorEq, Kf_1, Kf_400, Rf_400_13, Rf_400_46, Kf_414, Kf_447, ix32, nI_add, rem32 (show i + s < 2 ^ 31 by omega), vp_in_nI (show 32 * a + i < 1280 by omega) (by decide), vp_in_nI (show 32 * b + (i + s) % 32 < 1280 by omega) (by decide), nI_clamp (show 32 * a + i < 2 ^ 31 by omega), nI_clamp (show 32 * b + (i + s) % 32 < 2 ^ 31 by omega), vp_in_nI (show l < 6 by omega) (by decide), nI_clamp (show l < 2 ^ 31 by omega)]
  have ea : row I a i = I 414 (32 * a + i) := rfl
  have eb : row I b ((i + s) % 32) = I 414 (32 * b + (i + s) % 32) := rfl
  rw [← ea, ← eb]
  by_cases h1 : row I a i = -1
  · rw [if_pos h1]
    have : rn (row I a) (row I b) (I 447 l) s i = false := by unfold rn; simp [h1]
    rw [this]; exact Iff.rfl
  · rw [if_neg h1]
    by_cases h2 : row I b ((i + s) % 32) = -1
    · rw [if_pos h2]
      have : rn (row I a) (row I b) (I 447 l) s i = false := by unfold rn; simp [h2]
      rw [this]; exact Iff.rfl
    · rw [if_neg h2]
      obtain ⟨u, hu, eu⟩ := rg_of (ra i hi).1 (ra i hi).2 h1
      obtain ⟨w, hw, ew⟩ := rg_of (rb _ hj).1 (rb _ hj).2 h2
      rw [rn_nI eu ew em hu hw hm16, eu, ew, em]
      have t1 := pk_sub_toInt (a := u) (b := w) (by omega) (by omega)
      have t2 := pk_sub_toInt (a := w) (b := u) (by omega) (by omega)
      have tm := nI_toInt (n := m) (by omega)
      by_cases h3 : (0 : Int32) ≤ nI u - nI w
      · rw [if_pos h3]
        have := Int32.le_iff_toInt_le.mp h3
        rw [t1] at this
        have h0 : (0 : Int32).toInt = 0 := by decide
        by_cases h4 : nI m < nI u - nI w
        · rw [if_pos h4]
          have := Int32.lt_iff_toInt_lt.mp h4
          rw [t1, tm] at this
          rw [decide_eq_false (by omega)]; exact Iff.rfl
        · rw [if_neg h4]
          have h5 : ¬ ((m : Int) < (u : Int) - w) := fun z => h4 (Int32.lt_iff_toInt_lt.mpr (by rw [t1, tm]; exact z))
          rw [decide_eq_true (by omega)]; exact Iff.rfl
      · rw [if_neg h3, Int32.neg_sub]
        have h0 : (0 : Int32).toInt = 0 := by decide
        have h6 : ¬ ((0 : Int) ≤ (u : Int) - w) := fun z => h3 (Int32.le_iff_toInt_le.mpr (by rw [t1, h0]; exact z))
        by_cases h4 : nI m < nI w - nI u
        · rw [if_pos h4]
          have := Int32.lt_iff_toInt_lt.mp h4
          rw [t2, tm] at this
          rw [decide_eq_false (by omega)]; exact Iff.rfl
        · rw [if_neg h4]
          have h5 : ¬ ((m : Int) < (w : Int) - u) := fun z => h4 (Int32.lt_iff_toInt_lt.mpr (by rw [t2, tm]; exact z))
          rw [decide_eq_true (by omega)]; exact Iff.rfl
theorem m_manyOf {s : Nat} (hl : l < 6) (ha : a < 40) (hb : b < 40) (hs : s < 32) (ra : rg (row I a)) (rb : rg (row I b)) (hm : inN (I 447 l) 16) {Q : Int32 → Hp → Prop} (hQ : Q (nI (manyF (row I a) (row I b) (I 447 l) s)) (fm I L D)) : wp_X12_manyOf 400 (nI l) (nI a) (nI b) (nI s) (fm I L D) Q := by
  unfold wp_X12_manyOf
  have key : ∀ (n j : Nat), j ≤ 32 → 33 ≤ n + j → wp_X12_manyOf_L6 400 (nI l) (nI a) (nI b) (nI s) (fun y10 h9 => Q y10 h9) Q n (nI (cnt (rn (row I a) (row I b) (I 447 l) s) j)) (nI j) (fm I L D) := by
    intro n
    induction n with
    | zero => intro j h1 h2; omega
    | succ n ih =>
      intro j h1 h2
      rw [wp_X12_manyOf_L6]
      by_cases hj : j = 32
      · subst hj
        rw [if_pos (show (32 : Int32) ≤ nI 32 from by decide)]
        exact hQ
      · rw [if_neg (show ¬ (32 : Int32) ≤ nI j from nI_ge (b := 32) (by omega) (by decide))]
        simp only [gK, gI, gL, gR_, g_stI, g_stL, forall_eq, true_and, ad_s, okA_s, okO_s, okN_s, i10, i00, if_true, if_false, reduceCtorEq, Kf_1, Kf_400, m_runs hl ha hb (show j < 32 by omega) hs ra rb hm]
        have hs := ih (j + 1) (by omega) (by omega)
        cases hr : rn (row I a) (row I b) (I 447 l) s j with
        | true =>
          simp only [gK, gI, gL, gR_, g_stI, g_stL, forall_eq, true_and, ad_s, okA_s, okO_s, okN_s, i10, i00, if_true, if_false, reduceCtorEq, Kf_1, Kf_400, nI_1]
          rw [cnt, hr, if_pos rfl] at hs; exact hs
        | false =>
          simp only [gK, gI, gL, gR_, g_stI, g_stL, forall_eq, true_and, ad_s, okA_s, okO_s, okN_s, i10, i00, if_true, if_false, reduceCtorEq, Kf_1, Kf_400, nI_1, Bool.false_eq_true]
          rw [cnt, hr, if_neg (by decide), Nat.add_zero] at hs; exact hs
  exact key fuel 0 (by omega) (by have := fuel_ge; omega)
theorem manyF_le (p q : Nat → Int32) (mg : Int32) (s : Nat) : manyF p q mg s ≤ 32 := cnt_le _ _
theorem bst_le (f : Nat → Nat) {B : Nat} (hf : ∀ s, f s ≤ B) (n : Nat) : (bst f n).2 ≤ B + 1 ∧ (bst f n).1 ≤ n ∧ (0 < n → (bst f n).1 < n ∧ (bst f n).2 = f (bst f n).1 + 1) := by
  induction n with
  | zero => exact ⟨by show 0 ≤ _; omega, Nat.le_refl _, fun h => by omega⟩
  | succ n ih =>
    obtain ⟨i1, i2, i3⟩ := ih
    unfold bst
    by_cases h : (bst f n).2 < f n + 1
    · rw [if_pos h]
      have := hf n
      exact ⟨by show f n + 1 ≤ _; omega, by show n ≤ _; omega, fun _ => ⟨by show n < _; omega, rfl⟩⟩
    · rw [if_neg h]
      refine ⟨i1, by omega, fun _ => ?_⟩
      by_cases h0 : 0 < n
      · exact ⟨by have := (i3 h0).1; omega, (i3 h0).2⟩
      · exfalso
        have : n = 0 := by omega
        subst this
        exact h (by show 0 < _; omega)
theorem bestF_lt (p q : Nat → Int32) (mg : Int32) : bestF p q mg < 32 := ((bst_le (manyF p q mg) (manyF_le p q mg) 32).2.2 (by decide)).1
theorem m_bestSlide (hl : l < 6) (ha : a < 40) (hb : b < 40) (ra : rg (row I a)) (rb : rg (row I b)) (hm : inN (I 447 l) 16) {Q : Int32 → Hp → Prop} (hQ : Q (nI (bestF (row I a) (row I b) (I 447 l))) (fm I L D)) : wp_X12_bestSlide 400 (nI l) (nI a) (nI b) (fm I L D) Q := by
  unfold wp_X12_bestSlide
  have key : ∀ (n j : Nat) (x5 : Int32), j ≤ 32 → 33 ≤ n + j → x5 + 1 = nI (bst (manyF (row I a) (row I b) (I 447 l)) j).2 → wp_X12_bestSlide_L9 400 (nI l) (nI a) (nI b) (fun y9 h8 => Q y9 h8) Q n (nI (bst (manyF (row I a) (row I b) (I 447 l)) j).1) x5 (nI j) (fm I L D) := by
    intro n
    induction n with
    | zero => intro j x5 h1 h2; omega
    | succ n ih =>
      intro j x5 h1 h2 hx
      rw [wp_X12_bestSlide_L9]
      by_cases hj : j = 32
      · subst hj
        rw [if_pos (show (32 : Int32) ≤ nI 32 from by decide)]
        exact hQ
      · rw [if_neg (show ¬ (32 : Int32) ≤ nI j from nI_ge (b := 32) (by omega) (by decide))]
        simp only [gK, gI, gL, gR_, g_stI, g_stL, forall_eq, true_and, ad_s, okA_s, okO_s, okN_s, i10, i00, if_true, if_false, reduceCtorEq, Kf_1, Kf_400]
        refine m_manyOf hl ha hb (by omega) ra rb hm ?_
        have bl := (bst_le (manyF (row I a) (row I b) (I 447 l)) (manyF_le (row I a) (row I b) (I 447 l)) j).1
        have ml := manyF_le (row I a) (row I b) (I 447 l) j
        have hx5 : x5 = nI (bst (manyF (row I a) (row I b) (I 447 l)) j).2 - 1 := by rw [← hx, Int32.add_sub_cancel]
        have t5 : x5.toInt = ((bst (manyF (row I a) (row I b) (I 447 l)) j).2 : Int) - 1 := by
          rw [hx5, show (1 : Int32) = nI 1 from rfl, pk_sub_toInt (by omega) (by omega)]; rfl
        have tv := nI_toInt (n := manyF (row I a) (row I b) (I 447 l) j) (by omega)
        by_cases hc : (bst (manyF (row I a) (row I b) (I 447 l)) j).2 < manyF (row I a) (row I b) (I 447 l) j + 1
        · rw [if_pos (Int32.lt_iff_toInt_lt.mpr (by rw [t5, tv]; omega))]
          simp only [gK, gI, gL, gR_, g_stI, g_stL, forall_eq, true_and, ad_s, okA_s, okO_s, okN_s, i10, i00, if_true, if_false, reduceCtorEq, Kf_1, Kf_400, nI_1]
          have := ih (j + 1) (nI (manyF (row I a) (row I b) (I 447 l) j)) (by omega) (by omega)
          rw [bst, if_pos hc] at this
          exact this (by rw [nI_1])
        · rw [if_neg (fun z => hc (by have := Int32.lt_iff_toInt_lt.mp z; rw [t5, tv] at this; omega))]
          simp only [gK, gI, gL, gR_, g_stI, g_stL, forall_eq, true_and, ad_s, okA_s, okO_s, okN_s, i10, i00, if_true, if_false, reduceCtorEq, Kf_1, Kf_400, nI_1]
          have := ih (j + 1) x5 (by omega) (by omega)
          rw [bst, if_neg hc] at this
          exact this hx
  exact key fuel 0 (-1) (by omega) (by have := fuel_ge; omega) (by show (-1 : Int32) + 1 = nI 0; decide)
theorem lng_le (f : Nat → Bool) (n : Nat) : (lng f n).1 ≤ n ∧ (lng f n).2 ≤ n := by
  induction n with
  | zero => exact ⟨Nat.le_refl _, Nat.le_refl _⟩
  | succ n ih =>
    unfold lng
    refine ⟨?_, ?_⟩
    · show (if f (n % 32) then (lng f n).1 + 1 else 0) ≤ _
      split <;> omega
    · show (if (lng f n).2 < (if f (n % 32) then (lng f n).1 + 1 else 0) then (if f (n % 32) then (lng f n).1 + 1 else 0) else (lng f n).2) ≤ _
      repeat' split
      all_goals omega
theorem m_longestBy {s : Nat} (hl : l < 6) (ha : a < 40) (hb : b < 40) (hs : s < 32) (ra : rg (row I a)) (rb : rg (row I b)) (hm : inN (I 447 l) 16) {Q : Int32 → Hp → Prop} (hQ : Q (nI (longS (row I a) (row I b) (I 447 l) s)) (fm I L D)) : wp_X12_longestBy 400 (nI l) (nI a) (nI b) (nI s) (fm I L D) Q := by
  unfold wp_X12_longestBy
  have key : ∀ (K : Int32 → Hp → Prop), K (nI (lng (rn (row I a) (row I b) (I 447 l) s) 64).2) (fm I L D) → ∀ (n j : Nat), j ≤ 64 → 65 ≤ n + j → wp_X12_longestBy_L9 400 (nI l) (nI a) (nI b) (nI s) K Q n (nI (lng (rn (row I a) (row I b) (I 447 l) s) j).2) (nI (lng (rn (row I a) (row I b) (I 447 l) s) j).1) (nI j) (fm I L D) := by
    intro K hK n
    induction n with
    | zero => intro j h1 h2; omega
    | succ n ih =>
      intro j h1 h2
      rw [wp_X12_longestBy_L9]
      by_cases hj : j = 64
      · subst hj
        rw [if_pos (show (64 : Int32) ≤ nI 64 from by decide)]
        exact hK
      · rw [if_neg (show ¬ (64 : Int32) ≤ nI j from nI_ge (b := 64) (by omega) (by decide))]
        have hj32 : j % 32 < 32 := Nat.mod_lt _ (by decide)
        simp only [gK, gI, gL, gR_, g_stI, g_stL, forall_eq, true_and, ad_s, okA_s, okO_s, okN_s, i10, i00, if_true, if_false, reduceCtorEq, Kf_1, Kf_400, rem32 (show j < 2 ^ 31 by omega), m_runs hl ha hb hj32 hs ra rb hm]
        have hs := ih (j + 1) (by omega) (by omega)
        have ll := lng_le (rn (row I a) (row I b) (I 447 l) s) j
        unfold wp_X12_longestBy_J41
        rw [lng] at hs
        cases hr : rn (row I a) (row I b) (I 447 l) s (j % 32) with
        | true =>
          simp only [hr, if_true] at hs
          simp only [gK, gI, gL, gR_, g_stI, g_stL, forall_eq, true_and, ad_s, okA_s, okO_s, okN_s, i10, i00, if_true, if_false, reduceCtorEq, Kf_1, Kf_400, nI_1]
          by_cases hc : (lng (rn (row I a) (row I b) (I 447 l) s) j).2 < (lng (rn (row I a) (row I b) (I 447 l) s) j).1 + 1
          · rw [if_neg (nI_ge hc (by omega))]
            rw [if_pos hc] at hs; exact hs
          · rw [if_pos (nI_le (by omega) (by omega))]
            rw [if_neg hc] at hs; exact hs
        | false =>
          simp only [hr, Bool.false_eq_true, if_false] at hs
          simp only [gK, gI, gL, gR_, g_stI, g_stL, forall_eq, true_and, ad_s, okA_s, okO_s, okN_s, i10, i00, if_true, if_false, reduceCtorEq, Kf_1, Kf_400, nI_1, Bool.false_eq_true]
          rw [if_pos (show (0 : Int32) ≤ nI _ from nI_pos' (by omega))]
          rw [if_neg (by omega)] at hs; exact hs
  have ll := (lng_le (rn (row I a) (row I b) (I 447 l) s) 64).2
  refine key _ ?_ fuel 0 (by omega) (by have := fuel_ge; omega)
  unfold longS at hQ
  by_cases hc : (lng (rn (row I a) (row I b) (I 447 l) s) 64).2 ≤ 32
  · rw [if_pos (show nI _ ≤ (32 : Int32) from nI_le (b := 32) hc (by decide))]
    rw [Nat.min_eq_right hc] at hQ; exact hQ
  · rw [if_neg (show ¬ nI _ ≤ (32 : Int32) from nI_ge (a := 32) (by omega) (by omega))]
    rw [Nat.min_eq_left (by omega)] at hQ; exact hQ
end ME
