/-! measure, and what is kept of it (my own) -/
theorem nI_or (a b : Nat) : nI a ||| nI b = nI (a ||| b) := by
  apply Int32.toBitVec_inj.1
  show BitVec.ofNat 32 a ||| BitVec.ofNat 32 b = BitVec.ofNat 32 (a ||| b)
  apply BitVec.eq_of_getLsbD_eq
  intro i hi
  simp [hi]
theorem or_sum {a b k : Nat} (h : a < 2 ^ k) : nI a ||| nI (2 ^ k * b) = nI (a + 2 ^ k * b) := by
  rw [nI_or, Nat.or_comm, ← Nat.two_pow_add_eq_or_of_lt h, Nat.add_comm]
theorem lng_cg {f g : Nat → Bool} (h : ∀ i, i < 32 → f i = g i) : ∀ n, lng f n = lng g n := by
  intro n
  induction n with
  | zero => rfl
  | succ n ih =>
    unfold lng
    rw [ih, h (n % 32) (Nat.mod_lt _ (by decide))]
theorem many_set {p q : Nat → Int32} {mg : Int32} {s : Nat} : cnt (bt (mkS (rn p q mg s) 32)) 32 = manyF p q mg s := cnt_cg (fun i hi => bt_set hi)
theorem long_set {p q : Nat → Int32} {mg : Int32} {s : Nat} : min 32 (lng (bt (mkS (rn p q mg s) 32)) 64).2 = longS p q mg s := by
  unfold longS
  rw [lng_cg (fun i hi => bt_set hi)]
theorem longS_le (p q : Nat → Int32) (mg : Int32) (s : Nat) : longS p q mg s ≤ 32 := Nat.min_le_left _ _
theorem shl_nI {x k n : Nat} (hk : k < 32) (hx : x * 2 ^ k < 2 ^ 32) (hn : x * 2 ^ k = n) : nI x <<< (nI k &&& 31) = nI n := by
  rw [pk_shlN (nI k &&& 31) k (s_l k hk) hx, hn]
section MS
variable {I : Nat → Nat → Int32} {L : Nat → Nat → Int64} {D : DD}
theorem x_measure {ra rb m : Nat} (ka : Kf D ra = (1, 32)) (kb : Kf D rb = (1, 32)) (hm : m < 16) (ga : rg (I ra)) (gb : rg (I rb)) {Q : Int32 → Hp → Prop} (hQ : Q (nI (bestM (I ra) (I rb) (nI m) + 64 * bestF (I ra) (I rb) (nI m) + 2048 * longF (I ra) (I rb) (nI m))) (fm I L D)) : wp_X6_measure (some ra) (some rb) (nI m) (fm I L D) Q := by
  unfold wp_X6_measure
  have key : ∀ (K : Int32 → Int32 → Int32 → Hp → Prop), (∀ x3 x4 x5, x3 + 1 = nI (bst (manyF (I ra) (I rb) (nI m)) 32).2 → x4 = nI (bst (manyF (I ra) (I rb) (nI m)) 32).1 → x5 = mkS (rn (I ra) (I rb) (nI m) (bst (manyF (I ra) (I rb) (nI m)) 32).1) 32 → K x3 x4 x5 (fm I L D)) → ∀ (n j : Nat) (x3 x4 x5 : Int32), j ≤ 32 → 33 ≤ n + j → x3 + 1 = nI (bst (manyF (I ra) (I rb) (nI m)) j).2 → x4 = nI (bst (manyF (I ra) (I rb) (nI m)) j).1 → (0 < j → x5 = mkS (rn (I ra) (I rb) (nI m) (bst (manyF (I ra) (I rb) (nI m)) j).1) 32) → wp_X6_measure_L11 (some ra) (some rb) (nI m) K Q n x3 x4 x5 (nI j) (fm I L D) := by
    intro K hK n
    induction n with
    | zero => intro j x3 x4 x5 h1 h2; omega
    | succ n ih =>
      intro j x3 x4 x5 h1 h2 h3 h4 h5
      rw [wp_X6_measure_L11]
      by_cases hj : j = 32
      · subst hj
        rw [if_pos (show (32 : Int32) ≤ nI 32 from by decide)]
        exact hK x3 x4 x5 h3 h4 (h5 (by omega))
      · rw [if_neg (show ¬ (32 : Int32) ≤ nI j from nI_ge (b := 32) (by omega) (by decide))]
        refine x_runs ka kb (by omega) hm ga gb ?_
        rw [j_bitCount, many_set]
        have bl := (bst_le (manyF (I ra) (I rb) (nI m)) (manyF_le (I ra) (I rb) (nI m)) j).1
        have ml := manyF_le (I ra) (I rb) (nI m) j
        have hx3 : x3 = nI (bst (manyF (I ra) (I rb) (nI m)) j).2 - 1 := by rw [← h3, Int32.add_sub_cancel]
        have t3 : x3.toInt = ((bst (manyF (I ra) (I rb) (nI m)) j).2 : Int) - 1 := by
          rw [hx3, show (1 : Int32) = nI 1 from rfl, pk_sub_toInt (by omega) (by omega)]; rfl
        have tv := nI_toInt (n := manyF (I ra) (I rb) (nI m) j) (by omega)
        by_cases hc : (bst (manyF (I ra) (I rb) (nI m)) j).2 < manyF (I ra) (I rb) (nI m) j + 1
        · rw [if_neg (fun z => by have := Int32.le_iff_toInt_le.mp z; rw [t3, tv] at this; omega)]
          simp only [forall_eq, nI_1]
          have := ih (j + 1) (nI (manyF (I ra) (I rb) (nI m) j)) (nI j) (mkS (rn (I ra) (I rb) (nI m) j) 32) (by omega) (by omega)
          rw [bst, if_pos hc] at this
          exact this (by rw [nI_1]) rfl (fun _ => rfl)
        · rw [if_pos (Int32.le_iff_toInt_le.mpr (by rw [t3, tv]; omega))]
          simp only [forall_eq, nI_1]
          have := ih (j + 1) x3 x4 x5 (by omega) (by omega)
          rw [bst, if_neg hc] at this
          refine this h3 h4 (fun _ => h5 ?_)
          apply Classical.byContradiction
          intro h0
          have : j = 0 := by omega
          subst this
          exact hc (by show 0 < _; omega)
  refine key _ ?_ fuel 0 (-1) 0 0 (by omega) (by have := fuel_ge; omega) (by show (-1 : Int32) + 1 = nI 0; decide) rfl (fun h => by omega)
  intro x3 x4 x5 h3 h4 h5
  have bl := (bst_le (manyF (I ra) (I rb) (nI m)) (manyF_le (I ra) (I rb) (nI m)) 32).2.2 (by decide)
  have e3 : x3 = nI (bestM (I ra) (I rb) (nI m)) := by
    rw [bl.2, nI_succ] at h3
    have := congrArg (· - 1) h3
    simp only [Int32.add_sub_cancel] at this
    exact this
  subst h4; subst h5
  refine x_longestIn ?_
  rw [long_set]
  unfold wp_X2_pack
  have g1 : bestM (I ra) (I rb) (nI m) ≤ 32 := manyF_le _ _ _ _
  have g2 : bestF (I ra) (I rb) (nI m) < 32 := bestF_lt _ _ _
  have g3 : longF (I ra) (I rb) (nI m) ≤ 32 := longS_le _ _ _ _
  have s1 : nI (bst (manyF (I ra) (I rb) (nI m)) 32).1 <<< ((6 : Int32) &&& 31) = nI (2 ^ 6 * bestF (I ra) (I rb) (nI m)) := shl_nI (k := 6) (by decide) (by show bestF (I ra) (I rb) (nI m) * 2 ^ 6 < _; omega) (Nat.mul_comm _ _)
  have s2 : nI (longS (I ra) (I rb) (nI m) (bst (manyF (I ra) (I rb) (nI m)) 32).1) <<< ((11 : Int32) &&& 31) = nI (2 ^ 11 * longF (I ra) (I rb) (nI m)) := shl_nI (k := 11) (by decide) (by show longF (I ra) (I rb) (nI m) * 2 ^ 11 < _; omega) (Nat.mul_comm _ _)
  rw [e3, s1, s2, or_sum (k := 6) (by omega), or_sum (k := 11) (by omega)]
  exact hQ
end MS
theorem ush_and {W k j n : Nat} (hW : W < 2 ^ 32) (hk : k < 32) (hj : j ≤ 30) (hn : W / 2 ^ k % 2 ^ j = n) {M : Int32} (hM : M.toBitVec.toNat = 2 ^ j - 1) : (((nI W).toUInt32 >>> ((nI k).toUInt32 &&& Int32.toUInt32 31)).toInt32) &&& M = nI n := by
  rw [pk_ushrN hW (nI k) k (s_u k hk), pk_andN (Nat.lt_of_le_of_lt (Nat.div_le_self _ _) hW) j hM, hn]
theorem x_many {W n : Nat} (hW : W < 2 ^ 32) (hn : W % 64 = n) {h : Hp} {Q : Int32 → Hp → Prop} : wp_X2_many (nI W) h Q ↔ Q (nI n) h := by
  unfold wp_X2_many
  rw [pk_andN hW (m := 63) 6 (by decide), show W % 2 ^ 6 = n from hn]
theorem x_slide {W n : Nat} (hW : W < 2 ^ 32) (hn : W / 64 % 32 = n) {h : Hp} {Q : Int32 → Hp → Prop} : wp_X2_slide (nI W) h Q ↔ Q (nI n) h := by
  unfold wp_X2_slide
  rw [show (6 : Int32).toUInt32 = (nI 6).toUInt32 from rfl, ush_and (k := 6) (j := 5) hW (by decide) (by decide) hn (by decide)]
theorem x_longest {W n : Nat} (hW : W < 2 ^ 32) (hn : W / 2048 % 64 = n) {h : Hp} {Q : Int32 → Hp → Prop} : wp_X2_longest (nI W) h Q ↔ Q (nI n) h := by
  unfold wp_X2_longest
  rw [show (11 : Int32).toUInt32 = (nI 11).toUInt32 from rfl, ush_and (k := 11) (j := 6) hW (by decide) (by decide) hn (by decide)]
