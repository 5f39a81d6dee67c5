/-! SMALL METHODS, in closed form (my own) -/
abbrev inN (v : Int32) (n : Nat) : Prop := 0 ≤ v ∧ v < nI n
theorem inN_nI {j n : Nat} (hj : j < 2 ^ 31) (hn : n < 2 ^ 31) : inN (nI j) n ↔ j < n := ⟨fun h => (nI_ltI hj hn).mp h.2, fun h => ⟨nI_pos' hj, (nI_ltI hj hn).mpr h⟩⟩
theorem inN_of {v : Int32} {n : Nat} (hn : n < 2 ^ 31) (h : inN v n) : ∃ j, j < n ∧ v = nI j := by
  rcases pk_ix v hn with q | q | q
  · exact absurd h.1 (Int32.not_le.mpr q)
  · exact absurd h.2 (Int32.not_lt.mpr q)
  · exact q
theorem inN_neg {v : Int32} {n : Nat} (h : v < 0) : ¬ inN v n := fun q => absurd q.1 (Int32.not_le.mpr h)
theorem inN_big {v : Int32} {n : Nat} (h : nI n ≤ v) : ¬ inN v n := fun q => absurd q.2 (Int32.not_lt.mpr h)
theorem inN_le {v : Int32} {n : Nat} (c : Int32) (hc : c.toInt + 1 = n) (hn : n < 2 ^ 31) : (0 ≤ v ∧ v ≤ c) ↔ inN v n := by
  have e := nI_toInt hn
  constructor
  · rintro ⟨h1, h2⟩
    refine ⟨h1, Int32.lt_iff_toInt_lt.mpr ?_⟩
    have := Int32.le_iff_toInt_le.mp h2
    omega
  · rintro ⟨h1, h2⟩
    refine ⟨h1, Int32.le_iff_toInt_le.mpr ?_⟩
    have := Int32.lt_iff_toInt_lt.mp h2
    omega
theorem not_inN {v : Int32} {n : Nat} (hn : n < 2 ^ 31) (h : ¬ inN v n) : v < 0 ∨ nI n ≤ v := by
  rcases pk_ix v hn with q | q | ⟨j, hj, rfl⟩
  · exact Or.inl q
  · exact Or.inr q
  · exact absurd ((inN_nI (by omega) hn).mpr hj) h
theorem vp_inN {v : Int32} {n : Nat} (hn : n < 2 ^ 31) (h : inN v n) : vp_in v n := by
  obtain ⟨j, hj, rfl⟩ := inN_of hn h
  exact vp_in_nI hj hn
section SM
variable {I : Nat → Nat → Int32} {L : Nat → Nat → Int64} {D : DD} {h : Hp} {v a b : Int32} {Q : Int32 → Hp → Prop} {Qo : Option Nat → Hp → Prop}
theorem x_toolAt (hm : D.nT ≤ 6) : wp_X11_toolAt 1 v (fm I L D) Qo ↔ Qo (if inN v D.nT then some (100 + 2 * v.toNatClampNeg) else none) (fm I L D) := by
  unfold wp_X11_toolAt
  simp only [gK, gR_, Kf_1, Rf_1_0, ad_s, okA_s, Kf_2, Rf_2, true_and]
  rcases pk_ix v (n := 6) (by decide) with q | q | ⟨j, hj, rfl⟩
  · rw [if_pos q, if_neg (inN_neg q)]
  · have q2 : (6 : Int32) ≤ v := q
    rw [if_neg (fun z => absurd (Int32.le_trans q (Int32.le_of_lt z)) (by decide)), if_pos q2, if_neg (fun z => absurd (Int32.lt_of_lt_of_le z.2 (nI_le hm (by decide))) (Int32.not_lt.mpr q))]
  · have e1 : ¬ nI j < 0 := nI_pos (by omega)
    have e2 : ¬ (6 : Int32) ≤ nI j := nI_ge (b := 6) hj (by decide)
    have e3 : vp_in (nI j) 6 := vp_in_nI hj (by decide)
    have e4 : inN (nI j) D.nT ↔ j < D.nT := inN_nI (by omega) (by omega)
    rw [if_neg e1, if_neg e2, nI_clamp (by omega)]
    simp only [e3, true_and, e4]
theorem x_barrelAt (hm : D.nB ≤ 16) : wp_X11_barrelAt 1 v (fm I L D) Qo ↔ Qo (if inN v D.nB then some (120 + 2 * v.toNatClampNeg) else none) (fm I L D) := by
  unfold wp_X11_barrelAt
  simp only [gK, gR_, Kf_1, Rf_1_2, ad_s, okA_s, Kf_3, Rf_3, true_and]
  rcases pk_ix v (n := 16) (by decide) with q | q | ⟨j, hj, rfl⟩
  · rw [if_pos q, if_neg (inN_neg q)]
  · have q2 : (16 : Int32) ≤ v := q
    rw [if_neg (fun z => absurd (Int32.le_trans q (Int32.le_of_lt z)) (by decide)), if_pos q2, if_neg (fun z => absurd (Int32.lt_of_lt_of_le z.2 (nI_le hm (by decide))) (Int32.not_lt.mpr q))]
  · have e1 : ¬ nI j < 0 := nI_pos (by omega)
    have e2 : ¬ (16 : Int32) ≤ nI j := nI_ge (b := 16) hj (by decide)
    have e3 : vp_in (nI j) 16 := vp_in_nI hj (by decide)
    have e4 : inN (nI j) D.nB ↔ j < D.nB := inN_nI (by omega) (by omega)
    rw [if_neg e1, if_neg e2, nI_clamp (by omega)]
    simp only [e3, true_and, e4]
theorem x_ballAt (hm : D.nA ≤ 40) : wp_X11_ballAt 1 v (fm I L D) Qo ↔ Qo (if inN v D.nA then some (160 + 2 * v.toNatClampNeg) else none) (fm I L D) := by
  unfold wp_X11_ballAt
  simp only [gK, gR_, Kf_1, Rf_1_4, ad_s, okA_s, Kf_4, Rf_4, true_and]
  rcases pk_ix v (n := 40) (by decide) with q | q | ⟨j, hj, rfl⟩
  · rw [if_pos q, if_neg (inN_neg q)]
  · have q2 : (40 : Int32) ≤ v := q
    rw [if_neg (fun z => absurd (Int32.le_trans q (Int32.le_of_lt z)) (by decide)), if_pos q2, if_neg (fun z => absurd (Int32.lt_of_lt_of_le z.2 (nI_le hm (by decide))) (Int32.not_lt.mpr q))]
  · have e1 : ¬ nI j < 0 := nI_pos (by omega)
    have e2 : ¬ (40 : Int32) ≤ nI j := nI_ge (b := 40) hj (by decide)
    have e3 : vp_in (nI j) 40 := vp_in_nI hj (by decide)
    have e4 : inN (nI j) D.nA ↔ j < D.nA := inN_nI (by omega) (by omega)
    rw [if_neg e1, if_neg e2, nI_clamp (by omega)]
    simp only [e3, true_and, e4]
theorem x_lookerAt (hm : D.nL ≤ 6) : wp_X11_lookerAt 1 v (fm I L D) Qo ↔ Qo (if inN v D.nL then some (240 + 2 * v.toNatClampNeg) else none) (fm I L D) := by
  unfold wp_X11_lookerAt
  simp only [gK, gR_, Kf_1, Rf_1_7, ad_s, okA_s, Kf_5, Rf_5, true_and]
  rcases pk_ix v (n := 6) (by decide) with q | q | ⟨j, hj, rfl⟩
  · rw [if_pos q, if_neg (inN_neg q)]
  · have q2 : (6 : Int32) ≤ v := q
    rw [if_neg (fun z => absurd (Int32.le_trans q (Int32.le_of_lt z)) (by decide)), if_pos q2, if_neg (fun z => absurd (Int32.lt_of_lt_of_le z.2 (nI_le hm (by decide))) (Int32.not_lt.mpr q))]
  · have e1 : ¬ nI j < 0 := nI_pos (by omega)
    have e2 : ¬ (6 : Int32) ≤ nI j := nI_ge (b := 6) hj (by decide)
    have e3 : vp_in (nI j) 6 := vp_in_nI hj (by decide)
    have e4 : inN (nI j) D.nL ↔ j < D.nL := inN_nI (by omega) (by omega)
    rw [if_neg e1, if_neg e2, nI_clamp (by omega)]
    simp only [e3, true_and, e4]
theorem m_isTool {n : Nat} (hc : I 400 1 = nI n) : wp_X12_isTool 400 v (fm I L D) Q ↔ Q (if inN v n then 1 else 0) (fm I L D) := by
  unfold wp_X12_isTool
  simp only [gK, gI, Kf_400, true_and, hc]
  by_cases q : v < 0
  · rw [if_pos q, if_neg (inN_neg q)]
  · rw [if_neg q]
    by_cases q2 : nI n ≤ v
    · rw [if_pos q2, if_neg (inN_big q2)]
    · rw [if_neg q2, if_pos ⟨Int32.not_lt.mp q, Int32.not_le.mp q2⟩]
theorem m_isBarrel {n : Nat} (hc : I 400 5 = nI n) : wp_X12_isBarrel 400 v (fm I L D) Q ↔ Q (if inN v n then 1 else 0) (fm I L D) := by
  unfold wp_X12_isBarrel
  simp only [gK, gI, Kf_400, true_and, hc]
  by_cases q : v < 0
  · rw [if_pos q, if_neg (inN_neg q)]
  · rw [if_neg q]
    by_cases q2 : nI n ≤ v
    · rw [if_pos q2, if_neg (inN_big q2)]
    · rw [if_neg q2, if_pos ⟨Int32.not_lt.mp q, Int32.not_le.mp q2⟩]
theorem m_isBall {n : Nat} (hc : I 400 12 = nI n) : wp_X12_isBall 400 v (fm I L D) Q ↔ Q (if inN v n then 1 else 0) (fm I L D) := by
  unfold wp_X12_isBall
  simp only [gK, gI, Kf_400, true_and, hc]
  by_cases q : v < 0
  · rw [if_pos q, if_neg (inN_neg q)]
  · rw [if_neg q]
    by_cases q2 : nI n ≤ v
    · rw [if_pos q2, if_neg (inN_big q2)]
    · rw [if_neg q2, if_pos ⟨Int32.not_lt.mp q, Int32.not_le.mp q2⟩]
theorem m_isLooker {n : Nat} (hc : I 400 45 = nI n) : wp_X12_isLooker 400 v (fm I L D) Q ↔ Q (if inN v n then 1 else 0) (fm I L D) := by
  unfold wp_X12_isLooker
  simp only [gK, gI, Kf_400, true_and, hc]
  by_cases q : v < 0
  · rw [if_pos q, if_neg (inN_neg q)]
  · rw [if_neg q]
    by_cases q2 : nI n ≤ v
    · rw [if_pos q2, if_neg (inN_big q2)]
    · rw [if_neg q2, if_pos ⟨Int32.not_lt.mp q, Int32.not_le.mp q2⟩]
theorem m_isIn {c : Nat} : wp_X12_isIn c v a b h Q ↔ Q (if a ≤ v ∧ v ≤ b then 1 else 0) h := by
  unfold wp_X12_isIn
  by_cases h1 : v < a
  · rw [if_pos h1, if_neg (fun q => absurd q.1 (Int32.not_le.mpr h1))]
  · rw [if_neg h1]
    by_cases h2 : b < v
    · rw [if_pos h2, if_neg (fun q => absurd q.2 (Int32.not_le.mpr h2))]
    · rw [if_neg h2, if_pos ⟨Int32.not_lt.mp h1, Int32.not_lt.mp h2⟩]
theorem m_isHair : wp_X12_isHair 400 v (fm I L D) Q ↔ Q (if inN v 32 then 1 else 0) (fm I L D) := by
  unfold wp_X12_isHair
  rw [m_isIn]
  simp only [gK, Kf_400, true_and, inN_le 31 (n := 32) (by decide) (by decide)]
  by_cases q : inN v 32
  · simp only [if_pos q]
    exact ⟨fun z => z.2, fun z => ⟨⟨by decide, by decide⟩, z⟩⟩
  · simp only [if_neg q]
    exact ⟨fun z => z.2, fun z => ⟨⟨by decide, by decide⟩, z⟩⟩
theorem x_isHair : wp_X11_isHair v h Q ↔ Q (if inN v 32 then 1 else 0) h := by
  unfold wp_X11_isHair
  by_cases q : v < 0
  · rw [if_pos q, if_neg (inN_neg q)]
  · rw [if_neg q]
    by_cases q2 : (32 : Int32) ≤ v
    · rw [if_pos q2, if_neg (inN_big (n := 32) q2)]
    · rw [if_neg q2, if_pos ⟨Int32.not_lt.mp q, Int32.not_le.mp q2⟩]
theorem x_isHeight : wp_X11_isHeight v h Q ↔ Q (if inN v 64 then 1 else 0) h := by
  unfold wp_X11_isHeight
  have e : (0 ≤ v ∧ v ≤ 63 ↔ inN v 64) := inN_le 63 (by decide) (by decide)
  by_cases q : v < 0
  · rw [if_pos q, if_neg (inN_neg q)]
  · rw [if_neg q]
    by_cases q2 : (63 : Int32) < v
    · rw [if_pos q2, if_neg (fun z => absurd (e.mpr z).2 (Int32.not_le.mpr q2))]
    · rw [if_neg q2, if_pos (e.mp ⟨Int32.not_lt.mp q, Int32.not_lt.mp q2⟩)]
end SM
