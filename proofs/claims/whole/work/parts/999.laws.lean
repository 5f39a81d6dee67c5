/-! laws (my own) -/
theorem Rf_swp {D : DD} {u : Nat} (u0 : u ≠ 0) (b j : Nat) : Rf (D.swp u) b j = if b = 12 ∧ j = 3 then some (20 + 8 * D.tx u) else if b = 1 ∧ j = 14 then some (20 + 8 * (D.swp u).tx 1) else if 240 ≤ b ∧ b < 252 ∧ (b - 240) / 2 < D.nL ∧ (b - 240) % 2 = 0 ∧ j = 1 then some (20 + 8 * (D.swp u).tx (2 + (b - 240) / 2)) else Rf D b j := by
  by_cases h0 : b < 20
  · by_cases e1 : b = 12 ∧ j = 3
    · rw [if_pos e1, e1.1, e1.2]; rfl
    · rw [if_neg e1]
      by_cases e2 : b = 1 ∧ j = 14
      · rw [if_pos e2, e2.1, e2.2]; rfl
      · rw [if_neg e2, if_neg (by omega)]
        unfold Rf
        simp only [if_pos h0]
        by_cases b1 : b = 1
        · subst b1
          show R1 (D.swp u) j = R1 D j
          unfold R1
          split <;> first | rfl | exact absurd ⟨rfl, rfl⟩ e2
        · by_cases b2 : b = 12
          · subst b2
            rcases j with _ | _ | _ | _ | j
            · rfl
            · rfl
            · rfl
            · exact absurd ⟨rfl, rfl⟩ e1
            · rfl
          · unfold Rst
            split <;> first | rfl | exact absurd rfl b1 | exact absurd rfl b2
  · rw [if_neg (by omega), if_neg (by omega)]
    by_cases h1 : b < 240
    · rw [if_neg (by omega)]
      unfold Rf
      simp only [if_neg h0, if_pos h1]
    · by_cases h2 : b < 252
      · unfold Rf
        simp only [if_neg h0, if_neg (show ¬ b < 84 by omega), if_neg (show ¬ b < 100 by omega), if_neg (show ¬ b < 112 by omega), if_neg (show ¬ b < 120 by omega), if_neg (show ¬ b < 152 by omega), if_neg (show ¬ b < 160 by omega), if_neg h1, if_pos h2]
        have enL : (D.swp u).nL = D.nL := rfl
        simp only [enL]
        by_cases c : (b - 240) / 2 < D.nL ∧ (b - 240) % 2 = 0
        · by_cases j1 : j = 1
          · subst j1
            rw [if_pos (show 240 ≤ b ∧ b < 252 ∧ (b - 240) / 2 < D.nL ∧ (b - 240) % 2 = 0 ∧ 1 = 1 from ⟨by omega, h2, c.1, c.2, rfl⟩), if_pos c]
            rfl
          · rw [if_neg (show ¬ (240 ≤ b ∧ b < 252 ∧ (b - 240) / 2 < D.nL ∧ (b - 240) % 2 = 0 ∧ j = 1) from fun z => j1 z.2.2.2.2), if_pos c, if_pos c]
            rcases j with _ | _ | _ | j
            · rfl
            · exact absurd rfl j1
            · rfl
            · rfl
        · rw [if_neg (show ¬ (240 ≤ b ∧ b < 252 ∧ (b - 240) / 2 < D.nL ∧ (b - 240) % 2 = 0 ∧ j = 1) from fun z => c ⟨z.2.2.1, z.2.2.2.1⟩), if_neg c, if_neg c]
      · rw [if_neg (by omega)]
        unfold Rf
        simp only [if_neg h0, if_neg (show ¬ b < 84 by omega), if_neg (show ¬ b < 100 by omega), if_neg (show ¬ b < 112 by omega), if_neg (show ¬ b < 120 by omega), if_neg (show ¬ b < 152 by omega), if_neg (show ¬ b < 160 by omega), if_neg h1, if_neg h2]
theorem look_tx {D : DD} {i : Nat} (hi : i < D.nL) (hm : D.nL ≤ 6) : Rf D (240 + 2 * i) 1 = some (20 + 8 * D.tx (2 + i)) := by
  unfold Rf
  simp only [if_neg (show ¬ 240 + 2 * i < 20 by omega), if_neg (show ¬ 240 + 2 * i < 84 by omega), if_neg (show ¬ 240 + 2 * i < 100 by omega), if_neg (show ¬ 240 + 2 * i < 112 by omega), if_neg (show ¬ 240 + 2 * i < 120 by omega), if_neg (show ¬ 240 + 2 * i < 152 by omega), if_neg (show ¬ 240 + 2 * i < 160 by omega), if_neg (show ¬ 240 + 2 * i < 240 by omega), if_pos (show 240 + 2 * i < 252 by omega)]
  rw [if_pos ⟨by omega, by omega⟩, show (240 + 2 * i - 240) / 2 = i by omega]
theorem swp_raw1 {D : DD} {I : Nat → Nat → Int32} {L : Nat → Nat → Int64} : raw I L (up2 (up2 (Rf D) 12 3 (some (20 + 8 * D.tx 1))) 1 14 (some (20 + 8 * D.tx 0))) (Kf D) = fm I L (D.swp 1) := by
  refine raw_fm (funext fun b => funext fun j => ?_) rfl
  rw [Rf_swp (by decide)]
  by_cases e1 : b = 12 ∧ j = 3
  · rw [if_pos e1, e1.1, e1.2, up2_o (by omega), up2_s]
  · rw [if_neg e1]
    by_cases e2 : b = 1 ∧ j = 14
    · rw [if_pos e2, e2.1, e2.2, up2_s, swp_u (by decide)]
    · rw [if_neg e2, up2_o e2, up2_o e1]
      by_cases e3 : 240 ≤ b ∧ b < 252 ∧ (b - 240) / 2 < D.nL ∧ (b - 240) % 2 = 0 ∧ j = 1
      · rw [if_pos e3, swp_w (by omega) (by omega)]
        obtain ⟨x1, x2, x3, x4, x5⟩ := e3
        unfold Rf
        simp only [if_neg (show ¬ b < 20 by omega), if_neg (show ¬ b < 84 by omega), if_neg (show ¬ b < 100 by omega), if_neg (show ¬ b < 112 by omega), if_neg (show ¬ b < 120 by omega), if_neg (show ¬ b < 152 by omega), if_neg (show ¬ b < 160 by omega), if_neg (show ¬ b < 240 by omega), if_pos x2]
        rw [if_pos ⟨x3, x4⟩, x5]
        rfl
      · rw [if_neg e3]
theorem swp_raw2 {D : DD} {l : Nat} (hl : l < D.nL) (hm : D.nL ≤ 6) {I : Nat → Nat → Int32} {L : Nat → Nat → Int64} : raw I L (up2 (up2 (Rf D) 12 3 (some (20 + 8 * D.tx (2 + l)))) (240 + 2 * l) 1 (some (20 + 8 * D.tx 0))) (Kf D) = fm I L (D.swp (2 + l)) := by
  refine raw_fm (funext fun b => funext fun j => ?_) rfl
  rw [Rf_swp (by omega)]
  by_cases e1 : b = 12 ∧ j = 3
  · rw [if_pos e1, e1.1, e1.2, up2_o (by omega), up2_s]
  · rw [if_neg e1]
    by_cases e2 : b = 1 ∧ j = 14
    · rw [if_pos e2, e2.1, e2.2, up2_o (by omega), up2_o (by omega), swp_w (by decide) (by omega), Rf_1_14]
    · rw [if_neg e2]
      by_cases e3 : 240 ≤ b ∧ b < 252 ∧ (b - 240) / 2 < D.nL ∧ (b - 240) % 2 = 0 ∧ j = 1
      · rw [if_pos e3]
        obtain ⟨x1, x2, x3, x4, x5⟩ := e3
        by_cases e4 : (b - 240) / 2 = l
        · have eb : b = 240 + 2 * l := by omega
          rw [e4, swp_u (by omega), x5, eb, up2_s]
        · rw [swp_w (by omega) (by omega), up2_o (by omega), up2_o e1, x5]
          obtain ⟨i, hi⟩ : ∃ i, (b - 240) / 2 = i := ⟨_, rfl⟩
          have eb : b = 240 + 2 * i := by omega
          rw [hi, eb, look_tx (by omega) hm]
      · rw [if_neg e3, up2_o (by omega), up2_o e1]
theorem CF_bytes {I : Nat → Nat → Int32} {t : Nat} (h : ∀ j, j < t → I 9 j = I 419 j ∧ inN (I 419 j) 256) (j : Nat) (hj : j < t) : I 9 j = nI ((I 419 j).toNatClampNeg) ∧ I 419 j = nI ((I 419 j).toNatClampNeg) ∧ (I 419 j).toNatClampNeg < 256 := by
  obtain ⟨h1, h2⟩ := h j hj
  obtain ⟨v, v1, v2⟩ := inN_of (by decide) h2
  have e : (I 419 j).toNatClampNeg = v := by rw [v2]; exact nI_clamp (by omega)
  rw [e]
  exact ⟨h1.trans v2, v2, v1⟩
