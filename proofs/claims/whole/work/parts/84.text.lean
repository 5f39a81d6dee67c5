/-! a new text, a new looker: kinds and references (my own) -/
theorem Ktx_1 : Ktx 1 = (1, 16) := rfl
theorem x_newText {I : Nat → Nat → Int32} {L : Nat → Nat → Int64} {R : Nat → Nat → Option Nat} {K : Nat → Nat × Nat} {T : Nat} (hT : K T = (25, 0)) (hz : ∀ r, 1 ≤ r → r ≤ 6 → K (T + r) = (0, 0)) {Q : Hp → Prop} (hQ : ∀ (A : Nat → Nat → Int32) (L' : Nat → Nat → Int64) (R' : Nat → Nat → Option Nat) (K' : Nat → Nat × Nat), (∀ l k, ¬ (T < l ∧ l ≤ T + 6) → A l k = I l k) → (∀ l k, T < l → l ≤ T + 6 → A l k = 0) → (∀ l k, ¬ (T < l ∧ l ≤ T + 6) → L' l k = L l k) → (∀ l k, ¬ (T ≤ l ∧ l ≤ T + 6) → R' l k = R l k) → (∀ l k, T < l → l ≤ T + 6 → R' l k = none) → (∀ k, k < 6 → R' T k = some (T + 1 + k)) → (∀ k, 6 ≤ k → R' T k = R T k) → (∀ l, ¬ (T < l ∧ l ≤ T + 6) → K' l = K l) → (∀ r, 1 ≤ r → r ≤ 6 → K' (T + r) = Ktx r) → Q (raw A L' R' K')) : wp_X7_init T (raw I L R K) Q := by
  unfold wp_X7_init
  have o1 : ∀ (J : Nat → Nat × Nat) (a b : Nat) v, a ≠ b → upK J (T + a) v (T + b) = J (T + b) := fun J a b v z => upK_o (by omega)
  have o0 : ∀ (J : Nat → Nat × Nat) (a : Nat) v, a ≠ 0 → upK J (T + a) v T = J T := fun J a v z => upK_o (by omega)
  refine ⟨okP_some (by rw [rK, hT]; decide), T + 1, by rw [rK, hz 1 (by decide) (by decide)], fun h2 e2 => ?_⟩
  subst e2
  rw [raw_alc]
  refine ⟨by rw [rK, o0 _ _ _ (by decide), hT], okP_some (by rw [rK, upK_s]; exact Nat.succ_ne_zero _), fun h8 e8 => ?_⟩
  subst e8
  rw [raw_stR]
  refine ⟨okP_some (by rw [rK, o0 _ _ _ (by decide), hT]; decide), T + 2, by rw [rK, o1 _ 1 2 _ (by decide), hz 2 (by decide) (by decide)], fun h11 e11 => ?_⟩
  subst e11
  rw [raw_alc]
  refine ⟨by rw [rK, o0 _ _ _ (by decide), o0 _ _ _ (by decide), hT], okP_some (by rw [rK, upK_s]; exact Nat.succ_ne_zero _), fun h17 e17 => ?_⟩
  subst e17
  rw [raw_stR]
  refine ⟨okP_some (by rw [rK, o0 _ _ _ (by decide), o0 _ _ _ (by decide), hT]; decide), T + 3, by rw [rK, o1 _ 2 3 _ (by decide), o1 _ 1 3 _ (by decide), hz 3 (by decide) (by decide)], fun h20 e20 => ?_⟩
  subst e20
  rw [raw_alc]
  refine ⟨by rw [rK, o0 _ _ _ (by decide), o0 _ _ _ (by decide), o0 _ _ _ (by decide), hT], okP_some (by rw [rK, upK_s]; exact Nat.succ_ne_zero _), fun h26 e26 => ?_⟩
  subst e26
  rw [raw_stR]
  refine ⟨okP_some (by rw [rK, o0 _ _ _ (by decide), o0 _ _ _ (by decide), o0 _ _ _ (by decide), hT]; decide), T + 4, by rw [rK, o1 _ 3 4 _ (by decide), o1 _ 2 4 _ (by decide), o1 _ 1 4 _ (by decide), hz 4 (by decide) (by decide)], fun h29 e29 => ?_⟩
  subst e29
  rw [raw_alc]
  refine ⟨by rw [rK, o0 _ _ _ (by decide), o0 _ _ _ (by decide), o0 _ _ _ (by decide), o0 _ _ _ (by decide), hT], okP_some (by rw [rK, upK_s]; exact Nat.succ_ne_zero _), fun h35 e35 => ?_⟩
  subst e35
  rw [raw_stR]
  refine ⟨okP_some (by rw [rK, o0 _ _ _ (by decide), o0 _ _ _ (by decide), o0 _ _ _ (by decide), o0 _ _ _ (by decide), hT]; decide), T + 5, by rw [rK, o1 _ 4 5 _ (by decide), o1 _ 3 5 _ (by decide), o1 _ 2 5 _ (by decide), o1 _ 1 5 _ (by decide), hz 5 (by decide) (by decide)], fun h38 e38 => ?_⟩
  subst e38
  rw [raw_alc]
  refine ⟨by rw [rK, o0 _ _ _ (by decide), o0 _ _ _ (by decide), o0 _ _ _ (by decide), o0 _ _ _ (by decide), o0 _ _ _ (by decide), hT], okP_some (by rw [rK, upK_s]; exact Nat.succ_ne_zero _), fun h44 e44 => ?_⟩
  subst e44
  rw [raw_stR]
  refine ⟨okP_some (by rw [rK, o0 _ _ _ (by decide), o0 _ _ _ (by decide), o0 _ _ _ (by decide), o0 _ _ _ (by decide), o0 _ _ _ (by decide), hT]; decide), T + 6, by rw [rK, o1 _ 5 6 _ (by decide), o1 _ 4 6 _ (by decide), o1 _ 3 6 _ (by decide), o1 _ 2 6 _ (by decide), o1 _ 1 6 _ (by decide), hz 6 (by decide) (by decide)], fun h47 e47 => ?_⟩
  subst e47
  rw [raw_alc]
  refine ⟨by rw [rK, o0 _ _ _ (by decide), o0 _ _ _ (by decide), o0 _ _ _ (by decide), o0 _ _ _ (by decide), o0 _ _ _ (by decide), o0 _ _ _ (by decide), hT], okP_some (by rw [rK, upK_s]; exact Nat.succ_ne_zero _), fun h53 e53 => ?_⟩
  subst e53
  rw [raw_stR]
  refine hQ _ _ _ _ (fun l k z => ?_) (fun l k z1 z2 => ?_) (fun l k z => ?_) (fun l k z => ?_) (fun l k z1 z2 => ?_) (fun k hk => ?_) (fun k hk => ?_) (fun l z => ?_) (fun r r1 r6 => ?_)
  · rw [up1_o (by omega), up1_o (by omega), up1_o (by omega), up1_o (by omega), up1_o (by omega), up1_o (by omega)]
  · have : l = T + 1 ∨ l = T + 2 ∨ l = T + 3 ∨ l = T + 4 ∨ l = T + 5 ∨ l = T + 6 := by omega
    unfold up1
    rcases this with e | e | e | e | e | e <;> subst e <;> simp
  · rw [up1_o (by omega), up1_o (by omega), up1_o (by omega), up1_o (by omega), up1_o (by omega), up1_o (by omega)]
  · rw [up2_o (by omega), up1_o (by omega), up2_o (by omega), up1_o (by omega), up2_o (by omega), up1_o (by omega), up2_o (by omega), up1_o (by omega), up2_o (by omega), up1_o (by omega), up2_o (by omega), up1_o (by omega)]
  · have : l = T + 1 ∨ l = T + 2 ∨ l = T + 3 ∨ l = T + 4 ∨ l = T + 5 ∨ l = T + 6 := by omega
    have no : ¬ l = T := by omega
    unfold up1 up2
    rcases this with e | e | e | e | e | e <;> simp [e]
  · have : k = 0 ∨ k = 1 ∨ k = 2 ∨ k = 3 ∨ k = 4 ∨ k = 5 := by omega
    unfold up1 up2
    rcases this with e | e | e | e | e | e <;> subst e <;> simp
  · unfold up1 up2
    simp [show ¬ k = 0 by omega, show ¬ k = 1 by omega, show ¬ k = 2 by omega, show ¬ k = 3 by omega, show ¬ k = 4 by omega, show ¬ k = 5 by omega]
  · rw [upK_o (by omega), upK_o (by omega), upK_o (by omega), upK_o (by omega), upK_o (by omega), upK_o (by omega)]
  · have : r = 1 ∨ r = 2 ∨ r = 3 ∨ r = 4 ∨ r = 5 ∨ r = 6 := by omega
    unfold upK
    rcases this with e | e | e | e | e | e <;> subst e <;> simp [Ktx]
abbrev DD.addL (D : DD) : DD := ((D.nT, D.nB, D.nA, D.nL + 1, D.nP), D.gun, D.pa, D.pb, (fun u => if u = 2 + D.nL then u else D.tx u))
theorem tx_addL {D : DD} {u : Nat} (h : u ≠ 2 + D.nL) : D.addL.tx u = D.tx u := if_neg h
theorem Kf_addL {D : DD} (h : D.nL < 6) (b : Nat) : Kf D.addL b = if b = 240 + 2 * D.nL then (22, 0) else if b = 240 + 2 * D.nL + 1 then (1, 1600) else if 36 + 8 * D.nL ≤ b ∧ b < 44 + 8 * D.nL then Ktx ((b - 20) % 8) else Kf D b := by
  by_cases h0 : b < 20
  · rw [if_neg (by omega), if_neg (by omega), if_neg (by omega)]
    unfold Kf
    simp only [if_pos h0]
  · by_cases h1 : b < 84
    · rw [if_neg (by omega), if_neg (by omega)]
      unfold Kf
      simp only [if_neg h0, if_pos h1]
      show (if (b - 20) / 8 < 2 + (D.nL + 1) then Ktx ((b - 20) % 8) else (0, 0)) = _
      by_cases e : 36 + 8 * D.nL ≤ b ∧ b < 44 + 8 * D.nL
      · rw [if_pos e, if_pos (by omega)]
      · rw [if_neg e]
        by_cases e2 : (b - 20) / 8 < 2 + D.nL
        · rw [if_pos e2, if_pos (by omega)]
        · rw [if_neg e2, if_neg (by omega)]
    · by_cases h2 : b < 240
      · rw [if_neg (by omega), if_neg (by omega), if_neg (by omega)]
        unfold Kf
        simp only [if_neg h0, if_neg h1, if_pos h2]
      · by_cases h3 : b < 252
        · rw [if_neg (show ¬ (36 + 8 * D.nL ≤ b ∧ b < 44 + 8 * D.nL) by omega)]
          unfold Kf K2
          simp only [if_neg (show ¬ b < 20 by omega), if_neg (show ¬ b < 84 by omega), if_neg (show ¬ b < 100 by omega), if_neg (show ¬ b < 112 by omega), if_neg (show ¬ b < 120 by omega), if_neg (show ¬ b < 152 by omega), if_neg (show ¬ b < 160 by omega), if_neg (show ¬ b < 240 by omega), if_pos h3]
          show (if (b - 240) / 2 < D.nL + 1 then _ else _) = _
          by_cases e1 : b = 240 + 2 * D.nL
          · rw [if_pos e1, if_pos (by omega), if_pos (by omega)]
          · rw [if_neg e1]
            by_cases e2 : b = 240 + 2 * D.nL + 1
            · rw [if_pos e2, if_pos (by omega), if_neg (by omega)]
            · rw [if_neg e2]
              by_cases e3 : (b - 240) / 2 < D.nL
              · rw [if_pos (by omega), if_pos e3]
              · rw [if_neg (by omega), if_neg e3]
        · rw [if_neg (by omega), if_neg (by omega), if_neg (by omega)]
          unfold Kf
          simp only [if_neg (show ¬ b < 20 by omega), if_neg (show ¬ b < 84 by omega), if_neg (show ¬ b < 100 by omega), if_neg (show ¬ b < 112 by omega), if_neg (show ¬ b < 120 by omega), if_neg (show ¬ b < 152 by omega), if_neg (show ¬ b < 160 by omega), if_neg (show ¬ b < 240 by omega), if_neg h3]
theorem R1_addL {D : DD} (j : Nat) : R1 D.addL j = R1 D j := by
  by_cases e : j = 14
  · subst e
    show some (20 + 8 * D.addL.tx 1) = some (20 + 8 * D.tx 1)
    rw [tx_addL (by omega)]
  · unfold R1
    split <;> first | rfl | exact absurd rfl e
theorem Rf_addL {D : DD} (h : D.nL < 6) (b j : Nat) : Rf D.addL b j = if b = 5 ∧ j = D.nL then some (240 + 2 * D.nL) else if b = 240 + 2 * D.nL then (match j with | 1 => some (20 + 8 * (2 + D.nL)) | 2 => some (b + 1) | _ => none) else if b = 36 + 8 * D.nL ∧ j < 6 then some (b + 1 + j) else Rf D b j := by
  by_cases h0 : b < 20
  · rw [if_neg (show ¬ b = 240 + 2 * D.nL by omega), if_neg (show ¬ (b = 36 + 8 * D.nL ∧ j < 6) by omega)]
    unfold Rf
    simp only [if_pos h0]
    by_cases e2 : b = 5
    · subst e2
      show (if j < D.nL + 1 then some (240 + 2 * j) else none) = if 5 = 5 ∧ j = D.nL then _ else (if j < D.nL then some (240 + 2 * j) else none)
      by_cases e : j = D.nL
      · rw [if_pos (by omega), if_pos ⟨rfl, e⟩, e]
      · rw [if_neg (show ¬ (5 = 5 ∧ j = D.nL) by omega)]
        by_cases e3 : j < D.nL
        · rw [if_pos (by omega), if_pos e3]
        · rw [if_neg (by omega), if_neg e3]
    · rw [if_neg (fun z => e2 z.1)]
      by_cases e1 : b = 1
      · subst e1; exact R1_addL j
      · by_cases e12 : b = 12
        · subst e12
          show (match j with | 2 => some 8 | 3 => some (20 + 8 * D.addL.tx 0) | _ => none) = Rst D 12 j
          rw [tx_addL (D := D) (u := 0) (by omega)]
          rfl
        · unfold Rst
          split <;> first | rfl | (exfalso; exact e2 rfl) | (exfalso; exact e1 rfl) | (exfalso; exact e12 rfl)
  · rw [if_neg (show ¬ (b = 5 ∧ j = D.nL) by omega)]
    by_cases h1 : b < 84
    · rw [if_neg (show ¬ b = 240 + 2 * D.nL by omega)]
      unfold Rf
      simp only [if_neg h0, if_pos h1]
      show (if (b - 20) / 8 < 2 + (D.nL + 1) ∧ (b - 20) % 8 = 0 ∧ j < 6 then some (b + 1 + j) else none) = _
      by_cases e : b = 36 + 8 * D.nL ∧ j < 6
      · rw [if_pos e, if_pos (by omega)]
      · rw [if_neg e]
        by_cases e2 : (b - 20) / 8 < 2 + D.nL ∧ (b - 20) % 8 = 0 ∧ j < 6
        · rw [if_pos e2, if_pos (by omega)]
        · rw [if_neg e2, if_neg (by omega)]
    · rw [if_neg (show ¬ (b = 36 + 8 * D.nL ∧ j < 6) by omega)]
      by_cases h2 : b < 240
      · rw [if_neg (show ¬ b = 240 + 2 * D.nL by omega)]
        unfold Rf
        simp only [if_neg h0, if_neg h1, if_pos h2]
      · by_cases h3 : b < 252
        · unfold Rf
          simp only [if_neg (show ¬ b < 20 by omega), if_neg (show ¬ b < 84 by omega), if_neg (show ¬ b < 100 by omega), if_neg (show ¬ b < 112 by omega), if_neg (show ¬ b < 120 by omega), if_neg (show ¬ b < 152 by omega), if_neg (show ¬ b < 160 by omega), if_neg (show ¬ b < 240 by omega), if_pos h3]
          show (if (b - 240) / 2 < D.nL + 1 ∧ (b - 240) % 2 = 0 then (match j with | 1 => some (20 + 8 * (if 2 + (b - 240) / 2 = 2 + D.nL then 2 + (b - 240) / 2 else D.tx (2 + (b - 240) / 2))) | 2 => some (b + 1) | _ => none) else none) = _
          by_cases e1 : b = 240 + 2 * D.nL
          · rw [if_pos e1, if_pos (by omega), if_pos (by omega), show (b - 240) / 2 = D.nL by omega]
          · rw [if_neg e1]
            by_cases e3 : (b - 240) / 2 < D.nL ∧ (b - 240) % 2 = 0
            · rw [if_pos (show (b - 240) / 2 < D.nL + 1 ∧ (b - 240) % 2 = 0 by omega), if_pos e3, if_neg (by omega)]
              first | rfl | (split <;> rfl)
            · rw [if_neg (by omega), if_neg e3]
        · rw [if_neg (show ¬ b = 240 + 2 * D.nL by omega)]
          unfold Rf
          simp only [if_neg (show ¬ b < 20 by omega), if_neg (show ¬ b < 84 by omega), if_neg (show ¬ b < 100 by omega), if_neg (show ¬ b < 112 by omega), if_neg (show ¬ b < 120 by omega), if_neg (show ¬ b < 152 by omega), if_neg (show ¬ b < 160 by omega), if_neg (show ¬ b < 240 by omega), if_neg h3]
