/-! ONE MORE ball, barrel, pair (my own; made by gen75.py) -/
abbrev DD.addA (D : DD) (gu : Option Nat) : DD := ((D.nT, D.nB, D.nA + 1, D.1.2.2.2), (fun i => if i = D.nA then gu else D.gun i), D.2.2)
theorem Kf_addA {D : DD} {gu : Option Nat} (h : D.nA < 40) (b : Nat) : Kf (D.addA gu) b = if b = 160 + 2 * D.nA then (20, 0) else if b = 160 + 2 * D.nA + 1 then (1, 32) else Kf D b := by
  by_cases h1 : b < 160
  · rw [if_neg (show ¬ b = 160 + 2 * D.nA by omega), if_neg (show ¬ b = 160 + 2 * D.nA + 1 by omega)]
    unfold Kf
    simp only [if_pos h1]
  · by_cases h2 : b < 240
    · unfold Kf
      unfold K2
      simp only [if_neg (show ¬ b < 20 by omega), if_neg (show ¬ b < 84 by omega), if_neg (show ¬ b < 100 by omega), if_neg (show ¬ b < 112 by omega), if_neg (show ¬ b < 120 by omega), if_neg (show ¬ b < 152 by omega), if_neg (show ¬ b < 160 by omega), if_pos h2]
      show (if (b - 160) / 2 < D.nA + 1 then _ else _) = _
      by_cases e1 : b = 160 + 2 * D.nA
      · rw [if_pos e1, if_pos (by omega), if_pos (by omega)]
      · rw [if_neg e1]
        by_cases e2 : b = 160 + 2 * D.nA + 1
        · rw [if_pos e2, if_pos (by omega), if_neg (by omega)]
        · rw [if_neg e2]
          by_cases e3 : (b - 160) / 2 < D.nA
          · rw [if_pos (by omega), if_pos e3]
          · rw [if_neg (by omega), if_neg e3]
    · rw [if_neg (show ¬ b = 160 + 2 * D.nA by omega), if_neg (show ¬ b = 160 + 2 * D.nA + 1 by omega)]
      unfold Kf
      simp only [if_neg (show ¬ b < 20 by omega), if_neg (show ¬ b < 84 by omega), if_neg (show ¬ b < 100 by omega), if_neg (show ¬ b < 112 by omega), if_neg (show ¬ b < 120 by omega), if_neg (show ¬ b < 152 by omega), if_neg (show ¬ b < 160 by omega), if_neg (show ¬ b < 240 by omega)]
theorem Rf_addA {D : DD} {gu : Option Nat} (h : D.nA < 40) (b j : Nat) : Rf (D.addA gu) b j = if b = 4 ∧ j = D.nA then some (160 + 2 * D.nA) else if b = 160 + 2 * D.nA then (match j with | 1 => gu.map (fun b => 120 + 2 * b) | 4 => some (b + 1) | _ => none) else Rf D b j := by
  by_cases h0 : b < 20
  · rw [if_neg (show ¬ b = 160 + 2 * D.nA by omega)]
    unfold Rf
    simp only [if_pos h0]
    by_cases e2 : b = 4
    · subst e2
      show (if j < D.nA + 1 then some (160 + 2 * j) else none) = if 4 = 4 ∧ j = D.nA then _ else (if j < D.nA then some (160 + 2 * j) else none)
      by_cases e : j = D.nA
      · rw [if_pos (by omega), if_pos ⟨rfl, e⟩, e]
      · rw [if_neg (show ¬ (4 = 4 ∧ j = D.nA) by omega)]
        by_cases e3 : j < D.nA
        · rw [if_pos (by omega), if_pos e3]
        · rw [if_neg (by omega), if_neg e3]
    · rw [if_neg (fun z => e2 z.1)]
      unfold Rst
      split <;> first | rfl | (exfalso; exact e2 rfl)
  · rw [if_neg (show ¬ (b = 4 ∧ j = D.nA) by omega)]
    by_cases h1 : b < 160
    · rw [if_neg (show ¬ b = 160 + 2 * D.nA by omega)]
      unfold Rf
      simp only [if_neg h0, if_pos h1]
    · by_cases h2 : b < 240
      · unfold Rf
        simp only [if_neg (show ¬ b < 20 by omega), if_neg (show ¬ b < 84 by omega), if_neg (show ¬ b < 100 by omega), if_neg (show ¬ b < 112 by omega), if_neg (show ¬ b < 120 by omega), if_neg (show ¬ b < 152 by omega), if_neg (show ¬ b < 160 by omega), if_pos h2]
        show (if (b - 160) / 2 < D.nA + 1 ∧ (b - 160) % 2 = 0 then (match j with | 1 => (if (b - 160) / 2 = D.nA then gu else D.gun ((b - 160) / 2)).map (fun b => 120 + 2 * b) | 4 => some (b + 1) | _ => none) else none) = _
        by_cases e1 : b = 160 + 2 * D.nA
        · rw [if_pos e1, if_pos (by omega), if_pos (by omega)]
        · rw [if_neg e1]
          by_cases e3 : (b - 160) / 2 < D.nA ∧ (b - 160) % 2 = 0
          · rw [if_pos (show (b - 160) / 2 < D.nA + 1 ∧ (b - 160) % 2 = 0 by omega), if_pos e3, if_neg (by omega)]
            first | rfl | (split <;> rfl)
          · rw [if_neg (by omega), if_neg e3]
      · rw [if_neg (show ¬ b = 160 + 2 * D.nA by omega)]
        unfold Rf
        simp only [if_neg h0, if_neg (show ¬ b < 84 by omega), if_neg (show ¬ b < 100 by omega), if_neg (show ¬ b < 112 by omega), if_neg (show ¬ b < 120 by omega), if_neg (show ¬ b < 152 by omega), if_neg (show ¬ b < 160 by omega), if_neg (show ¬ b < 240 by omega)]
abbrev DD.addB (D : DD)  : DD := ((D.nT, D.nB + 1, D.1.2.2), D.2)
theorem Kf_addB {D : DD}  (h : D.nB < 16) (b : Nat) : Kf D.addB b = if b = 120 + 2 * D.nB then (21, 0) else if b = 120 + 2 * D.nB + 1 then (1, 32) else Kf D b := by
  by_cases h1 : b < 120
  · rw [if_neg (show ¬ b = 120 + 2 * D.nB by omega), if_neg (show ¬ b = 120 + 2 * D.nB + 1 by omega)]
    unfold Kf
    simp only [if_pos h1]
  · by_cases h2 : b < 152
    · unfold Kf
      unfold K2
      simp only [if_neg (show ¬ b < 20 by omega), if_neg (show ¬ b < 84 by omega), if_neg (show ¬ b < 100 by omega), if_neg (show ¬ b < 112 by omega), if_neg (show ¬ b < 120 by omega), if_pos h2]
      show (if (b - 120) / 2 < D.nB + 1 then _ else _) = _
      by_cases e1 : b = 120 + 2 * D.nB
      · rw [if_pos e1, if_pos (by omega), if_pos (by omega)]
      · rw [if_neg e1]
        by_cases e2 : b = 120 + 2 * D.nB + 1
        · rw [if_pos e2, if_pos (by omega), if_neg (by omega)]
        · rw [if_neg e2]
          by_cases e3 : (b - 120) / 2 < D.nB
          · rw [if_pos (by omega), if_pos e3]
          · rw [if_neg (by omega), if_neg e3]
    · rw [if_neg (show ¬ b = 120 + 2 * D.nB by omega), if_neg (show ¬ b = 120 + 2 * D.nB + 1 by omega)]
      unfold Kf
      simp only [if_neg (show ¬ b < 20 by omega), if_neg (show ¬ b < 84 by omega), if_neg (show ¬ b < 100 by omega), if_neg (show ¬ b < 112 by omega), if_neg (show ¬ b < 120 by omega), if_neg (show ¬ b < 152 by omega)]
theorem Rf_addB {D : DD}  (h : D.nB < 16) (b j : Nat) : Rf D.addB b j = if b = 3 ∧ j = D.nB then some (120 + 2 * D.nB) else if b = 120 + 2 * D.nB then (if j = 3 then some (b + 1) else none) else Rf D b j := by
  by_cases h0 : b < 20
  · rw [if_neg (show ¬ b = 120 + 2 * D.nB by omega)]
    unfold Rf
    simp only [if_pos h0]
    by_cases e2 : b = 3
    · subst e2
      show (if j < D.nB + 1 then some (120 + 2 * j) else none) = if 3 = 3 ∧ j = D.nB then _ else (if j < D.nB then some (120 + 2 * j) else none)
      by_cases e : j = D.nB
      · rw [if_pos (by omega), if_pos ⟨rfl, e⟩, e]
      · rw [if_neg (show ¬ (3 = 3 ∧ j = D.nB) by omega)]
        by_cases e3 : j < D.nB
        · rw [if_pos (by omega), if_pos e3]
        · rw [if_neg (by omega), if_neg e3]
    · rw [if_neg (fun z => e2 z.1)]
      unfold Rst
      split <;> first | rfl | (exfalso; exact e2 rfl)
  · rw [if_neg (show ¬ (b = 3 ∧ j = D.nB) by omega)]
    by_cases h1 : b < 120
    · rw [if_neg (show ¬ b = 120 + 2 * D.nB by omega)]
      unfold Rf
      simp only [if_neg h0, if_pos h1]
    · by_cases h2 : b < 152
      · unfold Rf
        simp only [if_neg (show ¬ b < 20 by omega), if_neg (show ¬ b < 84 by omega), if_neg (show ¬ b < 100 by omega), if_neg (show ¬ b < 112 by omega), if_neg (show ¬ b < 120 by omega), if_pos h2]
        show (if (b - 120) / 2 < D.nB + 1 ∧ (b - 120) % 2 = 0 ∧ j = 3 then some (b + 1) else none) = _
        by_cases e1 : b = 120 + 2 * D.nB
        · rw [if_pos e1]
          by_cases e3 : j = 3
          · rw [if_pos (by omega), if_pos e3]
          · rw [if_neg (by omega), if_neg e3]
        · rw [if_neg e1]
          by_cases e3 : (b - 120) / 2 < D.nB ∧ (b - 120) % 2 = 0 ∧ j = 3
          · rw [if_pos (by omega), if_pos e3]
          · rw [if_neg (by omega), if_neg e3]
      · rw [if_neg (show ¬ b = 120 + 2 * D.nB by omega)]
        unfold Rf
        simp only [if_neg h0, if_neg (show ¬ b < 84 by omega), if_neg (show ¬ b < 100 by omega), if_neg (show ¬ b < 112 by omega), if_neg (show ¬ b < 120 by omega), if_neg (show ¬ b < 152 by omega)]
abbrev DD.addP (D : DD) (p : Nat) (q : Nat) : DD := ((D.nT, D.nB, D.nA, D.nL, D.nP + 1), D.gun, (fun i => if i = D.nP then p else D.pa i), (fun i => if i = D.nP then q else D.pb i), D.tx)
theorem Kf_addP {D : DD} {p : Nat} {q : Nat} (h : D.nP < 10) (b : Nat) : Kf (D.addP p q) b = if b = 260 + D.nP then (23, 0) else Kf D b := by
  by_cases h1 : b < 260
  · rw [if_neg (show ¬ b = 260 + D.nP by omega)]
    unfold Kf
    simp only [if_pos h1]
  · by_cases h2 : b < 270
    · unfold Kf
      simp only [if_neg (show ¬ b < 20 by omega), if_neg (show ¬ b < 84 by omega), if_neg (show ¬ b < 100 by omega), if_neg (show ¬ b < 112 by omega), if_neg (show ¬ b < 120 by omega), if_neg (show ¬ b < 152 by omega), if_neg (show ¬ b < 160 by omega), if_neg (show ¬ b < 240 by omega), if_neg (show ¬ b < 252 by omega), if_neg (show ¬ b < 260 by omega), if_pos h2]
      show (if b - 260 < D.nP + 1 then _ else _) = _
      by_cases e1 : b = 260 + D.nP
      · rw [if_pos e1, if_pos (by omega)]
      · rw [if_neg e1]
        by_cases e3 : b - 260 < D.nP
        · rw [if_pos (by omega), if_pos e3]
        · rw [if_neg (by omega), if_neg e3]
    · rw [if_neg (show ¬ b = 260 + D.nP by omega)]
      unfold Kf
      simp only [if_neg (show ¬ b < 20 by omega), if_neg (show ¬ b < 84 by omega), if_neg (show ¬ b < 100 by omega), if_neg (show ¬ b < 112 by omega), if_neg (show ¬ b < 120 by omega), if_neg (show ¬ b < 152 by omega), if_neg (show ¬ b < 160 by omega), if_neg (show ¬ b < 240 by omega), if_neg (show ¬ b < 252 by omega), if_neg (show ¬ b < 260 by omega), if_neg (show ¬ b < 270 by omega)]
set_option maxRecDepth 8192 in
theorem Rf_addP {D : DD} {p : Nat} {q : Nat} (h : D.nP < 10) (b j : Nat) : Rf (D.addP p q) b j = if b = 6 ∧ j = D.nP then some (260 + D.nP) else if b = 260 + D.nP then (match j with | 0 => some (160 + 2 * p) | 1 => some (160 + 2 * q) | _ => none) else Rf D b j := by
  by_cases h0 : b < 20
  · rw [if_neg (show ¬ b = 260 + D.nP by omega)]
    unfold Rf
    simp only [if_pos h0]
    by_cases e2 : b = 6
    · subst e2
      show (if j < D.nP + 1 then some (260 + j) else none) = if 6 = 6 ∧ j = D.nP then _ else (if j < D.nP then some (260 + j) else none)
      by_cases e : j = D.nP
      · rw [if_pos (by omega), if_pos ⟨rfl, e⟩, e]
      · rw [if_neg (show ¬ (6 = 6 ∧ j = D.nP) by omega)]
        by_cases e3 : j < D.nP
        · rw [if_pos (by omega), if_pos e3]
        · rw [if_neg (by omega), if_neg e3]
    · rw [if_neg (fun z => e2 z.1)]
      unfold Rst
      split <;> first | rfl | (exfalso; exact e2 rfl)
  · rw [if_neg (show ¬ (b = 6 ∧ j = D.nP) by omega)]
    by_cases h1 : b < 260
    · rw [if_neg (show ¬ b = 260 + D.nP by omega)]
      unfold Rf
      simp only [if_neg h0, if_pos h1]
    · by_cases h2 : b < 270
      · unfold Rf
        simp only [if_neg (show ¬ b < 20 by omega), if_neg (show ¬ b < 84 by omega), if_neg (show ¬ b < 100 by omega), if_neg (show ¬ b < 112 by omega), if_neg (show ¬ b < 120 by omega), if_neg (show ¬ b < 152 by omega), if_neg (show ¬ b < 160 by omega), if_neg (show ¬ b < 240 by omega), if_neg (show ¬ b < 252 by omega), if_neg (show ¬ b < 260 by omega), if_pos h2]
        show (if b - 260 < D.nP + 1 then (match j with | 0 => some (160 + 2 * (if b - 260 = D.nP then p else D.pa (b - 260))) | 1 => some (160 + 2 * (if b - 260 = D.nP then q else D.pb (b - 260))) | _ => none) else none) = _
        by_cases e1 : b = 260 + D.nP
        · rw [if_pos e1, if_pos (by omega), if_pos (by omega), if_pos (by omega)]
        · rw [if_neg e1]
          by_cases e3 : b - 260 < D.nP
          · rw [if_pos (show b - 260 < D.nP + 1 by omega), if_pos e3, if_neg (by omega), if_neg (by omega)]
            first | rfl | (split <;> rfl)
          · rw [if_neg (by omega), if_neg e3]
      · rw [if_neg (show ¬ b = 260 + D.nP by omega)]
        unfold Rf
        simp only [if_neg h0, if_neg (show ¬ b < 84 by omega), if_neg (show ¬ b < 100 by omega), if_neg (show ¬ b < 112 by omega), if_neg (show ¬ b < 120 by omega), if_neg (show ¬ b < 152 by omega), if_neg (show ¬ b < 160 by omega), if_neg (show ¬ b < 240 by omega), if_neg (show ¬ b < 252 by omega), if_neg (show ¬ b < 260 by omega), if_neg (show ¬ b < 270 by omega)]
