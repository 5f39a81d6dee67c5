/-! NEW CELLS (my own): heaps whose kinds and references are told by any functions -/
def raw (I : Nat → Nat → Int32) (L : Nat → Nat → Int64) (R : Nat → Nat → Option Nat) (K : Nat → Nat × Nat) : Hp := (I, L, R, K)
def up1 {α : Type} (J : Nat → Nat → α) (a : Nat) (z : α) : Nat → Nat → α := fun b j => if b = a then z else J b j
def upK (K : Nat → Nat × Nat) (a : Nat) (v : Nat × Nat) : Nat → Nat × Nat := fun b => if b = a then v else K b
section RW
variable {I : Nat → Nat → Int32} {L : Nat → Nat → Int64} {R : Nat → Nat → Option Nat} {K : Nat → Nat × Nat} {D : DD} {a k n kd : Nat}
theorem fm_raw : fm I L D = raw I L (Rf D) (Kf D) := rfl
theorem rI : hpI (raw I L R K) a k = I a k := rfl
theorem rL : hpL (raw I L R K) a k = L a k := rfl
theorem rR : hpR (raw I L R K) a k = R a k := rfl
theorem rK : hpK (raw I L R K) a = K a := rfl
theorem raw_stI {v : Int32} : stI (raw I L R K) a k v = raw (up2 I a k v) L R K := rfl
theorem raw_stL {v : Int64} : stL (raw I L R K) a k v = raw I (up2 L a k v) R K := rfl
theorem raw_stR {v : Option Nat} : stR (raw I L R K) a k v = raw I L (up2 R a k v) K := rfl
theorem raw_alc : alc (raw I L R K) a kd n = raw (up1 I a 0) (up1 L a 0) (up1 R a none) (upK K a (kd, n)) := rfl
theorem raw_cl {x : Nat} : clI (raw I L R K) a x = raw (fun b j => if b = a then I x j else I b j) (up1 L a 0) (up1 R a none) (upK K a (1, (K x).2)) := rfl
theorem raw_fm (hR : R = Rf D) (hK : K = Kf D) : raw I L R K = fm I L D := by subst hR; subst hK; rfl
end RW
theorem up1_s {α : Type} {J : Nat → Nat → α} {a j : Nat} {z : α} : up1 J a z a j = z := by simp [up1]
theorem up1_o {α : Type} {J : Nat → Nat → α} {a b j : Nat} {z : α} (h : b ≠ a) : up1 J a z b j = J b j := by simp [up1, h]
theorem upK_s {K : Nat → Nat × Nat} {a : Nat} {v : Nat × Nat} : upK K a v a = v := by simp [upK]
theorem upK_o {K : Nat → Nat × Nat} {a b : Nat} {v : Nat × Nat} (h : b ≠ a) : upK K a v b = K b := by simp [upK, h]
/-- Arrays.fill -/
theorem j_fill_L {L : Nat → Nat → Int64} {R : Nat → Nat → Option Nat} {K : Nat → Nat × Nat} {a m : Nat} {v : Int32} {K' Q : Hp → Prop} (hK : K a = (1, m)) (hm : m ≤ 10000) : ∀ (n j : Nat) (I : Nat → Nat → Int32), j ≤ m → m + 1 ≤ n + j → K' (raw (fun b k => if b = a ∧ j ≤ k ∧ k < m then v else I b k) L R K) → wp_J7_fill_53178_L5 (some a) v (nI m) K' Q n (nI j) (raw I L R K) := by
  intro n
  induction n with
  | zero => intro j I h1 h2; omega
  | succ n ih =>
    intro j I h1 h2 hw
    rw [wp_J7_fill_53178_L5]
    by_cases hj : j = m
    · subst hj
      rw [if_pos (nI_le (Nat.le_refl _) (by omega))]
      have e : (fun b k => if b = a ∧ j ≤ k ∧ k < j then v else I b k) = I := by
        funext b k; rw [if_neg (by omega)]
      rw [e] at hw; exact hw
    · rw [if_neg (nI_ge (by omega) (by omega))]
      simp only [rI, rL, rR, rK, raw_stI, raw_stL, raw_stR, raw_alc, upK_s, forall_eq, true_and, ad_s, okA_s, okO_s, okN_s, i10, i00, if_true, if_false, reduceCtorEq, hK, nI_clamp (show j < 2 ^ 31 by omega), nI_1]
      refine ⟨vp_in_nI (by omega) (by omega), ih (j + 1) _ (by omega) (by omega) ?_⟩
      have e : (fun b k => if b = a ∧ j + 1 ≤ k ∧ k < m then v else (up2 I a j v) b k) = (fun b k => if b = a ∧ j ≤ k ∧ k < m then v else I b k) := by
        funext b k
        by_cases e1 : b = a ∧ j + 1 ≤ k ∧ k < m
        · rw [if_pos e1, if_pos (by omega)]
        · rw [if_neg e1]
          by_cases e2 : b = a ∧ k = j
          · rw [if_pos (by omega), e2.1, e2.2, up2_s]
          · rw [if_neg (by omega), up2_o e2]
      rw [e]; exact hw
theorem j_fill {I : Nat → Nat → Int32} {L : Nat → Nat → Int64} {R : Nat → Nat → Option Nat} {K : Nat → Nat × Nat} {a m : Nat} {v : Int32} {Q : Hp → Prop} (hK : K a = (1, m)) (hm : m ≤ 10000) (hQ : Q (raw (fun b k => if b = a ∧ k < m then v else I b k) L R K)) : wp_J7_fill_53178 (some a) v (raw I L R K) Q := by
  unfold wp_J7_fill_53178
  simp only [rI, rL, rR, rK, raw_stI, raw_stL, raw_stR, raw_alc, upK_s, forall_eq, true_and, ad_s, okA_s, okO_s, okN_s, i10, i00, if_true, if_false, reduceCtorEq, hK]
  refine j_fill_L hK hm fuel 0 I (by omega) (by have := fuel_ge; omega) ?_
  simp only [Nat.zero_le, true_and]
  exact hQ
abbrev DD.addT (D : DD) : DD := ((D.nT + 1, D.nB, D.1.2.2), D.2)
theorem Kf_addT {D : DD} (h : D.nT < 6) (b : Nat) : Kf D.addT b = if b = 100 + 2 * D.nT then (27, 0) else if b = 100 + 2 * D.nT + 1 then (1, 32) else Kf D b := by
  unfold Kf K2
  by_cases h1 : b < 100
  · rw [if_neg (show ¬ b = 100 + 2 * D.nT by omega), if_neg (show ¬ b = 100 + 2 * D.nT + 1 by omega)]
    simp only [if_pos h1]
  · by_cases h2 : b < 112
    · simp only [if_neg (show ¬ b < 20 by omega), if_neg (show ¬ b < 84 by omega), if_neg h1, if_pos h2]
      show (if (b - 100) / 2 < D.nT + 1 then _ else _) = _
      by_cases e1 : b = 100 + 2 * D.nT
      · rw [if_pos e1, if_pos (by omega), if_pos (by omega)]
      · rw [if_neg e1]
        by_cases e2 : b = 100 + 2 * D.nT + 1
        · rw [if_pos e2, if_pos (by omega), if_neg (by omega)]
        · rw [if_neg e2]
          by_cases e3 : (b - 100) / 2 < D.nT
          · rw [if_pos (by omega), if_pos e3]
          · rw [if_neg (by omega), if_neg e3]
    · rw [if_neg (show ¬ b = 100 + 2 * D.nT by omega), if_neg (show ¬ b = 100 + 2 * D.nT + 1 by omega)]
      simp only [if_neg (show ¬ b < 20 by omega), if_neg (show ¬ b < 84 by omega), if_neg h1, if_neg h2]
theorem Rf_addT {D : DD} (h : D.nT < 6) (b j : Nat) : Rf D.addT b j = if b = 2 ∧ j = D.nT then some (100 + 2 * D.nT) else if b = 100 + 2 * D.nT then (if j = 0 then some (b + 1) else none) else Rf D b j := by
  unfold Rf
  by_cases h0 : b < 20
  · rw [if_neg (show ¬ b = 100 + 2 * D.nT by omega)]
    simp only [if_pos h0]
    by_cases e2 : b = 2
    · subst e2
      show (if j < D.nT + 1 then some (100 + 2 * j) else none) = if 2 = 2 ∧ j = D.nT then _ else (if j < D.nT then some (100 + 2 * j) else none)
      by_cases e : j = D.nT
      · rw [if_pos (by omega), if_pos ⟨rfl, e⟩, e]
      · rw [if_neg (show ¬ (2 = 2 ∧ j = D.nT) by omega)]
        by_cases e3 : j < D.nT
        · rw [if_pos (by omega), if_pos e3]
        · rw [if_neg (by omega), if_neg e3]
    · rw [if_neg (fun z => e2 z.1)]
      unfold Rst
      split <;> first | rfl | (exfalso; exact e2 rfl)
  · rw [if_neg (show ¬ (b = 2 ∧ j = D.nT) by omega)]
    by_cases h1 : b < 100
    · rw [if_neg (show ¬ b = 100 + 2 * D.nT by omega)]
      simp only [if_neg h0, if_pos h1]
    · by_cases h2 : b < 112
      · simp only [if_neg h0, if_neg (show ¬ b < 84 by omega), if_neg h1, if_pos h2]
        show (if (b - 100) / 2 < D.nT + 1 ∧ (b - 100) % 2 = 0 ∧ j = 0 then some (b + 1) else none) = _
        by_cases e1 : b = 100 + 2 * D.nT
        · rw [if_pos e1]
          by_cases e3 : j = 0
          · rw [if_pos (by omega), if_pos e3]
          · rw [if_neg (by omega), if_neg e3]
        · rw [if_neg e1]
          by_cases e3 : (b - 100) / 2 < D.nT ∧ (b - 100) % 2 = 0 ∧ j = 0
          · rw [if_pos (by omega), if_pos e3]
          · rw [if_neg (by omega), if_neg e3]
      · rw [if_neg (show ¬ b = 100 + 2 * D.nT by omega)]
        simp only [if_neg h0, if_neg (show ¬ b < 84 by omega), if_neg h1, if_neg h2]
