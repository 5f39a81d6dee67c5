/-! THE START: both constructors give what holds between the calls (my own) -/
def D0 : DD := ((0, 0, 0, 0, 0), fun _ => none, fun _ => 0, fun _ => 0, fun u => u)
theorem kOf_hi {a b : Nat} (ha : b ≤ a) : ∀ ks : List (Nat × Nat × Nat), (ks.all (fun e => decide (e.1 < b))) = true → kOf ks a = (0, 0)
  | [], _ => rfl
  | e :: r, h => by
    rw [List.all_cons, Bool.and_eq_true] at h
    have h1 : e.1 < b := of_decide_eq_true h.1
    show (if a = e.1 then e.2 else kOf r a) = (0, 0)
    rw [if_neg (by omega)]
    exact kOf_hi ha r h.2
theorem rOf_hi {a k b : Nat} (hk : b ≤ k) : ∀ rs : List (Nat × Nat × Nat), (rs.all (fun e => decide (e.2.1 < b))) = true → rOf rs a k = none
  | [], _ => rfl
  | e :: r, h => by
    rw [List.all_cons, Bool.and_eq_true] at h
    have h1 : e.2.1 < b := of_decide_eq_true h.1
    show (if a = e.1 ∧ k = e.2.1 then some e.2.2 else rOf r a k) = none
    rw [if_neg (by omega)]
    exact rOf_hi hk r h.2
theorem rOf_out {a k : Nat} {S : List Nat} (hk : a ∉ S) : ∀ rs : List (Nat × Nat × Nat), (rs.all (fun e => S.contains e.1)) = true → rOf rs a k = none
  | [], _ => rfl
  | e :: r, h => by
    rw [List.all_cons, Bool.and_eq_true] at h
    have h1 : e.1 ∈ S := List.contains_iff_mem.mp h.1
    show (if a = e.1 ∧ k = e.2.1 then some e.2.2 else rOf r a k) = none
    rw [if_neg (fun z => hk (by rw [z.1]; exact h1))]
    exact rOf_out hk r h.2
theorem startK (a : Nat) : kOf ksF a = Kf D0 a := by
  have key : ∀ a : Nat, a < 500 → kOf ksF a = Kf D0 a := by decide +kernel
  by_cases h : a < 500
  · exact key a h
  · rw [kOf_hi (b := 500) (by omega) ksF (by decide +kernel)]
    unfold Kf
    rw [if_neg (by omega), if_neg (by omega), if_neg (by omega), if_neg (by omega), if_neg (by omega), if_neg (by omega), if_neg (by omega), if_neg (by omega), if_neg (by omega), if_neg (by omega), if_neg (by omega), if_neg (by omega)]
    unfold Kmo
    split <;> first | rfl | omega
theorem Rf0_no {a k : Nat} (h : a ∉ [1, 8, 12, 13, 20, 28, 400]) : Rf D0 a k = none := by
  simp only [List.mem_cons, List.not_mem_nil, or_false, not_or] at h
  obtain ⟨h1, h2, h3, h4, h5, h6, h7⟩ := h
  have n1 : D0.nT = 0 := rfl
  have n2 : D0.nB = 0 := rfl
  have n3 : D0.nA = 0 := rfl
  have n4 : D0.nL = 0 := rfl
  have n5 : D0.nP = 0 := rfl
  unfold Rf
  simp only [n1, n2, n3, n4, n5, Nat.not_lt_zero, false_and, if_false, if_neg h7]
  by_cases c : a < 20
  · rw [if_pos c]
    unfold Rst
    split
    · exact absurd rfl h1
    · exact if_neg (Nat.not_lt_zero _)
    · exact if_neg (Nat.not_lt_zero _)
    · exact if_neg (Nat.not_lt_zero _)
    · exact if_neg (Nat.not_lt_zero _)
    · exact if_neg (Nat.not_lt_zero _)
    · exact absurd rfl h2
    · exact absurd rfl h3
    · exact absurd rfl h4
    · rfl
  · rw [if_neg c]
    by_cases c2 : a < 84
    · rw [if_pos c2, if_neg (by omega)]
    · rw [if_neg c2]
      simp only [ite_self]
theorem startR (a k : Nat) : rOf rsF a k = Rf D0 a k := by
  by_cases h : a ∈ [1, 8, 12, 13, 20, 28, 400]
  · by_cases hk : k < 64
    · have key : ∀ a ∈ [1, 8, 12, 13, 20, 28, 400], ∀ k : Nat, k < 64 → rOf rsF a k = Rf D0 a k := by decide +kernel
      exact key a h k hk
    · rw [rOf_hi (b := 64) (by omega) rsF (by decide +kernel)]
      simp only [List.mem_cons, List.not_mem_nil, or_false] at h
      rcases h with h | h | h | h | h | h | h <;> subst h
      · show none = R1 D0 k
        unfold R1
        split <;> first | rfl | omega
      · show none = (match k with | 0 => some 9 | 2 => some 10 | 3 => some 11 | _ => none)
        split <;> first | rfl | omega
      · show none = (match k with | 2 => some 8 | 3 => some (20 + 8 * D0.tx 0) | _ => none)
        split <;> first | rfl | omega
      · show none = (match k with | 0 => some 14 | 1 => some 15 | 2 => some 16 | 3 => some 17 | 4 => some 18 | 5 => some 19 | _ => none)
        split <;> first | rfl | omega
      · unfold Rf
        rw [if_neg (by omega), if_pos (by omega), if_neg (by omega)]
      · unfold Rf
        rw [if_neg (by omega), if_pos (by omega), if_neg (by omega)]
      · show none = Rmo k
        unfold Rmo
        split <;> first | rfl | omega
  · rw [Rf0_no h, rOf_out h rsF (by decide +kernel)]
theorem start_eq : bh isF rsF ksF = fm (iOf isF) (fun _ _ => 0) D0 := hp_ext (fun _ _ => rfl) (fun _ _ => rfl) startR startK
theorem start_TR : TR (iOf isF) 1 0 0 8 0 3 := by
  have e : ∀ k, iOf isF (20 + 8 * 1) k = 0 := fun k => iOf_no k isF (by decide +kernel)
  refine ⟨0, 0, by omega, by omega, e 7, e 6, iOf_no 0 isF (by decide +kernel), fun k hk => by omega, Or.inl (e 8), fun _ k hk => by omega, fun i hi => by omega⟩
theorem start_Inv : Inv 0 (bh isF rsF ksF) := by
  have no : ∀ {p : Prop} {i : Nat}, i < 0 → p := fun h => absurd h (Nat.not_lt_zero _)
  refine ⟨iOf isF, fun _ _ => 0, D0, start_eq, ⟨Nat.zero_le _, Nat.zero_le _, Nat.zero_le _, Nat.zero_le _, Nat.zero_le _, fun i b h => no h, fun k h => no h, fun u h => h, fun u w _ _ e => e⟩, ?_, fun i h => no h, fun i _ h => ?_, fun i h => no h, fun i h => no h, fun l => ⟨fun h => no h, fun _ h => ?_⟩, fun k h => no h, fun s _ => rfl, ?_, ⟨start_TR, fun l h => no h⟩, fun l a b h => no h, fun h => ?_, ?_, ?_⟩
  · refine ⟨?_, ?_, ?_, ?_, ?_, ?_, ?_, ?_, ?_, ?_, ?_⟩ <;> decide +kernel
  · exact iOf_no i isF (by decide +kernel)
  · exact iOf_no (1 + l) isF (by decide +kernel)
  · refine ⟨⟨0, Nat.zero_le _, ?_, ?_, fun j h => no h⟩, ?_, ?_⟩ <;> decide +kernel
  · exact absurd h (by decide +kernel)
  · refine ⟨0, Nat.le_refl _, ?_, Or.inl ?_⟩ <;> decide +kernel
  · show ∀ j, j < 115 → iOf isF 425 j = nI (wordsL.getD j 0)
    decide +kernel
