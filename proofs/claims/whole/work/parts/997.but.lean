/-! VARIANT: a text told anew (my own; made by gen997.py) -/
def Xs_D5 (D : DD) (l k : Nat) : Prop := (l = 8 ∧ k = 1) ∨ (l = 12 ∧ (k = 0 ∨ k = 1)) ∨ (241 ≤ l ∧ l < 252 ∧ l % 2 = 1) ∨ (l = 426 ∧ k < 1 + D.nL) ∨ (427 ≤ l ∧ l ≤ 432) ∨ (l = 400 ∧ (k = 17 ∨ k = 19 ∨ k = 39 ∨ k = 40))
set_option maxHeartbeats 2000000 in
theorem InvI_D5 {n m : Nat} {I I' : Nat → Nat → Int32} {L L' : Nat → Nat → Int64} {D : DD} {tn : Nat → Nat} (h : InvI n I L D) (hN : InvD (D.1, D.2.1, D.2.2.1, D.2.2.2.1, tn) ∧ CC (I' 1) (I' 400) (D.1, D.2.1, D.2.2.1, D.2.2.2.1, tn) ∧ CF I' ∧ CX I' (D.1, D.2.1, D.2.2.1, D.2.2.2.1, tn) ∧ CK I' (D.1, D.2.1, D.2.2.1, D.2.2.2.1, tn) ∧ CV I' (D.1, D.2.1, D.2.2.1, D.2.2.2.1, tn) ∧ CVv I' m) (hLn : CS L') (hs : ∀ l k, ¬ Scr D l k → ¬ Xs_D5 D l k → I' l k = I l k) : InvI m I' L' (D.1, D.2.1, D.2.2.1, D.2.2.2.1, tn) := by
  obtain ⟨hD, hC, hT, hTz, hB, hA, hL, hP, hS, hF, hX, hK, hV, hVv, hW⟩ := h
  have t0 : D.tx 0 < 8 := tx_lt hD (by omega)
  have nL6 := hD.2.2.2.1
  have nT6 := hD.1
  have nB16 := hD.2.1
  have nA40 := hD.2.2.1
  have nP10 := hD.2.2.2.2.1
  have f414 : I' 414 = I 414 := funext fun k => hs 414 k (by unfold Scr; omega) (by unfold Xs_D5; omega)
  have e447 : ∀ l, I' 447 l = I 447 l := fun l => hs 447 l (by unfold Scr; omega) (by unfold Xs_D5; omega)
  refine ⟨hN.1, ?_, ?_, ?_, ?_, ?_, ?_, ?_, hLn, ?_, ?_, ?_, ?_, ?_, ?_⟩
  · exact hN.2.1
  · show CT I' D
    intro i hi
    obtain ⟨q1, q2, q3⟩ := hT i hi
    refine ⟨fun j hj => ?_, ?_, ?_⟩
    · rw [hs (100 + 2 * i + 1) j (by unfold Scr; omega) (by unfold Xs_D5; omega), hs 403 _ (by unfold Scr; omega) (by unfold Xs_D5; omega)]; exact q1 j hj
    · rw [hs (100 + 2 * i) 1 (by unfold Scr; omega) (by unfold Xs_D5; omega), hs 404 _ (by unfold Scr; omega) (by unfold Xs_D5; omega)]; exact q2
    · rw [hs (100 + 2 * i) 2 (by unfold Scr; omega) (by unfold Xs_D5; omega), hs 405 _ (by unfold Scr; omega) (by unfold Xs_D5; omega)]; exact q3
  · show CTz I' D
    intro i h1 h2
    rw [hs 405 _ (by unfold Scr; omega) (by unfold Xs_D5; omega)]; exact hTz i h1 h2
  · show CB I' D
    intro i hi
    obtain ⟨q1, q2, q3, q4, q5, q6, q7, q8⟩ := hB i hi
    refine ⟨fun j hj => ?_, ?_, ?_, ?_, ?_, ?_, ?_, ?_⟩
    · rw [hs (120 + 2 * i + 1) j (by unfold Scr; omega) (by unfold Xs_D5; omega), hs 407 _ (by unfold Scr; omega) (by unfold Xs_D5; omega)]; exact q1 j hj
    · rw [hs (120 + 2 * i) 0 (by unfold Scr; omega) (by unfold Xs_D5; omega)]; exact q2
    · rw [hs (120 + 2 * i) 1 (by unfold Scr; omega) (by unfold Xs_D5; omega), hs 409 _ (by unfold Scr; omega) (by unfold Xs_D5; omega)]; exact q3
    · rw [hs 409 _ (by unfold Scr; omega) (by unfold Xs_D5; omega)]; exact q4
    · rw [hs (120 + 2 * i) 2 (by unfold Scr; omega) (by unfold Xs_D5; omega), hs 410 _ (by unfold Scr; omega) (by unfold Xs_D5; omega)]; exact q5
    · rw [hs (120 + 2 * i) 4 (by unfold Scr; omega) (by unfold Xs_D5; omega), hs 408 _ (by unfold Scr; omega) (by unfold Xs_D5; omega)]; exact q6
    · rw [hs (120 + 2 * i) 5 (by unfold Scr; omega) (by unfold Xs_D5; omega), hs 411 _ (by unfold Scr; omega) (by unfold Xs_D5; omega)]; exact q7
    · rw [hs (120 + 2 * i) 6 (by unfold Scr; omega) (by unfold Xs_D5; omega), hs 412 _ (by unfold Scr; omega) (by unfold Xs_D5; omega)]; exact q8
  · show CA I' D
    intro i hi
    obtain ⟨q1, q2, q3, q4, q5⟩ := hA i hi
    refine ⟨fun j hj => ?_, ?_, ?_, ?_, ?_⟩
    · rw [hs (160 + 2 * i + 1) j (by unfold Scr; omega) (by unfold Xs_D5; omega), f414]; exact q1 j hj
    · rw [hs (160 + 2 * i) 0 (by unfold Scr; omega) (by unfold Xs_D5; omega)]; exact q2
    · rw [hs 415 _ (by unfold Scr; omega) (by unfold Xs_D5; omega)]; exact q3
    · rw [hs (160 + 2 * i) 2 (by unfold Scr; omega) (by unfold Xs_D5; omega), hs 416 _ (by unfold Scr; omega) (by unfold Xs_D5; omega)]; exact q4
    · rw [hs (160 + 2 * i) 3 (by unfold Scr; omega) (by unfold Xs_D5; omega), hs 417 _ (by unfold Scr; omega) (by unfold Xs_D5; omega)]; exact q5
  · show CL I' D
    intro l
    refine ⟨fun hl => ?_, fun z1 z2 => ?_⟩
    · rw [hs (240 + 2 * l) 0 (by unfold Scr; omega) (by unfold Xs_D5; omega), e447]; exact (hL l).1 hl
    · rw [hs 426 _ (by unfold Scr; omega) (by unfold Xs_D5; omega)]; exact (hL l).2 z1 z2
  · show CP I' D
    intro k hk
    rw [hs (260 + k) 2 (by unfold Scr; omega) (by unfold Xs_D5; omega), hs 457 _ (by unfold Scr; omega) (by unfold Xs_D5; omega), hs 455 _ (by unfold Scr; omega) (by unfold Xs_D5; omega), hs 456 _ (by unfold Scr; omega) (by unfold Xs_D5; omega)]; exact hP k hk
  · exact hN.2.2.1
  · exact hN.2.2.2.1
  · exact hN.2.2.2.2.1
  · exact hN.2.2.2.2.2.1
  · exact hN.2.2.2.2.2.2
  · show CW I'
    intro j hj
    rw [hs 425 j (by unfold Scr; omega) (by unfold Xs_D5; omega)]; exact hW j hj

