/-! VARIANTS: balls, lookers told anew (my own; made by gen73.py) -/
def Xs_D3 (l k : Nat) : Prop := (l = 1 ∧ (k = 5 ∨ k = 6)) ∨ (120 ≤ l ∧ l < 152) ∨ (160 ≤ l ∧ l < 240) ∨ (241 ≤ l ∧ l < 252 ∧ l % 2 = 1) ∨ (407 ≤ l ∧ l ≤ 412) ∨ (414 ≤ l ∧ l ≤ 417) ∨ (l = 400 ∧ (k = 12 ∨ k = 17))
set_option maxHeartbeats 2000000 in
theorem InvI_D3 {n m : Nat} {I I' : Nat → Nat → Int32} {L L' : Nat → Nat → Int64} {D : DD} {a : Nat} {gu : Nat → Option Nat} (h : InvI n I L D) (hN : InvD ((D.1.1, D.1.2.1, a, D.1.2.2.2), gu, D.2.2) ∧ CC (I' 1) (I' 400) ((D.1.1, D.1.2.1, a, D.1.2.2.2), gu, D.2.2) ∧ CB I' ((D.1.1, D.1.2.1, a, D.1.2.2.2), gu, D.2.2) ∧ CA I' ((D.1.1, D.1.2.1, a, D.1.2.2.2), gu, D.2.2) ∧ CK I' ((D.1.1, D.1.2.1, a, D.1.2.2.2), gu, D.2.2) ∧ CV I' ((D.1.1, D.1.2.1, a, D.1.2.2.2), gu, D.2.2) ∧ CVv I' m) (hLn : CS L') (hs : ∀ l k, ¬ Scr D l k → ¬ Xs_D3 l k → I' l k = I l k) : InvI m I' L' ((D.1.1, D.1.2.1, a, D.1.2.2.2), gu, D.2.2) := by
  obtain ⟨hD, hC, hT, hTz, hB, hA, hL, hP, hS, hF, hX, hK, hV, hVv, hW⟩ := h
  have t0 : D.tx 0 < 8 := tx_lt hD (by omega)
  have nL6 := hD.2.2.2.1
  have nT6 := hD.1
  have nB16 := hD.2.1
  have nA40 := hD.2.2.1
  have nP10 := hD.2.2.2.2.1
  have e447 : ∀ l, I' 447 l = I 447 l := fun l => hs 447 l (by unfold Scr; omega) (by unfold Xs_D3; omega)
  have hts : ∀ r, r < 7 → TSame I I' r := fun r hr => ⟨hs _ _ (by unfold Scr; omega) (by unfold Xs_D3; omega), fun i hi => ⟨hs _ _ (by unfold Scr; omega) (by unfold Xs_D3; omega), hs _ _ (by unfold Scr; omega) (by unfold Xs_D3; omega), hs _ _ (by unfold Scr; omega) (by unfold Xs_D3; omega), hs _ _ (by unfold Scr; omega) (by unfold Xs_D3; omega)⟩, fun k hk => ⟨hs _ _ (by unfold Scr; omega) (by unfold Xs_D3; omega), hs _ _ (by unfold Scr; omega) (by unfold Xs_D3; omega)⟩⟩
  have htx : ∀ u, u < 2 + D.nL → u ≠ 0 → (∀ k, I' (20 + 8 * D.tx u) k = I (20 + 8 * D.tx u) k) ∧ ∀ j k, 1 ≤ j → j ≤ 5 → I' (20 + 8 * D.tx u + j) k = I (20 + 8 * D.tx u + j) k := by
    intro u hu hu0
    have b1 := tx_lt hD hu
    have b2 := tx_ne hD hu (show 0 < 2 + D.nL by omega) hu0
    refine ⟨fun k => hs _ _ ?_ ?_, fun j k j1 j2 => hs _ _ ?_ ?_⟩
    · unfold Scr; omega
    · unfold Xs_D3; omega
    · unfold Scr; omega
    · unfold Xs_D3; omega
  refine ⟨hN.1, ?_, ?_, ?_, ?_, ?_, ?_, ?_, hLn, ?_, ?_, ?_, ?_, ?_, ?_⟩
  · exact hN.2.1
  · show CT I' D
    intro i hi
    obtain ⟨q1, q2, q3⟩ := hT i hi
    refine ⟨fun j hj => ?_, ?_, ?_⟩
    · rw [hs (100 + 2 * i + 1) j (by unfold Scr; omega) (by unfold Xs_D3; omega), hs 403 _ (by unfold Scr; omega) (by unfold Xs_D3; omega)]; exact q1 j hj
    · rw [hs (100 + 2 * i) 1 (by unfold Scr; omega) (by unfold Xs_D3; omega), hs 404 _ (by unfold Scr; omega) (by unfold Xs_D3; omega)]; exact q2
    · rw [hs (100 + 2 * i) 2 (by unfold Scr; omega) (by unfold Xs_D3; omega), hs 405 _ (by unfold Scr; omega) (by unfold Xs_D3; omega)]; exact q3
  · show CTz I' D
    intro i h1 h2
    rw [hs 405 _ (by unfold Scr; omega) (by unfold Xs_D3; omega)]; exact hTz i h1 h2
  · exact hN.2.2.1
  · exact hN.2.2.2.1
  · show CL I' D
    intro l
    refine ⟨fun hl => ?_, fun z1 z2 => ?_⟩
    · rw [hs (240 + 2 * l) 0 (by unfold Scr; omega) (by unfold Xs_D3; omega), e447]; exact (hL l).1 hl
    · rw [hs 426 _ (by unfold Scr; omega) (by unfold Xs_D3; omega)]; exact (hL l).2 z1 z2
  · show CP I' D
    intro k hk
    rw [hs (260 + k) 2 (by unfold Scr; omega) (by unfold Xs_D3; omega), hs 457 _ (by unfold Scr; omega) (by unfold Xs_D3; omega), hs 455 _ (by unfold Scr; omega) (by unfold Xs_D3; omega), hs 456 _ (by unfold Scr; omega) (by unfold Xs_D3; omega)]; exact hP k hk
  · show CF I'
    obtain ⟨⟨n, q1, q2, q3, q4⟩, q5, q6⟩ := hF
    refine ⟨⟨n, q1, ?_, ?_, fun j hj => ?_⟩, ?_, ?_⟩
    · rw [hs 8 1 (by unfold Scr; omega) (by unfold Xs_D3; omega)]; exact q2
    · rw [hs 400 19 (by unfold Scr; omega) (by unfold Xs_D3; omega)]; exact q3
    · rw [hs 9 j (by unfold Scr; omega) (by unfold Xs_D3; omega), hs 419 j (by unfold Scr; omega) (by unfold Xs_D3; omega)]; exact q4 j hj
    · rw [hs 12 0 (by unfold Scr; omega) (by unfold Xs_D3; omega), hs 400 39 (by unfold Scr; omega) (by unfold Xs_D3; omega)]; exact q5
    · rw [hs 12 1 (by unfold Scr; omega) (by unfold Xs_D3; omega), hs 400 40 (by unfold Scr; omega) (by unfold Xs_D3; omega)]; exact q6
  · show CX I' D
    refine ⟨TR_cg hX.1 (hts 0 (by omega)) (htx 1 (by omega) (by omega)).1 (htx 1 (by omega) (by omega)).2, fun l hl => ?_⟩
    exact TR_cg (hX.2 l hl) (hts (1 + l) (by omega)) (htx (2 + l) (by omega) (by omega)).1 (htx (2 + l) (by omega) (by omega)).2
  · exact hN.2.2.2.2.1
  · exact hN.2.2.2.2.2.1
  · exact hN.2.2.2.2.2.2
  · show CW I'
    intro j hj
    rw [hs 425 j (by unfold Scr; omega) (by unfold Xs_D3; omega)]; exact hW j hj

