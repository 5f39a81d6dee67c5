/-! VARIANTS: one part of the invariant is told anew (my own; made by gen36.py) -/
def Xs_T (l k : Nat) : Prop := (100 ≤ l ∧ l < 112) ∨ l = 403 ∨ l = 404 ∨ l = 405
set_option maxHeartbeats 2000000 in
theorem InvI_T {n : Nat} {I I' : Nat → Nat → Int32} {L : Nat → Nat → Int64} {D : DD} (h : InvI n I L D) (hN : CT I' D ∧ CTz I' D) (hs : ∀ l k, ¬ Scr D l k → ¬ Xs_T l k → I' l k = I l k) : InvI n I' L D := by
  obtain ⟨hD, hC, hT, hTz, hB, hA, hL, hP, hS, hF, hX, hK, hV, hVv, hW⟩ := h
  have t0 : D.tx 0 < 8 := tx_lt hD (by omega)
  have nL6 := hD.2.2.2.1
  have nT6 := hD.1
  have nB16 := hD.2.1
  have nA40 := hD.2.2.1
  have nP10 := hD.2.2.2.2.1
  have f414 : I' 414 = I 414 := funext fun k => hs 414 k (by unfold Scr; omega) (by unfold Xs_T; omega)
  have e447 : ∀ l, I' 447 l = I 447 l := fun l => hs 447 l (by unfold Scr; omega) (by unfold Xs_T; omega)
  have hts : ∀ r, r < 7 → TSame I I' r := fun r hr => ⟨hs _ _ (by unfold Scr; omega) (by unfold Xs_T; omega), fun i hi => ⟨hs _ _ (by unfold Scr; omega) (by unfold Xs_T; omega), hs _ _ (by unfold Scr; omega) (by unfold Xs_T; omega), hs _ _ (by unfold Scr; omega) (by unfold Xs_T; omega), hs _ _ (by unfold Scr; omega) (by unfold Xs_T; omega)⟩, fun k hk => ⟨hs _ _ (by unfold Scr; omega) (by unfold Xs_T; omega), hs _ _ (by unfold Scr; omega) (by unfold Xs_T; omega)⟩⟩
  have htx : ∀ u, u < 2 + D.nL → u ≠ 0 → (∀ k, I' (20 + 8 * D.tx u) k = I (20 + 8 * D.tx u) k) ∧ ∀ j k, 1 ≤ j → j ≤ 5 → I' (20 + 8 * D.tx u + j) k = I (20 + 8 * D.tx u + j) k := by
    intro u hu hu0
    have b1 := tx_lt hD hu
    have b2 := tx_ne hD hu (show 0 < 2 + D.nL by omega) hu0
    refine ⟨fun k => hs _ _ ?_ ?_, fun j k j1 j2 => hs _ _ ?_ ?_⟩
    · unfold Scr; omega
    · unfold Xs_T; omega
    · unfold Scr; omega
    · unfold Xs_T; omega
  have hsay : ∀ l a b t, l < D.nL → sayF I' l a b t = sayF I l a b t := fun l a b t hl => sayF_cg (hX.2 l hl) (hts (1 + l) (by omega)) f414 (e447 l)
  refine ⟨hD, ?_, ?_, ?_, ?_, ?_, ?_, ?_, hS, ?_, ?_, ?_, ?_, ?_, ?_⟩
  · unfold CC at hC ⊢
    rw [hs 1 1 (by unfold Scr; omega) (by unfold Xs_T; omega), hs 400 1 (by unfold Scr; omega) (by unfold Xs_T; omega), hs 1 3 (by unfold Scr; omega) (by unfold Xs_T; omega), hs 400 5 (by unfold Scr; omega) (by unfold Xs_T; omega), hs 1 5 (by unfold Scr; omega) (by unfold Xs_T; omega), hs 400 12 (by unfold Scr; omega) (by unfold Xs_T; omega), hs 1 8 (by unfold Scr; omega) (by unfold Xs_T; omega), hs 400 45 (by unfold Scr; omega) (by unfold Xs_T; omega), hs 1 10 (by unfold Scr; omega) (by unfold Xs_T; omega), hs 400 53 (by unfold Scr; omega) (by unfold Xs_T; omega), hs 1 6 (by unfold Scr; omega) (by unfold Xs_T; omega)]
    exact hC
  · exact hN.1
  · exact hN.2
  · intro i hi
    obtain ⟨q1, q2, q3, q4, q5, q6, q7, q8⟩ := hB i hi
    refine ⟨fun j hj => ?_, ?_, ?_, ?_, ?_, ?_, ?_, ?_⟩
    · rw [hs (120 + 2 * i + 1) j (by unfold Scr; omega) (by unfold Xs_T; omega), hs 407 _ (by unfold Scr; omega) (by unfold Xs_T; omega)]; exact q1 j hj
    · rw [hs (120 + 2 * i) 0 (by unfold Scr; omega) (by unfold Xs_T; omega)]; exact q2
    · rw [hs (120 + 2 * i) 1 (by unfold Scr; omega) (by unfold Xs_T; omega), hs 409 _ (by unfold Scr; omega) (by unfold Xs_T; omega)]; exact q3
    · rw [hs 409 _ (by unfold Scr; omega) (by unfold Xs_T; omega)]; exact q4
    · rw [hs (120 + 2 * i) 2 (by unfold Scr; omega) (by unfold Xs_T; omega), hs 410 _ (by unfold Scr; omega) (by unfold Xs_T; omega)]; exact q5
    · rw [hs (120 + 2 * i) 4 (by unfold Scr; omega) (by unfold Xs_T; omega), hs 408 _ (by unfold Scr; omega) (by unfold Xs_T; omega)]; exact q6
    · rw [hs (120 + 2 * i) 5 (by unfold Scr; omega) (by unfold Xs_T; omega), hs 411 _ (by unfold Scr; omega) (by unfold Xs_T; omega)]; exact q7
    · rw [hs (120 + 2 * i) 6 (by unfold Scr; omega) (by unfold Xs_T; omega), hs 412 _ (by unfold Scr; omega) (by unfold Xs_T; omega)]; exact q8
  · intro i hi
    obtain ⟨q1, q2, q3, q4, q5⟩ := hA i hi
    refine ⟨fun j hj => ?_, ?_, ?_, ?_, ?_⟩
    · rw [hs (160 + 2 * i + 1) j (by unfold Scr; omega) (by unfold Xs_T; omega), f414]; exact q1 j hj
    · rw [hs (160 + 2 * i) 0 (by unfold Scr; omega) (by unfold Xs_T; omega)]; exact q2
    · rw [hs 415 _ (by unfold Scr; omega) (by unfold Xs_T; omega)]; exact q3
    · rw [hs (160 + 2 * i) 2 (by unfold Scr; omega) (by unfold Xs_T; omega), hs 416 _ (by unfold Scr; omega) (by unfold Xs_T; omega)]; exact q4
    · rw [hs (160 + 2 * i) 3 (by unfold Scr; omega) (by unfold Xs_T; omega), hs 417 _ (by unfold Scr; omega) (by unfold Xs_T; omega)]; exact q5
  · intro l
    refine ⟨fun hl => ?_, fun z1 z2 => ?_⟩
    · rw [hs (240 + 2 * l) 0 (by unfold Scr; omega) (by unfold Xs_T; omega), e447]; exact (hL l).1 hl
    · rw [hs 426 _ (by unfold Scr; omega) (by unfold Xs_T; omega)]; exact (hL l).2 z1 z2
  · intro k hk
    rw [hs (260 + k) 2 (by unfold Scr; omega) (by unfold Xs_T; omega), hs 457 _ (by unfold Scr; omega) (by unfold Xs_T; omega), hs 455 _ (by unfold Scr; omega) (by unfold Xs_T; omega), hs 456 _ (by unfold Scr; omega) (by unfold Xs_T; omega)]; exact hP k hk
  · obtain ⟨⟨n, q1, q2, q3, q4⟩, q5, q6⟩ := hF
    refine ⟨⟨n, q1, ?_, ?_, fun j hj => ?_⟩, ?_, ?_⟩
    · rw [hs 8 1 (by unfold Scr; omega) (by unfold Xs_T; omega)]; exact q2
    · rw [hs 400 19 (by unfold Scr; omega) (by unfold Xs_T; omega)]; exact q3
    · rw [hs 9 j (by unfold Scr; omega) (by unfold Xs_T; omega), hs 419 j (by unfold Scr; omega) (by unfold Xs_T; omega)]; exact q4 j hj
    · rw [hs 12 0 (by unfold Scr; omega) (by unfold Xs_T; omega), hs 400 39 (by unfold Scr; omega) (by unfold Xs_T; omega)]; exact q5
    · rw [hs 12 1 (by unfold Scr; omega) (by unfold Xs_T; omega), hs 400 40 (by unfold Scr; omega) (by unfold Xs_T; omega)]; exact q6
  · refine ⟨TR_cg hX.1 (hts 0 (by omega)) (htx 1 (by omega) (by omega)).1 (htx 1 (by omega) (by omega)).2, fun l hl => ?_⟩
    exact TR_cg (hX.2 l hl) (hts (1 + l) (by omega)) (htx (2 + l) (by omega) (by omega)).1 (htx (2 + l) (by omega) (by omega)).2
  · exact CK_cg hK (fun l j hl => hs _ _ (by unfold Scr; omega) (by unfold Xs_T; omega)) f414 (fun l _ => e447 l) hsay
  · exact CV_cg hV (hs _ _ (by unfold Scr; omega) (by unfold Xs_T; omega)) (hs _ _ (by unfold Scr; omega) (by unfold Xs_T; omega)) (funext fun k => hs 451 k (by unfold Scr; omega) (by unfold Xs_T; omega)) (funext fun k => hs 452 k (by unfold Scr; omega) (by unfold Xs_T; omega)) f414 (fun l _ => e447 l) hsay
  · obtain ⟨v, q1, q2, q3⟩ := hVv
    refine ⟨v, q1, ?_, ?_⟩
    · rw [hs 400 17 (by unfold Scr; omega) (by unfold Xs_T; omega)]; exact q2
    · rw [hs 400 49 (by unfold Scr; omega) (by unfold Xs_T; omega)]; exact q3
  · intro j hj
    rw [hs 425 j (by unfold Scr; omega) (by unfold Xs_T; omega)]; exact hW j hj

def Xs_B (l k : Nat) : Prop := (120 ≤ l ∧ l < 152) ∨ (407 ≤ l ∧ l ≤ 412)
set_option maxHeartbeats 2000000 in
theorem InvI_B {n : Nat} {I I' : Nat → Nat → Int32} {L : Nat → Nat → Int64} {D : DD} (h : InvI n I L D) (hN : CB I' D) (hs : ∀ l k, ¬ Scr D l k → ¬ Xs_B l k → I' l k = I l k) : InvI n I' L D := by
  obtain ⟨hD, hC, hT, hTz, hB, hA, hL, hP, hS, hF, hX, hK, hV, hVv, hW⟩ := h
  have t0 : D.tx 0 < 8 := tx_lt hD (by omega)
  have nL6 := hD.2.2.2.1
  have nT6 := hD.1
  have nB16 := hD.2.1
  have nA40 := hD.2.2.1
  have nP10 := hD.2.2.2.2.1
  have f414 : I' 414 = I 414 := funext fun k => hs 414 k (by unfold Scr; omega) (by unfold Xs_B; omega)
  have e447 : ∀ l, I' 447 l = I 447 l := fun l => hs 447 l (by unfold Scr; omega) (by unfold Xs_B; omega)
  have hts : ∀ r, r < 7 → TSame I I' r := fun r hr => ⟨hs _ _ (by unfold Scr; omega) (by unfold Xs_B; omega), fun i hi => ⟨hs _ _ (by unfold Scr; omega) (by unfold Xs_B; omega), hs _ _ (by unfold Scr; omega) (by unfold Xs_B; omega), hs _ _ (by unfold Scr; omega) (by unfold Xs_B; omega), hs _ _ (by unfold Scr; omega) (by unfold Xs_B; omega)⟩, fun k hk => ⟨hs _ _ (by unfold Scr; omega) (by unfold Xs_B; omega), hs _ _ (by unfold Scr; omega) (by unfold Xs_B; omega)⟩⟩
  have htx : ∀ u, u < 2 + D.nL → u ≠ 0 → (∀ k, I' (20 + 8 * D.tx u) k = I (20 + 8 * D.tx u) k) ∧ ∀ j k, 1 ≤ j → j ≤ 5 → I' (20 + 8 * D.tx u + j) k = I (20 + 8 * D.tx u + j) k := by
    intro u hu hu0
    have b1 := tx_lt hD hu
    have b2 := tx_ne hD hu (show 0 < 2 + D.nL by omega) hu0
    refine ⟨fun k => hs _ _ ?_ ?_, fun j k j1 j2 => hs _ _ ?_ ?_⟩
    · unfold Scr; omega
    · unfold Xs_B; omega
    · unfold Scr; omega
    · unfold Xs_B; omega
  have hsay : ∀ l a b t, l < D.nL → sayF I' l a b t = sayF I l a b t := fun l a b t hl => sayF_cg (hX.2 l hl) (hts (1 + l) (by omega)) f414 (e447 l)
  refine ⟨hD, ?_, ?_, ?_, ?_, ?_, ?_, ?_, hS, ?_, ?_, ?_, ?_, ?_, ?_⟩
  · unfold CC at hC ⊢
    rw [hs 1 1 (by unfold Scr; omega) (by unfold Xs_B; omega), hs 400 1 (by unfold Scr; omega) (by unfold Xs_B; omega), hs 1 3 (by unfold Scr; omega) (by unfold Xs_B; omega), hs 400 5 (by unfold Scr; omega) (by unfold Xs_B; omega), hs 1 5 (by unfold Scr; omega) (by unfold Xs_B; omega), hs 400 12 (by unfold Scr; omega) (by unfold Xs_B; omega), hs 1 8 (by unfold Scr; omega) (by unfold Xs_B; omega), hs 400 45 (by unfold Scr; omega) (by unfold Xs_B; omega), hs 1 10 (by unfold Scr; omega) (by unfold Xs_B; omega), hs 400 53 (by unfold Scr; omega) (by unfold Xs_B; omega), hs 1 6 (by unfold Scr; omega) (by unfold Xs_B; omega)]
    exact hC
  · intro i hi
    obtain ⟨q1, q2, q3⟩ := hT i hi
    refine ⟨fun j hj => ?_, ?_, ?_⟩
    · rw [hs (100 + 2 * i + 1) j (by unfold Scr; omega) (by unfold Xs_B; omega), hs 403 _ (by unfold Scr; omega) (by unfold Xs_B; omega)]; exact q1 j hj
    · rw [hs (100 + 2 * i) 1 (by unfold Scr; omega) (by unfold Xs_B; omega), hs 404 _ (by unfold Scr; omega) (by unfold Xs_B; omega)]; exact q2
    · rw [hs (100 + 2 * i) 2 (by unfold Scr; omega) (by unfold Xs_B; omega), hs 405 _ (by unfold Scr; omega) (by unfold Xs_B; omega)]; exact q3
  · intro i h1 h2
    rw [hs 405 _ (by unfold Scr; omega) (by unfold Xs_B; omega)]; exact hTz i h1 h2
  · exact hN
  · intro i hi
    obtain ⟨q1, q2, q3, q4, q5⟩ := hA i hi
    refine ⟨fun j hj => ?_, ?_, ?_, ?_, ?_⟩
    · rw [hs (160 + 2 * i + 1) j (by unfold Scr; omega) (by unfold Xs_B; omega), f414]; exact q1 j hj
    · rw [hs (160 + 2 * i) 0 (by unfold Scr; omega) (by unfold Xs_B; omega)]; exact q2
    · rw [hs 415 _ (by unfold Scr; omega) (by unfold Xs_B; omega)]; exact q3
    · rw [hs (160 + 2 * i) 2 (by unfold Scr; omega) (by unfold Xs_B; omega), hs 416 _ (by unfold Scr; omega) (by unfold Xs_B; omega)]; exact q4
    · rw [hs (160 + 2 * i) 3 (by unfold Scr; omega) (by unfold Xs_B; omega), hs 417 _ (by unfold Scr; omega) (by unfold Xs_B; omega)]; exact q5
  · intro l
    refine ⟨fun hl => ?_, fun z1 z2 => ?_⟩
    · rw [hs (240 + 2 * l) 0 (by unfold Scr; omega) (by unfold Xs_B; omega), e447]; exact (hL l).1 hl
    · rw [hs 426 _ (by unfold Scr; omega) (by unfold Xs_B; omega)]; exact (hL l).2 z1 z2
  · intro k hk
    rw [hs (260 + k) 2 (by unfold Scr; omega) (by unfold Xs_B; omega), hs 457 _ (by unfold Scr; omega) (by unfold Xs_B; omega), hs 455 _ (by unfold Scr; omega) (by unfold Xs_B; omega), hs 456 _ (by unfold Scr; omega) (by unfold Xs_B; omega)]; exact hP k hk
  · obtain ⟨⟨n, q1, q2, q3, q4⟩, q5, q6⟩ := hF
    refine ⟨⟨n, q1, ?_, ?_, fun j hj => ?_⟩, ?_, ?_⟩
    · rw [hs 8 1 (by unfold Scr; omega) (by unfold Xs_B; omega)]; exact q2
    · rw [hs 400 19 (by unfold Scr; omega) (by unfold Xs_B; omega)]; exact q3
    · rw [hs 9 j (by unfold Scr; omega) (by unfold Xs_B; omega), hs 419 j (by unfold Scr; omega) (by unfold Xs_B; omega)]; exact q4 j hj
    · rw [hs 12 0 (by unfold Scr; omega) (by unfold Xs_B; omega), hs 400 39 (by unfold Scr; omega) (by unfold Xs_B; omega)]; exact q5
    · rw [hs 12 1 (by unfold Scr; omega) (by unfold Xs_B; omega), hs 400 40 (by unfold Scr; omega) (by unfold Xs_B; omega)]; exact q6
  · refine ⟨TR_cg hX.1 (hts 0 (by omega)) (htx 1 (by omega) (by omega)).1 (htx 1 (by omega) (by omega)).2, fun l hl => ?_⟩
    exact TR_cg (hX.2 l hl) (hts (1 + l) (by omega)) (htx (2 + l) (by omega) (by omega)).1 (htx (2 + l) (by omega) (by omega)).2
  · exact CK_cg hK (fun l j hl => hs _ _ (by unfold Scr; omega) (by unfold Xs_B; omega)) f414 (fun l _ => e447 l) hsay
  · exact CV_cg hV (hs _ _ (by unfold Scr; omega) (by unfold Xs_B; omega)) (hs _ _ (by unfold Scr; omega) (by unfold Xs_B; omega)) (funext fun k => hs 451 k (by unfold Scr; omega) (by unfold Xs_B; omega)) (funext fun k => hs 452 k (by unfold Scr; omega) (by unfold Xs_B; omega)) f414 (fun l _ => e447 l) hsay
  · obtain ⟨v, q1, q2, q3⟩ := hVv
    refine ⟨v, q1, ?_, ?_⟩
    · rw [hs 400 17 (by unfold Scr; omega) (by unfold Xs_B; omega)]; exact q2
    · rw [hs 400 49 (by unfold Scr; omega) (by unfold Xs_B; omega)]; exact q3
  · intro j hj
    rw [hs 425 j (by unfold Scr; omega) (by unfold Xs_B; omega)]; exact hW j hj

def Xs_P (l k : Nat) : Prop := (260 ≤ l ∧ l < 270) ∨ l = 455 ∨ l = 456 ∨ l = 457
set_option maxHeartbeats 2000000 in
theorem InvI_P {n : Nat} {I I' : Nat → Nat → Int32} {L : Nat → Nat → Int64} {D : DD} (h : InvI n I L D) (hN : CP I' D) (hs : ∀ l k, ¬ Scr D l k → ¬ Xs_P l k → I' l k = I l k) : InvI n I' L D := by
  obtain ⟨hD, hC, hT, hTz, hB, hA, hL, hP, hS, hF, hX, hK, hV, hVv, hW⟩ := h
  have t0 : D.tx 0 < 8 := tx_lt hD (by omega)
  have nL6 := hD.2.2.2.1
  have nT6 := hD.1
  have nB16 := hD.2.1
  have nA40 := hD.2.2.1
  have nP10 := hD.2.2.2.2.1
  have f414 : I' 414 = I 414 := funext fun k => hs 414 k (by unfold Scr; omega) (by unfold Xs_P; omega)
  have e447 : ∀ l, I' 447 l = I 447 l := fun l => hs 447 l (by unfold Scr; omega) (by unfold Xs_P; omega)
  have hts : ∀ r, r < 7 → TSame I I' r := fun r hr => ⟨hs _ _ (by unfold Scr; omega) (by unfold Xs_P; omega), fun i hi => ⟨hs _ _ (by unfold Scr; omega) (by unfold Xs_P; omega), hs _ _ (by unfold Scr; omega) (by unfold Xs_P; omega), hs _ _ (by unfold Scr; omega) (by unfold Xs_P; omega), hs _ _ (by unfold Scr; omega) (by unfold Xs_P; omega)⟩, fun k hk => ⟨hs _ _ (by unfold Scr; omega) (by unfold Xs_P; omega), hs _ _ (by unfold Scr; omega) (by unfold Xs_P; omega)⟩⟩
  have htx : ∀ u, u < 2 + D.nL → u ≠ 0 → (∀ k, I' (20 + 8 * D.tx u) k = I (20 + 8 * D.tx u) k) ∧ ∀ j k, 1 ≤ j → j ≤ 5 → I' (20 + 8 * D.tx u + j) k = I (20 + 8 * D.tx u + j) k := by
    intro u hu hu0
    have b1 := tx_lt hD hu
    have b2 := tx_ne hD hu (show 0 < 2 + D.nL by omega) hu0
    refine ⟨fun k => hs _ _ ?_ ?_, fun j k j1 j2 => hs _ _ ?_ ?_⟩
    · unfold Scr; omega
    · unfold Xs_P; omega
    · unfold Scr; omega
    · unfold Xs_P; omega
  have hsay : ∀ l a b t, l < D.nL → sayF I' l a b t = sayF I l a b t := fun l a b t hl => sayF_cg (hX.2 l hl) (hts (1 + l) (by omega)) f414 (e447 l)
  refine ⟨hD, ?_, ?_, ?_, ?_, ?_, ?_, ?_, hS, ?_, ?_, ?_, ?_, ?_, ?_⟩
  · unfold CC at hC ⊢
    rw [hs 1 1 (by unfold Scr; omega) (by unfold Xs_P; omega), hs 400 1 (by unfold Scr; omega) (by unfold Xs_P; omega), hs 1 3 (by unfold Scr; omega) (by unfold Xs_P; omega), hs 400 5 (by unfold Scr; omega) (by unfold Xs_P; omega), hs 1 5 (by unfold Scr; omega) (by unfold Xs_P; omega), hs 400 12 (by unfold Scr; omega) (by unfold Xs_P; omega), hs 1 8 (by unfold Scr; omega) (by unfold Xs_P; omega), hs 400 45 (by unfold Scr; omega) (by unfold Xs_P; omega), hs 1 10 (by unfold Scr; omega) (by unfold Xs_P; omega), hs 400 53 (by unfold Scr; omega) (by unfold Xs_P; omega), hs 1 6 (by unfold Scr; omega) (by unfold Xs_P; omega)]
    exact hC
  · intro i hi
    obtain ⟨q1, q2, q3⟩ := hT i hi
    refine ⟨fun j hj => ?_, ?_, ?_⟩
    · rw [hs (100 + 2 * i + 1) j (by unfold Scr; omega) (by unfold Xs_P; omega), hs 403 _ (by unfold Scr; omega) (by unfold Xs_P; omega)]; exact q1 j hj
    · rw [hs (100 + 2 * i) 1 (by unfold Scr; omega) (by unfold Xs_P; omega), hs 404 _ (by unfold Scr; omega) (by unfold Xs_P; omega)]; exact q2
    · rw [hs (100 + 2 * i) 2 (by unfold Scr; omega) (by unfold Xs_P; omega), hs 405 _ (by unfold Scr; omega) (by unfold Xs_P; omega)]; exact q3
  · intro i h1 h2
    rw [hs 405 _ (by unfold Scr; omega) (by unfold Xs_P; omega)]; exact hTz i h1 h2
  · intro i hi
    obtain ⟨q1, q2, q3, q4, q5, q6, q7, q8⟩ := hB i hi
    refine ⟨fun j hj => ?_, ?_, ?_, ?_, ?_, ?_, ?_, ?_⟩
    · rw [hs (120 + 2 * i + 1) j (by unfold Scr; omega) (by unfold Xs_P; omega), hs 407 _ (by unfold Scr; omega) (by unfold Xs_P; omega)]; exact q1 j hj
    · rw [hs (120 + 2 * i) 0 (by unfold Scr; omega) (by unfold Xs_P; omega)]; exact q2
    · rw [hs (120 + 2 * i) 1 (by unfold Scr; omega) (by unfold Xs_P; omega), hs 409 _ (by unfold Scr; omega) (by unfold Xs_P; omega)]; exact q3
    · rw [hs 409 _ (by unfold Scr; omega) (by unfold Xs_P; omega)]; exact q4
    · rw [hs (120 + 2 * i) 2 (by unfold Scr; omega) (by unfold Xs_P; omega), hs 410 _ (by unfold Scr; omega) (by unfold Xs_P; omega)]; exact q5
    · rw [hs (120 + 2 * i) 4 (by unfold Scr; omega) (by unfold Xs_P; omega), hs 408 _ (by unfold Scr; omega) (by unfold Xs_P; omega)]; exact q6
    · rw [hs (120 + 2 * i) 5 (by unfold Scr; omega) (by unfold Xs_P; omega), hs 411 _ (by unfold Scr; omega) (by unfold Xs_P; omega)]; exact q7
    · rw [hs (120 + 2 * i) 6 (by unfold Scr; omega) (by unfold Xs_P; omega), hs 412 _ (by unfold Scr; omega) (by unfold Xs_P; omega)]; exact q8
  · intro i hi
    obtain ⟨q1, q2, q3, q4, q5⟩ := hA i hi
    refine ⟨fun j hj => ?_, ?_, ?_, ?_, ?_⟩
    · rw [hs (160 + 2 * i + 1) j (by unfold Scr; omega) (by unfold Xs_P; omega), f414]; exact q1 j hj
    · rw [hs (160 + 2 * i) 0 (by unfold Scr; omega) (by unfold Xs_P; omega)]; exact q2
    · rw [hs 415 _ (by unfold Scr; omega) (by unfold Xs_P; omega)]; exact q3
    · rw [hs (160 + 2 * i) 2 (by unfold Scr; omega) (by unfold Xs_P; omega), hs 416 _ (by unfold Scr; omega) (by unfold Xs_P; omega)]; exact q4
    · rw [hs (160 + 2 * i) 3 (by unfold Scr; omega) (by unfold Xs_P; omega), hs 417 _ (by unfold Scr; omega) (by unfold Xs_P; omega)]; exact q5
  · intro l
    refine ⟨fun hl => ?_, fun z1 z2 => ?_⟩
    · rw [hs (240 + 2 * l) 0 (by unfold Scr; omega) (by unfold Xs_P; omega), e447]; exact (hL l).1 hl
    · rw [hs 426 _ (by unfold Scr; omega) (by unfold Xs_P; omega)]; exact (hL l).2 z1 z2
  · exact hN
  · obtain ⟨⟨n, q1, q2, q3, q4⟩, q5, q6⟩ := hF
    refine ⟨⟨n, q1, ?_, ?_, fun j hj => ?_⟩, ?_, ?_⟩
    · rw [hs 8 1 (by unfold Scr; omega) (by unfold Xs_P; omega)]; exact q2
    · rw [hs 400 19 (by unfold Scr; omega) (by unfold Xs_P; omega)]; exact q3
    · rw [hs 9 j (by unfold Scr; omega) (by unfold Xs_P; omega), hs 419 j (by unfold Scr; omega) (by unfold Xs_P; omega)]; exact q4 j hj
    · rw [hs 12 0 (by unfold Scr; omega) (by unfold Xs_P; omega), hs 400 39 (by unfold Scr; omega) (by unfold Xs_P; omega)]; exact q5
    · rw [hs 12 1 (by unfold Scr; omega) (by unfold Xs_P; omega), hs 400 40 (by unfold Scr; omega) (by unfold Xs_P; omega)]; exact q6
  · refine ⟨TR_cg hX.1 (hts 0 (by omega)) (htx 1 (by omega) (by omega)).1 (htx 1 (by omega) (by omega)).2, fun l hl => ?_⟩
    exact TR_cg (hX.2 l hl) (hts (1 + l) (by omega)) (htx (2 + l) (by omega) (by omega)).1 (htx (2 + l) (by omega) (by omega)).2
  · exact CK_cg hK (fun l j hl => hs _ _ (by unfold Scr; omega) (by unfold Xs_P; omega)) f414 (fun l _ => e447 l) hsay
  · exact CV_cg hV (hs _ _ (by unfold Scr; omega) (by unfold Xs_P; omega)) (hs _ _ (by unfold Scr; omega) (by unfold Xs_P; omega)) (funext fun k => hs 451 k (by unfold Scr; omega) (by unfold Xs_P; omega)) (funext fun k => hs 452 k (by unfold Scr; omega) (by unfold Xs_P; omega)) f414 (fun l _ => e447 l) hsay
  · obtain ⟨v, q1, q2, q3⟩ := hVv
    refine ⟨v, q1, ?_, ?_⟩
    · rw [hs 400 17 (by unfold Scr; omega) (by unfold Xs_P; omega)]; exact q2
    · rw [hs 400 49 (by unfold Scr; omega) (by unfold Xs_P; omega)]; exact q3
  · intro j hj
    rw [hs 425 j (by unfold Scr; omega) (by unfold Xs_P; omega)]; exact hW j hj

def Xs_F (l k : Nat) : Prop := (l = 8 ∧ k = 1) ∨ l = 9 ∨ (l = 12 ∧ k < 2) ∨ (l = 400 ∧ (k = 19 ∨ k = 39 ∨ k = 40)) ∨ l = 419
set_option maxHeartbeats 2000000 in
theorem InvI_F {n : Nat} {I I' : Nat → Nat → Int32} {L : Nat → Nat → Int64} {D : DD} (h : InvI n I L D) (hN : CF I') (hs : ∀ l k, ¬ Scr D l k → ¬ Xs_F l k → I' l k = I l k) : InvI n I' L D := by
  obtain ⟨hD, hC, hT, hTz, hB, hA, hL, hP, hS, hF, hX, hK, hV, hVv, hW⟩ := h
  have t0 : D.tx 0 < 8 := tx_lt hD (by omega)
  have nL6 := hD.2.2.2.1
  have nT6 := hD.1
  have nB16 := hD.2.1
  have nA40 := hD.2.2.1
  have nP10 := hD.2.2.2.2.1
  have f414 : I' 414 = I 414 := funext fun k => hs 414 k (by unfold Scr; omega) (by unfold Xs_F; omega)
  have e447 : ∀ l, I' 447 l = I 447 l := fun l => hs 447 l (by unfold Scr; omega) (by unfold Xs_F; omega)
  have hts : ∀ r, r < 7 → TSame I I' r := fun r hr => ⟨hs _ _ (by unfold Scr; omega) (by unfold Xs_F; omega), fun i hi => ⟨hs _ _ (by unfold Scr; omega) (by unfold Xs_F; omega), hs _ _ (by unfold Scr; omega) (by unfold Xs_F; omega), hs _ _ (by unfold Scr; omega) (by unfold Xs_F; omega), hs _ _ (by unfold Scr; omega) (by unfold Xs_F; omega)⟩, fun k hk => ⟨hs _ _ (by unfold Scr; omega) (by unfold Xs_F; omega), hs _ _ (by unfold Scr; omega) (by unfold Xs_F; omega)⟩⟩
  have htx : ∀ u, u < 2 + D.nL → u ≠ 0 → (∀ k, I' (20 + 8 * D.tx u) k = I (20 + 8 * D.tx u) k) ∧ ∀ j k, 1 ≤ j → j ≤ 5 → I' (20 + 8 * D.tx u + j) k = I (20 + 8 * D.tx u + j) k := by
    intro u hu hu0
    have b1 := tx_lt hD hu
    have b2 := tx_ne hD hu (show 0 < 2 + D.nL by omega) hu0
    refine ⟨fun k => hs _ _ ?_ ?_, fun j k j1 j2 => hs _ _ ?_ ?_⟩
    · unfold Scr; omega
    · unfold Xs_F; omega
    · unfold Scr; omega
    · unfold Xs_F; omega
  have hsay : ∀ l a b t, l < D.nL → sayF I' l a b t = sayF I l a b t := fun l a b t hl => sayF_cg (hX.2 l hl) (hts (1 + l) (by omega)) f414 (e447 l)
  refine ⟨hD, ?_, ?_, ?_, ?_, ?_, ?_, ?_, hS, ?_, ?_, ?_, ?_, ?_, ?_⟩
  · unfold CC at hC ⊢
    rw [hs 1 1 (by unfold Scr; omega) (by unfold Xs_F; omega), hs 400 1 (by unfold Scr; omega) (by unfold Xs_F; omega), hs 1 3 (by unfold Scr; omega) (by unfold Xs_F; omega), hs 400 5 (by unfold Scr; omega) (by unfold Xs_F; omega), hs 1 5 (by unfold Scr; omega) (by unfold Xs_F; omega), hs 400 12 (by unfold Scr; omega) (by unfold Xs_F; omega), hs 1 8 (by unfold Scr; omega) (by unfold Xs_F; omega), hs 400 45 (by unfold Scr; omega) (by unfold Xs_F; omega), hs 1 10 (by unfold Scr; omega) (by unfold Xs_F; omega), hs 400 53 (by unfold Scr; omega) (by unfold Xs_F; omega), hs 1 6 (by unfold Scr; omega) (by unfold Xs_F; omega)]
    exact hC
  · intro i hi
    obtain ⟨q1, q2, q3⟩ := hT i hi
    refine ⟨fun j hj => ?_, ?_, ?_⟩
    · rw [hs (100 + 2 * i + 1) j (by unfold Scr; omega) (by unfold Xs_F; omega), hs 403 _ (by unfold Scr; omega) (by unfold Xs_F; omega)]; exact q1 j hj
    · rw [hs (100 + 2 * i) 1 (by unfold Scr; omega) (by unfold Xs_F; omega), hs 404 _ (by unfold Scr; omega) (by unfold Xs_F; omega)]; exact q2
    · rw [hs (100 + 2 * i) 2 (by unfold Scr; omega) (by unfold Xs_F; omega), hs 405 _ (by unfold Scr; omega) (by unfold Xs_F; omega)]; exact q3
  · intro i h1 h2
    rw [hs 405 _ (by unfold Scr; omega) (by unfold Xs_F; omega)]; exact hTz i h1 h2
  · intro i hi
    obtain ⟨q1, q2, q3, q4, q5, q6, q7, q8⟩ := hB i hi
    refine ⟨fun j hj => ?_, ?_, ?_, ?_, ?_, ?_, ?_, ?_⟩
    · rw [hs (120 + 2 * i + 1) j (by unfold Scr; omega) (by unfold Xs_F; omega), hs 407 _ (by unfold Scr; omega) (by unfold Xs_F; omega)]; exact q1 j hj
    · rw [hs (120 + 2 * i) 0 (by unfold Scr; omega) (by unfold Xs_F; omega)]; exact q2
    · rw [hs (120 + 2 * i) 1 (by unfold Scr; omega) (by unfold Xs_F; omega), hs 409 _ (by unfold Scr; omega) (by unfold Xs_F; omega)]; exact q3
    · rw [hs 409 _ (by unfold Scr; omega) (by unfold Xs_F; omega)]; exact q4
    · rw [hs (120 + 2 * i) 2 (by unfold Scr; omega) (by unfold Xs_F; omega), hs 410 _ (by unfold Scr; omega) (by unfold Xs_F; omega)]; exact q5
    · rw [hs (120 + 2 * i) 4 (by unfold Scr; omega) (by unfold Xs_F; omega), hs 408 _ (by unfold Scr; omega) (by unfold Xs_F; omega)]; exact q6
    · rw [hs (120 + 2 * i) 5 (by unfold Scr; omega) (by unfold Xs_F; omega), hs 411 _ (by unfold Scr; omega) (by unfold Xs_F; omega)]; exact q7
    · rw [hs (120 + 2 * i) 6 (by unfold Scr; omega) (by unfold Xs_F; omega), hs 412 _ (by unfold Scr; omega) (by unfold Xs_F; omega)]; exact q8
  · intro i hi
    obtain ⟨q1, q2, q3, q4, q5⟩ := hA i hi
    refine ⟨fun j hj => ?_, ?_, ?_, ?_, ?_⟩
    · rw [hs (160 + 2 * i + 1) j (by unfold Scr; omega) (by unfold Xs_F; omega), f414]; exact q1 j hj
    · rw [hs (160 + 2 * i) 0 (by unfold Scr; omega) (by unfold Xs_F; omega)]; exact q2
    · rw [hs 415 _ (by unfold Scr; omega) (by unfold Xs_F; omega)]; exact q3
    · rw [hs (160 + 2 * i) 2 (by unfold Scr; omega) (by unfold Xs_F; omega), hs 416 _ (by unfold Scr; omega) (by unfold Xs_F; omega)]; exact q4
    · rw [hs (160 + 2 * i) 3 (by unfold Scr; omega) (by unfold Xs_F; omega), hs 417 _ (by unfold Scr; omega) (by unfold Xs_F; omega)]; exact q5
  · intro l
    refine ⟨fun hl => ?_, fun z1 z2 => ?_⟩
    · rw [hs (240 + 2 * l) 0 (by unfold Scr; omega) (by unfold Xs_F; omega), e447]; exact (hL l).1 hl
    · rw [hs 426 _ (by unfold Scr; omega) (by unfold Xs_F; omega)]; exact (hL l).2 z1 z2
  · intro k hk
    rw [hs (260 + k) 2 (by unfold Scr; omega) (by unfold Xs_F; omega), hs 457 _ (by unfold Scr; omega) (by unfold Xs_F; omega), hs 455 _ (by unfold Scr; omega) (by unfold Xs_F; omega), hs 456 _ (by unfold Scr; omega) (by unfold Xs_F; omega)]; exact hP k hk
  · exact hN
  · refine ⟨TR_cg hX.1 (hts 0 (by omega)) (htx 1 (by omega) (by omega)).1 (htx 1 (by omega) (by omega)).2, fun l hl => ?_⟩
    exact TR_cg (hX.2 l hl) (hts (1 + l) (by omega)) (htx (2 + l) (by omega) (by omega)).1 (htx (2 + l) (by omega) (by omega)).2
  · exact CK_cg hK (fun l j hl => hs _ _ (by unfold Scr; omega) (by unfold Xs_F; omega)) f414 (fun l _ => e447 l) hsay
  · exact CV_cg hV (hs _ _ (by unfold Scr; omega) (by unfold Xs_F; omega)) (hs _ _ (by unfold Scr; omega) (by unfold Xs_F; omega)) (funext fun k => hs 451 k (by unfold Scr; omega) (by unfold Xs_F; omega)) (funext fun k => hs 452 k (by unfold Scr; omega) (by unfold Xs_F; omega)) f414 (fun l _ => e447 l) hsay
  · obtain ⟨v, q1, q2, q3⟩ := hVv
    refine ⟨v, q1, ?_, ?_⟩
    · rw [hs 400 17 (by unfold Scr; omega) (by unfold Xs_F; omega)]; exact q2
    · rw [hs 400 49 (by unfold Scr; omega) (by unfold Xs_F; omega)]; exact q3
  · intro j hj
    rw [hs 425 j (by unfold Scr; omega) (by unfold Xs_F; omega)]; exact hW j hj

def Xs_V (l k : Nat) : Prop := (l = 400 ∧ (k = 49)) ∨ l = 451 ∨ l = 452
set_option maxHeartbeats 2000000 in
theorem InvI_V {n : Nat} {I I' : Nat → Nat → Int32} {L : Nat → Nat → Int64} {D : DD} (h : InvI n I L D) (hN : CV I' D ∧ CVv I' n) (hs : ∀ l k, ¬ Scr D l k → ¬ Xs_V l k → I' l k = I l k) : InvI n I' L D := by
  obtain ⟨hD, hC, hT, hTz, hB, hA, hL, hP, hS, hF, hX, hK, hV, hVv, hW⟩ := h
  have t0 : D.tx 0 < 8 := tx_lt hD (by omega)
  have nL6 := hD.2.2.2.1
  have nT6 := hD.1
  have nB16 := hD.2.1
  have nA40 := hD.2.2.1
  have nP10 := hD.2.2.2.2.1
  have f414 : I' 414 = I 414 := funext fun k => hs 414 k (by unfold Scr; omega) (by unfold Xs_V; omega)
  have e447 : ∀ l, I' 447 l = I 447 l := fun l => hs 447 l (by unfold Scr; omega) (by unfold Xs_V; omega)
  have hts : ∀ r, r < 7 → TSame I I' r := fun r hr => ⟨hs _ _ (by unfold Scr; omega) (by unfold Xs_V; omega), fun i hi => ⟨hs _ _ (by unfold Scr; omega) (by unfold Xs_V; omega), hs _ _ (by unfold Scr; omega) (by unfold Xs_V; omega), hs _ _ (by unfold Scr; omega) (by unfold Xs_V; omega), hs _ _ (by unfold Scr; omega) (by unfold Xs_V; omega)⟩, fun k hk => ⟨hs _ _ (by unfold Scr; omega) (by unfold Xs_V; omega), hs _ _ (by unfold Scr; omega) (by unfold Xs_V; omega)⟩⟩
  have htx : ∀ u, u < 2 + D.nL → u ≠ 0 → (∀ k, I' (20 + 8 * D.tx u) k = I (20 + 8 * D.tx u) k) ∧ ∀ j k, 1 ≤ j → j ≤ 5 → I' (20 + 8 * D.tx u + j) k = I (20 + 8 * D.tx u + j) k := by
    intro u hu hu0
    have b1 := tx_lt hD hu
    have b2 := tx_ne hD hu (show 0 < 2 + D.nL by omega) hu0
    refine ⟨fun k => hs _ _ ?_ ?_, fun j k j1 j2 => hs _ _ ?_ ?_⟩
    · unfold Scr; omega
    · unfold Xs_V; omega
    · unfold Scr; omega
    · unfold Xs_V; omega
  have hsay : ∀ l a b t, l < D.nL → sayF I' l a b t = sayF I l a b t := fun l a b t hl => sayF_cg (hX.2 l hl) (hts (1 + l) (by omega)) f414 (e447 l)
  refine ⟨hD, ?_, ?_, ?_, ?_, ?_, ?_, ?_, hS, ?_, ?_, ?_, ?_, ?_, ?_⟩
  · unfold CC at hC ⊢
    rw [hs 1 1 (by unfold Scr; omega) (by unfold Xs_V; omega), hs 400 1 (by unfold Scr; omega) (by unfold Xs_V; omega), hs 1 3 (by unfold Scr; omega) (by unfold Xs_V; omega), hs 400 5 (by unfold Scr; omega) (by unfold Xs_V; omega), hs 1 5 (by unfold Scr; omega) (by unfold Xs_V; omega), hs 400 12 (by unfold Scr; omega) (by unfold Xs_V; omega), hs 1 8 (by unfold Scr; omega) (by unfold Xs_V; omega), hs 400 45 (by unfold Scr; omega) (by unfold Xs_V; omega), hs 1 10 (by unfold Scr; omega) (by unfold Xs_V; omega), hs 400 53 (by unfold Scr; omega) (by unfold Xs_V; omega), hs 1 6 (by unfold Scr; omega) (by unfold Xs_V; omega)]
    exact hC
  · intro i hi
    obtain ⟨q1, q2, q3⟩ := hT i hi
    refine ⟨fun j hj => ?_, ?_, ?_⟩
    · rw [hs (100 + 2 * i + 1) j (by unfold Scr; omega) (by unfold Xs_V; omega), hs 403 _ (by unfold Scr; omega) (by unfold Xs_V; omega)]; exact q1 j hj
    · rw [hs (100 + 2 * i) 1 (by unfold Scr; omega) (by unfold Xs_V; omega), hs 404 _ (by unfold Scr; omega) (by unfold Xs_V; omega)]; exact q2
    · rw [hs (100 + 2 * i) 2 (by unfold Scr; omega) (by unfold Xs_V; omega), hs 405 _ (by unfold Scr; omega) (by unfold Xs_V; omega)]; exact q3
  · intro i h1 h2
    rw [hs 405 _ (by unfold Scr; omega) (by unfold Xs_V; omega)]; exact hTz i h1 h2
  · intro i hi
    obtain ⟨q1, q2, q3, q4, q5, q6, q7, q8⟩ := hB i hi
    refine ⟨fun j hj => ?_, ?_, ?_, ?_, ?_, ?_, ?_, ?_⟩
    · rw [hs (120 + 2 * i + 1) j (by unfold Scr; omega) (by unfold Xs_V; omega), hs 407 _ (by unfold Scr; omega) (by unfold Xs_V; omega)]; exact q1 j hj
    · rw [hs (120 + 2 * i) 0 (by unfold Scr; omega) (by unfold Xs_V; omega)]; exact q2
    · rw [hs (120 + 2 * i) 1 (by unfold Scr; omega) (by unfold Xs_V; omega), hs 409 _ (by unfold Scr; omega) (by unfold Xs_V; omega)]; exact q3
    · rw [hs 409 _ (by unfold Scr; omega) (by unfold Xs_V; omega)]; exact q4
    · rw [hs (120 + 2 * i) 2 (by unfold Scr; omega) (by unfold Xs_V; omega), hs 410 _ (by unfold Scr; omega) (by unfold Xs_V; omega)]; exact q5
    · rw [hs (120 + 2 * i) 4 (by unfold Scr; omega) (by unfold Xs_V; omega), hs 408 _ (by unfold Scr; omega) (by unfold Xs_V; omega)]; exact q6
    · rw [hs (120 + 2 * i) 5 (by unfold Scr; omega) (by unfold Xs_V; omega), hs 411 _ (by unfold Scr; omega) (by unfold Xs_V; omega)]; exact q7
    · rw [hs (120 + 2 * i) 6 (by unfold Scr; omega) (by unfold Xs_V; omega), hs 412 _ (by unfold Scr; omega) (by unfold Xs_V; omega)]; exact q8
  · intro i hi
    obtain ⟨q1, q2, q3, q4, q5⟩ := hA i hi
    refine ⟨fun j hj => ?_, ?_, ?_, ?_, ?_⟩
    · rw [hs (160 + 2 * i + 1) j (by unfold Scr; omega) (by unfold Xs_V; omega), f414]; exact q1 j hj
    · rw [hs (160 + 2 * i) 0 (by unfold Scr; omega) (by unfold Xs_V; omega)]; exact q2
    · rw [hs 415 _ (by unfold Scr; omega) (by unfold Xs_V; omega)]; exact q3
    · rw [hs (160 + 2 * i) 2 (by unfold Scr; omega) (by unfold Xs_V; omega), hs 416 _ (by unfold Scr; omega) (by unfold Xs_V; omega)]; exact q4
    · rw [hs (160 + 2 * i) 3 (by unfold Scr; omega) (by unfold Xs_V; omega), hs 417 _ (by unfold Scr; omega) (by unfold Xs_V; omega)]; exact q5
  · intro l
    refine ⟨fun hl => ?_, fun z1 z2 => ?_⟩
    · rw [hs (240 + 2 * l) 0 (by unfold Scr; omega) (by unfold Xs_V; omega), e447]; exact (hL l).1 hl
    · rw [hs 426 _ (by unfold Scr; omega) (by unfold Xs_V; omega)]; exact (hL l).2 z1 z2
  · intro k hk
    rw [hs (260 + k) 2 (by unfold Scr; omega) (by unfold Xs_V; omega), hs 457 _ (by unfold Scr; omega) (by unfold Xs_V; omega), hs 455 _ (by unfold Scr; omega) (by unfold Xs_V; omega), hs 456 _ (by unfold Scr; omega) (by unfold Xs_V; omega)]; exact hP k hk
  · obtain ⟨⟨n, q1, q2, q3, q4⟩, q5, q6⟩ := hF
    refine ⟨⟨n, q1, ?_, ?_, fun j hj => ?_⟩, ?_, ?_⟩
    · rw [hs 8 1 (by unfold Scr; omega) (by unfold Xs_V; omega)]; exact q2
    · rw [hs 400 19 (by unfold Scr; omega) (by unfold Xs_V; omega)]; exact q3
    · rw [hs 9 j (by unfold Scr; omega) (by unfold Xs_V; omega), hs 419 j (by unfold Scr; omega) (by unfold Xs_V; omega)]; exact q4 j hj
    · rw [hs 12 0 (by unfold Scr; omega) (by unfold Xs_V; omega), hs 400 39 (by unfold Scr; omega) (by unfold Xs_V; omega)]; exact q5
    · rw [hs 12 1 (by unfold Scr; omega) (by unfold Xs_V; omega), hs 400 40 (by unfold Scr; omega) (by unfold Xs_V; omega)]; exact q6
  · refine ⟨TR_cg hX.1 (hts 0 (by omega)) (htx 1 (by omega) (by omega)).1 (htx 1 (by omega) (by omega)).2, fun l hl => ?_⟩
    exact TR_cg (hX.2 l hl) (hts (1 + l) (by omega)) (htx (2 + l) (by omega) (by omega)).1 (htx (2 + l) (by omega) (by omega)).2
  · exact CK_cg hK (fun l j hl => hs _ _ (by unfold Scr; omega) (by unfold Xs_V; omega)) f414 (fun l _ => e447 l) hsay
  · exact hN.1
  · exact hN.2
  · intro j hj
    rw [hs 425 j (by unfold Scr; omega) (by unfold Xs_V; omega)]; exact hW j hj

def Xs_K (l k : Nat) : Prop := (241 ≤ l ∧ l < 252 ∧ l % 2 = 1)
set_option maxHeartbeats 2000000 in
theorem InvI_K {n : Nat} {I I' : Nat → Nat → Int32} {L : Nat → Nat → Int64} {D : DD} (h : InvI n I L D) (hN : CK I' D) (hs : ∀ l k, ¬ Scr D l k → ¬ Xs_K l k → I' l k = I l k) : InvI n I' L D := by
  obtain ⟨hD, hC, hT, hTz, hB, hA, hL, hP, hS, hF, hX, hK, hV, hVv, hW⟩ := h
  have t0 : D.tx 0 < 8 := tx_lt hD (by omega)
  have nL6 := hD.2.2.2.1
  have nT6 := hD.1
  have nB16 := hD.2.1
  have nA40 := hD.2.2.1
  have nP10 := hD.2.2.2.2.1
  have f414 : I' 414 = I 414 := funext fun k => hs 414 k (by unfold Scr; omega) (by unfold Xs_K; omega)
  have e447 : ∀ l, I' 447 l = I 447 l := fun l => hs 447 l (by unfold Scr; omega) (by unfold Xs_K; omega)
  have hts : ∀ r, r < 7 → TSame I I' r := fun r hr => ⟨hs _ _ (by unfold Scr; omega) (by unfold Xs_K; omega), fun i hi => ⟨hs _ _ (by unfold Scr; omega) (by unfold Xs_K; omega), hs _ _ (by unfold Scr; omega) (by unfold Xs_K; omega), hs _ _ (by unfold Scr; omega) (by unfold Xs_K; omega), hs _ _ (by unfold Scr; omega) (by unfold Xs_K; omega)⟩, fun k hk => ⟨hs _ _ (by unfold Scr; omega) (by unfold Xs_K; omega), hs _ _ (by unfold Scr; omega) (by unfold Xs_K; omega)⟩⟩
  have htx : ∀ u, u < 2 + D.nL → u ≠ 0 → (∀ k, I' (20 + 8 * D.tx u) k = I (20 + 8 * D.tx u) k) ∧ ∀ j k, 1 ≤ j → j ≤ 5 → I' (20 + 8 * D.tx u + j) k = I (20 + 8 * D.tx u + j) k := by
    intro u hu hu0
    have b1 := tx_lt hD hu
    have b2 := tx_ne hD hu (show 0 < 2 + D.nL by omega) hu0
    refine ⟨fun k => hs _ _ ?_ ?_, fun j k j1 j2 => hs _ _ ?_ ?_⟩
    · unfold Scr; omega
    · unfold Xs_K; omega
    · unfold Scr; omega
    · unfold Xs_K; omega
  have hsay : ∀ l a b t, l < D.nL → sayF I' l a b t = sayF I l a b t := fun l a b t hl => sayF_cg (hX.2 l hl) (hts (1 + l) (by omega)) f414 (e447 l)
  refine ⟨hD, ?_, ?_, ?_, ?_, ?_, ?_, ?_, hS, ?_, ?_, ?_, ?_, ?_, ?_⟩
  · unfold CC at hC ⊢
    rw [hs 1 1 (by unfold Scr; omega) (by unfold Xs_K; omega), hs 400 1 (by unfold Scr; omega) (by unfold Xs_K; omega), hs 1 3 (by unfold Scr; omega) (by unfold Xs_K; omega), hs 400 5 (by unfold Scr; omega) (by unfold Xs_K; omega), hs 1 5 (by unfold Scr; omega) (by unfold Xs_K; omega), hs 400 12 (by unfold Scr; omega) (by unfold Xs_K; omega), hs 1 8 (by unfold Scr; omega) (by unfold Xs_K; omega), hs 400 45 (by unfold Scr; omega) (by unfold Xs_K; omega), hs 1 10 (by unfold Scr; omega) (by unfold Xs_K; omega), hs 400 53 (by unfold Scr; omega) (by unfold Xs_K; omega), hs 1 6 (by unfold Scr; omega) (by unfold Xs_K; omega)]
    exact hC
  · intro i hi
    obtain ⟨q1, q2, q3⟩ := hT i hi
    refine ⟨fun j hj => ?_, ?_, ?_⟩
    · rw [hs (100 + 2 * i + 1) j (by unfold Scr; omega) (by unfold Xs_K; omega), hs 403 _ (by unfold Scr; omega) (by unfold Xs_K; omega)]; exact q1 j hj
    · rw [hs (100 + 2 * i) 1 (by unfold Scr; omega) (by unfold Xs_K; omega), hs 404 _ (by unfold Scr; omega) (by unfold Xs_K; omega)]; exact q2
    · rw [hs (100 + 2 * i) 2 (by unfold Scr; omega) (by unfold Xs_K; omega), hs 405 _ (by unfold Scr; omega) (by unfold Xs_K; omega)]; exact q3
  · intro i h1 h2
    rw [hs 405 _ (by unfold Scr; omega) (by unfold Xs_K; omega)]; exact hTz i h1 h2
  · intro i hi
    obtain ⟨q1, q2, q3, q4, q5, q6, q7, q8⟩ := hB i hi
    refine ⟨fun j hj => ?_, ?_, ?_, ?_, ?_, ?_, ?_, ?_⟩
    · rw [hs (120 + 2 * i + 1) j (by unfold Scr; omega) (by unfold Xs_K; omega), hs 407 _ (by unfold Scr; omega) (by unfold Xs_K; omega)]; exact q1 j hj
    · rw [hs (120 + 2 * i) 0 (by unfold Scr; omega) (by unfold Xs_K; omega)]; exact q2
    · rw [hs (120 + 2 * i) 1 (by unfold Scr; omega) (by unfold Xs_K; omega), hs 409 _ (by unfold Scr; omega) (by unfold Xs_K; omega)]; exact q3
    · rw [hs 409 _ (by unfold Scr; omega) (by unfold Xs_K; omega)]; exact q4
    · rw [hs (120 + 2 * i) 2 (by unfold Scr; omega) (by unfold Xs_K; omega), hs 410 _ (by unfold Scr; omega) (by unfold Xs_K; omega)]; exact q5
    · rw [hs (120 + 2 * i) 4 (by unfold Scr; omega) (by unfold Xs_K; omega), hs 408 _ (by unfold Scr; omega) (by unfold Xs_K; omega)]; exact q6
    · rw [hs (120 + 2 * i) 5 (by unfold Scr; omega) (by unfold Xs_K; omega), hs 411 _ (by unfold Scr; omega) (by unfold Xs_K; omega)]; exact q7
    · rw [hs (120 + 2 * i) 6 (by unfold Scr; omega) (by unfold Xs_K; omega), hs 412 _ (by unfold Scr; omega) (by unfold Xs_K; omega)]; exact q8
  · intro i hi
    obtain ⟨q1, q2, q3, q4, q5⟩ := hA i hi
    refine ⟨fun j hj => ?_, ?_, ?_, ?_, ?_⟩
    · rw [hs (160 + 2 * i + 1) j (by unfold Scr; omega) (by unfold Xs_K; omega), f414]; exact q1 j hj
    · rw [hs (160 + 2 * i) 0 (by unfold Scr; omega) (by unfold Xs_K; omega)]; exact q2
    · rw [hs 415 _ (by unfold Scr; omega) (by unfold Xs_K; omega)]; exact q3
    · rw [hs (160 + 2 * i) 2 (by unfold Scr; omega) (by unfold Xs_K; omega), hs 416 _ (by unfold Scr; omega) (by unfold Xs_K; omega)]; exact q4
    · rw [hs (160 + 2 * i) 3 (by unfold Scr; omega) (by unfold Xs_K; omega), hs 417 _ (by unfold Scr; omega) (by unfold Xs_K; omega)]; exact q5
  · intro l
    refine ⟨fun hl => ?_, fun z1 z2 => ?_⟩
    · rw [hs (240 + 2 * l) 0 (by unfold Scr; omega) (by unfold Xs_K; omega), e447]; exact (hL l).1 hl
    · rw [hs 426 _ (by unfold Scr; omega) (by unfold Xs_K; omega)]; exact (hL l).2 z1 z2
  · intro k hk
    rw [hs (260 + k) 2 (by unfold Scr; omega) (by unfold Xs_K; omega), hs 457 _ (by unfold Scr; omega) (by unfold Xs_K; omega), hs 455 _ (by unfold Scr; omega) (by unfold Xs_K; omega), hs 456 _ (by unfold Scr; omega) (by unfold Xs_K; omega)]; exact hP k hk
  · obtain ⟨⟨n, q1, q2, q3, q4⟩, q5, q6⟩ := hF
    refine ⟨⟨n, q1, ?_, ?_, fun j hj => ?_⟩, ?_, ?_⟩
    · rw [hs 8 1 (by unfold Scr; omega) (by unfold Xs_K; omega)]; exact q2
    · rw [hs 400 19 (by unfold Scr; omega) (by unfold Xs_K; omega)]; exact q3
    · rw [hs 9 j (by unfold Scr; omega) (by unfold Xs_K; omega), hs 419 j (by unfold Scr; omega) (by unfold Xs_K; omega)]; exact q4 j hj
    · rw [hs 12 0 (by unfold Scr; omega) (by unfold Xs_K; omega), hs 400 39 (by unfold Scr; omega) (by unfold Xs_K; omega)]; exact q5
    · rw [hs 12 1 (by unfold Scr; omega) (by unfold Xs_K; omega), hs 400 40 (by unfold Scr; omega) (by unfold Xs_K; omega)]; exact q6
  · refine ⟨TR_cg hX.1 (hts 0 (by omega)) (htx 1 (by omega) (by omega)).1 (htx 1 (by omega) (by omega)).2, fun l hl => ?_⟩
    exact TR_cg (hX.2 l hl) (hts (1 + l) (by omega)) (htx (2 + l) (by omega) (by omega)).1 (htx (2 + l) (by omega) (by omega)).2
  · exact hN
  · exact CV_cg hV (hs _ _ (by unfold Scr; omega) (by unfold Xs_K; omega)) (hs _ _ (by unfold Scr; omega) (by unfold Xs_K; omega)) (funext fun k => hs 451 k (by unfold Scr; omega) (by unfold Xs_K; omega)) (funext fun k => hs 452 k (by unfold Scr; omega) (by unfold Xs_K; omega)) f414 (fun l _ => e447 l) hsay
  · obtain ⟨v, q1, q2, q3⟩ := hVv
    refine ⟨v, q1, ?_, ?_⟩
    · rw [hs 400 17 (by unfold Scr; omega) (by unfold Xs_K; omega)]; exact q2
    · rw [hs 400 49 (by unfold Scr; omega) (by unfold Xs_K; omega)]; exact q3
  · intro j hj
    rw [hs 425 j (by unfold Scr; omega) (by unfold Xs_K; omega)]; exact hW j hj

def Xs_BT (l k : Nat) : Prop := (100 ≤ l ∧ l < 112) ∨ l = 403 ∨ l = 404 ∨ l = 405 ∨ (120 ≤ l ∧ l < 152) ∨ (407 ≤ l ∧ l ≤ 412)
set_option maxHeartbeats 2000000 in
theorem InvI_BT {n : Nat} {I I' : Nat → Nat → Int32} {L : Nat → Nat → Int64} {D : DD} (h : InvI n I L D) (hN : CT I' D ∧ CTz I' D ∧ CB I' D) (hs : ∀ l k, ¬ Scr D l k → ¬ Xs_BT l k → I' l k = I l k) : InvI n I' L D := by
  obtain ⟨hD, hC, hT, hTz, hB, hA, hL, hP, hS, hF, hX, hK, hV, hVv, hW⟩ := h
  have t0 : D.tx 0 < 8 := tx_lt hD (by omega)
  have nL6 := hD.2.2.2.1
  have nT6 := hD.1
  have nB16 := hD.2.1
  have nA40 := hD.2.2.1
  have nP10 := hD.2.2.2.2.1
  have f414 : I' 414 = I 414 := funext fun k => hs 414 k (by unfold Scr; omega) (by unfold Xs_BT; omega)
  have e447 : ∀ l, I' 447 l = I 447 l := fun l => hs 447 l (by unfold Scr; omega) (by unfold Xs_BT; omega)
  have hts : ∀ r, r < 7 → TSame I I' r := fun r hr => ⟨hs _ _ (by unfold Scr; omega) (by unfold Xs_BT; omega), fun i hi => ⟨hs _ _ (by unfold Scr; omega) (by unfold Xs_BT; omega), hs _ _ (by unfold Scr; omega) (by unfold Xs_BT; omega), hs _ _ (by unfold Scr; omega) (by unfold Xs_BT; omega), hs _ _ (by unfold Scr; omega) (by unfold Xs_BT; omega)⟩, fun k hk => ⟨hs _ _ (by unfold Scr; omega) (by unfold Xs_BT; omega), hs _ _ (by unfold Scr; omega) (by unfold Xs_BT; omega)⟩⟩
  have htx : ∀ u, u < 2 + D.nL → u ≠ 0 → (∀ k, I' (20 + 8 * D.tx u) k = I (20 + 8 * D.tx u) k) ∧ ∀ j k, 1 ≤ j → j ≤ 5 → I' (20 + 8 * D.tx u + j) k = I (20 + 8 * D.tx u + j) k := by
    intro u hu hu0
    have b1 := tx_lt hD hu
    have b2 := tx_ne hD hu (show 0 < 2 + D.nL by omega) hu0
    refine ⟨fun k => hs _ _ ?_ ?_, fun j k j1 j2 => hs _ _ ?_ ?_⟩
    · unfold Scr; omega
    · unfold Xs_BT; omega
    · unfold Scr; omega
    · unfold Xs_BT; omega
  have hsay : ∀ l a b t, l < D.nL → sayF I' l a b t = sayF I l a b t := fun l a b t hl => sayF_cg (hX.2 l hl) (hts (1 + l) (by omega)) f414 (e447 l)
  refine ⟨hD, ?_, ?_, ?_, ?_, ?_, ?_, ?_, hS, ?_, ?_, ?_, ?_, ?_, ?_⟩
  · unfold CC at hC ⊢
    rw [hs 1 1 (by unfold Scr; omega) (by unfold Xs_BT; omega), hs 400 1 (by unfold Scr; omega) (by unfold Xs_BT; omega), hs 1 3 (by unfold Scr; omega) (by unfold Xs_BT; omega), hs 400 5 (by unfold Scr; omega) (by unfold Xs_BT; omega), hs 1 5 (by unfold Scr; omega) (by unfold Xs_BT; omega), hs 400 12 (by unfold Scr; omega) (by unfold Xs_BT; omega), hs 1 8 (by unfold Scr; omega) (by unfold Xs_BT; omega), hs 400 45 (by unfold Scr; omega) (by unfold Xs_BT; omega), hs 1 10 (by unfold Scr; omega) (by unfold Xs_BT; omega), hs 400 53 (by unfold Scr; omega) (by unfold Xs_BT; omega), hs 1 6 (by unfold Scr; omega) (by unfold Xs_BT; omega)]
    exact hC
  · exact hN.1
  · exact hN.2.1
  · exact hN.2.2
  · intro i hi
    obtain ⟨q1, q2, q3, q4, q5⟩ := hA i hi
    refine ⟨fun j hj => ?_, ?_, ?_, ?_, ?_⟩
    · rw [hs (160 + 2 * i + 1) j (by unfold Scr; omega) (by unfold Xs_BT; omega), f414]; exact q1 j hj
    · rw [hs (160 + 2 * i) 0 (by unfold Scr; omega) (by unfold Xs_BT; omega)]; exact q2
    · rw [hs 415 _ (by unfold Scr; omega) (by unfold Xs_BT; omega)]; exact q3
    · rw [hs (160 + 2 * i) 2 (by unfold Scr; omega) (by unfold Xs_BT; omega), hs 416 _ (by unfold Scr; omega) (by unfold Xs_BT; omega)]; exact q4
    · rw [hs (160 + 2 * i) 3 (by unfold Scr; omega) (by unfold Xs_BT; omega), hs 417 _ (by unfold Scr; omega) (by unfold Xs_BT; omega)]; exact q5
  · intro l
    refine ⟨fun hl => ?_, fun z1 z2 => ?_⟩
    · rw [hs (240 + 2 * l) 0 (by unfold Scr; omega) (by unfold Xs_BT; omega), e447]; exact (hL l).1 hl
    · rw [hs 426 _ (by unfold Scr; omega) (by unfold Xs_BT; omega)]; exact (hL l).2 z1 z2
  · intro k hk
    rw [hs (260 + k) 2 (by unfold Scr; omega) (by unfold Xs_BT; omega), hs 457 _ (by unfold Scr; omega) (by unfold Xs_BT; omega), hs 455 _ (by unfold Scr; omega) (by unfold Xs_BT; omega), hs 456 _ (by unfold Scr; omega) (by unfold Xs_BT; omega)]; exact hP k hk
  · obtain ⟨⟨n, q1, q2, q3, q4⟩, q5, q6⟩ := hF
    refine ⟨⟨n, q1, ?_, ?_, fun j hj => ?_⟩, ?_, ?_⟩
    · rw [hs 8 1 (by unfold Scr; omega) (by unfold Xs_BT; omega)]; exact q2
    · rw [hs 400 19 (by unfold Scr; omega) (by unfold Xs_BT; omega)]; exact q3
    · rw [hs 9 j (by unfold Scr; omega) (by unfold Xs_BT; omega), hs 419 j (by unfold Scr; omega) (by unfold Xs_BT; omega)]; exact q4 j hj
    · rw [hs 12 0 (by unfold Scr; omega) (by unfold Xs_BT; omega), hs 400 39 (by unfold Scr; omega) (by unfold Xs_BT; omega)]; exact q5
    · rw [hs 12 1 (by unfold Scr; omega) (by unfold Xs_BT; omega), hs 400 40 (by unfold Scr; omega) (by unfold Xs_BT; omega)]; exact q6
  · refine ⟨TR_cg hX.1 (hts 0 (by omega)) (htx 1 (by omega) (by omega)).1 (htx 1 (by omega) (by omega)).2, fun l hl => ?_⟩
    exact TR_cg (hX.2 l hl) (hts (1 + l) (by omega)) (htx (2 + l) (by omega) (by omega)).1 (htx (2 + l) (by omega) (by omega)).2
  · exact CK_cg hK (fun l j hl => hs _ _ (by unfold Scr; omega) (by unfold Xs_BT; omega)) f414 (fun l _ => e447 l) hsay
  · exact CV_cg hV (hs _ _ (by unfold Scr; omega) (by unfold Xs_BT; omega)) (hs _ _ (by unfold Scr; omega) (by unfold Xs_BT; omega)) (funext fun k => hs 451 k (by unfold Scr; omega) (by unfold Xs_BT; omega)) (funext fun k => hs 452 k (by unfold Scr; omega) (by unfold Xs_BT; omega)) f414 (fun l _ => e447 l) hsay
  · obtain ⟨v, q1, q2, q3⟩ := hVv
    refine ⟨v, q1, ?_, ?_⟩
    · rw [hs 400 17 (by unfold Scr; omega) (by unfold Xs_BT; omega)]; exact q2
    · rw [hs 400 49 (by unfold Scr; omega) (by unfold Xs_BT; omega)]; exact q3
  · intro j hj
    rw [hs 425 j (by unfold Scr; omega) (by unfold Xs_BT; omega)]; exact hW j hj

def Xs_D1 (l k : Nat) : Prop := (100 ≤ l ∧ l < 112) ∨ l = 403 ∨ l = 404 ∨ l = 405 ∨ (120 ≤ l ∧ l < 152) ∨ (407 ≤ l ∧ l ≤ 412) ∨ (l = 1 ∧ (k = 1 ∨ k = 3)) ∨ (l = 400 ∧ (k = 1 ∨ k = 5))
set_option maxHeartbeats 2000000 in
theorem InvI_D1 {n : Nat} {I I' : Nat → Nat → Int32} {L L' : Nat → Nat → Int64} {D : DD} {t b : Nat} (h : InvI n I L D) (hN : InvD ((t, b, D.1.2.2), D.2) ∧ CC (I' 1) (I' 400) ((t, b, D.1.2.2), D.2) ∧ CT I' ((t, b, D.1.2.2), D.2) ∧ CTz I' ((t, b, D.1.2.2), D.2) ∧ CB I' ((t, b, D.1.2.2), D.2)) (hLn : CS L') (hs : ∀ l k, ¬ Scr D l k → ¬ Xs_D1 l k → I' l k = I l k) : InvI n I' L' ((t, b, D.1.2.2), D.2) := by
  obtain ⟨hD, hC, hT, hTz, hB, hA, hL, hP, hS, hF, hX, hK, hV, hVv, hW⟩ := h
  have t0 : D.tx 0 < 8 := tx_lt hD (by omega)
  have nL6 := hD.2.2.2.1
  have nT6 := hD.1
  have nB16 := hD.2.1
  have nA40 := hD.2.2.1
  have nP10 := hD.2.2.2.2.1
  have f414 : I' 414 = I 414 := funext fun k => hs 414 k (by unfold Scr; omega) (by unfold Xs_D1; omega)
  have e447 : ∀ l, I' 447 l = I 447 l := fun l => hs 447 l (by unfold Scr; omega) (by unfold Xs_D1; omega)
  have hts : ∀ r, r < 7 → TSame I I' r := fun r hr => ⟨hs _ _ (by unfold Scr; omega) (by unfold Xs_D1; omega), fun i hi => ⟨hs _ _ (by unfold Scr; omega) (by unfold Xs_D1; omega), hs _ _ (by unfold Scr; omega) (by unfold Xs_D1; omega), hs _ _ (by unfold Scr; omega) (by unfold Xs_D1; omega), hs _ _ (by unfold Scr; omega) (by unfold Xs_D1; omega)⟩, fun k hk => ⟨hs _ _ (by unfold Scr; omega) (by unfold Xs_D1; omega), hs _ _ (by unfold Scr; omega) (by unfold Xs_D1; omega)⟩⟩
  have htx : ∀ u, u < 2 + D.nL → u ≠ 0 → (∀ k, I' (20 + 8 * D.tx u) k = I (20 + 8 * D.tx u) k) ∧ ∀ j k, 1 ≤ j → j ≤ 5 → I' (20 + 8 * D.tx u + j) k = I (20 + 8 * D.tx u + j) k := by
    intro u hu hu0
    have b1 := tx_lt hD hu
    have b2 := tx_ne hD hu (show 0 < 2 + D.nL by omega) hu0
    refine ⟨fun k => hs _ _ ?_ ?_, fun j k j1 j2 => hs _ _ ?_ ?_⟩
    · unfold Scr; omega
    · unfold Xs_D1; omega
    · unfold Scr; omega
    · unfold Xs_D1; omega
  have hsay : ∀ l a b t, l < D.nL → sayF I' l a b t = sayF I l a b t := fun l a b t hl => sayF_cg (hX.2 l hl) (hts (1 + l) (by omega)) f414 (e447 l)
  refine ⟨hN.1, ?_, ?_, ?_, ?_, ?_, ?_, ?_, hLn, ?_, ?_, ?_, ?_, ?_, ?_⟩
  · exact hN.2.1
  · exact hN.2.2.1
  · exact hN.2.2.2.1
  · exact hN.2.2.2.2
  · show CA I' D
    intro i hi
    obtain ⟨q1, q2, q3, q4, q5⟩ := hA i hi
    refine ⟨fun j hj => ?_, ?_, ?_, ?_, ?_⟩
    · rw [hs (160 + 2 * i + 1) j (by unfold Scr; omega) (by unfold Xs_D1; omega), f414]; exact q1 j hj
    · rw [hs (160 + 2 * i) 0 (by unfold Scr; omega) (by unfold Xs_D1; omega)]; exact q2
    · rw [hs 415 _ (by unfold Scr; omega) (by unfold Xs_D1; omega)]; exact q3
    · rw [hs (160 + 2 * i) 2 (by unfold Scr; omega) (by unfold Xs_D1; omega), hs 416 _ (by unfold Scr; omega) (by unfold Xs_D1; omega)]; exact q4
    · rw [hs (160 + 2 * i) 3 (by unfold Scr; omega) (by unfold Xs_D1; omega), hs 417 _ (by unfold Scr; omega) (by unfold Xs_D1; omega)]; exact q5
  · show CL I' D
    intro l
    refine ⟨fun hl => ?_, fun z1 z2 => ?_⟩
    · rw [hs (240 + 2 * l) 0 (by unfold Scr; omega) (by unfold Xs_D1; omega), e447]; exact (hL l).1 hl
    · rw [hs 426 _ (by unfold Scr; omega) (by unfold Xs_D1; omega)]; exact (hL l).2 z1 z2
  · show CP I' D
    intro k hk
    rw [hs (260 + k) 2 (by unfold Scr; omega) (by unfold Xs_D1; omega), hs 457 _ (by unfold Scr; omega) (by unfold Xs_D1; omega), hs 455 _ (by unfold Scr; omega) (by unfold Xs_D1; omega), hs 456 _ (by unfold Scr; omega) (by unfold Xs_D1; omega)]; exact hP k hk
  · show CF I'
    obtain ⟨⟨n, q1, q2, q3, q4⟩, q5, q6⟩ := hF
    refine ⟨⟨n, q1, ?_, ?_, fun j hj => ?_⟩, ?_, ?_⟩
    · rw [hs 8 1 (by unfold Scr; omega) (by unfold Xs_D1; omega)]; exact q2
    · rw [hs 400 19 (by unfold Scr; omega) (by unfold Xs_D1; omega)]; exact q3
    · rw [hs 9 j (by unfold Scr; omega) (by unfold Xs_D1; omega), hs 419 j (by unfold Scr; omega) (by unfold Xs_D1; omega)]; exact q4 j hj
    · rw [hs 12 0 (by unfold Scr; omega) (by unfold Xs_D1; omega), hs 400 39 (by unfold Scr; omega) (by unfold Xs_D1; omega)]; exact q5
    · rw [hs 12 1 (by unfold Scr; omega) (by unfold Xs_D1; omega), hs 400 40 (by unfold Scr; omega) (by unfold Xs_D1; omega)]; exact q6
  · show CX I' D
    refine ⟨TR_cg hX.1 (hts 0 (by omega)) (htx 1 (by omega) (by omega)).1 (htx 1 (by omega) (by omega)).2, fun l hl => ?_⟩
    exact TR_cg (hX.2 l hl) (hts (1 + l) (by omega)) (htx (2 + l) (by omega) (by omega)).1 (htx (2 + l) (by omega) (by omega)).2
  · show CK I' D
    exact CK_cg hK (fun l j hl => hs _ _ (by unfold Scr; omega) (by unfold Xs_D1; omega)) f414 (fun l _ => e447 l) hsay
  · show CV I' D
    exact CV_cg hV (hs _ _ (by unfold Scr; omega) (by unfold Xs_D1; omega)) (hs _ _ (by unfold Scr; omega) (by unfold Xs_D1; omega)) (funext fun k => hs 451 k (by unfold Scr; omega) (by unfold Xs_D1; omega)) (funext fun k => hs 452 k (by unfold Scr; omega) (by unfold Xs_D1; omega)) f414 (fun l _ => e447 l) hsay
  · show CVv I' n
    obtain ⟨v, q1, q2, q3⟩ := hVv
    refine ⟨v, q1, ?_, ?_⟩
    · rw [hs 400 17 (by unfold Scr; omega) (by unfold Xs_D1; omega)]; exact q2
    · rw [hs 400 49 (by unfold Scr; omega) (by unfold Xs_D1; omega)]; exact q3
  · show CW I'
    intro j hj
    rw [hs 425 j (by unfold Scr; omega) (by unfold Xs_D1; omega)]; exact hW j hj

def Xs_D2 (l k : Nat) : Prop := (260 ≤ l ∧ l < 270) ∨ l = 455 ∨ l = 456 ∨ l = 457 ∨ (l = 1 ∧ k = 10) ∨ (l = 400 ∧ k = 53)
set_option maxHeartbeats 2000000 in
theorem InvI_D2 {n : Nat} {I I' : Nat → Nat → Int32} {L L' : Nat → Nat → Int64} {D : DD} {t : Nat} {fa fb : Nat → Nat} (h : InvI n I L D) (hN : InvD ((D.1.1, D.1.2.1, D.1.2.2.1, D.1.2.2.2.1, t), D.2.1, fa, fb, D.2.2.2.2) ∧ CC (I' 1) (I' 400) ((D.1.1, D.1.2.1, D.1.2.2.1, D.1.2.2.2.1, t), D.2.1, fa, fb, D.2.2.2.2) ∧ CP I' ((D.1.1, D.1.2.1, D.1.2.2.1, D.1.2.2.2.1, t), D.2.1, fa, fb, D.2.2.2.2)) (hLn : CS L') (hs : ∀ l k, ¬ Scr D l k → ¬ Xs_D2 l k → I' l k = I l k) : InvI n I' L' ((D.1.1, D.1.2.1, D.1.2.2.1, D.1.2.2.2.1, t), D.2.1, fa, fb, D.2.2.2.2) := by
  obtain ⟨hD, hC, hT, hTz, hB, hA, hL, hP, hS, hF, hX, hK, hV, hVv, hW⟩ := h
  have t0 : D.tx 0 < 8 := tx_lt hD (by omega)
  have nL6 := hD.2.2.2.1
  have nT6 := hD.1
  have nB16 := hD.2.1
  have nA40 := hD.2.2.1
  have nP10 := hD.2.2.2.2.1
  have f414 : I' 414 = I 414 := funext fun k => hs 414 k (by unfold Scr; omega) (by unfold Xs_D2; omega)
  have e447 : ∀ l, I' 447 l = I 447 l := fun l => hs 447 l (by unfold Scr; omega) (by unfold Xs_D2; omega)
  have hts : ∀ r, r < 7 → TSame I I' r := fun r hr => ⟨hs _ _ (by unfold Scr; omega) (by unfold Xs_D2; omega), fun i hi => ⟨hs _ _ (by unfold Scr; omega) (by unfold Xs_D2; omega), hs _ _ (by unfold Scr; omega) (by unfold Xs_D2; omega), hs _ _ (by unfold Scr; omega) (by unfold Xs_D2; omega), hs _ _ (by unfold Scr; omega) (by unfold Xs_D2; omega)⟩, fun k hk => ⟨hs _ _ (by unfold Scr; omega) (by unfold Xs_D2; omega), hs _ _ (by unfold Scr; omega) (by unfold Xs_D2; omega)⟩⟩
  have htx : ∀ u, u < 2 + D.nL → u ≠ 0 → (∀ k, I' (20 + 8 * D.tx u) k = I (20 + 8 * D.tx u) k) ∧ ∀ j k, 1 ≤ j → j ≤ 5 → I' (20 + 8 * D.tx u + j) k = I (20 + 8 * D.tx u + j) k := by
    intro u hu hu0
    have b1 := tx_lt hD hu
    have b2 := tx_ne hD hu (show 0 < 2 + D.nL by omega) hu0
    refine ⟨fun k => hs _ _ ?_ ?_, fun j k j1 j2 => hs _ _ ?_ ?_⟩
    · unfold Scr; omega
    · unfold Xs_D2; omega
    · unfold Scr; omega
    · unfold Xs_D2; omega
  have hsay : ∀ l a b t, l < D.nL → sayF I' l a b t = sayF I l a b t := fun l a b t hl => sayF_cg (hX.2 l hl) (hts (1 + l) (by omega)) f414 (e447 l)
  refine ⟨hN.1, ?_, ?_, ?_, ?_, ?_, ?_, ?_, hLn, ?_, ?_, ?_, ?_, ?_, ?_⟩
  · exact hN.2.1
  · show CT I' D
    intro i hi
    obtain ⟨q1, q2, q3⟩ := hT i hi
    refine ⟨fun j hj => ?_, ?_, ?_⟩
    · rw [hs (100 + 2 * i + 1) j (by unfold Scr; omega) (by unfold Xs_D2; omega), hs 403 _ (by unfold Scr; omega) (by unfold Xs_D2; omega)]; exact q1 j hj
    · rw [hs (100 + 2 * i) 1 (by unfold Scr; omega) (by unfold Xs_D2; omega), hs 404 _ (by unfold Scr; omega) (by unfold Xs_D2; omega)]; exact q2
    · rw [hs (100 + 2 * i) 2 (by unfold Scr; omega) (by unfold Xs_D2; omega), hs 405 _ (by unfold Scr; omega) (by unfold Xs_D2; omega)]; exact q3
  · show CTz I' D
    intro i h1 h2
    rw [hs 405 _ (by unfold Scr; omega) (by unfold Xs_D2; omega)]; exact hTz i h1 h2
  · show CB I' D
    intro i hi
    obtain ⟨q1, q2, q3, q4, q5, q6, q7, q8⟩ := hB i hi
    refine ⟨fun j hj => ?_, ?_, ?_, ?_, ?_, ?_, ?_, ?_⟩
    · rw [hs (120 + 2 * i + 1) j (by unfold Scr; omega) (by unfold Xs_D2; omega), hs 407 _ (by unfold Scr; omega) (by unfold Xs_D2; omega)]; exact q1 j hj
    · rw [hs (120 + 2 * i) 0 (by unfold Scr; omega) (by unfold Xs_D2; omega)]; exact q2
    · rw [hs (120 + 2 * i) 1 (by unfold Scr; omega) (by unfold Xs_D2; omega), hs 409 _ (by unfold Scr; omega) (by unfold Xs_D2; omega)]; exact q3
    · rw [hs 409 _ (by unfold Scr; omega) (by unfold Xs_D2; omega)]; exact q4
    · rw [hs (120 + 2 * i) 2 (by unfold Scr; omega) (by unfold Xs_D2; omega), hs 410 _ (by unfold Scr; omega) (by unfold Xs_D2; omega)]; exact q5
    · rw [hs (120 + 2 * i) 4 (by unfold Scr; omega) (by unfold Xs_D2; omega), hs 408 _ (by unfold Scr; omega) (by unfold Xs_D2; omega)]; exact q6
    · rw [hs (120 + 2 * i) 5 (by unfold Scr; omega) (by unfold Xs_D2; omega), hs 411 _ (by unfold Scr; omega) (by unfold Xs_D2; omega)]; exact q7
    · rw [hs (120 + 2 * i) 6 (by unfold Scr; omega) (by unfold Xs_D2; omega), hs 412 _ (by unfold Scr; omega) (by unfold Xs_D2; omega)]; exact q8
  · show CA I' D
    intro i hi
    obtain ⟨q1, q2, q3, q4, q5⟩ := hA i hi
    refine ⟨fun j hj => ?_, ?_, ?_, ?_, ?_⟩
    · rw [hs (160 + 2 * i + 1) j (by unfold Scr; omega) (by unfold Xs_D2; omega), f414]; exact q1 j hj
    · rw [hs (160 + 2 * i) 0 (by unfold Scr; omega) (by unfold Xs_D2; omega)]; exact q2
    · rw [hs 415 _ (by unfold Scr; omega) (by unfold Xs_D2; omega)]; exact q3
    · rw [hs (160 + 2 * i) 2 (by unfold Scr; omega) (by unfold Xs_D2; omega), hs 416 _ (by unfold Scr; omega) (by unfold Xs_D2; omega)]; exact q4
    · rw [hs (160 + 2 * i) 3 (by unfold Scr; omega) (by unfold Xs_D2; omega), hs 417 _ (by unfold Scr; omega) (by unfold Xs_D2; omega)]; exact q5
  · show CL I' D
    intro l
    refine ⟨fun hl => ?_, fun z1 z2 => ?_⟩
    · rw [hs (240 + 2 * l) 0 (by unfold Scr; omega) (by unfold Xs_D2; omega), e447]; exact (hL l).1 hl
    · rw [hs 426 _ (by unfold Scr; omega) (by unfold Xs_D2; omega)]; exact (hL l).2 z1 z2
  · exact hN.2.2
  · show CF I'
    obtain ⟨⟨n, q1, q2, q3, q4⟩, q5, q6⟩ := hF
    refine ⟨⟨n, q1, ?_, ?_, fun j hj => ?_⟩, ?_, ?_⟩
    · rw [hs 8 1 (by unfold Scr; omega) (by unfold Xs_D2; omega)]; exact q2
    · rw [hs 400 19 (by unfold Scr; omega) (by unfold Xs_D2; omega)]; exact q3
    · rw [hs 9 j (by unfold Scr; omega) (by unfold Xs_D2; omega), hs 419 j (by unfold Scr; omega) (by unfold Xs_D2; omega)]; exact q4 j hj
    · rw [hs 12 0 (by unfold Scr; omega) (by unfold Xs_D2; omega), hs 400 39 (by unfold Scr; omega) (by unfold Xs_D2; omega)]; exact q5
    · rw [hs 12 1 (by unfold Scr; omega) (by unfold Xs_D2; omega), hs 400 40 (by unfold Scr; omega) (by unfold Xs_D2; omega)]; exact q6
  · show CX I' D
    refine ⟨TR_cg hX.1 (hts 0 (by omega)) (htx 1 (by omega) (by omega)).1 (htx 1 (by omega) (by omega)).2, fun l hl => ?_⟩
    exact TR_cg (hX.2 l hl) (hts (1 + l) (by omega)) (htx (2 + l) (by omega) (by omega)).1 (htx (2 + l) (by omega) (by omega)).2
  · show CK I' D
    exact CK_cg hK (fun l j hl => hs _ _ (by unfold Scr; omega) (by unfold Xs_D2; omega)) f414 (fun l _ => e447 l) hsay
  · show CV I' D
    exact CV_cg hV (hs _ _ (by unfold Scr; omega) (by unfold Xs_D2; omega)) (hs _ _ (by unfold Scr; omega) (by unfold Xs_D2; omega)) (funext fun k => hs 451 k (by unfold Scr; omega) (by unfold Xs_D2; omega)) (funext fun k => hs 452 k (by unfold Scr; omega) (by unfold Xs_D2; omega)) f414 (fun l _ => e447 l) hsay
  · show CVv I' n
    obtain ⟨v, q1, q2, q3⟩ := hVv
    refine ⟨v, q1, ?_, ?_⟩
    · rw [hs 400 17 (by unfold Scr; omega) (by unfold Xs_D2; omega)]; exact q2
    · rw [hs 400 49 (by unfold Scr; omega) (by unfold Xs_D2; omega)]; exact q3
  · show CW I'
    intro j hj
    rw [hs 425 j (by unfold Scr; omega) (by unfold Xs_D2; omega)]; exact hW j hj

theorem InvI_mono {n m : Nat} {I : Nat → Nat → Int32} {L : Nat → Nat → Int64} {D : DD} (h : InvI n I L D) (hm : n ≤ m) : InvI m I L D := by
  obtain ⟨hD, hC, hT, hTz, hB, hA, hL, hP, hS, hF, hX, hK, hV, ⟨v, q1, q2, q3⟩, hW⟩ := h
  exact ⟨hD, hC, hT, hTz, hB, hA, hL, hP, hS, hF, hX, hK, hV, ⟨v, by omega, q2, q3⟩, hW⟩
theorem up2_o {α : Type} {J : Nat → Nat → α} {a k b j : Nat} {v : α} (h : ¬ (b = a ∧ j = k)) : up2 J a k v b j = J b j := by unfold up2; rw [if_neg h]
theorem Inv_of {n : Nat} {I : Nat → Nat → Int32} {L : Nat → Nat → Int64} {D : DD} (h : InvI n I L D) : Inv (n + 1) (fm I L D) := ⟨I, L, D, rfl, InvI_mono h (by omega)⟩
theorem Inv_told {n : Nat} {I : Nat → Nat → Int32} {L : Nat → Nat → Int64} {D : DD} (h : InvI n I L D) : Inv (n + 1) (fm (up2 I 400 0 0) L D) := Inv_of (InvI_up h Scr_told)
theorem i10 : ((1 : Int32) = 0) = False := by decide
theorem i00 : ((0 : Int32) = 0) = True := by decide
