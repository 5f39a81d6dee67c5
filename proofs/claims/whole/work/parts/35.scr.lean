/-! THE INVARIANT IS BLIND FOR WHAT NOBODY LOOKS AT (my own) -/
theorem tx_lt {D : DD} (h : InvD D) {u : Nat} (hu : u < 2 + D.nL) : D.tx u < 8 := by
  have h1 := h.2.2.2.2.2.2.2.1 u hu
  have h2 := h.2.2.2.1
  omega
theorem tx_ne {D : DD} (h : InvD D) {u w : Nat} (hu : u < 2 + D.nL) (hw : w < 2 + D.nL) (hn : u ≠ w) : D.tx u ≠ D.tx w := fun e => hn (h.2.2.2.2.2.2.2.2 u w hu hw e)
theorem CK_cg {I I' : Nat → Nat → Int32} {D : DD} (h : CK I D) (hk : ∀ l j, l < D.nL → I' (240 + 2 * l + 1) j = I (240 + 2 * l + 1) j) (h4 : I' 414 = I 414) (h7 : ∀ l, l < D.nL → I' 447 l = I 447 l) (hsay : ∀ l a b t, l < D.nL → sayF I' l a b t = sayF I l a b t) : CK I' D := by
  have hr : ∀ a, row I' a = row I a := fun a => by unfold row; rw [h4]
  intro l a b hl ha hb
  obtain ⟨q1, q2⟩ := h l a b hl ha hb
  refine ⟨fun z => by rw [hk l _ hl]; exact q1 z, fun z1 z2 => ?_⟩
  rw [hk l _ hl, hr, hr, h7 l hl, hsay l a b 0 hl, hsay l a b 1 hl]
  exact q2 z1 z2
theorem CV_cg {I I' : Nat → Nat → Int32} {D : DD} (h : CV I D) (h1 : I' 400 49 = I 400 49) (h2 : I' 400 17 = I 400 17) (h51 : I' 451 = I 451) (h52 : I' 452 = I 452) (h4 : I' 414 = I 414) (h7 : ∀ l, l < D.nL → I' 447 l = I 447 l) (hsay : ∀ l a b t, l < D.nL → sayF I' l a b t = sayF I l a b t) : CV I' D := by
  have hr : ∀ a, row I' a = row I a := fun a => by unfold row; rw [h4]
  intro z
  rw [h1, h2] at z
  obtain ⟨q1, q2⟩ := h z
  refine ⟨fun t l a b ht hl ha hb => ?_, fun l a b hl ha hb => ?_⟩
  · rw [h51]
    rcases q1 t l a b ht hl ha hb with w | ⟨w1, w2, w3, w4⟩
    · exact Or.inl w
    · exact Or.inr ⟨w1, w2, w3, by rw [hsay l a b t w1]; exact w4⟩
  · rw [h52]
    rcases q2 l a b hl ha hb with w | ⟨w1, w2, w3, w4⟩
    · exact Or.inl w
    · exact Or.inr ⟨w1, w2, w3, by rw [hr, hr, h7 l w1]; exact w4⟩
set_option maxHeartbeats 2000000 in
theorem InvI_scr {n : Nat} {I I' : Nat → Nat → Int32} {L : Nat → Nat → Int64} {D : DD} (h : InvI n I L D) (hs : ∀ l k, ¬ Scr D l k → I' l k = I l k) : InvI n I' L D := by
  obtain ⟨hD, hC, hT, hTz, hB, hA, hL, hP, hS, hF, hX, hK, hV, hVv, hW⟩ := h
  have t0 : D.tx 0 < 8 := tx_lt hD (by omega)
  have nL6 := hD.2.2.2.1
  have nT6 := hD.1
  have nB16 := hD.2.1
  have nA40 := hD.2.2.1
  have nP10 := hD.2.2.2.2.1
  have f414 : I' 414 = I 414 := funext fun k => hs 414 k (by unfold Scr; omega)
  have e447 : ∀ l, I' 447 l = I 447 l := fun l => hs 447 l (by unfold Scr; omega)
  have hts : ∀ r, r < 7 → TSame I I' r := fun r hr => ⟨hs _ _ (by unfold Scr; omega), fun i hi => ⟨hs _ _ (by unfold Scr; omega), hs _ _ (by unfold Scr; omega), hs _ _ (by unfold Scr; omega), hs _ _ (by unfold Scr; omega)⟩, fun k hk => ⟨hs _ _ (by unfold Scr; omega), hs _ _ (by unfold Scr; omega)⟩⟩
  have htx : ∀ u, u < 2 + D.nL → u ≠ 0 → (∀ k, I' (20 + 8 * D.tx u) k = I (20 + 8 * D.tx u) k) ∧ ∀ j k, 1 ≤ j → j ≤ 5 → I' (20 + 8 * D.tx u + j) k = I (20 + 8 * D.tx u + j) k := by
    intro u hu hu0
    have b1 := tx_lt hD hu
    have b2 := tx_ne hD hu (show 0 < 2 + D.nL by omega) hu0
    refine ⟨fun k => hs _ _ ?_, fun j k j1 j2 => hs _ _ ?_⟩
    · unfold Scr; omega
    · unfold Scr; omega
  have hsay : ∀ l a b t, l < D.nL → sayF I' l a b t = sayF I l a b t := fun l a b t hl => sayF_cg (hX.2 l hl) (hts (1 + l) (by omega)) f414 (e447 l)
  refine ⟨hD, ?_, ?_, ?_, ?_, ?_, ?_, ?_, hS, ?_, ?_, ?_, ?_, ?_, ?_⟩
  · unfold CC at hC ⊢
    rw [hs 1 1 (by unfold Scr; omega), hs 400 1 (by unfold Scr; omega), hs 1 3 (by unfold Scr; omega), hs 400 5 (by unfold Scr; omega), hs 1 5 (by unfold Scr; omega), hs 400 12 (by unfold Scr; omega), hs 1 8 (by unfold Scr; omega), hs 400 45 (by unfold Scr; omega), hs 1 10 (by unfold Scr; omega), hs 400 53 (by unfold Scr; omega), hs 1 6 (by unfold Scr; omega)]
    exact hC
  · intro i hi
    obtain ⟨q1, q2, q3⟩ := hT i hi
    refine ⟨fun j hj => ?_, ?_, ?_⟩
    · rw [hs (100 + 2 * i + 1) j (by unfold Scr; omega), hs 403 _ (by unfold Scr; omega)]; exact q1 j hj
    · rw [hs (100 + 2 * i) 1 (by unfold Scr; omega), hs 404 _ (by unfold Scr; omega)]; exact q2
    · rw [hs (100 + 2 * i) 2 (by unfold Scr; omega), hs 405 _ (by unfold Scr; omega)]; exact q3
  · intro i h1 h2
    rw [hs 405 _ (by unfold Scr; omega)]; exact hTz i h1 h2
  · intro i hi
    obtain ⟨q1, q2, q3, q4, q5, q6, q7, q8⟩ := hB i hi
    refine ⟨fun j hj => ?_, ?_, ?_, ?_, ?_, ?_, ?_, ?_⟩
    · rw [hs (120 + 2 * i + 1) j (by unfold Scr; omega), hs 407 _ (by unfold Scr; omega)]; exact q1 j hj
    · rw [hs (120 + 2 * i) 0 (by unfold Scr; omega)]; exact q2
    · rw [hs (120 + 2 * i) 1 (by unfold Scr; omega), hs 409 _ (by unfold Scr; omega)]; exact q3
    · rw [hs 409 _ (by unfold Scr; omega)]; exact q4
    · rw [hs (120 + 2 * i) 2 (by unfold Scr; omega), hs 410 _ (by unfold Scr; omega)]; exact q5
    · rw [hs (120 + 2 * i) 4 (by unfold Scr; omega), hs 408 _ (by unfold Scr; omega)]; exact q6
    · rw [hs (120 + 2 * i) 5 (by unfold Scr; omega), hs 411 _ (by unfold Scr; omega)]; exact q7
    · rw [hs (120 + 2 * i) 6 (by unfold Scr; omega), hs 412 _ (by unfold Scr; omega)]; exact q8
  · intro i hi
    obtain ⟨q1, q2, q3, q4, q5⟩ := hA i hi
    refine ⟨fun j hj => ?_, ?_, ?_, ?_, ?_⟩
    · rw [hs (160 + 2 * i + 1) j (by unfold Scr; omega), f414]; exact q1 j hj
    · rw [hs (160 + 2 * i) 0 (by unfold Scr; omega)]; exact q2
    · rw [hs 415 _ (by unfold Scr; omega)]; exact q3
    · rw [hs (160 + 2 * i) 2 (by unfold Scr; omega), hs 416 _ (by unfold Scr; omega)]; exact q4
    · rw [hs (160 + 2 * i) 3 (by unfold Scr; omega), hs 417 _ (by unfold Scr; omega)]; exact q5
  · intro l
    refine ⟨fun hl => ?_, fun z1 z2 => ?_⟩
    · rw [hs (240 + 2 * l) 0 (by unfold Scr; omega), e447]; exact (hL l).1 hl
    · rw [hs 426 _ (by unfold Scr; omega)]; exact (hL l).2 z1 z2
  · intro k hk
    rw [hs (260 + k) 2 (by unfold Scr; omega), hs 457 _ (by unfold Scr; omega), hs 455 _ (by unfold Scr; omega), hs 456 _ (by unfold Scr; omega)]; exact hP k hk
  · obtain ⟨⟨n, q1, q2, q3, q4⟩, q5, q6⟩ := hF
    refine ⟨⟨n, q1, ?_, ?_, fun j hj => ?_⟩, ?_, ?_⟩
    · rw [hs 8 1 (by unfold Scr; omega)]; exact q2
    · rw [hs 400 19 (by unfold Scr; omega)]; exact q3
    · rw [hs 9 j (by unfold Scr; omega), hs 419 j (by unfold Scr; omega)]; exact q4 j hj
    · rw [hs 12 0 (by unfold Scr; omega), hs 400 39 (by unfold Scr; omega)]; exact q5
    · rw [hs 12 1 (by unfold Scr; omega), hs 400 40 (by unfold Scr; omega)]; exact q6
  · refine ⟨TR_cg hX.1 (hts 0 (by omega)) (htx 1 (by omega) (by omega)).1 (htx 1 (by omega) (by omega)).2, fun l hl => ?_⟩
    exact TR_cg (hX.2 l hl) (hts (1 + l) (by omega)) (htx (2 + l) (by omega) (by omega)).1 (htx (2 + l) (by omega) (by omega)).2
  · exact CK_cg hK (fun l j hl => hs _ _ (by unfold Scr; omega)) f414 (fun l _ => e447 l) hsay
  · exact CV_cg hV (hs _ _ (by unfold Scr; omega)) (hs _ _ (by unfold Scr; omega)) (funext fun k => hs 451 k (by unfold Scr; omega)) (funext fun k => hs 452 k (by unfold Scr; omega)) f414 (fun l _ => e447 l) hsay
  · obtain ⟨v, q1, q2, q3⟩ := hVv
    refine ⟨v, q1, ?_, ?_⟩
    · rw [hs 400 17 (by unfold Scr; omega)]; exact q2
    · rw [hs 400 49 (by unfold Scr; omega)]; exact q3
  · intro j hj
    rw [hs 425 j (by unfold Scr; omega)]; exact hW j hj
/-- one cell more that nobody looks at -/
theorem InvI_up {n : Nat} {I : Nat → Nat → Int32} {L : Nat → Nat → Int64} {D : DD} {a k : Nat} {v : Int32} (h : InvI n I L D) (hs : Scr D a k) : InvI n (up2 I a k v) L D := by
  refine InvI_scr h (fun l j hn => ?_)
  show (if l = a ∧ j = k then v else I l j) = I l j
  rw [if_neg]
  rintro ⟨rfl, rfl⟩
  exact hn hs
theorem Scr_told {D : DD} : Scr D 400 0 := by unfold Scr; omega
