/-! LAWS at work: the new height of a hair (my own) -/
def clH (v : Int32) : Int32 := if v < 0 then 0 else if 63 < v then 63 else v
theorem clH_x (z : Int32) : (if (0 : Int32) < (if z < (63 : Int32) then z else (63 : Int32)) then (if z < (63 : Int32) then z else (63 : Int32)) else (0 : Int32)) = clH z := by
  unfold clH
  by_cases h1 : z < 0
  · have h2 : z < 63 := Int32.lt_trans h1 (by decide)
    rw [if_pos h1, if_pos h2, if_neg (fun q => absurd (Int32.lt_trans q h1) Int32.lt_irrefl)]
  · rw [if_neg h1]
    have h0 : (0 : Int32) ≤ z := Int32.not_lt.mp h1
    by_cases h2 : z < 63
    · rw [if_pos h2, if_neg (fun q => absurd (Int32.lt_trans q h2) Int32.lt_irrefl)]
      by_cases h3 : (0 : Int32) < z
      · rw [if_pos h3]
      · rw [if_neg h3]
        exact Int32.le_antisymm h0 (Int32.not_lt.mp h3)
    · rw [if_neg h2, if_pos (by decide)]
      by_cases h3 : (63 : Int32) < z
      · rw [if_pos h3]
      · rw [if_neg h3]
        exact Int32.le_antisymm (Int32.not_lt.mp h2) (Int32.not_lt.mp h3)
theorem clH_in (v : Int32) : inN (clH v) 64 := by
  have e63 : (0 ≤ clH v ∧ clH v ≤ 63 ↔ inN (clH v) 64) := inN_le 63 (by decide) (by decide)
  rw [← e63]
  unfold clH
  by_cases h1 : v < 0
  · rw [if_pos h1]; exact ⟨by decide, by decide⟩
  · rw [if_neg h1]
    by_cases h2 : (63 : Int32) < v
    · rw [if_pos h2]; exact ⟨by decide, by decide⟩
    · rw [if_neg h2]; exact ⟨Int32.not_lt.mp h1, Int32.not_lt.mp h2⟩
def hgL (I : Nat → Nat → Int32) (fx : Nat → Int32) (law d : Int32) : Nat → Nat → Int32
  | _, 0 => d
  | i, n + 1 => if I 427 i = law ∧ ((I 429 i).toNatClampNeg = (I 430 i).toNatClampNeg ∨ ¬ wrt (I 431) (I 432) fx (I 429 i).toNatClampNeg (I 430 i).toNatClampNeg = 0) then clH (wrt (I 431) (I 432) fx (I 428 i).toNatClampNeg (I 429 i).toNatClampNeg) else hgL I fx law d (i + 1) n
theorem hgL_in {I : Nat → Nat → Int32} {fx : Nat → Int32} {law d : Int32} (hd : inN d 64) : ∀ n i, inN (hgL I fx law d i n) 64 := by
  intro n
  induction n with
  | zero => intro i; exact hd
  | succ n ih =>
    intro i
    unfold hgL
    split
    · exact clH_in _
    · exact ih _
theorem hgL_fun {I J : Nat → Nat → Int32} (h27 : J 427 = I 427) (h28 : J 428 = I 428) (h29 : J 429 = I 429) (h30 : J 430 = I 430) (h31 : J 431 = I 431) (h32 : J 432 = I 432) (fx : Nat → Int32) (law d : Int32) : ∀ n i, hgL J fx law d i n = hgL I fx law d i n := by
  intro n
  induction n with
  | zero => intro i; rfl
  | succ n ih => intro i; unfold hgL; rw [h27, h28, h29, h30, h31, h32, ih]
theorem wrt_F {op ar F G : Nat → Int32} {k e : Nat} {rt : List Nat} (hck : ck 0 8 op ar k (e - k) [] = some rt) (hF : ∀ w, w < 8 → G w = F w) : wrt op ar G k e = wrt op ar F k e := wrt_fx (fun j h1 h2 ho => by
  obtain ⟨w, a1, a2, a3⟩ := ck_ask (by decide) (by decide) (e - k) k [] _ hck j h1 (by omega) ho
  rw [a3, nI_clamp (by omega)]
  exact hF w a2)
section HG
variable {L : Nat → Nat → Int64} {D : DD}
theorem x_newHeight {I : Nat → Nat → Int32} {t0 n0 law : Nat} {F : Nat → Int32} {d : Int32} (ht : t0 < 2 + D.nL) (hL6 : D.nL ≤ 6) (hT : TR I t0 0 0 8 0 3) (hn0 : I 426 0 = nI n0) (hn : n0 ≤ 16) (hlaw : law < 3) (hF : ∀ w, w < 8 → I 14 w = F w) {Q : Int32 → Hp → Prop} (hQ : ∀ I' : Nat → Nat → Int32, (∀ l k, l ≠ 20 + 8 * t0 + 6 → I' l k = I l k) → Q (hgL I F (nI law) d 0 n0) (fm I' L D)) : wp_X7_newHeight (20 + 8 * t0) (nI (260 + law)) d (some 14) (fm I L D) Q := by
  have kT : Kf D (20 + 8 * t0) = (25, 0) := Kf_text (r := 0) ht hL6 (by decide)
  have k1 : Kf D (20 + 8 * t0 + 1) = (1, 16) := Kf_text (r := 1) ht hL6 (by decide)
  have k2 : Kf D (20 + 8 * t0 + 2) = (1, 16) := Kf_text (r := 2) ht hL6 (by decide)
  have k3 : Kf D (20 + 8 * t0 + 3) = (1, 16) := Kf_text (r := 3) ht hL6 (by decide)
  have r0 : Rf D (20 + 8 * t0) 0 = some (20 + 8 * t0 + 1) := Rf_text (k := 0) ht hL6 (by decide)
  have r1 : Rf D (20 + 8 * t0) 1 = some (20 + 8 * t0 + 2) := Rf_text (k := 1) ht hL6 (by decide)
  have r2 : Rf D (20 + 8 * t0) 2 = some (20 + 8 * t0 + 3) := Rf_text (k := 2) ht hL6 (by decide)
  obtain ⟨n1, z, h1, h2, h3, h4, h5, h6, h7, h8, h9⟩ := hT
  have e0 : n1 = n0 := (nI_eq (by omega) (by omega)).mp (h5.symm.trans hn0)
  subst e0
  generalize hV : hgL I F (nI law) d 0 n1 = V at hQ
  unfold wp_X7_newHeight
  generalize hK33 : (fun (y12 : Int32) (h11 : Hp) => ((hpK h11 (20 + 8 * t0)).1 = 20 + 5) ∧ (okA h11 (hpR h11 (20 + 8 * t0) 1) 1 y12 ∧ (∀ v15 : Int32, v15 = hpI h11 (ad (hpR h11 (20 + 8 * t0) 1)) (y12).toNatClampNeg → (okA h11 (hpR h11 (20 + 8 * t0) 2) 1 y12 ∧ (∀ v17 : Int32, v17 = hpI h11 (ad (hpR h11 (20 + 8 * t0) 2)) (y12).toNatClampNeg → (wp_X7_value (20 + 8 * t0) v15 v17 (some 14) h11 (fun (z19 : Int32) (h18 : Hp) => ∀ v20 : Int32, v20 = (if z19 < (63 : Int32) then z19 else (63 : Int32)) → (∀ v21 : Int32, v21 = (if (0 : Int32) < v20 then v20 else (0 : Int32)) → (Q v21 h18))))))))) = K33
  have key : ∀ (N i : Nat) (J : Nat → Nat → Int32), (∀ l k, l ≠ 20 + 8 * t0 + 6 → J l k = I l k) → i ≤ n1 → n1 < N + i → hgL I F (nI law) d i (n1 - i) = V → wp_X7_newHeight_L3 (20 + 8 * t0) (nI (260 + law)) d (some 14) K33 (fun (h22 : Hp) => Q d h22) Q N (nI i) (fm J L D) := by
    intro N
    induction N with
    | zero => intro i J _ a1 a2; omega
    | succ N ih =>
      intro i J hJ a1 a2 hv
      rw [wp_X7_newHeight_L3]
      simp only [gK, gI, gR_, kT, hJ (20 + 8 * t0) 7 (by omega), h3, true_and]
      by_cases hi : i = n1
      · subst hi
        rw [if_pos (nI_le (Nat.le_refl _) (by omega))]
        rw [Nat.sub_self] at hv
        have hv : d = _ := hv
        have q := hQ J hJ
        rw [← hv] at q
        exact q
      · rw [if_neg (nI_ge (by omega) (by omega))]
        rw [show n1 - i = (n1 - (i + 1)) + 1 by omega] at hv
        obtain ⟨f, s, e, so, q1, q2, q3, q4, q5, q6, q7, q8, q9, q10, q11, q12, q13, q14, q15⟩ := h9 i (by omega)
        rw [Nat.mul_zero, Nat.zero_add] at q6 q8 q10 q12
        obtain ⟨y, a3⟩ : ∃ y, ck 0 8 (I 431) (I 432) (600 * 0 + f) (s - f) [] = some [y] := q14.elim (fun zz => zz.2.elim (fun y zz => ⟨y, zz.2⟩)) (fun zz => absurd q5 (Nat.not_lt.mpr zz.1))
        clear q14
        have j31 : J 431 = I 431 := funext fun k => hJ 431 k (by omega)
        have j32 : J 432 = I 432 := funext fun k => hJ 432 k (by omega)
        have j14 : ∀ w, w < 8 → J 14 w = F w := fun w hw => (hJ 14 w (by omega)).trans (hF w hw)
        unfold hgL at hv
        rw [q6, q8, q10, q12, nI_clamp (by omega), nI_clamp (by omega), nI_clamp (by omega)] at hv
        have eso : (nI so = nI law) = (so = law) := propext (nI_eq (by omega) (by omega))
        have ehd : (nI (260 + so) = nI (260 + law)) = (so = law) := propext ⟨fun z => by have := (nI_eq (by omega) (by omega)).mp z; omega, fun z => by rw [z]⟩
        simp only [eso] at hv
        simp only [gK, gI, gL, gR_, g_stI, g_stL, forall_eq, true_and, ad_s, okA_s, okO_s, okN_s, i10, i00, if_true, if_false, reduceCtorEq, Kf_1, Kf_400, r0, k1, vp_in_nI (show i < 16 by omega) (show 16 < 2 ^ 31 by decide), nI_clamp (show i < 2 ^ 31 by omega), hJ (20 + 8 * t0 + 1) i (by omega), q7, ehd]
        by_cases c1 : so = law
        · rw [if_pos c1]
          refine x_isSo (r := 0) (s := s) (e := e) (z := z) (lo := 0) (hi := 8) ht hL6 (by decide) (by decide) (by omega) q2 q3 h2 (fun k hk => ?_) (by rw [hJ _ _ (by omega)]; exact q11) (by rw [hJ _ _ (by omega)]; exact q13) (fun hh => by rw [j31, j32]; exact q15 hh) (fun J' hf => ?_)
          · rw [hJ _ _ (by omega), j31, j32]; exact h6 k hk
          · have hJ' : ∀ l k, l ≠ 20 + 8 * t0 + 6 → J' l k = I l k := fun l k hh => (hf l k hh).trans (hJ l k hh)
            rw [Nat.mul_zero, Nat.zero_add, Nat.zero_add, j31, j32]
            have ew : s < e → wrt (I 431) (I 432) (J 14) s e = wrt (I 431) (I 432) F s e := fun hh => by
              have := q15 hh
              rw [Nat.mul_zero, Nat.zero_add] at this
              exact wrt_F this j14
            have ec : (s = e ∨ ¬ wrt (I 431) (I 432) (J 14) s e = 0) = (s = e ∨ ¬ wrt (I 431) (I 432) F s e = 0) := by
              by_cases hse : s = e
              · exact propext ⟨fun _ => Or.inl hse, fun _ => Or.inl hse⟩
              · rw [ew (by omega)]
            simp only [ec]
            by_cases c2 : s = e ∨ ¬ wrt (I 431) (I 432) F s e = 0
            · rw [if_pos c2, if_neg (by decide)]
              rw [if_pos ⟨c1, c2⟩] at hv
              have j31' : J' 431 = I 431 := funext fun k => hJ' 431 k (by omega)
              have j32' : J' 432 = I 432 := funext fun k => hJ' 432 k (by omega)
              have j14' : ∀ w, w < 8 → J' 14 w = F w := fun w hw => (hJ' 14 w (by omega)).trans (hF w hw)
              rw [← hK33]
              simp only [gK, gI, gL, gR_, g_stI, g_stL, forall_eq, true_and, ad_s, okA_s, okO_s, okN_s, i10, i00, if_true, if_false, reduceCtorEq, Kf_1, Kf_400, kT, r1, r2, k2, k3, vp_in_nI (show i < 16 by omega) (show 16 < 2 ^ 31 by decide), nI_clamp (show i < 2 ^ 31 by omega), hJ' (20 + 8 * t0 + 2) i (by omega), hJ' (20 + 8 * t0 + 3) i (by omega), q9, q11]
              refine x_value (Bs := 600 * 0) (op := J' 431) (ar := J' 432) (lo := 0) (hi := 8) (y := y) ht hL6 (by decide) (by decide) q1 (by omega) (fun j hj => ?_) (by rw [j31', j32']; exact a3) (fun J'' hf' => ?_)
              · rw [hJ' _ _ (by omega), j31', j32']; exact h6 j (by omega)
              · rw [Nat.mul_zero, Nat.zero_add, Nat.zero_add, j31', j32']
                rw [Nat.mul_zero, Nat.zero_add] at a3
                simp only [clH_x]
                rw [wrt_F a3 j14', hv]
                exact hQ J'' (fun l k hh => (hf' l k hh).trans (hJ' l k hh))
            · rw [if_neg c2, if_pos rfl]
              rw [if_neg (fun zz => c2 zz.2)] at hv
              try simp only [forall_eq, nI_1]
              exact ih (i + 1) J' hJ' (by omega) (by omega) hv
        · rw [if_neg c1]
          rw [if_neg (fun zz => c1 zz.1)] at hv
          try simp only [forall_eq, nI_1]
          exact ih (i + 1) J hJ (by omega) (by omega) hv
  exact key fuel 0 I (fun _ _ _ => rfl) (by omega) (by have := fuel_ge; omega) hV
theorem m_heightBy {I : Nat → Nat → Int32} {t0 n0 law : Nat} {F : Nat → Int32} (hT : TR I t0 0 0 8 0 3) (hn0 : I 426 0 = nI n0) (hn : n0 ≤ 16) (hlaw : law < 3) (hF : ∀ w, w < 8 → I 442 w = F w) {Q : Int32 → Hp → Prop} (hQ : ∀ I' : Nat → Nat → Int32, (∀ l k, l ≠ 443 → I' l k = I l k) → Q (hgL I F (nI law) (F 1) 0 n0) (fm I' L D)) : wp_X12_heightBy 400 (nI law) (fm I L D) Q := by
  obtain ⟨n1, z, h1, h2, h3, h4, h5, h6, h7, h8, h9⟩ := hT
  have e0 : n1 = n0 := (nI_eq (by omega) (by omega)).mp (h5.symm.trans hn0)
  subst e0
  generalize hV : hgL I F (nI law) (F 1) 0 n1 = V at hQ
  unfold wp_X12_heightBy
  generalize hK60 : (fun (y23 : Int32) (h22 : Hp) => ((hpK h22 400).1 = 20 + 10) ∧ (okA h22 (hpR h22 400 27) 1 y23 ∧ (∀ v26 : Int32, v26 = hpI h22 (ad (hpR h22 400 27)) (y23).toNatClampNeg → (okA h22 (hpR h22 400 28) 1 y23 ∧ (∀ v28 : Int32, v28 = hpI h22 (ad (hpR h22 400 28)) (y23).toNatClampNeg → (wp_X12_worth 400 (0 : Int32) v26 v28 h22 (fun (z30 : Int32) (h29 : Hp) => (if 0 ≤ z30 then ((if z30 ≤ (63 : Int32) then (Q z30 h29) else (Q (63 : Int32) h29))) else (Q (0 : Int32) h29))))))))) = K60
  generalize hK105 : (fun (h33 : Hp) => ((hpK h33 400).1 = 20 + 10) ∧ (okA h33 (hpR h33 400 41) 1 (1 : Int32) ∧ (∀ v36 : Int32, v36 = hpI h33 (ad (hpR h33 400 41)) ((1 : Int32)).toNatClampNeg → (Q v36 h33)))) = K105
  have i0 : vp_in (0 : Int32) 8 := vp_in_nI (n := 0) (by decide) (by decide)
  have i1 : vp_in (1 : Int32) 14 := vp_in_nI (n := 1) (by decide) (by decide)
  have key : ∀ (N i : Nat) (J : Nat → Nat → Int32), (∀ l k, l ≠ 443 → J l k = I l k) → i ≤ n1 → n1 < N + i → hgL I F (nI law) (F 1) i (n1 - i) = V → wp_X12_heightBy_L2 400 (nI law) K60 K105 Q N (nI i) (fm J L D) := by
    intro N
    induction N with
    | zero => intro i J _ a1 a2; omega
    | succ N ih =>
      intro i J hJ a1 a2 hv
      rw [wp_X12_heightBy_L2]
      simp only [gK, gI, gL, gR_, g_stI, g_stL, forall_eq, true_and, ad_s, okA_s, okO_s, okN_s, i10, i00, if_true, if_false, reduceCtorEq, Kf_1, Kf_400, Rf_400_25, Kf_426, i0, show (0 : Int32).toNatClampNeg = 0 from by decide, hJ 426 0 (by omega), h5]
      by_cases hi : i = n1
      · subst hi
        rw [if_pos (nI_le (Nat.le_refl _) (by omega))]
        rw [Nat.sub_self] at hv
        have hv : F 1 = _ := hv
        have q := hQ J hJ
        rw [← hv] at q
        rw [← hK105]
        simp only [gK, gI, gL, gR_, g_stI, g_stL, forall_eq, true_and, ad_s, okA_s, okO_s, okN_s, i10, i00, if_true, if_false, reduceCtorEq, Kf_1, Kf_400, Rf_400_41, Kf_442, i1, show (1 : Int32).toNatClampNeg = 1 from by decide, hJ 442 1 (by omega), hF 1 (by decide)]
        exact q
      · rw [if_neg (nI_ge (by omega) (by omega))]
        rw [show n1 - i = (n1 - (i + 1)) + 1 by omega] at hv
        obtain ⟨f, s, e, so, q1, q2, q3, q4, q5, q6, q7, q8, q9, q10, q11, q12, q13, q14, q15⟩ := h9 i (by omega)
        rw [Nat.mul_zero, Nat.zero_add] at q6 q8 q10 q12
        obtain ⟨y, a3⟩ : ∃ y, ck 0 8 (I 431) (I 432) (600 * 0 + f) (s - f) [] = some [y] := q14.elim (fun zz => zz.2.elim (fun y zz => ⟨y, zz.2⟩)) (fun zz => absurd q5 (Nat.not_lt.mpr zz.1))
        clear q14
        have j31 : J 431 = I 431 := funext fun k => hJ 431 k (by omega)
        have j32 : J 432 = I 432 := funext fun k => hJ 432 k (by omega)
        have j42 : ∀ w, w < 8 → J 442 w = F w := fun w hw => (hJ 442 w (by omega)).trans (hF w hw)
        unfold hgL at hv
        rw [q6, q8, q10, q12, nI_clamp (by omega), nI_clamp (by omega), nI_clamp (by omega)] at hv
        have eso : (nI so = nI law) = (so = law) := propext (nI_eq (by omega) (by omega))
        simp only [eso] at hv
        have found' : ∀ J' : Nat → Nat → Int32, (∀ l k, l ≠ 443 → J' l k = I l k) → so = law → (s = e ∨ ¬ wrt (I 431) (I 432) F s e = 0) → K60 (nI i) (fm J' L D) := by
          intro J' hJ' c1 c2
          rw [if_pos ⟨c1, c2⟩] at hv
          have j31' : J' 431 = I 431 := funext fun k => hJ' 431 k (by omega)
          have j32' : J' 432 = I 432 := funext fun k => hJ' 432 k (by omega)
          have j42' : ∀ w, w < 8 → J' 442 w = F w := fun w hw => (hJ' 442 w (by omega)).trans (hF w hw)
          rw [← hK60]
          simp only [gK, gI, gL, gR_, g_stI, g_stL, forall_eq, true_and, ad_s, okA_s, okO_s, okN_s, i10, i00, if_true, if_false, reduceCtorEq, Kf_1, Kf_400, Rf_400_27, Rf_400_28, Kf_428, Kf_429, vp_in_nI (show i < 128 by omega) (show 128 < 2 ^ 31 by decide), nI_clamp (show i < 2 ^ 31 by omega), hJ' 428 i (by omega), hJ' 429 i (by omega), q8, q10]
          refine m_worth (r := 0) (lo := 0) (hi := 8) (y := y) (by decide) (by decide) q1 (by omega) (by rw [j31', j32']; exact a3) (fun J'' hf' => ?_)
          rw [Nat.mul_zero, Nat.zero_add, Nat.zero_add, j31', j32']
          rw [Nat.mul_zero, Nat.zero_add] at a3
          rw [wrt_F a3 j42']
          have q := hQ J'' (fun l k hh => (hf' l k hh).trans (hJ' l k hh))
          rw [← hv] at q
          generalize wrt (I 431) (I 432) F f s = w at q ⊢
          unfold clH at q
          by_cases d1 : w < 0
          · rw [if_neg (Int32.not_le.mpr d1)]
            rw [if_pos d1] at q; exact q
          · rw [if_pos (Int32.not_lt.mp d1)]
            rw [if_neg d1] at q
            by_cases d2 : (63 : Int32) < w
            · rw [if_neg (Int32.not_le.mpr d2)]
              rw [if_pos d2] at q; exact q
            · rw [if_pos (Int32.not_lt.mp d2)]
              rw [if_neg d2] at q; exact q
        simp only [gK, gI, gL, gR_, g_stI, g_stL, forall_eq, true_and, ad_s, okA_s, okO_s, okN_s, i10, i00, if_true, if_false, reduceCtorEq, Kf_1, Kf_400, Rf_400_26, Rf_400_28, Rf_400_29, Kf_427, Kf_429, Kf_430, vp_in_nI (show i < 128 by omega) (show 128 < 2 ^ 31 by decide), nI_clamp (show i < 2 ^ 31 by omega), hJ 427 i (by omega), hJ 429 i (by omega), hJ 430 i (by omega), q6, q10, q12, eso]
        by_cases c1 : so = law
        · rw [if_pos c1]
          by_cases hse : s = e
          · rw [if_pos (nI_le (by omega) (by omega))]
            exact found' J hJ c1 (Or.inl hse)
          · rw [if_neg (nI_ge (by omega) (by omega))]
            refine m_worth (r := 0) (lo := 0) (hi := 8) (y := 1) (by decide) (by decide) q2 (by omega) (by rw [j31, j32]; exact q15 (by omega)) (fun J' hf => ?_)
            have hJ' : ∀ l k, l ≠ 443 → J' l k = I l k := fun l k hh => (hf l k hh).trans (hJ l k hh)
            have qq := q15 (by omega)
            rw [Nat.mul_zero, Nat.zero_add] at qq
            rw [Nat.mul_zero, Nat.zero_add, Nat.zero_add, j31, j32, wrt_F qq j42]
            by_cases c2 : wrt (I 431) (I 432) F s e = 0
            · rw [if_pos c2]
              rw [if_neg (fun zz => zz.2.elim hse (fun z => z c2))] at hv
              try simp only [forall_eq, nI_1]
              exact ih (i + 1) J' hJ' (by omega) (by omega) hv
            · rw [if_neg c2]
              exact found' J' hJ' c1 (Or.inr c2)
        · rw [if_neg c1]
          rw [if_neg (fun zz => c1 zz.1)] at hv
          try simp only [forall_eq, nI_1]
          exact ih (i + 1) J hJ (by omega) (by omega) hv
  exact key fuel 0 I (fun _ _ _ => rfl) (by omega) (by have := fuel_ge; omega) hV
end HG
