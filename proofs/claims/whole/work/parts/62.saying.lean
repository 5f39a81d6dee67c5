/-! SAYING: kept by the class, kept by the reference (my own) -/
section SY
variable {n : Nat} {I0 I : Nat → Nat → Int32} {L : Nat → Nat → Int64} {D : DD} {l a b : Nat}
theorem x_sayingOf (h : St n L D I0 I) (hl : l < D.nL) (ha : a < D.nA) (hb : b < D.nA) {tl : Nat} (htl : tl < 2) {Q : Int32 → Hp → Prop} (hQ : ∀ I' : Nat → Nat → Int32, St n L D I0 I' → Q (nI (sayF I0 l a b tl)) (fm I' L D)) : wp_X3_sayingOf (240 + 2 * l) (some (160 + 2 * a)) (some (160 + 2 * b)) (nI tl) (some 13) (fm I L D) Q := by
  have n3 := h.1.1.2.2.1
  have nL6 := h.1.1.2.2.2.1
  have eA := (h.1.2.2.2.2.2.1 a ha).2.1
  have eB := (h.1.2.2.2.2.2.1 b hb).2.1
  have sl := sayF_le I0 l a b tl
  have key : ∀ sh : Nat, sh = 25 + 2 * tl → wp_X3_sayingOf_J25 (240 + 2 * l) (some (160 + 2 * a)) (some (160 + 2 * b)) (nI tl) (some 13) (nI (40 * a + b)) (nI sh) Q (fm I L D) := by
    intro sh hsh
    have j70 : ∀ (J : Nat → Nat → Int32) (W : Nat), St n L D I0 J → J (240 + 2 * l + 1) (40 * a + b) = nI W → W < 2 ^ 32 → W / 2 ^ sh % 2 ^ 2 = sayF I0 l a b tl + 1 → wp_X3_sayingOf_J70 (240 + 2 * l) (nI (40 * a + b)) (nI sh) Q (fm J L D) := by
      intro J W hJ hW hW2 hd
      unfold wp_X3_sayingOf_J70
      simp only [gK, gI, gL, gR_, g_stI, g_stL, forall_eq, true_and, ad_s, okA_s, okO_s, okN_s, i10, i00, if_true, if_false, reduceCtorEq, Kf_1, Kf_400, Kf_look hl nL6, Rf_look hl nL6, Kf_lookr hl nL6, vp_in_nI (show 40 * a + b < 1600 by omega) (by decide), nI_clamp (show 40 * a + b < 2 ^ 31 by omega), hW]
      rw [ush_and (k := sh) (j := 2) hW2 (by omega) (by decide) hd (by decide), nI_pred]
      exact hQ J hJ
    unfold wp_X3_sayingOf_J25
    obtain ⟨m, s, g, mf, pc, pf, s0, s1, e, d1, d2, d3, d4, d5, d6, c1, c2, c3, c4⟩ := CK_get h.1 hl ha hb
    rw [h.say hl] at c3 c4
    have hmf : mf ≤ 1 := by omega
    have hpf : pf ≤ 1 := by omega
    have t01 : tl = 0 ∨ tl = 1 := by omega
    -- what is said by now, of the two
    obtain ⟨sx, hsx, esx⟩ : ∃ sx, (sx = 0 ∨ sx = sayF I0 l a b tl + 1) ∧ enc m s g mf pc pf s0 s1 / 2 ^ sh % 2 ^ 2 = sx := by
      rcases t01 with e | e
      · subst e; subst hsh; exact ⟨s0, c3, by unfold enc; omega⟩
      · subst e; subst hsh; exact ⟨s1, c4, by unfold enc; omega⟩
    have eW : enc m s g mf pc pf s0 s1 < 2 ^ 32 := by unfold enc; omega
    simp only [gK, gI, gL, gR_, g_stI, g_stL, forall_eq, true_and, ad_s, okA_s, okO_s, okN_s, i10, i00, if_true, if_false, reduceCtorEq, Kf_1, Kf_400, Kf_look hl nL6, Rf_look hl nL6, Kf_lookr hl nL6, vp_in_nI (show 40 * a + b < 1600 by omega) (by decide), nI_clamp (show 40 * a + b < 2 ^ 31 by omega), e]
    rw [ush_and (k := sh) (j := 2) eW (by omega) (by decide) esx (by decide)]
    rcases hsx with q | q
    · rw [q, if_pos (show nI 0 = (0 : Int32) from rfl)]
      refine x_judge h hl ha hb htl (fun J hJ => ?_)
      obtain ⟨m', s', g', mf', pc', pf', s0', s1', e', d1', d2', d3', d4', d5', d6', c1', c2', c3', c4'⟩ := CK_get hJ.1 hl ha hb
      have hmf' : mf' ≤ 1 := by omega
      have hpf' : pf' ≤ 1 := by omega
      simp only [gK, gI, gL, gR_, g_stI, g_stL, forall_eq, true_and, ad_s, okA_s, okO_s, okN_s, i10, i00, if_true, if_false, reduceCtorEq, Kf_1, Kf_400, Kf_look hl nL6, Rf_look hl nL6, Kf_lookr hl nL6, vp_in_nI (show 40 * a + b < 1600 by omega) (by decide), nI_clamp (show 40 * a + b < 2 ^ 31 by omega), e', nI_1]
      have c5 := c3'
      have c6 := c4'
      rw [hJ.say hl] at c5 c6
      rcases t01 with e1 | e1
      · subst e1; subst hsh
        have w1 : nI (sayF I0 l a b 0 + 1) <<< (nI (25 + 2 * 0) &&& 31) = nI (33554432 * (sayF I0 l a b 0 + 1)) := shl_nI (k := 25) (by decide) (by omega) (Nat.mul_comm _ _)
        have w2 : nI (enc m' s' g' mf' pc' pf' s0' s1') ||| nI (33554432 * (sayF I0 l a b 0 + 1)) = nI (enc m' s' g' mf' pc' pf' (sayF I0 l a b 0 + 1) s1') := by
          refine or_put (a := m' + 64 * s' + 2048 * g' + 131072 * mf' + 262144 * pc' + 16777216 * pf') (k := 25) (j := 2) (c := s1') (d := sayF I0 l a b 0 + 1) (d' := s0') (by omega) (by omega) c5 ?_ (by omega) ?_
          · unfold enc; omega
          · unfold enc; omega
        rw [w1, w2]
        refine j70 _ (enc m' s' g' mf' pc' pf' (sayF I0 l a b 0 + 1) s1') (St_K hJ hl ha hb ⟨m', s', g', mf', pc', pf', _, s1', rfl, c1', c2', Or.inr ?_, c4'⟩) up2_s ?_ ?_
        · rw [hJ.say hl]
        · unfold enc; omega
        · unfold enc; omega
      · subst e1; subst hsh
        have w1 : nI (sayF I0 l a b 1 + 1) <<< (nI (25 + 2 * 1) &&& 31) = nI (134217728 * (sayF I0 l a b 1 + 1)) := shl_nI (k := 27) (by decide) (by omega) (Nat.mul_comm _ _)
        have w2 : nI (enc m' s' g' mf' pc' pf' s0' s1') ||| nI (134217728 * (sayF I0 l a b 1 + 1)) = nI (enc m' s' g' mf' pc' pf' s0' (sayF I0 l a b 1 + 1)) := by
          refine or_put (a := m' + 64 * s' + 2048 * g' + 131072 * mf' + 262144 * pc' + 16777216 * pf' + 33554432 * s0') (k := 27) (j := 2) (c := 0) (d := sayF I0 l a b 1 + 1) (d' := s1') (by omega) (by omega) c6 ?_ (by omega) ?_
          · unfold enc; omega
          · unfold enc; omega
        rw [w1, w2]
        refine j70 _ (enc m' s' g' mf' pc' pf' s0' (sayF I0 l a b 1 + 1)) (St_K hJ hl ha hb ⟨m', s', g', mf', pc', pf', s0', _, rfl, c1', c2', c3', Or.inr ?_⟩) up2_s ?_ ?_
        · rw [hJ.say hl]
        · unfold enc; omega
        · unfold enc; omega
    · rw [q, if_neg (nI_ne0 (by omega) (by omega))]
      exact j70 I _ h e eW (by rw [esx, q])
  unfold wp_X3_sayingOf
  simp only [gK, gI, gL, gR_, g_stI, g_stL, forall_eq, true_and, ad_s, okA_s, okO_s, okN_s, i10, i00, if_true, if_false, reduceCtorEq, Kf_1, Kf_400, Kf_ball ha n3, Kf_ball hb n3, eA, eB, ix40]
  have t01 : tl = 0 ∨ tl = 1 := by omega
  rcases t01 with e | e
  · subst e
    rw [if_pos (show nI 0 = (0 : Int32) from rfl)]
    exact key 25 rfl
  · subst e
    rw [if_neg (show ¬ nI 1 = (0 : Int32) by decide)]
    exact key 27 rfl
/-! the reference -/
theorem m_lackOf (ha : a < 40) (hb : b < 40) {Q : Int32 → Hp → Prop} (hQ : Q (nI (missF (row I a) + missF (row I b))) (fm I L D)) : wp_X12_lackOf 400 (nI a) (nI b) (fm I L D) Q := by
  unfold wp_X12_lackOf
  simp only [gK, gI, gL, gR_, g_stI, g_stL, forall_eq, true_and, ad_s, okA_s, okO_s, okN_s, i10, i00, if_true, if_false, reduceCtorEq, Kf_1, Kf_400]
  refine m_missing ha ?_
  simp only [gK, gI, gL, gR_, g_stI, g_stL, forall_eq, true_and, ad_s, okA_s, okO_s, okN_s, i10, i00, if_true, if_false, reduceCtorEq, Kf_1, Kf_400]
  refine m_missing hb ?_
  rw [nI_add]
  exact hQ
theorem ix16 (r k : Nat) : ((16 : Int32) * nI r) + nI k = nI (16 * r + k) := by rw [show (16 : Int32) = nI 16 from rfl, pk_mul, nI_add]
theorem m_judge_L {n0 : Nat} {I : Nat → Nat → Int32} {t0 : Nat} (hl : l < 6) (hT : TR I t0 (1 + l) 8 14 3 5) (hn0 : I 426 (1 + l) = nI n0) (hn : n0 ≤ 16) {v : Nat} {K139 : Int32 → Hp → Prop} {K162 : Hp → Prop} {Q : Int32 → Hp → Prop} (h139 : ∀ (i : Nat) (J : Nat → Nat → Int32), (∀ l k, l ≠ 443 → J l k = I l k) → i < n0 → v = (if I 427 (16 * (1 + l) + i) = 3 then 1 else 0) → K139 (nI (16 * (1 + l) + i)) (fm J L D)) (h162 : ∀ J : Nat → Nat → Int32, (∀ l k, l ≠ 443 → J l k = I l k) → v = 2 → K162 (fm J L D)) : ∀ (N i : Nat) (J : Nat → Nat → Int32), (∀ l k, l ≠ 443 → J l k = I l k) → i ≤ n0 → n0 < N + i → sayL I (I 442) (1 + l) i (n0 - i) = v → wp_X12_judges_L98 400 (nI (1 + l)) K139 K162 Q N (nI (16 * (1 + l) + i)) (fm J L D) := by
  obtain ⟨n1, z, h1, h2, h3, h4, h5, h6, h7, h8, h9⟩ := hT
  have e0 : n1 = n0 := (nI_eq (by omega) (by omega)).mp (h5.symm.trans hn0)
  subst e0
  intro N
  induction N with
  | zero => intro i J _ a1 a2; omega
  | succ N ih =>
    intro i J hJ a1 a2 hv
    rw [wp_X12_judges_L98]
    simp only [gK, gI, gL, gR_, g_stI, g_stL, forall_eq, true_and, ad_s, okA_s, okO_s, okN_s, i10, i00, if_true, if_false, reduceCtorEq, Kf_1, Kf_400, Rf_400_25, Kf_426, vp_in_nI (show 1 + l < 8 by omega) (by decide), nI_clamp (show 1 + l < 2 ^ 31 by omega), hJ 426 (1 + l) (by omega), h5, ix16]
    by_cases hi : i = n1
    · subst hi
      rw [if_pos (nI_le (Nat.le_refl _) (by omega))]
      rw [Nat.sub_self] at hv
      exact h162 J hJ hv.symm
    · rw [if_neg (nI_ge (by omega) (by omega))]
      obtain ⟨f, s, e, so, q1, q2, q3, q4, q5, q6, q7, q8, q9, q10, q11, q12, q13, q14, q15⟩ := h9 i (by omega)
      have hse : s < e := by omega
      have j31 : J 431 = I 431 := funext fun k => hJ 431 k (by omega)
      have j32 : J 432 = I 432 := funext fun k => hJ 432 k (by omega)
      have j42 : J 442 = I 442 := funext fun k => hJ 442 k (by omega)
      simp only [gK, gI, gL, gR_, g_stI, g_stL, forall_eq, true_and, ad_s, okA_s, okO_s, okN_s, i10, i00, if_true, if_false, reduceCtorEq, Kf_1, Kf_400, Rf_400_28, Rf_400_29, Kf_429, Kf_430, vp_in_nI (show 16 * (1 + l) + i < 128 by omega) (by decide), nI_clamp (show 16 * (1 + l) + i < 2 ^ 31 by omega), hJ 429 _ (show (429 : Nat) ≠ 443 by omega), hJ 430 _ (show (430 : Nat) ≠ 443 by omega), q10, q12]
      refine m_worth (lo := 8) (hi := 14) (y := 1) (by decide) (by decide) q2 (by omega) (by rw [j31, j32]; exact q15 hse) (fun J' hf => ?_)
      have hJ' : ∀ l k, l ≠ 443 → J' l k = I l k := fun l k hh => (hf l k hh).trans (hJ l k hh)
      rw [show n1 - i = (n1 - (i + 1)) + 1 by omega] at hv
      unfold sayL at hv
      rw [q10, q12, nI_clamp (by omega), nI_clamp (by omega)] at hv
      rw [j31, j32, j42]
      by_cases hw : wrt (I 431) (I 432) (I 442) (600 * (1 + l) + s) (600 * (1 + l) + e) = 0
      · rw [if_pos hw]
        rw [if_neg (fun q => q hw)] at hv
        simp only [forall_eq, nI_1]
        exact ih (i + 1) J' hJ' (by omega) (by omega) hv
      · rw [if_neg hw]
        rw [if_pos hw] at hv
        exact h139 i J' hJ' (by omega) hv.symm
theorem m_judges (h : St n L D I0 I) (hl : l < D.nL) (ha : a < D.nA) (hb : b < D.nA) {tl : Nat} (htl : tl < 2) {Q : Int32 → Hp → Prop} (hQ : ∀ I' : Nat → Nat → Int32, St n L D I0 I' → I' 400 49 = I 400 49 → I' 400 17 = I 400 17 → Q (nI (sayF I0 l a b tl)) (fm I' L D)) : wp_X12_judges 400 (nI l) (nI a) (nI b) (nI tl) (fm I L D) Q := by
  have hD := h.1.1
  have n3 := hD.2.2.1
  have nL6 := hD.2.2.2.1
  have vv : ∀ j, j < 14 → vp_in (nI j) 14 := fun j hj => vp_in_nI hj (by decide)
  have v8 : vp_in (8 : Int32) 14 := vv 8 (by decide)
  have v9 : vp_in (9 : Int32) 14 := vv 9 (by decide)
  have v10 : vp_in (10 : Int32) 14 := vv 10 (by decide)
  have v11 : vp_in (11 : Int32) 14 := vv 11 (by decide)
  have v12 : vp_in (12 : Int32) 14 := vv 12 (by decide)
  have v13 : vp_in (13 : Int32) 14 := vv 13 (by decide)
  have c8 : (8 : Int32).toNatClampNeg = 8 := rfl
  have c9 : (9 : Int32).toNatClampNeg = 9 := rfl
  have c10 : (10 : Int32).toNatClampNeg = 10 := rfl
  have c11 : (11 : Int32).toNatClampNeg = 11 := rfl
  have c12 : (12 : Int32).toNatClampNeg = 12 := rfl
  have c13 : (13 : Int32).toNatClampNeg = 13 := rfl
  have s42 : ∀ k, Scr2 D 442 k := fun k => by unfold Scr2 Scr; omega
  have hm : ∀ {J}, St n L D I0 J → inN (J 447 l) 16 := fun {J} hJ => ((hJ.1.2.2.2.2.2.2.1 l).1 hl).2
  unfold wp_X12_judges
  simp only [gK, gI, gL, gR_, g_stI, g_stL, forall_eq, true_and, ad_s, okA_s, okO_s, okN_s, i10, i00, if_true, if_false, reduceCtorEq, Kf_1, Kf_400]
  refine m_bestSlide (by omega) (by omega) (by omega) (rg_row h.1 ha) (rg_row h.1 hb) (hm h) ?_
  simp only [gK, gI, gL, gR_, g_stI, g_stL, forall_eq, true_and, ad_s, okA_s, okO_s, okN_s, i10, i00, if_true, if_false, reduceCtorEq, Kf_1, Kf_400]
  refine m_manyOf (by omega) (by omega) (by omega) (bestF_lt _ _ _) (rg_row h.1 ha) (rg_row h.1 hb) (hm h) ?_
  rw [h.2.row, h.2.row, h.2.mg]
  simp only [gK, gI, gL, gR_, g_stI, g_stL, forall_eq, true_and, ad_s, okA_s, okO_s, okN_s, i10, i00, if_true, if_false, reduceCtorEq, Kf_1, Kf_400, Rf_400_41, Kf_442, v8, c8]
  have hb8 : manyF (row I0 a) (row I0 b) (I0 447 l) (bestF (row I0 a) (row I0 b) (I0 447 l)) = bestM (row I0 a) (row I0 b) (I0 447 l) := rfl
  rw [hb8]
  have h1 : St n L D I0 (up2 I 442 8 (nI (bestM (row I0 a) (row I0 b) (I0 447 l)))) := St_up h (s42 _)
  refine m_longestBy (by omega) (by omega) (by omega) (bestF_lt _ _ _) (rg_row h1.1 ha) (rg_row h1.1 hb) (hm h1) ?_
  rw [h1.2.row, h1.2.row, h1.2.mg]
  have hb9 : longS (row I0 a) (row I0 b) (I0 447 l) (bestF (row I0 a) (row I0 b) (I0 447 l)) = longF (row I0 a) (row I0 b) (I0 447 l) := rfl
  rw [hb9]
  simp only [gK, gI, gL, gR_, g_stI, g_stL, forall_eq, true_and, ad_s, okA_s, okO_s, okN_s, i10, i00, if_true, if_false, reduceCtorEq, Kf_1, Kf_400, Rf_400_41, Kf_442, v9, c9, v10, c10]
  have h2 : St n L D I0 (up2 (up2 (up2 I 442 8 (nI (bestM (row I0 a) (row I0 b) (I0 447 l)))) 442 9 (nI (longF (row I0 a) (row I0 b) (I0 447 l)))) 442 10 (nI (bestF (row I0 a) (row I0 b) (I0 447 l)))) := St_up (St_up h1 (s42 _)) (s42 _)
  refine m_pieces_St h2 hl ha hb (fun J hJ f3 => ?_)
  simp only [gK, gI, gL, gR_, g_stI, g_stL, forall_eq, true_and, ad_s, okA_s, okO_s, okN_s, i10, i00, if_true, if_false, reduceCtorEq, Kf_1, Kf_400, Rf_400_41, Kf_442, v11, c11]
  have h3 : St n L D I0 (up2 J 442 11 (nI (piecesF (row I0 a) (row I0 b) (I0 447 l)))) := St_up hJ (s42 _)
  refine m_lackOf (by omega) (by omega) ?_
  rw [h3.2.row, h3.2.row]
  simp only [gK, gI, gL, gR_, g_stI, g_stL, forall_eq, true_and, ad_s, okA_s, okO_s, okN_s, i10, i00, if_true, if_false, reduceCtorEq, Kf_1, Kf_400, Rf_400_41, Kf_442, v12, c12, v13, c13]
  have h4 : St n L D I0 (up2 (up2 (up2 J 442 11 (nI (piecesF (row I0 a) (row I0 b) (I0 447 l)))) 442 12 (nI (missF (row I0 a) + missF (row I0 b)))) 442 13 (nI tl)) := St_up (St_up h3 (s42 _)) (s42 _)
  have key : ∀ u, 8 ≤ u → u < 14 → up2 (up2 (up2 J 442 11 (nI (piecesF (row I0 a) (row I0 b) (I0 447 l)))) 442 12 (nI (missF (row I0 a) + missF (row I0 b)))) 442 13 (nI tl) 442 u = asksF (row I0 a) (row I0 b) (I0 447 l) tl u := by
    intro u u1 u2
    unfold asksF
    by_cases e8 : u = 8
    · rw [if_pos e8, e8, up2_o (by omega), up2_o (by omega), up2_o (by omega), f3 _ _ (by omega) (by omega), up2_o (by omega), up2_o (by omega), up2_s]
    · rw [if_neg e8]
      by_cases e9 : u = 9
      · rw [if_pos e9, e9, up2_o (by omega), up2_o (by omega), up2_o (by omega), f3 _ _ (by omega) (by omega), up2_o (by omega), up2_s]
      · rw [if_neg e9]
        by_cases e10 : u = 10
        · rw [if_pos e10, e10, up2_o (by omega), up2_o (by omega), up2_o (by omega), f3 _ _ (by omega) (by omega), up2_s]
        · rw [if_neg e10]
          by_cases e11 : u = 11
          · rw [if_pos e11, e11, up2_o (by omega), up2_o (by omega), up2_s]
          · rw [if_neg e11]
            by_cases e12 : u = 12
            · rw [if_pos e12, e12, up2_o (by omega), up2_s]
            · rw [if_neg e12, if_pos (show u = 13 by omega), show u = 13 by omega, up2_s]
  have f400 : ∀ k, up2 (up2 (up2 J 442 11 (nI (piecesF (row I0 a) (row I0 b) (I0 447 l)))) 442 12 (nI (missF (row I0 a) + missF (row I0 b)))) 442 13 (nI tl) 400 k = I 400 k := fun k => by rw [up2_o (by omega), up2_o (by omega), up2_o (by omega), f3 _ _ (by omega) (by omega), up2_o (by omega), up2_o (by omega), up2_o (by omega)]
  generalize up2 (up2 (up2 J 442 11 (nI (piecesF (row I0 a) (row I0 b) (I0 447 l)))) 442 12 (nI (missF (row I0 a) + missF (row I0 b)))) 442 13 (nI tl) = G at h4 key f400 ⊢
  have hT := CX_of h4.1 hl
  obtain ⟨n1, z, g1, g2, g3, g4, g5, g6, g7, g8, g9⟩ := id hT
  have ev : sayL G (G 442) (1 + l) 0 n1 = sayF I0 l a b tl := by
    have r1 := h4.2.row a
    have r2 := h4.2.row b
    have r3 := h4.2.mg l
    rw [sayF_eq (a := a) (b := b) (tl := tl) h4.1 hl g5 g1 (fun w w1 w2 w3 => by rw [r1, r2, r3]; exact key w w1 w2)]
    exact h4.say hl a b tl
  have fr : ∀ J' : Nat → Nat → Int32, (∀ l' k, l' ≠ 443 → J' l' k = G l' k) → Q (nI (sayF I0 l a b tl)) (fm J' L D) := fun J' hJ' => hQ J' (St_scr h4 (fun l' k' hn => hJ' l' k' (fun z => hn (by first | (unfold Scr2 Scr; omega) | (unfold Scr; omega))))) (by rw [hJ' _ _ (by omega)]; exact f400 _) (by rw [hJ' _ _ (by omega)]; exact f400 _)
  have e16 : (16 : Int32) * ((1 : Int32) + nI l) = nI (16 * (1 + l) + 0) := by rw [show (16 : Int32) = nI 16 from rfl, show (1 : Int32) = nI 1 from rfl, nI_add, pk_mul]; rfl
  rw [e16, show (1 : Int32) + nI l = nI (1 + l) from by rw [show (1 : Int32) = nI 1 from rfl, nI_add]]
  refine m_judge_L (by omega) hT g5 g1 (fun i J' hJ' hi hv => ?_) (fun J' hJ' hv => ?_) fuel 0 G (fun _ _ _ => rfl) (by omega) (by have := fuel_ge; omega) ev
  · have q := fr J' hJ'
    simp only [gK, gI, gL, gR_, g_stI, g_stL, forall_eq, true_and, ad_s, okA_s, okO_s, okN_s, i10, i00, if_true, if_false, reduceCtorEq, Kf_1, Kf_400, Rf_400_26, Kf_427, vp_in_nI (show 16 * (1 + l) + i < 128 by omega) (by decide), nI_clamp (show 16 * (1 + l) + i < 2 ^ 31 by omega), hJ' 427 _ (show (427 : Nat) ≠ 443 by omega)]
    rw [hv] at q
    by_cases e : G 427 (16 * (1 + l) + i) = 3
    · rw [if_pos e]; rw [if_pos e] at q; exact q
    · rw [if_neg e]; rw [if_neg e] at q; exact q
  · have q := fr J' hJ'
    rw [hv] at q; exact q
theorem m_saysOf (h : St n L D I0 I) (hl : l < D.nL) (ha : a < D.nA) (hb : b < D.nA) {tl : Nat} (htl : tl < 2) {Q : Int32 → Hp → Prop} (hQ : ∀ I' : Nat → Nat → Int32, St n L D I0 I' → Q (nI (sayF I0 l a b tl)) (fm I' L D)) : wp_X12_saysOf 400 (nI l) (nI a) (nI b) (nI tl) (fm I L D) Q := by
  have n3 := h.1.1.2.2.1
  have nL6 := h.1.1.2.2.2.1
  have sl := sayF_le I0 l a b tl
  unfold wp_X12_saysOf
  simp only [gK, gI, gL, gR_, g_stI, g_stL, forall_eq, true_and, ad_s, okA_s, okO_s, okN_s, i10, i00, if_true, if_false, reduceCtorEq, Kf_1, Kf_400]
  refine m_forgets h (fun J hJ hv => ?_)
  have j53 : ∀ J' : Nat → Nat → Int32, St n L D I0 J' → J' 451 (9600 * tl + 1600 * l + 40 * a + b) = nI (1 + sayF I0 l a b tl) → wp_X12_saysOf_J53 400 (nI (9600 * tl + 1600 * l + 40 * a + b)) Q (fm J' L D) := by
    intro J' hJ' e
    unfold wp_X12_saysOf_J53
    simp only [gK, gI, gL, gR_, g_stI, g_stL, forall_eq, true_and, ad_s, okA_s, okO_s, okN_s, i10, i00, if_true, if_false, reduceCtorEq, Kf_1, Kf_400, Rf_400_50, Kf_451, vp_in_nI (show 9600 * tl + 1600 * l + 40 * a + b < 19200 by omega) (by decide), nI_clamp (show 9600 * tl + 1600 * l + 40 * a + b < 2 ^ 31 by omega), e]
    rw [Nat.add_comm, nI_pred]
    exact hQ J' hJ'
  simp only [gK, gI, gL, gR_, g_stI, g_stL, forall_eq, true_and, ad_s, okA_s, okO_s, okN_s, i10, i00, if_true, if_false, reduceCtorEq, Kf_1, Kf_400, ix9600, Rf_400_50, Kf_451, vp_in_nI (show 9600 * tl + 1600 * l + 40 * a + b < 19200 by omega) (by decide), nI_clamp (show 9600 * tl + 1600 * l + 40 * a + b < 2 ^ 31 by omega)]
  by_cases e0 : J 451 (9600 * tl + 1600 * l + 40 * a + b) = 0
  · rw [if_pos e0]
    refine m_judges hJ hl ha hb htl (fun J' hJ' e1 e2 => ?_)
    simp only [gK, gI, gL, gR_, g_stI, g_stL, forall_eq, true_and, ad_s, okA_s, okO_s, okN_s, i10, i00, if_true, if_false, reduceCtorEq, Kf_1, Kf_400, Kf_451, vp_in_nI (show 9600 * tl + 1600 * l + 40 * a + b < 19200 by omega) (by decide), nI_clamp (show 9600 * tl + 1600 * l + 40 * a + b < 2 ^ 31 by omega)]
    have e3 : (1 : Int32) + nI (sayF I0 l a b tl) = nI (1 + sayF J' l a b tl) := by
      rw [show (1 : Int32) = nI 1 from rfl, nI_add, hJ'.say hl]
    rw [e3]
    refine j53 _ ⟨CV_set51 hJ'.1 (by rw [e1, e2]; exact hv) htl hl ha hb, hJ'.2.trans (Same_V hJ'.2.1 (fun l' k' z => up2_o (fun ⟨e1, e2⟩ => z (by unfold Xs_V; omega))))⟩ ?_
    rw [up2_s, hJ'.say hl]
  · rw [if_neg e0]
    refine j53 J hJ ?_
    rcases (hJ.1.2.2.2.2.2.2.2.2.2.2.2.2.1 hv).1 tl l a b htl (by omega) (by omega) (by omega) with q | ⟨-, -, -, q⟩
    · exact absurd q e0
    · rw [q, hJ.say hl]
end SY
