/-! READING A TEXT: lines of the reference (my own) -/
def FX (I I' : Nat → Nat → Int32) : Prop := ∀ l k, ¬ ((l = 400 ∧ ((20 ≤ k ∧ k ≤ 23) ∨ k = 33 ∨ k = 34 ∨ k = 36 ∨ k = 37 ∨ k = 38)) ∨ ((l = 431 ∨ l = 432) ∧ 4200 ≤ k) ∨ l = 436 ∨ (427 ≤ l ∧ l ≤ 430 ∧ 112 ≤ k)) → I' l k = I l k
theorem FX.refl {I : Nat → Nat → Int32} : FX I I := fun _ _ _ => rfl
theorem FX.trans {I J K : Nat → Nat → Int32} (h : FX I J) (h2 : FX J K) : FX I K := fun l k z => (h2 l k z).trans (h l k z)
theorem FX.tp {Z I J : Nat → Nat → Int32} (h : FX I J) (hz : TPZ Z I) : TPZ Z J := fun l k z => (h l k (by omega)).trans (hz l k z)
theorem FA.fx {I J : Nat → Nat → Int32} (h : FA I J) : FX I J := fun l k z => h l k (by omega)
theorem FM.fx {I J : Nat → Nat → Int32} (h : FM I J) : FX I J := fun l k z => h l k (by omega)
def LN (I : Nat → Nat → Int32) (Ls : List LR) : Prop := ∀ (x : Nat) (q : LR), Ls[x]? = some q → I 427 (112 + x) = nI q.1 ∧ I 428 (112 + x) = nI q.2.1 ∧ I 429 (112 + x) = nI q.2.2.1 ∧ I 430 (112 + x) = nI q.2.2.2
def MTx (KS : Nat → Int32) (PS EP : Nat → Nat) (I : Nat → Nat → Int32) (i : Nat) (C : CD) (Ls : List LR) : Prop := MOK KS PS EP I i C ∧ I 400 34 = 0 ∧ LN I Ls
theorem MOK_cg {KS : Nat → Int32} {PS EP : Nat → Nat} {I J : Nat → Nat → Int32} {i : Nat} {C : CD} (h : MOK KS PS EP I i C) (hc : ∀ l k, l = 400 ∨ l = 431 ∨ l = 432 → J l k = I l k) : MOK KS PS EP J i C := by
  obtain ⟨q1, q2, q3, q4, q5⟩ := h
  refine ⟨?_, ?_, ?_, ?_, fun j e he => ?_⟩
  · rw [hc _ _ (by omega)]; exact q1
  · rw [hc _ _ (by omega), hc _ _ (by omega)]; exact q2
  · rw [hc _ _ (by omega)]; exact q3
  · rw [hc _ _ (by omega)]; exact q4
  · rw [hc _ _ (by omega), hc _ _ (by omega)]; exact q5 j e he
section ML
variable {L : Nat → Nat → Int64} {D : DD} {Z : Nat → Nat → Int32} {c : Nat} {KS : Nat → Int32} {PS EP : Nat → Nat} {lw : Bool}
theorem m_J99 (hM : MX L D Z c KS PS EP lw) {m : Nat} (hm : m < 16) {i : Nat} {C : CD} {I : Nat → Nat → Int32} (hz : TPZ Z I) (h : MOK KS PS EP I i C) (hi : i ≤ c) {Q : Int32 → Hp → Prop} (hok : ∀ j C' I', pEnd KS 59 i C = .inr (j, C') → (∀ l k, ¬ ((l = 400 ∧ 20 ≤ k ∧ k ≤ 23) ∨ (l = 430 ∧ k = 112 + m)) → I' l k = I l k) → MOK KS PS EP I' j C' → I' 430 (112 + m) = nI C'.length → Q 0 (fm I' L D)) (hbad : ∀ k j I', pEnd KS 59 i C = .inl (k, j) → FX I I' → MBAD PS I' k j → Q (-1) (fm I' L D)) : wp_X12_readLine_J99 400 (nI (112 + m)) Q (fm I L D) := by
  have s59 : sgn 59 := by unfold sgn; omega
  unfold wp_X12_readLine_J99
  have h33 : I 400 33 = nI C.length := h.2.2.2.1
  simp only [gK, gI, gL, gR_, g_stI, g_stL, forall_eq, true_and, ad_s, okA_s, okO_s, okN_s, i10, i00, if_true, if_false, reduceCtorEq, Kf_1, Kf_400, Rf_400_29, Kf_430, vp_in_nI (show 112 + m < 128 by omega) (show 128 < 2 ^ 31 by decide), nI_clamp (show 112 + m < 2 ^ 31 by omega), h33]
  generalize hJ : up2 I 430 (112 + m) (nI C.length) = J
  have f : ∀ l k, ¬ (l = 430 ∧ k = 112 + m) → J l k = I l k := fun l k z => by rw [← hJ, up2_o z]
  have hJ' : MOK KS PS EP J i C := MOK_cg h (fun l k z => f l k (by omega))
  have e30 : J 430 (112 + m) = nI C.length := by rw [← hJ, up2_s]
  have FJ : FX I J := fun l k z => f l k (by omega)
  unfold pEnd at hok hbad
  simp only [gK, gI, gL, gR_, g_stI, g_stL, forall_eq, true_and, ad_s, okA_s, okO_s, okN_s, i10, i00, if_true, if_false, reduceCtorEq, Kf_1, Kf_400, m_sg hJ'.2.1 (x := 59) rfl s59]
  by_cases e : KS i = 59
  · rw [if_pos e] at hok hbad
    simp only [if_pos e, i10, if_false]
    refine m_next hM (FJ.tp hz) hJ' (k_lt hM.2.1 hi e (by decide)) (fun J2 f2 h2 g2 => hok (i + 1) C J2 rfl (fun l k z => (g2 l k (by omega)).trans (f l k (by omega))) h2 ?_)
    rw [g2 _ _ (by omega)]; exact e30
  · rw [if_neg e] at hok hbad
    simp only [if_neg e, i00, if_true]
    exact m_fails (k := 1) hJ'.1 (fun I' g1 g2 => hbad 1 i I' rfl (FJ.trans g1.fx) g2)
theorem mkL_inl {r : PR} {s k j : Nat} (h : r = .inl (k, j)) : mkL r s = .inl (k, j) := by rw [h]; rfl
theorem mkL_inr {r : PR} {s j : Nat} {C : CD} (h : r = .inr (j, C)) : mkL r s = .inr (j, C, s) := by rw [h]; rfl
set_option maxHeartbeats 1000000 in
theorem m_readLine (hM : MX L D Z c KS PS EP lw) {i : Nat} {C : CD} {Ls : List LR} {I : Nat → Nat → Int32} (hz : TPZ Z I) (h : MTx KS PS EP I i C Ls) (hh : hdk lw (KS i)) (hi : i ≤ c) (hC : C.length ≤ i) (hm : Ls.length < 16) {Q : Int32 → Hp → Prop} (hok : ∀ j C2 s I', pLine lw KS i C = .inr (j, C2, s) → FX I I' → MTx KS PS EP I' j C2 (Ls ++ [((KS i).toNatClampNeg - 260, C.length, s, C2.length)]) → Q 0 (fm I' L D)) (hbad : ∀ k j I', pLine lw KS i C = .inl (k, j) → FX I I' → MBAD PS I' k j → Q (-1) (fm I' L D)) : wp_X12_readLine 400 (nI (112 + Ls.length)) (fm I L D) Q := by
  have c6 := hM.1
  obtain ⟨hK, h34, hLs⟩ := h
  obtain ⟨so, so5, eso, so3, so3'⟩ := hdk_so hh
  have hic : i < c := k_lt hM.2.1 hi eso (nI_ne0 (by omega) (by omega))
  have enat : (KS i).toNatClampNeg - 260 = so := by rw [eso, nI_clamp (by omega)]; omega
  rw [enat] at hok
  have hpi : piW so = so + 4 := by
    have : so = 0 ∨ so = 1 ∨ so = 2 ∨ so = 3 ∨ so = 4 := by omega
    rcases this with e | e | e | e | e <;> subst e <;> rfl
  have v23 : I 400 23 = nI so := ((tok_word hK.2.1 (w0 := so) (by omega)).mpr (by rw [hpi, eso, show 256 + (so + 4) = 260 + so by omega])).2
  have h33 : I 400 33 = nI C.length := hK.2.2.2.1
  have o33 : ∀ l k v, l ≠ 400 → ∀ J : Nat → Nat → Int32, up2 J l k v 400 33 = J 400 33 := fun l k v z J => up2_o (by omega)
  unfold wp_X12_readLine
  simp only [gK, gI, gL, gR_, g_stI, g_stL, forall_eq, true_and, ad_s, okA_s, okO_s, okN_s, i10, i00, if_true, if_false, reduceCtorEq, Kf_1, Kf_400, Rf_400_26, Rf_400_27, Kf_427, Kf_428, vp_in_nI (show 112 + Ls.length < 128 by omega) (show 128 < 2 ^ 31 by decide), nI_clamp (show 112 + Ls.length < 2 ^ 31 by omega), v23, o33 427 _ _ (by decide), h33]
  generalize hJ : up2 (up2 I 427 (112 + Ls.length) (nI so)) 428 (112 + Ls.length) (nI C.length) = J
  have f : ∀ l k, ¬ ((l = 427 ∨ l = 428) ∧ k = 112 + Ls.length) → J l k = I l k := fun l k z => by rw [← hJ, up2_o (by omega), up2_o (by omega)]
  have FJ : FX I J := fun l k z => f l k (by omega)
  have K0 : MOK KS PS EP J i C := MOK_cg hK (fun l k z => f l k (by omega))
  have e27 : J 427 (112 + Ls.length) = nI so := by rw [← hJ, up2_o (by omega), up2_s]
  have e28 : J 428 (112 + Ls.length) = nI C.length := by rw [← hJ, up2_s]
  refine m_next hM (FJ.tp hz) K0 hic (fun J1 f1 h1 g1 => ?_)
  have F1 := FJ.trans f1.fx
  have e32 : ∀ J', TPZ Z J' → J' 400 32 = if lw = true then 1 else 0 := fun J' z => (z 400 32 (by omega)).trans hM.2.2.2
  have j34 : J1 400 34 = 0 := by rw [g1 _ _ (by omega), f _ _ (by omega)]; exact h34
  -- the last steps, out of a heap where the claim's place stands
  have last : ∀ (s : Nat) (J2 : Nat → Nat → Int32) (j : Nat) (C1 : CD), FX I J2 → (∀ l k, 427 ≤ l → l ≤ 429 → ¬ (l = 429 ∧ k = 112 + Ls.length) → J2 l k = J l k) → (∀ k, J2 430 k = I 430 k) → J2 429 (112 + Ls.length) = nI s → J2 400 34 = 0 → MOK KS PS EP J2 j C1 → j ≤ c → (∀ k j', pEnd KS 59 j C1 = .inl (k, j') → pLine lw KS i C = .inl (k, j')) → (∀ j' C2, pEnd KS 59 j C1 = .inr (j', C2) → pLine lw KS i C = .inr (j', C2, s)) → wp_X12_readLine_J99 400 (nI (112 + Ls.length)) Q (fm J2 L D) := by
    intro s J2 j C1 FJ2 k2 k30 e29 q34 M2 hj hb ho
    refine m_J99 hM hm (FJ2.tp hz) M2 hj (fun j' C2 I' e f3 h3 e30 => hok j' C2 s I' (ho j' C2 e) (FJ2.trans (fun l k z => f3 l k (by omega))) ⟨h3, (f3 _ _ (by omega)).trans q34, fun x q hq => ?_⟩) (fun k j' I' e f3 b3 => hbad k j' I' (hb k j' e) (FJ2.trans f3) b3)
    rcases get_appL hq with ⟨z1, z2⟩ | ⟨z1, z2⟩
    · obtain ⟨w1, w2, w3, w4⟩ := hLs x q z2
      refine ⟨?_, ?_, ?_, ?_⟩
      · rw [f3 _ _ (by omega), k2 _ _ (by omega) (by omega) (by omega), f _ _ (by omega)]; exact w1
      · rw [f3 _ _ (by omega), k2 _ _ (by omega) (by omega) (by omega), f _ _ (by omega)]; exact w2
      · rw [f3 _ _ (by omega), k2 _ _ (by omega) (by omega) (by omega), f _ _ (by omega)]; exact w3
      · rw [f3 _ _ (by omega), k30]; exact w4
    · subst z2
      rw [z1]
      refine ⟨?_, ?_, ?_, e30⟩
      · rw [f3 _ _ (by omega), k2 _ _ (by omega) (by omega) (by omega)]; exact e27
      · rw [f3 _ _ (by omega), k2 _ _ (by omega) (by omega) (by omega)]; exact e28
      · rw [f3 _ _ (by omega)]; exact e29
  -- where the claim begins
  have mid : ∀ (Jb : Nat → Nat → Int32) (j : Nat) (C1 : CD), FX I Jb → (∀ l k, 427 ≤ l → l ≤ 430 → Jb l k = J l k) → Jb 400 34 = 0 → MOK KS PS EP Jb j C1 → j ≤ c → C1.length + 1 ≤ j → (lw = true → pLine lw KS i C = if KS j = 259 then mkL (bd (pEith KS (pClaim lw KS 8) (j + 1) C1) (pEnd KS 59)) C1.length else mkL (pEnd KS 59 j C1) C1.length) → (lw = false → pLine lw KS i C = mkL (bd (pEith KS (pClaim lw KS 8) j C1) (pEnd KS 59)) C1.length) → wp_X12_readLine_J41 400 (nI (112 + Ls.length)) Q (fm Jb L D) := by
    intro Jb j C1 Fb kb q34 Mb hj hC1 hpt hpf
    have b33 : Jb 400 33 = nI C1.length := Mb.2.2.2.1
    have b32 := e32 Jb (Fb.tp hz)
    have b32' : ∀ v, up2 Jb 429 (112 + Ls.length) v 400 32 = if lw = true then 1 else 0 := fun v => (up2_o (by omega)).trans b32
    unfold wp_X12_readLine_J41
    simp only [gK, gI, gL, gR_, g_stI, g_stL, forall_eq, true_and, ad_s, okA_s, okO_s, okN_s, i10, i00, if_true, if_false, reduceCtorEq, Kf_1, Kf_400, Rf_400_28, Kf_429, vp_in_nI (show 112 + Ls.length < 128 by omega) (show 128 < 2 ^ 31 by decide), nI_clamp (show 112 + Ls.length < 2 ^ 31 by omega), b33, b32']
    generalize hJ2 : up2 Jb 429 (112 + Ls.length) (nI C1.length) = J2
    have g : ∀ l k, ¬ (l = 429 ∧ k = 112 + Ls.length) → J2 l k = Jb l k := fun l k z => by rw [← hJ2, up2_o z]
    have FJ2 : FX I J2 := Fb.trans (fun l k z => g l k (by omega))
    have M2 : MOK KS PS EP J2 j C1 := MOK_cg Mb (fun l k z => g l k (by omega))
    have e29 : J2 429 (112 + Ls.length) = nI C1.length := by rw [← hJ2, up2_s]
    have k2 : ∀ l k, 427 ≤ l → l ≤ 429 → ¬ (l = 429 ∧ k = 112 + Ls.length) → J2 l k = J l k := fun l k a1 a2 a3 => (g l k a3).trans (kb l k a1 (by omega))
    have k30 : ∀ k, J2 430 k = I 430 k := fun k => by rw [g _ _ (by omega), kb _ _ (by omega) (by omega), f _ _ (by omega)]
    have q34' : J2 400 34 = 0 := (g _ _ (by omega)).trans q34
    have s32 := e32 J2 (FJ2.tp hz)
    have any : ∀ (J3 : Nat → Nat → Int32) (j3 : Nat), FX I J3 → (∀ l k, 427 ≤ l → l ≤ 430 → J3 l k = J2 l k) → J3 400 34 = 0 → MOK KS PS EP J3 j3 C1 → j3 ≤ c → C1.length + 1 ≤ j3 → pLine lw KS i C = mkL (bd (pEith KS (pClaim lw KS 8) j3 C1) (pEnd KS 59)) C1.length → wp_X12_readLine_J85 400 (nI (112 + Ls.length)) 1 Q (fm J3 L D) := by
      intro J3 j3 F3 k3 r34 M3 hj3 hC3 hp
      unfold wp_X12_readLine_J85
      simp only [i10, if_false, gK, gI, gL, gR_, g_stI, g_stL, forall_eq, true_and, ad_s, okA_s, okO_s, okN_s, i10, i00, if_true, if_false, reduceCtorEq, Kf_1, Kf_400]
      refine m_readAny hM (F3.tp hz) M3 r34 hj3 hC3 (fun j4 C4 J4 e4 f4 h4 s34 => ?_) (fun k j4 J4 e4 f4 b4 => ?_)
      · simp only [show ¬ (0 : Int32) = -1 by decide, if_false]
        obtain ⟨a1, a2, a3⟩ := (Inc_eith hM.2.1 (Inc_claim hM.2.1 (lw := lw) 8) j3 C1 hj3).1 j4 C4 e4
        rw [e4] at hp
        refine last C1.length J4 j4 C4 (F3.trans f4.fx) (fun l k a1 a2 a3 => ?_) (fun k => ?_) ?_ s34 h4 a2 (fun k j' e => by rw [hp]; exact mkL_inl e) (fun j' C2 e => by rw [hp]; exact mkL_inr e)
        · rw [f4 _ _ (by omega), k3 _ _ (by omega) (by omega)]; exact k2 l k a1 a2 a3
        · rw [f4 _ _ (by omega), k3 _ _ (by omega) (by omega)]; exact k30 k
        · rw [f4 _ _ (by omega), k3 _ _ (by omega) (by omega)]; exact e29
      · simp only [if_true]
        refine hbad k j4 J4 ?_ (F3.trans f4.fx) b4
        rw [hp, e4]; rfl
    unfold wp_X12_readLine_J63
    cases hlw : lw with
    | false =>
      subst hlw
      simp only [Bool.false_eq_true, if_false, i00, if_true, gK, gI, gL, gR_, g_stI, g_stL, forall_eq, true_and, ad_s, okA_s, okO_s, okN_s, i10, i00, if_true, if_false, reduceCtorEq, Kf_1, Kf_400, s32]
      exact any J2 j FJ2 (fun _ _ _ _ => rfl) q34' M2 hj hC1 (hpf rfl)
    | true =>
      subst hlw
      have hpt := hpt rfl
      simp only [if_true, i10, if_false, gK, gI, gL, gR_, g_stI, g_stL, forall_eq, true_and, ad_s, okA_s, okO_s, okN_s, i10, i00, if_true, if_false, reduceCtorEq, Kf_1, Kf_400, s32, m_wd M2.2.1 (w := 5) (x := 5) (y := 259) rfl (by decide) rfl]
      by_cases ew : KS j = 259
      · rw [if_pos ew] at hpt
        simp only [if_pos ew, i10, if_false]
        have hjc := k_lt hM.2.1 hj ew (by decide)
        refine m_next hM (FJ2.tp hz) M2 hjc (fun J3 f3 h3 g3 => ?_)
        exact any J3 (j + 1) (FJ2.trans f3.fx) (fun l k a1 a2 => g3 l k (by omega)) ((g3 _ _ (by omega)).trans q34') h3 hjc (by omega) hpt
      · rw [if_neg ew] at hpt
        simp only [if_neg ew, i00, if_true]
        unfold wp_X12_readLine_J85
        simp only [i00, if_true]
        exact last C1.length J2 j C1 FJ2 k2 k30 e29 q34' M2 hj (fun k j' e => by rw [hpt]; exact mkL_inl e) (fun j' C2 e => by rw [hpt]; exact mkL_inr e)
  have s32 := e32 J1 (F1.tp hz)
  simp only [gK, gI, gL, gR_, g_stI, g_stL, forall_eq, true_and, ad_s, okA_s, okO_s, okN_s, i10, i00, if_true, if_false, reduceCtorEq, Kf_1, Kf_400, s32]
  cases hlw : lw with
  | false =>
    subst hlw
    simp only [Bool.false_eq_true, if_false, i00, if_true]
    refine mid J1 (i + 1) C F1 (fun l k a1 a2 => g1 l k (by omega)) j34 h1 hic (by omega) (fun z => by cases z) (fun _ => ?_)
    unfold pLine
    rw [if_neg (by decide)]
  | true =>
    subst hlw
    simp only [if_true, i10, if_false]
    have hpl : pLine true KS i C = (match pSum true KS (i + 1) C with
        | .inl e => .inl e
        | .inr q => if KS q.1 = 259 then mkL (bd (pEith KS (pClaim true KS 8) (q.1 + 1) q.2) (pEnd KS 59)) q.2.length else mkL (pEnd KS 59 q.1 q.2) q.2.length) := by
      unfold pLine
      rw [if_pos rfl]
      try (cases pSum true KS (i + 1) C <;> rfl)
    refine m_readSum hM (i + 1) C J1 _ (F1.tp hz) h1 hic (by omega) (fun j C1 J2 e f2 h2 => ?_) (fun k j J2 e f2 b2 => ?_)
    · simp only [show ¬ (0 : Int32) = -1 by decide, if_false]
      obtain ⟨a1, a2, a3⟩ := (Inc_sum hM.2.1 (lw := true) (i + 1) C hic).1 j C1 e
      rw [e] at hpl
      exact mid J2 j C1 (F1.trans f2.fx) (fun l k a1 a2 => (f2 l k (by omega)).trans (g1 l k (by omega))) ((f2 _ _ (by omega)).trans j34) h2 a2 (by omega) (fun _ => hpl) (fun z => by cases z)
    · simp only [if_true]
      rw [e] at hpl
      exact hbad k j J2 hpl (F1.trans f2.fx) b2
theorem m_isBegin (hM : MX L D Z c KS PS EP lw) {I : Nat → Nat → Int32} (hz : TPZ Z I) {i : Nat} (h : tokR (KS i) (I 400 22) (I 400 23)) {Q : Int32 → Hp → Prop} (h1 : hdk lw (KS i) → Q 1 (fm I L D)) (h0 : ¬ hdk lw (KS i) → Q 0 (fm I L D)) : wp_X12_isBegin 400 (fm I L D) Q := by
  have e32 : I 400 32 = if lw = true then 1 else 0 := (hz 400 32 (by omega)).trans hM.2.2.2
  have w0 := tok_word h (w0 := 0) (by decide)
  have w1 := tok_word h (w0 := 1) (by decide)
  have w2 := tok_word h (w0 := 2) (by decide)
  have w3 := tok_word h (w0 := 3) (by decide)
  have w4 := tok_word h (w0 := 4) (by decide)
  have h23 : I 400 22 = 2 → ∃ w, w < 23 ∧ I 400 23 = nI w := by
    intro z
    rcases h with ⟨-, q⟩ | ⟨-, q⟩ | ⟨w, hw, -, q, -⟩ | ⟨n, -, q, -⟩ | ⟨s, -, q, -⟩
    · rw [q] at z; exact absurd z (by decide)
    · rw [q] at z; exact absurd z (by decide)
    · exact ⟨w, hw, q⟩
    · rw [q] at z; exact absurd z (by decide)
    · rw [q] at z; exact absurd z (by decide)
  obtain ⟨tk, htk⟩ : ∃ tk, I 400 22 = tk := ⟨_, rfl⟩
  obtain ⟨vv, hvv⟩ : ∃ vv, I 400 23 = vv := ⟨_, rfl⟩
  rw [htk, hvv] at w0 w1 w2 w3 w4 h23
  have hd : hdk lw (KS i) ↔ tk = 2 ∧ ((lw = true ∧ ¬ (2 : Int32) < vv) ∨ (lw = false ∧ (vv = 3 ∨ vv = 4))) := by
    constructor
    · intro z
      obtain ⟨so, so5, eso, so3, so3'⟩ := hdk_so z
      have : so = 0 ∨ so = 1 ∨ so = 2 ∨ so = 3 ∨ so = 4 := by omega
      rcases this with e | e | e | e | e <;> subst e
      · obtain ⟨q1, q2⟩ := w0.mpr eso
        refine ⟨q1, Or.inl ⟨by cases lw; have := so3' rfl; omega; rfl, by rw [q2]; decide⟩⟩
      · obtain ⟨q1, q2⟩ := w1.mpr eso
        refine ⟨q1, Or.inl ⟨by cases lw; have := so3' rfl; omega; rfl, by rw [q2]; decide⟩⟩
      · obtain ⟨q1, q2⟩ := w2.mpr eso
        refine ⟨q1, Or.inl ⟨by cases lw; have := so3' rfl; omega; rfl, by rw [q2]; decide⟩⟩
      · obtain ⟨q1, q2⟩ := w3.mpr eso
        refine ⟨q1, Or.inr ⟨by cases lw; rfl; have := so3 rfl; omega, Or.inl q2⟩⟩
      · obtain ⟨q1, q2⟩ := w4.mpr eso
        refine ⟨q1, Or.inr ⟨by cases lw; rfl; have := so3 rfl; omega, Or.inr q2⟩⟩
    · rintro ⟨q1, q2⟩
      obtain ⟨w, hw, ev⟩ := h23 q1
      unfold hdk
      rcases q2 with ⟨l1, q2⟩ | ⟨l1, q2 | q2⟩
      · refine Or.inl ⟨l1, ?_⟩
        have hw3 : w ≤ 2 := by
          rw [ev] at q2
          rcases Nat.lt_or_ge 2 w with z | z
          · exact absurd (nI_lt (a := 2) z (by omega)) q2
          · exact z
        have : w = 0 ∨ w = 1 ∨ w = 2 := by omega
        rcases this with e | e | e <;> subst e
        · have := w0.mp ⟨q1, ev⟩; rw [this]; decide
        · have := w1.mp ⟨q1, ev⟩; rw [this]; decide
        · have := w2.mp ⟨q1, ev⟩; rw [this]; decide
      · exact Or.inr ⟨l1, Or.inl (w3.mp ⟨q1, q2⟩)⟩
      · exact Or.inr ⟨l1, Or.inr (w4.mp ⟨q1, q2⟩)⟩
  rw [hd] at h1 h0
  unfold wp_X12_isBegin
  simp only [gK, gI, gL, gR_, g_stI, g_stL, forall_eq, true_and, ad_s, okA_s, okO_s, okN_s, i10, i00, if_true, if_false, reduceCtorEq, Kf_1, Kf_400, e32, htk, hvv]
  by_cases t2 : tk = 2
  · rw [if_pos t2]
    cases lw with
    | false =>
      simp only [Bool.false_eq_true, if_false, i00, if_true, false_and, false_or, true_and] at h1 h0 ⊢
      by_cases q1 : vv = 3
      · rw [if_pos q1]; exact h1 ⟨t2, Or.inl q1⟩
      · rw [if_neg q1]
        by_cases q2 : vv = 4
        · rw [if_pos q2]; exact h1 ⟨t2, Or.inr q2⟩
        · rw [if_neg q2]; exact h0 (fun z => z.2.elim q1 q2)
    | true =>
      simp only [if_true, i10, if_false, true_and, reduceCtorEq, false_and, or_false] at h1 h0 ⊢
      by_cases q1 : (2 : Int32) < vv
      · rw [if_pos q1]; exact h0 (fun z => z.2 q1)
      · rw [if_neg q1]; exact h1 ⟨t2, q1⟩
  · rw [if_neg t2]; exact h0 (fun z => t2 z.1)
theorem tok_0 {k t v : Int32} (h : tokR k t v) : t = 0 ↔ k = 0 := by
  rcases h with ⟨rfl, rfl⟩ | ⟨rfl, rfl⟩ | ⟨w, hw, rfl, rfl, rfl⟩ | ⟨n, hn, rfl, rfl, rfl⟩ | ⟨s', hs', rfl, rfl, rfl⟩
  · exact ⟨fun _ => rfl, fun _ => rfl⟩
  · exact ⟨fun z => absurd z (by decide), fun z => absurd z (by decide)⟩
  · have := piW_lt w hw
    exact ⟨fun z => absurd z (by decide), fun z => absurd z (nI_ne0 (by omega) (by omega))⟩
  · exact ⟨fun z => absurd z (by decide), fun z => absurd (num_neg hn) (by rw [z]; decide)⟩
  · have := sgn_b hs'
    exact ⟨fun z => absurd z (by decide), fun z => absurd z (nI_ne0 (by omega) (by omega))⟩
theorem hdk_0 : ¬ hdk lw 0 := by
  unfold hdk
  rintro (⟨-, z, -⟩ | ⟨-, z | z⟩) <;> exact absurd z (by decide)
/-- a line goes on, and has room -/
theorem Inc_line (hc : KS c = 0) {i j s : Nat} {C C2 : CD} (hi : i < c) (h : pLine lw KS i C = .inr (j, C2, s)) : i < j ∧ j ≤ c ∧ C2.length + i + 1 ≤ C.length + j := by
  have hE := Inc_bd (Inc_eith hc (Inc_claim hc (lw := lw) 8)) (Inz_end hc (x := 59) (by decide))
  unfold pLine at h
  cases lw with
  | false =>
    rw [if_neg (by decide)] at h
    cases hr : bd (pEith KS (pClaim false KS 8) (i + 1) C) (pEnd KS 59) with
    | inl e => rw [hr] at h; cases h
    | inr q =>
      obtain ⟨j', C'⟩ := q
      rw [hr] at h
      cases h
      have := (hE (i + 1) C hi).1 _ _ hr
      dsimp only
      omega
  | true =>
    rw [if_pos rfl] at h
    cases hs : pSum true KS (i + 1) C with
    | inl e => rw [hs] at h; cases h
    | inr q =>
      obtain ⟨j1, C1⟩ := q
      rw [hs] at h
      obtain ⟨a1, a2, a3⟩ := (Inc_sum hc (lw := true) (i + 1) C hi).1 j1 C1 hs
      have h : (if KS j1 = 259 then mkL (bd (pEith KS (pClaim true KS 8) (j1 + 1) C1) (pEnd KS 59)) C1.length else mkL (pEnd KS 59 j1 C1) C1.length) = .inr (j, C2, s) := h
      by_cases ew : KS j1 = 259
      · rw [if_pos ew] at h
        have hj := k_lt hc a2 ew (by decide)
        cases hr : bd (pEith KS (pClaim true KS 8) (j1 + 1) C1) (pEnd KS 59) with
        | inl e => rw [hr] at h; cases h
        | inr q =>
          obtain ⟨j', C'⟩ := q
          rw [hr] at h
          cases h
          have := (hE (j1 + 1) C1 hj).1 _ _ hr
          dsimp only
          omega
      · rw [if_neg ew] at h
        cases hr : pEnd KS 59 j1 C1 with
        | inl e => rw [hr] at h; cases h
        | inr q =>
          obtain ⟨j', C'⟩ := q
          rw [hr] at h
          cases h
          have := (Inz_end hc (x := 59) (by decide) j1 C1 a2).1 _ _ hr
          dsimp only
          omega
theorem m_textL (hM : MX L D Z c KS PS EP lw) {Q : Int32 → Hp → Prop} : ∀ (F i : Nat) (C : CD) (Ls : List LR) (I : Nat → Nat → Int32) (N : Nat), TPZ Z I → MTx KS PS EP I i C Ls → i ≤ c → C.length ≤ i → Ls.length ≤ 16 → 17 < F + Ls.length → 17 < N + Ls.length → (∀ C' Ls' I', pText lw KS F i C Ls = .inr (C', Ls') → FX I I' → (∃ j, MTx KS PS EP I' j C' Ls' ∧ j ≤ c ∧ C'.length ≤ j) → Ls'.length ≤ 16 → Q (nI Ls'.length) (fm I' L D)) → (∀ k j I', pText lw KS F i C Ls = .inl (k, j) → FX I I' → MBAD PS I' k j → Q (-1) (fm I' L D)) → wp_X12_readText_L21 400 (fun (h20 : Hp) => ((hpK h20 400).1 = 20 + 10) ∧ (wp_X12_fails 400 (3 : Int32) h20 (fun (z23 : Int32) (h22 : Hp) => Q z23 h22))) (fun (h24 : Hp) => Q (-1 : Int32) h24) (fun (y26 : Int32) (h25 : Hp) => ((hpK h25 400).1 = 20 + 10) ∧ ((if (hpI h25 400 22) = 0 then (Q y26 h25) else (wp_X12_fails 400 (1 : Int32) h25 (fun (z30 : Int32) (h29 : Hp) => Q z30 h29))))) Q N (nI Ls.length) (fm I L D) := by
  intro F
  induction F with
  | zero => intro i C Ls I N _ _ _ _ h1 h2; omega
  | succ F ih =>
    intro i C Ls I N hz h hi hC h16 hF hN hok hbad
    have c6 := hM.1
    obtain ⟨N, rfl⟩ : ∃ N', N = N' + 1 := ⟨N - 1, by omega⟩
    unfold pText at hok hbad
    have hT := h.1.2.1
    rw [wp_X12_readText_L21]
    refine ⟨rfl, ?_⟩
    refine m_isBegin hM hz hT (fun hh => ?_) (fun hh => ?_)
    · have k0 : ¬ KS i = 0 := fun z => hdk_0 (lw := lw) (by rw [z] at hh; exact hh)
      rw [if_neg k0] at hok hbad
      have hic : i < c := by
        rcases Nat.lt_or_ge i c with q | q
        · exact q
        · have : i = c := by omega
          rw [this] at k0; exact absurd hM.2.1 k0
      unfold pLine0 at hok hbad
      rw [if_pos hh] at hok hbad
      rw [if_neg (by decide)]
      by_cases full : Ls.length = 16
      · rw [if_pos full] at hok hbad
        rw [if_pos (show nI Ls.length = (16 : Int32) by rw [full]; rfl)]
        refine ⟨rfl, ?_⟩
        exact m_fails (k := 3) h.1.1 (fun I' g1 g2 => hbad 3 i I' rfl g1.fx g2)
      · rw [if_neg full] at hok hbad
        rw [if_neg (show ¬ nI Ls.length = (16 : Int32) from fun z => full ((nI_eq (b := 16) (by omega) (by decide)).mp z))]
        refine ⟨rfl, ?_⟩
        rw [show (112 : Int32) + nI Ls.length = nI (112 + Ls.length) by rw [show (112 : Int32) = nI 112 from rfl, nI_add]]
        refine m_readLine hM hz h hh hi hC (by omega) (fun j C2 s J e f1 h1 => ?_) (fun k j J e f1 b1 => ?_)
        · rw [if_neg (by decide)]
          rw [e] at hok hbad
          obtain ⟨a1, a2, a3⟩ := Inc_line hM.2.1 hic e
          intro v hv
          subst hv
          have hl : (Ls ++ [((KS i).toNatClampNeg - 260, C.length, s, C2.length)]).length = Ls.length + 1 := by simp
          have := ih j C2 (Ls ++ [((KS i).toNatClampNeg - 260, C.length, s, C2.length)]) J N (f1.tp hz) h1 a2 (by omega) (by omega) (by omega) (by omega) (fun C' Ls' I' e2 f2 h2 n2 => hok C' Ls' I' e2 (f1.trans f2) h2 n2) (fun k j I' e2 f2 b2 => hbad k j I' e2 (f1.trans f2) b2)
          rw [hl] at this
          rw [nI_1]
          exact this
        · rw [if_pos rfl]
          rw [e] at hbad
          exact hbad k j J rfl f1 b1
    · rw [if_pos rfl]
      refine ⟨rfl, ?_⟩
      have t0 := tok_0 hT
      by_cases k0 : KS i = 0
      · rw [if_pos k0] at hok hbad
        rw [if_pos (show hpI (fm I L D) 400 22 = 0 from t0.mpr k0)]
        exact hok C Ls I rfl FX.refl ⟨i, h, hi, hC⟩ h16
      · rw [if_neg k0] at hok hbad
        rw [if_neg (show ¬ hpI (fm I L D) 400 22 = 0 from fun z => k0 (t0.mp z))]
        unfold pLine0 at hok hbad
        rw [if_neg hh] at hok hbad
        exact m_fails (k := 1) h.1.1 (fun I' g1 g2 => hbad 1 i I' rfl g1.fx g2)
end ML
