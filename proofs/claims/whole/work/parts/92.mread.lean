/-! READING A TEXT: sums and comparisons of the reference (my own) -/
section MQ2
variable {L : Nat → Nat → Int64} {D : DD} {Z : Nat → Nat → Int32} {c : Nat} {KS : Nat → Int32} {PS EP : Nat → Nat} {lw : Bool}
theorem m_sg {I : Nat → Nat → Int32} {i : Nat} (h : tokR (KS i) (I 400 22) (I 400 23)) {s : Nat} {x : Int32} (hx : nI s = x) (hs : sgn s) {Q : Int32 → Hp → Prop} : wp_X12_isSign 400 x (fm I L D) Q ↔ Q (if KS i = x then 1 else 0) (fm I L D) := by
  subst hx; exact m_isSign h hs
theorem m_wd {I : Nat → Nat → Int32} {i : Nat} (h : tokR (KS i) (I 400 22) (I 400 23)) {w : Nat} {x y : Int32} (hx : nI w = x) (hw : w < 23) (hy : nI (256 + piW w) = y) {Q : Int32 → Hp → Prop} : wp_X12_isWord 400 x (fm I L D) Q ↔ Q (if KS i = y then 1 else 0) (fm I L D) := by
  subst hx; subst hy; exact m_isWord h hw
/-- a sign is passed, something is read, a code comes behind it -/
theorem m_op (hM : MX L D Z c KS PS EP lw) {p : Nat → CD → PR} {i : Nat} {C : CD} {I1 : Nat → Nat → Int32} {o : Int32} (hp : Inc c p) {j : Nat} {C1 : CD} (hi : i < c) (hC : C.length + 1 ≤ i) (he : p (i + 1) C = .inr (j, C1)) (h : MOK KS PS EP I1 j C1) {Q : Hp → Prop} (hQ : ∀ I2, FM I1 I2 → MOK KS PS EP I2 j (C1 ++ [(o, 0)]) → i < j → j ≤ c → (C1 ++ [((o, 0) : Int32 × Int32)]).length + 1 ≤ j → Q (fm I2 L D)) : wp_X12_emits 400 o 0 (fm I1 L D) Q := by
  have c6 := hM.1
  obtain ⟨a1, a2, a3⟩ := (hp (i + 1) C (by omega)).1 j C1 he
  refine m_emits h (by omega) (o, 0) (fun I2 g1 g2 _ => hQ I2 g1 g2 (by omega) a2 ?_)
  rw [List.length_append]
  show C1.length + 1 + 1 ≤ j
  omega
theorem m_prodL (hM : MX L D Z c KS PS EP lw) {Q : Int32 → Hp → Prop} : ∀ (N F i : Nat) (C : CD) (I : Nat → Nat → Int32), TPZ Z I → MOK KS PS EP I i C → i ≤ c → C.length + 1 ≤ i → c < N + i → c < F + i → (∀ j C' I', pProdL lw KS F i C = .inr (j, C') → FM I I' → MOK KS PS EP I' j C' → Q 0 (fm I' L D)) → (∀ k j I', pProdL lw KS F i C = .inl (k, j) → FM I I' → MBAD PS I' k j → Q (-1) (fm I' L D)) → wp_X12_readProduct_L10 400 (fun (h36 : Hp) => ((hpK h36 400).1 = 20 + 10) ∧ (wp_X12_fails 400 (1 : Int32) h36 (fun (z39 : Int32) (h38 : Hp) => Q z39 h38))) (fun (h40 : Hp) => ((hpK h40 400).1 = 20 + 10) ∧ (wp_X12_fails 400 (2 : Int32) h40 (fun (z43 : Int32) (h42 : Hp) => Q z43 h42))) (fun (h44 : Hp) => Q (-1 : Int32) h44) (fun (h45 : Hp) => Q (0 : Int32) h45) Q N (fm I L D) := by
  intro N
  induction N with
  | zero => intro F i C I _ _ h1 h2 h3; omega
  | succ N ih =>
    intro F i C I hz h hi hC hN hF hok hbad
    have c6 := hM.1
    have hT := h.2.1
    have s42 : sgn 42 := by unfold sgn; omega
    have s47 : sgn 47 := by unfold sgn; omega
    obtain ⟨F, rfl⟩ : ∃ F', F = F' + 1 := ⟨F - 1, by omega⟩
    unfold pProdL at hok hbad
    -- the unit behind the sign, then its code
    have unit : ∀ (J : Nat → Nat → Int32) (o : Int32), FM I J → MOK KS PS EP J (i + 1) C → i < c → (∀ j C' I', bd (pUnit lw KS (i + 1) C) (fun j D => pProdL lw KS F j (D ++ [(o, 0)])) = .inr (j, C') → FM I I' → MOK KS PS EP I' j C' → Q 0 (fm I' L D)) → (∀ k j I', bd (pUnit lw KS (i + 1) C) (fun j D => pProdL lw KS F j (D ++ [(o, 0)])) = .inl (k, j) → FM I I' → MBAD PS I' k j → Q (-1) (fm I' L D)) → ∀ (R : Int32 → Hp → Prop), (∀ I', R (-1) (fm I' L D) ↔ Q (-1) (fm I' L D)) → (∀ I', R 0 (fm I' L D) ↔ wp_X12_emits 400 o 0 (fm I' L D) (fun h26 => wp_X12_readProduct_L10 400 (fun (h36 : Hp) => ((hpK h36 400).1 = 20 + 10) ∧ (wp_X12_fails 400 (1 : Int32) h36 (fun (z39 : Int32) (h38 : Hp) => Q z39 h38))) (fun (h40 : Hp) => ((hpK h40 400).1 = 20 + 10) ∧ (wp_X12_fails 400 (2 : Int32) h40 (fun (z43 : Int32) (h42 : Hp) => Q z43 h42))) (fun (h44 : Hp) => Q (-1 : Int32) h44) (fun (h45 : Hp) => Q (0 : Int32) h45) Q N h26)) → wp_X12_readUnit 400 (fm J L D) R := by
      intro J o f1 hJ hic ok bad R r1 r0
      refine m_readUnit hM (i + 1) C J R (f1.tp hz) hJ hic (by omega) (fun j C' J2 e f2 h2 => (r0 J2).mpr ?_) (fun k j J2 e f2 b2 => (r1 J2).mpr (bad k j J2 (by rw [e]; rfl) (f1.trans f2) b2))
      refine m_op hM (Inc_unit hM.2.1) hic hC e h2 (fun J3 f3 h3 q1 q2 q3 => ?_)
      have F13 := (f1.trans f2).trans f3
      exact ih F j _ J3 (F13.tp hz) h3 q2 q3 (by omega) (by omega) (fun j' C2 I' e2 f4 h4 => ok j' C2 I' (by rw [e]; exact e2) (F13.trans f4) h4) (fun k j' I' e2 f4 b4 => bad k j' I' (by rw [e]; exact e2) (F13.trans f4) b4)
    rw [wp_X12_readProduct_L10]
    simp only [gK, gI, gL, gR_, g_stI, g_stL, forall_eq, true_and, ad_s, okA_s, okO_s, okN_s, i10, i00, if_true, if_false, reduceCtorEq, Kf_1, Kf_400, m_sg hT (x := 42) rfl s42]
    by_cases e1 : KS i = 42
    · rw [if_pos e1] at hok hbad
      simp only [if_pos e1, i10, if_false]
      have hic := k_lt hM.2.1 hi e1 (by decide)
      unfold wp_X12_readProduct_J28
      simp only [gK, gI, gL, gR_, g_stI, g_stL, forall_eq, true_and, ad_s, okA_s, okO_s, okN_s, i10, i00, if_true, if_false, reduceCtorEq, Kf_1, Kf_400, m_sg hT (x := 42) rfl s42, if_pos e1]
      refine m_next hM hz h hic (fun J f1 hJ _ => ?_)
      unfold wp_X12_readProduct_J57 wp_X12_readProduct_J74
      simp only [gK, gI, gL, gR_, g_stI, g_stL, forall_eq, true_and, ad_s, okA_s, okO_s, okN_s, i10, i00, if_true, if_false, reduceCtorEq, Kf_1, Kf_400]
      refine unit J 4 f1 hJ hic hok hbad _ (fun I' => ?_) (fun I' => ?_)
      · simp only [if_true]
      · simp only [show ¬ (0 : Int32) = -1 by decide, gK, gI, gL, gR_, g_stI, g_stL, forall_eq, true_and, ad_s, okA_s, okO_s, okN_s, i10, i00, if_true, if_false, reduceCtorEq, Kf_1, Kf_400]
    · rw [if_neg e1] at hok hbad
      simp only [if_neg e1, i00, if_true, gK, gI, gL, gR_, g_stI, g_stL, forall_eq, true_and, ad_s, okA_s, okO_s, okN_s, i10, i00, if_true, if_false, reduceCtorEq, Kf_1, Kf_400, m_sg hT (x := 47) rfl s47]
      by_cases e2 : KS i = 47
      · rw [if_pos e2] at hok hbad
        simp only [if_pos e2, i10, if_false]
        have hic := k_lt hM.2.1 hi e2 (by decide)
        unfold wp_X12_readProduct_J28
        simp only [gK, gI, gL, gR_, g_stI, g_stL, forall_eq, true_and, ad_s, okA_s, okO_s, okN_s, i10, i00, if_true, if_false, reduceCtorEq, Kf_1, Kf_400, m_sg hT (x := 42) rfl s42, if_neg e1]
        refine m_next hM hz h hic (fun J f1 hJ _ => ?_)
        obtain ⟨tk, htk⟩ : ∃ tk, J 400 22 = tk := ⟨_, rfl⟩
        obtain ⟨vv, hvv⟩ : ∃ vv, J 400 23 = vv := ⟨_, rfl⟩
        have hT2 := hJ.2.1
        rw [htk, hvv] at hT2
        obtain ⟨n1, n2⟩ := tok_num hT2
        unfold wp_X12_readProduct_J57 wp_X12_readProduct_J74
        simp only [gK, gI, gL, gR_, g_stI, g_stL, forall_eq, true_and, ad_s, okA_s, okO_s, okN_s, i10, i00, if_true, if_false, reduceCtorEq, Kf_1, Kf_400, htk, hvv]
        by_cases t3 : tk = 3
        · simp only [if_pos t3]
          have hn := n1.mp t3
          obtain ⟨v1, v2⟩ := n2 t3
          by_cases v0 : vv = 0
          · simp only [if_pos v0]
            rw [if_pos (v2.mp v0)] at hok hbad
            exact m_fails (k := 2) hJ.1 (fun I' g1 g2 => hbad 2 (i + 1) I' rfl (f1.trans g1) g2)
          · simp only [if_neg v0]
            rw [if_neg (fun z => v0 (v2.mpr z)), if_pos hn] at hok hbad
            refine unit J 5 f1 hJ hic hok hbad _ (fun I' => ?_) (fun I' => ?_)
            · simp only [if_true]
            · simp only [show ¬ (0 : Int32) = -1 by decide, gK, gI, gL, gR_, g_stI, g_stL, forall_eq, true_and, ad_s, okA_s, okO_s, okN_s, i10, i00, if_true, if_false, reduceCtorEq, Kf_1, Kf_400]
        · simp only [if_neg t3]
          have hn : ¬ KS (i + 1) < 0 := fun z => t3 (n1.mpr z)
          rw [if_neg (fun z => hn (by rw [z]; decide)), if_neg hn] at hok hbad
          exact m_fails (k := 1) hJ.1 (fun I' g1 g2 => hbad 1 (i + 1) I' rfl (f1.trans g1) g2)
      · rw [if_neg e2] at hok hbad
        simp only [if_neg e2, i00, if_true]
        exact hok i C I rfl FM.refl h
theorem m_readProduct (hM : MX L D Z c KS PS EP lw) : RM L D Z c KS PS EP wp_X12_readProduct (pProd lw KS) := by
  intro i C I Q hz h hi hC hok hbad
  have c6 := hM.1
  unfold wp_X12_readProduct
  refine ⟨rfl, ?_⟩
  refine m_readUnit hM i C I _ hz h hi hC (fun j C' J e f1 hJ => ?_) (fun k j J e f1 bJ => ?_)
  · rw [if_neg (by decide)]
    obtain ⟨a1, a2, a3⟩ := (Inc_unit hM.2.1 (lw := lw) i C hi).1 j C' e
    refine m_prodL hM fuel 601 j C' J (f1.tp hz) hJ a2 (by omega) (by have := fuel_ge; omega) (by omega) (fun j' C2 I' e2 f2 h2 => hok j' C2 I' ?_ (f1.trans f2) h2) (fun k j' I' e2 f2 b2 => hbad k j' I' ?_ (f1.trans f2) b2)
    · unfold pProd; rw [e]; exact e2
    · unfold pProd; rw [e]; exact e2
  · rw [if_pos rfl]
    exact hbad k j J (by unfold pProd; rw [e]; rfl) f1 bJ
theorem m_sumL (hM : MX L D Z c KS PS EP lw) {Q : Int32 → Hp → Prop} : ∀ (N F i : Nat) (C : CD) (I : Nat → Nat → Int32), TPZ Z I → MOK KS PS EP I i C → i ≤ c → C.length + 1 ≤ i → c < N + i → c < F + i → (∀ j C' I', pSumL lw KS F i C = .inr (j, C') → FM I I' → MOK KS PS EP I' j C' → Q 0 (fm I' L D)) → (∀ k j I', pSumL lw KS F i C = .inl (k, j) → FM I I' → MBAD PS I' k j → Q (-1) (fm I' L D)) → wp_X12_readSum_L10 400 (fun (h25 : Hp) => Q (-1 : Int32) h25) (fun (h26 : Hp) => Q (0 : Int32) h26) Q N (fm I L D) := by
  intro N
  induction N with
  | zero => intro F i C I _ _ h1 h2 h3; omega
  | succ N ih =>
    intro F i C I hz h hi hC hN hF hok hbad
    have c6 := hM.1
    have hT := h.2.1
    have s43 : sgn 43 := by unfold sgn; omega
    have s45 : sgn 45 := by unfold sgn; omega
    obtain ⟨F, rfl⟩ : ∃ F', F = F' + 1 := ⟨F - 1, by omega⟩
    unfold pSumL at hok hbad
    have prod : ∀ (o : Int32), i < c → (∀ j C' I', bd (pProd lw KS (i + 1) C) (fun j D => pSumL lw KS F j (D ++ [(o, 0)])) = .inr (j, C') → FM I I' → MOK KS PS EP I' j C' → Q 0 (fm I' L D)) → (∀ k j I', bd (pProd lw KS (i + 1) C) (fun j D => pSumL lw KS F j (D ++ [(o, 0)])) = .inl (k, j) → FM I I' → MBAD PS I' k j → Q (-1) (fm I' L D)) → wp_X12_readSum_J42 400 o (wp_X12_readSum_L10 400 (fun (h25 : Hp) => Q (-1 : Int32) h25) (fun (h26 : Hp) => Q (0 : Int32) h26) Q N) (fun (h25 : Hp) => Q (-1 : Int32) h25) (fun (h26 : Hp) => Q (0 : Int32) h26) Q (fm I L D) := by
      intro o hic ok bad
      unfold wp_X12_readSum_J42
      simp only [gK, gI, gL, gR_, g_stI, g_stL, forall_eq, true_and, ad_s, okA_s, okO_s, okN_s, i10, i00, if_true, if_false, reduceCtorEq, Kf_1, Kf_400]
      refine m_next hM hz h hic (fun J f1 hJ _ => ?_)
      simp only [gK, gI, gL, gR_, g_stI, g_stL, forall_eq, true_and, ad_s, okA_s, okO_s, okN_s, i10, i00, if_true, if_false, reduceCtorEq, Kf_1, Kf_400]
      refine m_readProduct hM (i + 1) C J _ (f1.tp hz) hJ hic (by omega) (fun j C' J2 e f2 h2 => ?_) (fun k j J2 e f2 b2 => ?_)
      · simp only [show ¬ (0 : Int32) = -1 by decide, if_false, gK, gI, gL, gR_, g_stI, g_stL, forall_eq, true_and, ad_s, okA_s, okO_s, okN_s, i10, i00, if_true, if_false, reduceCtorEq, Kf_1, Kf_400]
        refine m_op hM (Inc_prod hM.2.1) hic hC e h2 (fun J3 f3 h3 q1 q2 q3 => ?_)
        have F13 := (f1.trans f2).trans f3
        exact ih F j _ J3 (F13.tp hz) h3 q2 q3 (by omega) (by omega) (fun j' C2 I' e2 f4 h4 => ok j' C2 I' (by rw [e]; exact e2) (F13.trans f4) h4) (fun k j' I' e2 f4 b4 => bad k j' I' (by rw [e]; exact e2) (F13.trans f4) b4)
      · simp only [if_true]
        exact bad k j J2 (by rw [e]; rfl) (f1.trans f2) b2
    have val : ∀ s, sgn s → KS i = nI s → I 400 23 = nI s := fun s hs e => ((tok_sign hT hs).mpr e).2
    rw [wp_X12_readSum_L10]
    simp only [gK, gI, gL, gR_, g_stI, g_stL, forall_eq, true_and, ad_s, okA_s, okO_s, okN_s, i10, i00, if_true, if_false, reduceCtorEq, Kf_1, Kf_400, m_sg hT (x := 43) rfl s43]
    unfold wp_X12_readSum_J28
    by_cases e1 : KS i = 43
    · rw [if_pos e1] at hok hbad
      have v := val 43 s43 e1
      have v : I 400 23 = 43 := v
      simp only [if_pos e1, i10, if_false, gK, gI, gL, gR_, g_stI, g_stL, forall_eq, true_and, ad_s, okA_s, okO_s, okN_s, i10, i00, if_true, if_false, reduceCtorEq, Kf_1, Kf_400, v]
      exact prod 2 (k_lt hM.2.1 hi e1 (by decide)) hok hbad
    · rw [if_neg e1] at hok hbad
      simp only [if_neg e1, i00, if_true, gK, gI, gL, gR_, g_stI, g_stL, forall_eq, true_and, ad_s, okA_s, okO_s, okN_s, i10, i00, if_true, if_false, reduceCtorEq, Kf_1, Kf_400, m_sg hT (x := 45) rfl s45]
      by_cases e2 : KS i = 45
      · rw [if_pos e2] at hok hbad
        have v := val 45 s45 e2
        have v : I 400 23 = 45 := v
        simp only [if_pos e2, i10, if_false, gK, gI, gL, gR_, g_stI, g_stL, forall_eq, true_and, ad_s, okA_s, okO_s, okN_s, i10, i00, if_true, if_false, reduceCtorEq, Kf_1, Kf_400, v, show ¬ (45 : Int32) = 43 by decide]
        exact prod 3 (k_lt hM.2.1 hi e2 (by decide)) hok hbad
      · rw [if_neg e2] at hok hbad
        simp only [if_neg e2, i00, if_true]
        exact hok i C I rfl FM.refl h
theorem m_readSum (hM : MX L D Z c KS PS EP lw) : RM L D Z c KS PS EP wp_X12_readSum (pSum lw KS) := by
  intro i C I Q hz h hi hC hok hbad
  have c6 := hM.1
  unfold wp_X12_readSum
  refine ⟨rfl, ?_⟩
  refine m_readProduct hM i C I _ hz h hi hC (fun j C' J e f1 hJ => ?_) (fun k j J e f1 bJ => ?_)
  · rw [if_neg (by decide)]
    obtain ⟨a1, a2, a3⟩ := (Inc_prod hM.2.1 (lw := lw) i C hi).1 j C' e
    refine m_sumL hM fuel 601 j C' J (f1.tp hz) hJ a2 (by omega) (by have := fuel_ge; omega) (by omega) (fun j' C2 I' e2 f2 h2 => hok j' C2 I' ?_ (f1.trans f2) h2) (fun k j' I' e2 f2 b2 => hbad k j' I' ?_ (f1.trans f2) b2)
    · unfold pSum; rw [e]; exact e2
    · unfold pSum; rw [e]; exact e2
  · rw [if_pos rfl]
    exact hbad k j J (by unfold pSum; rw [e]; rfl) f1 bJ
theorem m_readCompared (hM : MX L D Z c KS PS EP lw) : RM L D Z c KS PS EP wp_X12_readCompared (pCmp lw KS) := by
  intro i C I Q hz h hi hC hok hbad
  have c6 := hM.1
  have s60 : sgn 60 := by unfold sgn; omega
  have s61 : sgn 61 := by unfold sgn; omega
  have s62 : sgn 62 := by unfold sgn; omega
  unfold wp_X12_readCompared
  refine ⟨rfl, ?_⟩
  refine m_readSum hM i C I _ hz h hi hC (fun j C' J e f1 hJ => ?_) (fun k j J e f1 bJ => ?_)
  · obtain ⟨a1, a2, a3⟩ := (Inc_sum hM.2.1 (lw := lw) i C hi).1 j C' e
    have hT := hJ.2.1
    have hp : pCmp lw KS i C = pCmp2 lw KS j C' := by unfold pCmp; rw [e]; rfl
    rw [hp] at hok hbad
    unfold pCmp2 pCmpR at hok hbad
    have val : ∀ s, sgn s → KS j = nI s → J 400 23 = nI s := fun s hs e => ((tok_sign hT hs).mpr e).2
    have rest : ∀ (o : Int32), j < c → (∀ j2 C2 I', bd (pSum lw KS (j + 1) C') (fun j D => .inr (j, D ++ [(o, 0)])) = .inr (j2, C2) → FM I I' → MOK KS PS EP I' j2 C2 → Q 0 (fm I' L D)) → (∀ k j2 I', bd (pSum lw KS (j + 1) C') (fun j D => .inr (j, D ++ [(o, 0)])) = .inl (k, j2) → FM I I' → MBAD PS I' k j2 → Q (-1) (fm I' L D)) → wp_X12_readCompared_J73 400 o Q (fm J L D) := by
      intro o hjc ok bad
      unfold wp_X12_readCompared_J73
      simp only [gK, gI, gL, gR_, g_stI, g_stL, forall_eq, true_and, ad_s, okA_s, okO_s, okN_s, i10, i00, if_true, if_false, reduceCtorEq, Kf_1, Kf_400]
      refine m_next hM (f1.tp hz) hJ hjc (fun J2 f2 h2 _ => ?_)
      simp only [gK, gI, gL, gR_, g_stI, g_stL, forall_eq, true_and, ad_s, okA_s, okO_s, okN_s, i10, i00, if_true, if_false, reduceCtorEq, Kf_1, Kf_400]
      refine m_readSum hM (j + 1) C' J2 _ ((f1.trans f2).tp hz) h2 hjc (by omega) (fun j2 C2 J3 e3 f3 h3 => ?_) (fun k j2 J3 e3 f3 b3 => ?_)
      · simp only [show ¬ (0 : Int32) = -1 by decide, if_false, gK, gI, gL, gR_, g_stI, g_stL, forall_eq, true_and, ad_s, okA_s, okO_s, okN_s, i10, i00, if_true, if_false, reduceCtorEq, Kf_1, Kf_400]
        refine m_op hM (Inc_sum hM.2.1) hjc (by omega) e3 h3 (fun J4 f4 h4 q1 q2 q3 => ?_)
        exact ok j2 _ J4 (by rw [e3]; rfl) (((f1.trans f2).trans f3).trans f4) h4
      · simp only [if_true]
        exact bad k j2 J3 (by rw [e3]; rfl) ((f1.trans f2).trans f3) b3
    unfold wp_X12_readCompared_J43
    simp only [show ¬ (0 : Int32) = -1 by decide, if_false, gK, gI, gL, gR_, g_stI, g_stL, forall_eq, true_and, ad_s, okA_s, okO_s, okN_s, i10, i00, if_true, if_false, reduceCtorEq, Kf_1, Kf_400, m_sg hT (x := 60) rfl s60]
    by_cases e1 : KS j = 60
    · rw [if_pos e1] at hok hbad
      have v : J 400 23 = 60 := val 60 s60 e1
      simp only [if_pos e1, i10, if_false, gK, gI, gL, gR_, g_stI, g_stL, forall_eq, true_and, ad_s, okA_s, okO_s, okN_s, i10, i00, if_true, if_false, reduceCtorEq, Kf_1, Kf_400, v]
      exact rest 6 (k_lt hM.2.1 a2 e1 (by decide)) hok hbad
    · rw [if_neg e1] at hok hbad
      simp only [if_neg e1, i00, if_true, gK, gI, gL, gR_, g_stI, g_stL, forall_eq, true_and, ad_s, okA_s, okO_s, okN_s, i10, i00, if_true, if_false, reduceCtorEq, Kf_1, Kf_400, m_sg hT (x := 61) rfl s61]
      by_cases e2 : KS j = 61
      · rw [if_pos e2] at hok hbad
        have v : J 400 23 = 61 := val 61 s61 e2
        simp only [if_pos e2, i10, if_false, gK, gI, gL, gR_, g_stI, g_stL, forall_eq, true_and, ad_s, okA_s, okO_s, okN_s, i10, i00, if_true, if_false, reduceCtorEq, Kf_1, Kf_400, v, show ¬ (61 : Int32) = 60 by decide]
        exact rest 7 (k_lt hM.2.1 a2 e2 (by decide)) hok hbad
      · rw [if_neg e2] at hok hbad
        simp only [if_neg e2, i00, if_true, gK, gI, gL, gR_, g_stI, g_stL, forall_eq, true_and, ad_s, okA_s, okO_s, okN_s, i10, i00, if_true, if_false, reduceCtorEq, Kf_1, Kf_400, m_sg hT (x := 62) rfl s62]
        by_cases e3 : KS j = 62
        · rw [if_pos e3] at hok hbad
          have v : J 400 23 = 62 := val 62 s62 e3
          simp only [if_pos e3, i10, if_false, gK, gI, gL, gR_, g_stI, g_stL, forall_eq, true_and, ad_s, okA_s, okO_s, okN_s, i10, i00, if_true, if_false, reduceCtorEq, Kf_1, Kf_400, v, show ¬ (62 : Int32) = 60 by decide, show ¬ (62 : Int32) = 61 by decide]
          exact rest 8 (k_lt hM.2.1 a2 e3 (by decide)) hok hbad
        · rw [if_neg e3] at hok hbad
          simp only [if_neg e3, i00, if_true, gK, gI, gL, gR_, g_stI, g_stL, forall_eq, true_and, ad_s, okA_s, okO_s, okN_s, i10, i00, if_true, if_false, reduceCtorEq, Kf_1, Kf_400]
          exact m_fails (k := 1) hJ.1 (fun I' g1 g2 => hbad 1 j I' rfl (f1.trans g1) g2)
  · simp only [if_true]
    exact hbad k j J (by unfold pCmp; rw [e]; rfl) f1 bJ
end MQ2
