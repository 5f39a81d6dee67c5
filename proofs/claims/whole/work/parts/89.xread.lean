/-! READING A TEXT: the object's loops (my own) -/
def psh (e : Int32 × Int32) (i : Nat) (C : CD) : PR := .inr (i, C ++ [e])
def Sd2 (c : Nat) (r : PR) : Prop := ∀ i C, r = .inr (i, C) → i ≤ c ∧ C.length + 2 ≤ i
theorem Sd2_l {c : Nat} {e : Nat × Nat} : Sd2 c (.inl e) := fun i C q => (by cases q)
theorem Sd2_r {c i : Nat} {C : CD} (h1 : i ≤ c) (h2 : C.length + 2 ≤ i) : Sd2 c (.inr (i, C)) := fun i' C' q => (by cases q; exact ⟨h1, h2⟩)
theorem Sd2.d {c : Nat} {r : PR} (h : Sd2 c r) : Sd c r := fun i C q => by have := h i C q; omega
theorem Sd2_bd {c : Nat} {r : PR} {p : Nat → CD → PR} (h : Sd2 c r) (hp : Inz c p) : Sd2 c (bd r p) := by
  cases r with
  | inl e => exact Sd2_l
  | inr q =>
    obtain ⟨i, C⟩ := q
    obtain ⟨h1, h2⟩ := h i C rfl
    intro j D e
    have := (hp i C h1).1 j D e
    omega
theorem Sd_psh {c : Nat} {r : PR} {e : Int32 × Int32} (h : Sd2 c r) : Sd c (bd r (psh e)) := by
  cases r with
  | inl e => exact Sd_l
  | inr q =>
    obtain ⟨i, C⟩ := q
    obtain ⟨h1, h2⟩ := h i C rfl
    exact Sd_r h1 (by rw [List.length_append]; exact h2)
/-- the loop's counts go on -/
def Nx (c n N F : Nat) (r : PR) : Prop := ∀ i C, r = .inr (i, C) → n ≤ i ∧ c < N + i ∧ c < F + i
theorem Nx_l {c n N F : Nat} {e : Nat × Nat} : Nx c n N F (.inl e) := fun i C q => (by cases q)
theorem Nx_psh {c n N F i : Nat} {r1 : PR} {p : Nat → CD → PR} {e : Int32 × Int32} (h : n ≤ i ∧ c < N + 1 + i ∧ c < F + 1 + i) (hi : i < c) (hp : Inc c p) (hr : ∀ j D, r1 = .inr (j, D) → j = i + 1) : Nx c (n + 1) N F (bd (bd r1 p) (psh e)) := by
  cases r1 with
  | inl e => exact Nx_l
  | inr q =>
    obtain ⟨j, D⟩ := q
    have := hr j D rfl
    subst this
    rw [bd_r]
    cases h2 : p (i + 1) D with
    | inl e => exact Nx_l
    | inr q2 =>
      obtain ⟨j2, D2⟩ := q2
      have := ((hp (i + 1) D (by omega)).1 j2 D2 h2).1
      intro j3 D3 q3
      have q3 : (Sum.inr (j2, D2 ++ [e]) : PR) = .inr (j3, D3) := q3
      cases q3
      omega
section XQ
variable {L : Nat → Nat → Int64} {D : DD} {I0 : Nat → Nat → Int32} {t0 c : Nat} {KS : Nat → Int32} {PS : Nat → Nat} {lw : Bool}
theorem XC.t8 (hX : XC D I0 t0 c KS PS lw) : t0 < 8 := by have := hX.2.1; have := hX.2.2.1; omega
theorem XC.c6 (hX : XC D I0 t0 c KS PS lw) : c ≤ 600 := hX.2.2.2.1
theorem XC.kc (hX : XC D I0 t0 c KS PS lw) : KS c = 0 := hX.2.2.2.2.1
/-- the last round of a loop: there is no token left -/
theorem x_full (hX : XC D I0 t0 c KS PS lw) {n N F i : Nat} {C : CD} (hS : Sd c (.inr (i, C))) (hN : Nx c n N F (.inr (i, C))) (h : (600 : Int32) ≤ nI n) : KS i = 0 := by
  obtain ⟨s1, s2⟩ := hS i C rfl
  obtain ⟨n1, -, -⟩ := hN i C rfl
  have c6 := hX.c6
  have := (nI_leI (a := 600) (by decide) (show n < 2 ^ 31 by omega)).mp h
  have e : i = c := by omega
  rw [e]; exact hX.kc
theorem x_J86 (hX : XC D I0 t0 c KS PS lw) {r1 : PR} {I : Nat → Nat → Int32} (hS : Sd2 c r1) (h : XR I0 t0 PS r1 I) {n : Nat} {o x : Int32} (hx : x = stp o 0) {KH : Int32 → Hp → Prop} {K Q : Hp → Prop} (hK : ∀ I', XR I0 t0 PS (bd (bd r1 (pUnit lw KS)) (psh (o, 0))) I' → KH (nI (n + 1)) (fm I' L D)) : wp_X5_readProduct_J86 12 (nI n) x KH K Q (fm I L D) := by
  unfold wp_X5_readProduct_J86
  simp only [gK, gI, gL, gR_, g_stI, g_stL, forall_eq, true_and, ad_s, okA_s, okO_s, okN_s, i10, i00, if_true, if_false, reduceCtorEq, Kf_1, Kf_400, Kf_12]
  refine x_readPart hX hS.d h (fun I' hI' => ?_)
  simp only [gK, gI, gL, gR_, g_stI, g_stL, forall_eq, true_and, ad_s, okA_s, okO_s, okN_s, i10, i00, if_true, if_false, reduceCtorEq, Kf_1, Kf_400, Kf_12, ad12 hX, kTx hX]
  refine x_put7 hX hI' (o, 0) hx (fun i C q => ?_) (fun I'' hI'' => ?_)
  · have := Sd_bd hS.d (Inc_unit hX.kc (lw := lw)).z i C q
    have := hX.c6
    omega
  · try simp only [forall_eq, nI_1]
    exact hK I'' hI''
theorem x_prodL (hX : XC D I0 t0 c KS PS lw) {K Q : Hp → Prop} : ∀ (N n F : Nat) (r : PR) (I : Nat → Nat → Int32), 1 ≤ N → Sd c r → XR I0 t0 PS r I → Nx c n N F r → (∀ I', XR I0 t0 PS (bd r (pProdL lw KS F)) I' → K (fm I' L D)) → wp_X5_readProduct_L6 12 K Q N (nI n) (fm I L D) := by
  intro N
  induction N with
  | zero => intro n F r I h1; omega
  | succ N ih =>
    intro n F r I h1 hS h hN hK
    rw [wp_X5_readProduct_L6]
    cases r with
    | inl e =>
      by_cases hn : (600 : Int32) ≤ nI n
      · rw [if_pos hn]; exact hK I h
      · rw [if_neg hn]
        simp only [gK, gI, gL, gR_, g_stI, g_stL, forall_eq, true_and, ad_s, okA_s, okO_s, okN_s, i10, i00, if_true, if_false, reduceCtorEq, Kf_1, Kf_400, Kf_12, x_kindL hX h, show ¬ (1 : Int32) = 42 by decide, show ¬ (1 : Int32) = 47 by decide]
        exact hK I h
    | inr q =>
      obtain ⟨i, C⟩ := q
      by_cases hn : (600 : Int32) ≤ nI n
      · rw [if_pos hn]
        have k0 := x_full hX hS hN hn
        refine hK I ?_
        cases F with
        | zero => exact h
        | succ F =>
          rw [bd_r]
          unfold pProdL
          rw [if_neg (by rw [k0]; decide), if_neg (by rw [k0]; decide)]
          exact h
      · rw [if_neg hn]
        obtain ⟨s1, s2⟩ := hS i C rfl
        obtain ⟨n1, n2, n3⟩ := hN i C rfl
        obtain ⟨F, rfl⟩ : ∃ F', F = F' + 1 := ⟨F - 1, by omega⟩
        have hK : ∀ I', XR I0 t0 PS (pProdL lw KS (F + 1) i C) I' → K (fm I' L D) := hK
        unfold pProdL at hK
        simp only [gK, gI, gL, gR_, g_stI, g_stL, forall_eq, true_and, ad_s, okA_s, okO_s, okN_s, i10, i00, if_true, if_false, reduceCtorEq, Kf_1, Kf_400, Kf_12, x_kindR hX hS h]
        unfold wp_X5_readProduct_J31
        by_cases e1 : KS i = 42
        · rw [if_pos e1]
          rw [if_pos e1] at hK
          have hi := k_lt hX.kc s1 e1 (by decide)
          have N1 : 1 ≤ N := by omega
          have h2 := XR_next hX.t8 h
          simp only [gK, gI, gL, gR_, g_stI, g_stL, forall_eq, true_and, ad_s, okA_s, okO_s, okN_s, i10, i00, if_true, if_false, reduceCtorEq, Kf_1, Kf_400, Kf_12, x_kindR hX hS h, e1, show ¬ (42 : Int32) = 47 by decide]
          unfold wp_X5_readProduct_J68
          rw [if_neg (by decide)]
          have S2 : Sd2 c (.inr (i + 1, C)) := Sd2_r (by omega) (by omega)
          refine x_J86 hX S2 h2 (o := 4) rfl (fun I' hI' => ?_)
          refine ih (n + 1) F _ I' N1 (Sd_psh (Sd2_bd S2 (Inc_unit hX.kc).z)) hI' (Nx_psh ⟨n1, n2, n3⟩ hi (Inc_unit hX.kc) (fun j D q => by cases q; rfl)) (fun I2 h2 => hK I2 ?_)
          rw [bd_bd, bd_r] at h2
          exact h2
        · rw [if_neg e1]
          rw [if_neg e1] at hK
          try simp only [gK, gI, gL, gR_, g_stI, g_stL, forall_eq, true_and, ad_s, okA_s, okO_s, okN_s, i10, i00, if_true, if_false, reduceCtorEq, Kf_1, Kf_400, Kf_12, x_kindR hX hS h]
          by_cases e2 : KS i = 47
          · rw [if_pos e2]
            rw [if_pos e2] at hK
            have hi := k_lt hX.kc s1 e2 (by decide)
            have N1 : 1 ≤ N := by omega
            have h2 := XR_next hX.t8 h
            have S2 : Sd2 c (.inr (i + 1, C)) := Sd2_r (by omega) (by omega)
            have go : ∀ (r1 : PR) (J : Nat → Nat → Int32), Sd2 c r1 → (∀ j D, r1 = .inr (j, D) → j = i + 1) → XR I0 t0 PS r1 J → (∀ I', XR I0 t0 PS (bd (bd (bd r1 (pUnit lw KS)) (psh (5, 0))) (pProdL lw KS F)) I' → K (fm I' L D)) → wp_X5_readProduct_J86 12 (nI n) 47 (wp_X5_readProduct_L6 12 K Q N) K Q (fm J L D) := by
              intro r1 J S1 hr hJ hK'
              refine x_J86 hX S1 hJ (o := 5) rfl (fun I' hI' => ?_)
              exact ih (n + 1) F _ I' N1 (Sd_psh (Sd2_bd S1 (Inc_unit hX.kc).z)) hI' (Nx_psh ⟨n1, n2, n3⟩ hi (Inc_unit hX.kc) hr) hK'
            simp only [gK, gI, gL, gR_, g_stI, g_stL, forall_eq, true_and, ad_s, okA_s, okO_s, okN_s, i10, i00, if_true, if_false, reduceCtorEq, Kf_1, Kf_400, Kf_12, x_kindR hX hS h, e2, x_kindR hX S2.d h2]
            by_cases e3 : KS (i + 1) = -1
            · rw [if_pos e3]
              rw [if_pos e3] at hK
              refine x_refuse hX S2.d h2 (k := 2) (by decide) (fun J hJ => ?_)
              exact go _ J Sd2_l (fun j D q => (by cases q)) hJ hK
            · rw [if_neg e3]
              rw [if_neg e3] at hK
              unfold wp_X5_readProduct_J68
              rw [if_pos rfl]
              simp only [gK, gI, gL, gR_, g_stI, g_stL, forall_eq, true_and, ad_s, okA_s, okO_s, okN_s, i10, i00, if_true, if_false, reduceCtorEq, Kf_1, Kf_400, Kf_12, x_kindR hX S2.d h2]
              by_cases e4 : KS (i + 1) < 0
              · rw [if_pos e4]
                rw [if_pos e4] at hK
                refine go _ _ S2 (fun j D q => by cases q; rfl) h2 (fun I2 h3 => hK I2 ?_)
                rw [bd_bd, bd_r] at h3
                exact h3
              · rw [if_neg e4]
                rw [if_neg e4] at hK
                refine x_refuse hX S2.d h2 (k := 1) (by decide) (fun J hJ => ?_)
                exact go _ J Sd2_l (fun j D q => (by cases q)) hJ hK
          · rw [if_neg e2]
            rw [if_neg e2] at hK
            exact hK I h
theorem Nx_0 (hX : XC D I0 t0 c KS PS lw) {r : PR} : Nx c 0 fuel 601 r := fun i C _ => by have := hX.c6; have := fuel_ge; omega
theorem x_readProduct (hX : XC D I0 t0 c KS PS lw) {r : PR} {I : Nat → Nat → Int32} (hS : Sd c r) (h : XR I0 t0 PS r I) {Q : Hp → Prop} (hQ : ∀ I', XR I0 t0 PS (bd r (pProd lw KS)) I' → Q (fm I' L D)) : wp_X5_readProduct 12 (fm I L D) Q := by
  unfold wp_X5_readProduct
  simp only [gK, gI, gL, gR_, g_stI, g_stL, forall_eq, true_and, ad_s, okA_s, okO_s, okN_s, i10, i00, if_true, if_false, reduceCtorEq, Kf_1, Kf_400, Kf_12]
  refine x_readPart hX hS h (fun I' hI' => ?_)
  refine x_prodL hX fuel 0 601 _ I' (by have := fuel_ge; omega) (Sd_bd hS (Inc_unit hX.kc).z) hI' (Nx_0 hX) (fun I2 h2 => hQ I2 ?_)
  rw [bd_bd] at h2
  exact h2
theorem x_sumJ (hX : XC D I0 t0 c KS PS lw) {i : Nat} {C : CD} {I : Nat → Nat → Int32} (hS : Sd c (.inr (i, C))) (h : XR I0 t0 PS (.inr (i, C)) I) (hi : i < c) {n : Nat} {o : Int32} (hx : KS i = stp o 0) {KH : Int32 → Hp → Prop} {K Q : Hp → Prop} (hK : ∀ I', XR I0 t0 PS (bd (bd (.inr (i + 1, C)) (pProd lw KS)) (psh (o, 0))) I' → KH (nI (n + 1)) (fm I' L D)) : wp_X5_readSum_J31 12 (nI n) KH K Q (fm I L D) := by
  obtain ⟨s1, s2⟩ := hS i C rfl
  unfold wp_X5_readSum_J31
  simp only [gK, gI, gL, gR_, g_stI, g_stL, forall_eq, true_and, ad_s, okA_s, okO_s, okN_s, i10, i00, if_true, if_false, reduceCtorEq, Kf_1, Kf_400, Kf_12, x_kindR hX hS h]
  have h2 := XR_next hX.t8 h
  have S2 : Sd2 c (.inr (i + 1, C)) := Sd2_r (by omega) (by omega)
  refine x_readProduct hX S2.d h2 (fun I' hI' => ?_)
  simp only [gK, gI, gL, gR_, g_stI, g_stL, forall_eq, true_and, ad_s, okA_s, okO_s, okN_s, i10, i00, if_true, if_false, reduceCtorEq, Kf_1, Kf_400, Kf_12, ad12 hX, kTx hX]
  refine x_put7 hX hI' (o, 0) hx (fun i C q => ?_) (fun I'' hI'' => ?_)
  · have := Sd_bd S2.d (Inc_prod hX.kc (lw := lw)).z i C q
    have := hX.c6
    omega
  · try simp only [forall_eq, nI_1]
    exact hK I'' hI''
theorem x_sumL (hX : XC D I0 t0 c KS PS lw) {K Q : Hp → Prop} : ∀ (N n F : Nat) (r : PR) (I : Nat → Nat → Int32), 1 ≤ N → Sd c r → XR I0 t0 PS r I → Nx c n N F r → (∀ I', XR I0 t0 PS (bd r (pSumL lw KS F)) I' → K (fm I' L D)) → wp_X5_readSum_L6 12 K Q N (nI n) (fm I L D) := by
  intro N
  induction N with
  | zero => intro n F r I h1; omega
  | succ N ih =>
    intro n F r I h1 hS h hN hK
    rw [wp_X5_readSum_L6]
    cases r with
    | inl e =>
      by_cases hn : (600 : Int32) ≤ nI n
      · rw [if_pos hn]; exact hK I h
      · rw [if_neg hn]
        simp only [gK, gI, gL, gR_, g_stI, g_stL, forall_eq, true_and, ad_s, okA_s, okO_s, okN_s, i10, i00, if_true, if_false, reduceCtorEq, Kf_1, Kf_400, Kf_12, x_kindL hX h, show ¬ (1 : Int32) = 43 by decide, show ¬ (1 : Int32) = 45 by decide]
        exact hK I h
    | inr q =>
      obtain ⟨i, C⟩ := q
      by_cases hn : (600 : Int32) ≤ nI n
      · rw [if_pos hn]
        have k0 := x_full hX hS hN hn
        refine hK I ?_
        cases F with
        | zero => exact h
        | succ F =>
          rw [bd_r]
          unfold pSumL
          rw [if_neg (by rw [k0]; decide), if_neg (by rw [k0]; decide)]
          exact h
      · rw [if_neg hn]
        obtain ⟨s1, s2⟩ := hS i C rfl
        obtain ⟨n1, n2, n3⟩ := hN i C rfl
        obtain ⟨F, rfl⟩ : ∃ F', F = F' + 1 := ⟨F - 1, by omega⟩
        have hK : ∀ I', XR I0 t0 PS (pSumL lw KS (F + 1) i C) I' → K (fm I' L D) := hK
        unfold pSumL at hK
        have S2 : i < c → Sd2 c (.inr (i + 1, C)) := fun hi => Sd2_r (by omega) (by omega)
        simp only [gK, gI, gL, gR_, g_stI, g_stL, forall_eq, true_and, ad_s, okA_s, okO_s, okN_s, i10, i00, if_true, if_false, reduceCtorEq, Kf_1, Kf_400, Kf_12, x_kindR hX hS h]
        by_cases e1 : KS i = 43
        · rw [if_pos e1]
          rw [if_pos e1] at hK
          have hi := k_lt hX.kc s1 e1 (by decide)
          refine x_sumJ hX hS h hi (o := 2) e1 (fun I' hI' => ?_)
          refine ih (n + 1) F _ I' (by omega) (Sd_psh (Sd2_bd (S2 hi) (Inc_prod hX.kc).z)) hI' (Nx_psh ⟨n1, n2, n3⟩ hi (Inc_prod hX.kc) (fun j D q => by cases q; rfl)) (fun I2 h2 => hK I2 ?_)
          rw [bd_bd, bd_r] at h2
          exact h2
        · rw [if_neg e1]
          rw [if_neg e1] at hK
          try simp only [gK, gI, gL, gR_, g_stI, g_stL, forall_eq, true_and, ad_s, okA_s, okO_s, okN_s, i10, i00, if_true, if_false, reduceCtorEq, Kf_1, Kf_400, Kf_12, x_kindR hX hS h]
          by_cases e2 : KS i = 45
          · rw [if_pos e2]
            rw [if_pos e2] at hK
            have hi := k_lt hX.kc s1 e2 (by decide)
            refine x_sumJ hX hS h hi (o := 3) e2 (fun I' hI' => ?_)
            refine ih (n + 1) F _ I' (by omega) (Sd_psh (Sd2_bd (S2 hi) (Inc_prod hX.kc).z)) hI' (Nx_psh ⟨n1, n2, n3⟩ hi (Inc_prod hX.kc) (fun j D q => by cases q; rfl)) (fun I2 h2 => hK I2 ?_)
            rw [bd_bd, bd_r] at h2
            exact h2
          · rw [if_neg e2]
            rw [if_neg e2] at hK
            exact hK I h
theorem x_readSum (hX : XC D I0 t0 c KS PS lw) {r : PR} {I : Nat → Nat → Int32} (hS : Sd c r) (h : XR I0 t0 PS r I) {Q : Hp → Prop} (hQ : ∀ I', XR I0 t0 PS (bd r (pSum lw KS)) I' → Q (fm I' L D)) : wp_X5_readSum 12 (fm I L D) Q := by
  unfold wp_X5_readSum
  simp only [gK, gI, gL, gR_, g_stI, g_stL, forall_eq, true_and, ad_s, okA_s, okO_s, okN_s, i10, i00, if_true, if_false, reduceCtorEq, Kf_1, Kf_400, Kf_12]
  refine x_readProduct hX hS h (fun I' hI' => ?_)
  refine x_sumL hX fuel 0 601 _ I' (by have := fuel_ge; omega) (Sd_bd hS (Inc_prod hX.kc).z) hI' (Nx_0 hX) (fun I2 h2 => hQ I2 ?_)
  rw [bd_bd] at h2
  exact h2
/-- what a reader of claims does -/
def RC (L : Nat → Nat → Int64) (D : DD) (I0 : Nat → Nat → Int32) (t0 c : Nat) (PS : Nat → Nat) (CC : Nat → Int32 → Hp → (Hp → Prop) → Prop) (x : Int32) (p : Nat → CD → PR) : Prop := ∀ (r : PR) (I : Nat → Nat → Int32) (Q : Hp → Prop), Sd c r → XR I0 t0 PS r I → (∀ I', XR I0 t0 PS (bd r p) I' → Q (fm I' L D)) → CC 12 x (fm I L D) Q
theorem x_bothL (hX : XC D I0 t0 c KS PS lw) {CC : Nat → Int32 → Hp → (Hp → Prop) → Prop} {x : Int32} {cl : Nat → CD → PR} (hcl : RC L D I0 t0 c PS CC x cl) (hin : Inc c cl) {K Q : Hp → Prop} : ∀ (N n F : Nat) (r : PR) (I : Nat → Nat → Int32), 1 ≤ N → Sd c r → XR I0 t0 PS r I → Nx c n N F r → (∀ I', XR I0 t0 PS (bd r (pBothL KS cl F)) I' → K (fm I' L D)) → wp_X5_readBoth_L7 CC 12 x K Q N (nI n) (fm I L D) := by
  intro N
  induction N with
  | zero => intro n F r I h1; omega
  | succ N ih =>
    intro n F r I h1 hS h hN hK
    rw [wp_X5_readBoth_L7]
    cases r with
    | inl e =>
      by_cases hn : (600 : Int32) ≤ nI n
      · rw [if_pos hn]; exact hK I h
      · rw [if_neg hn]
        simp only [gK, gI, gL, gR_, g_stI, g_stL, forall_eq, true_and, ad_s, okA_s, okO_s, okN_s, i10, i00, if_true, if_false, reduceCtorEq, Kf_1, Kf_400, Kf_12, x_kindL hX h, show ¬ (1 : Int32) = 257 by decide]
        exact hK I h
    | inr q =>
      obtain ⟨i, C⟩ := q
      by_cases hn : (600 : Int32) ≤ nI n
      · rw [if_pos hn]
        have k0 := x_full hX hS hN hn
        refine hK I ?_
        cases F with
        | zero => exact h
        | succ F =>
          rw [bd_r]
          unfold pBothL
          rw [if_neg (by rw [k0]; decide)]
          exact h
      · rw [if_neg hn]
        obtain ⟨s1, s2⟩ := hS i C rfl
        obtain ⟨n1, n2, n3⟩ := hN i C rfl
        obtain ⟨F, rfl⟩ : ∃ F', F = F' + 1 := ⟨F - 1, by omega⟩
        have hK : ∀ I', XR I0 t0 PS (pBothL KS cl (F + 1) i C) I' → K (fm I' L D) := hK
        unfold pBothL at hK
        simp only [gK, gI, gL, gR_, g_stI, g_stL, forall_eq, true_and, ad_s, okA_s, okO_s, okN_s, i10, i00, if_true, if_false, reduceCtorEq, Kf_1, Kf_400, Kf_12, x_kindR hX hS h]
        by_cases e1 : KS i = 257
        · rw [if_pos e1]
          rw [if_pos e1] at hK
          have hi := k_lt hX.kc s1 e1 (by decide)
          have S2 : Sd2 c (.inr (i + 1, C)) := Sd2_r (by omega) (by omega)
          refine hcl _ _ _ S2.d (XR_next hX.t8 h) (fun I' hI' => ?_)
          simp only [gK, gI, gL, gR_, g_stI, g_stL, forall_eq, true_and, ad_s, okA_s, okO_s, okN_s, i10, i00, if_true, if_false, reduceCtorEq, Kf_1, Kf_400, Kf_12, ad12 hX, kTx hX]
          refine x_put7 hX hI' (10, 0) rfl (fun i C q => ?_) (fun I'' hI'' => ?_)
          · have := Sd_bd S2.d hin.z i C q
            have := hX.c6
            omega
          · try simp only [forall_eq, nI_1]
            refine ih (n + 1) F _ I'' (by omega) (Sd_psh (Sd2_bd S2 hin.z)) hI'' (Nx_psh ⟨n1, n2, n3⟩ hi hin (fun j D q => by cases q; rfl)) (fun I2 h2 => hK I2 ?_)
            rw [bd_bd, bd_r] at h2
            exact h2
        · rw [if_neg e1]
          rw [if_neg e1] at hK
          exact hK I h
theorem x_readBoth (hX : XC D I0 t0 c KS PS lw) {CC : Nat → Int32 → Hp → (Hp → Prop) → Prop} {x : Int32} {cl : Nat → CD → PR} (hcl : RC L D I0 t0 c PS CC x cl) (hin : Inc c cl) : RC L D I0 t0 c PS (wp_X5_readBoth CC) x (pBoth KS cl) := by
  intro r I Q hS h hQ
  unfold wp_X5_readBoth
  simp only [gK, gI, gL, gR_, g_stI, g_stL, forall_eq, true_and, ad_s, okA_s, okO_s, okN_s, i10, i00, if_true, if_false, reduceCtorEq, Kf_1, Kf_400, Kf_12]
  refine hcl r I _ hS h (fun I' hI' => ?_)
  refine x_bothL hX hcl hin fuel 0 601 _ I' (by have := fuel_ge; omega) (Sd_bd hS hin.z) hI' (Nx_0 hX) (fun I2 h2 => hQ I2 ?_)
  rw [bd_bd] at h2
  exact h2
theorem x_eithL (hX : XC D I0 t0 c KS PS lw) {CC : Nat → Int32 → Hp → (Hp → Prop) → Prop} {x : Int32} {cl : Nat → CD → PR} (hcl : RC L D I0 t0 c PS CC x cl) (hin : Inc c cl) {K Q : Hp → Prop} : ∀ (N n F : Nat) (r : PR) (I : Nat → Nat → Int32), 1 ≤ N → Sd c r → XR I0 t0 PS r I → Nx c n N F r → (∀ I', XR I0 t0 PS (bd r (pEithL KS cl F)) I' → K (fm I' L D)) → wp_X5_readEither_L7 CC 12 x K Q N (nI n) (fm I L D) := by
  have hb := x_readBoth hX hcl hin
  have hbi := Inc_both hX.kc hin
  intro N
  induction N with
  | zero => intro n F r I h1; omega
  | succ N ih =>
    intro n F r I h1 hS h hN hK
    rw [wp_X5_readEither_L7]
    cases r with
    | inl e =>
      by_cases hn : (600 : Int32) ≤ nI n
      · rw [if_pos hn]; exact hK I h
      · rw [if_neg hn]
        simp only [gK, gI, gL, gR_, g_stI, g_stL, forall_eq, true_and, ad_s, okA_s, okO_s, okN_s, i10, i00, if_true, if_false, reduceCtorEq, Kf_1, Kf_400, Kf_12, x_kindL hX h, show ¬ (1 : Int32) = 256 by decide]
        exact hK I h
    | inr q =>
      obtain ⟨i, C⟩ := q
      by_cases hn : (600 : Int32) ≤ nI n
      · rw [if_pos hn]
        have k0 := x_full hX hS hN hn
        refine hK I ?_
        cases F with
        | zero => exact h
        | succ F =>
          rw [bd_r]
          unfold pEithL
          rw [if_neg (by rw [k0]; decide)]
          exact h
      · rw [if_neg hn]
        obtain ⟨s1, s2⟩ := hS i C rfl
        obtain ⟨n1, n2, n3⟩ := hN i C rfl
        obtain ⟨F, rfl⟩ : ∃ F', F = F' + 1 := ⟨F - 1, by omega⟩
        have hK : ∀ I', XR I0 t0 PS (pEithL KS cl (F + 1) i C) I' → K (fm I' L D) := hK
        unfold pEithL at hK
        simp only [gK, gI, gL, gR_, g_stI, g_stL, forall_eq, true_and, ad_s, okA_s, okO_s, okN_s, i10, i00, if_true, if_false, reduceCtorEq, Kf_1, Kf_400, Kf_12, x_kindR hX hS h]
        by_cases e1 : KS i = 256
        · rw [if_pos e1]
          rw [if_pos e1] at hK
          have hi := k_lt hX.kc s1 e1 (by decide)
          have S2 : Sd2 c (.inr (i + 1, C)) := Sd2_r (by omega) (by omega)
          refine hb _ _ _ S2.d (XR_next hX.t8 h) (fun I' hI' => ?_)
          simp only [gK, gI, gL, gR_, g_stI, g_stL, forall_eq, true_and, ad_s, okA_s, okO_s, okN_s, i10, i00, if_true, if_false, reduceCtorEq, Kf_1, Kf_400, Kf_12, ad12 hX, kTx hX]
          refine x_put7 hX hI' (11, 0) rfl (fun i C q => ?_) (fun I'' hI'' => ?_)
          · have := Sd_bd S2.d hbi.z i C q
            have := hX.c6
            omega
          · try simp only [forall_eq, nI_1]
            refine ih (n + 1) F _ I'' (by omega) (Sd_psh (Sd2_bd S2 hbi.z)) hI'' (Nx_psh ⟨n1, n2, n3⟩ hi hbi (fun j D q => by cases q; rfl)) (fun I2 h2 => hK I2 ?_)
            rw [bd_bd, bd_r] at h2
            exact h2
        · rw [if_neg e1]
          rw [if_neg e1] at hK
          exact hK I h
theorem x_readEither (hX : XC D I0 t0 c KS PS lw) {CC : Nat → Int32 → Hp → (Hp → Prop) → Prop} {x : Int32} {cl : Nat → CD → PR} (hcl : RC L D I0 t0 c PS CC x cl) (hin : Inc c cl) : RC L D I0 t0 c PS (wp_X5_readEither CC) x (pEith KS cl) := by
  intro r I Q hS h hQ
  unfold wp_X5_readEither
  simp only [gK, gI, gL, gR_, g_stI, g_stL, forall_eq, true_and, ad_s, okA_s, okO_s, okN_s, i10, i00, if_true, if_false, reduceCtorEq, Kf_1, Kf_400, Kf_12]
  refine x_readBoth hX hcl hin r I _ hS h (fun I' hI' => ?_)
  refine x_eithL hX hcl hin fuel 0 601 _ I' (by have := fuel_ge; omega) (Sd_bd hS (Inc_both hX.kc hin).z) hI' (Nx_0 hX) (fun I2 h2 => hQ I2 ?_)
  rw [bd_bd] at h2
  exact h2
theorem x_expect (hX : XC D I0 t0 c KS PS lw) {r : PR} {I : Nat → Nat → Int32} (hS : Sd c r) (h : XR I0 t0 PS r I) {x : Int32} (hx : ¬ (1 : Int32) = x) {Q : Hp → Prop} (hQ : ∀ I', XR I0 t0 PS (bd r (pEnd KS x)) I' → Q (fm I' L D)) : wp_X5_expect 12 x (fm I L D) Q := by
  unfold wp_X5_expect
  cases r with
  | inl e =>
    simp only [gK, gI, gL, gR_, g_stI, g_stL, forall_eq, true_and, ad_s, okA_s, okO_s, okN_s, i10, i00, if_true, if_false, reduceCtorEq, Kf_1, Kf_400, Kf_12, x_kindL hX h, if_neg hx]
    exact x_refuse hX hS h (k := 1) (by decide) hQ
  | inr q =>
    obtain ⟨i, C⟩ := q
    have hQ : ∀ I', XR I0 t0 PS (pEnd KS x i C) I' → Q (fm I' L D) := hQ
    unfold pEnd at hQ
    simp only [gK, gI, gL, gR_, g_stI, g_stL, forall_eq, true_and, ad_s, okA_s, okO_s, okN_s, i10, i00, if_true, if_false, reduceCtorEq, Kf_1, Kf_400, Kf_12, x_kindR hX hS h]
    by_cases e : KS i = x
    · rw [if_pos e]
      rw [if_pos e] at hQ
      exact hQ _ (XR_next hX.t8 h)
    · rw [if_neg e]
      rw [if_neg e] at hQ
      exact x_refuse hX hS h (k := 1) (by decide) hQ
theorem x_cmpJ (hX : XC D I0 t0 c KS PS lw) {CC : Nat → Int32 → Hp → (Hp → Prop) → Prop} {i : Nat} {C : CD} {I : Nat → Nat → Int32} (hS : Sd c (.inr (i, C))) (h : XR I0 t0 PS (.inr (i, C)) I) (hi : i < c) {o : Int32} (hx : KS i = stp o 0) {Q : Hp → Prop} (hQ : ∀ I', XR I0 t0 PS (pCmpR lw KS o i C) I' → Q (fm I' L D)) : wp_X5_readClaim_J45 CC 12 (KS i) Q (fm I L D) := by
  obtain ⟨s1, s2⟩ := hS i C rfl
  unfold wp_X5_readClaim_J45
  simp only [gK, gI, gL, gR_, g_stI, g_stL, forall_eq, true_and, ad_s, okA_s, okO_s, okN_s, i10, i00, if_true, if_false, reduceCtorEq, Kf_1, Kf_400, Kf_12]
  have S2 : Sd2 c (.inr (i + 1, C)) := Sd2_r (by omega) (by omega)
  refine x_readSum hX S2.d (XR_next hX.t8 h) (fun I' hI' => ?_)
  simp only [gK, gI, gL, gR_, g_stI, g_stL, forall_eq, true_and, ad_s, okA_s, okO_s, okN_s, i10, i00, if_true, if_false, reduceCtorEq, Kf_1, Kf_400, Kf_12, ad12 hX, kTx hX]
  refine x_put7 hX hI' (o, 0) hx (fun i C q => ?_) (fun I'' hI'' => hQ I'' hI'')
  have := Sd_bd S2.d (Inc_sum hX.kc (lw := lw)).z i C q
  have := hX.c6
  omega
theorem x_claim (hX : XC D I0 t0 c KS PS lw) : ∀ (d rr : Nat), rr < d → rr ≤ 8 → RC L D I0 t0 c PS (wpR_claim d) (nI (8 - rr)) (pClaim lw KS rr) := by
  intro d
  induction d with
  | zero => intro rr h1; omega
  | succ d ih =>
    intro rr h1 h8 r I Q hS h hQ
    rw [wpR_claim]
    unfold wp_X5_readClaim
    -- a comparison
    have cmp : ∀ (r : PR) (I : Nat → Nat → Int32), Sd c r → XR I0 t0 PS r I → (∀ I', XR I0 t0 PS (bd r (pCmp lw KS)) I' → Q (fm I' L D)) → wp_X5_readSum 12 (fm I L D) (fun (h29 : Hp) => ((hpK h29 12).1 = 20 + 4) ∧ (wp_X5_kind 12 h29 (fun (z33 : Int32) (h32 : Hp) => (if z33 = (60 : Int32) then (wp_X5_readClaim_J45 (wpR_claim d) 12 z33 Q h32) else ((if z33 = (61 : Int32) then (wp_X5_readClaim_J45 (wpR_claim d) 12 z33 Q h32) else ((if z33 = (62 : Int32) then (wp_X5_readClaim_J45 (wpR_claim d) 12 z33 Q h32) else (((hpK h32 12).1 = 20 + 4) ∧ (wp_X5_refuse 12 (1 : Int32) h32 (fun (h47 : Hp) => Q h47))))))))))) := by
      intro r I hS h hQ
      refine x_readSum hX hS h (fun I' hI' => ?_)
      have hS' := Sd_bd hS (Inc_sum hX.kc (lw := lw)).z
      have hQ : ∀ I', XR I0 t0 PS (bd (bd r (pSum lw KS)) (pCmp2 lw KS)) I' → Q (fm I' L D) := fun I2 h2 => hQ I2 (by rw [bd_bd] at h2; exact h2)
      generalize bd r (pSum lw KS) = r2 at hI' hS' hQ
      cases r2 with
      | inl e =>
        simp only [gK, gI, gL, gR_, g_stI, g_stL, forall_eq, true_and, ad_s, okA_s, okO_s, okN_s, i10, i00, if_true, if_false, reduceCtorEq, Kf_1, Kf_400, Kf_12, x_kindL hX hI', show ¬ (1 : Int32) = 60 by decide, show ¬ (1 : Int32) = 61 by decide, show ¬ (1 : Int32) = 62 by decide]
        exact x_refuse hX hS' hI' (k := 1) (by decide) hQ
      | inr q =>
        obtain ⟨i, C⟩ := q
        obtain ⟨s1, s2⟩ := hS' i C rfl
        have hQ : ∀ I', XR I0 t0 PS (pCmp2 lw KS i C) I' → Q (fm I' L D) := hQ
        unfold pCmp2 at hQ
        simp only [gK, gI, gL, gR_, g_stI, g_stL, forall_eq, true_and, ad_s, okA_s, okO_s, okN_s, i10, i00, if_true, if_false, reduceCtorEq, Kf_1, Kf_400, Kf_12, x_kindR hX hS' hI']
        by_cases e1 : KS i = 60
        · rw [if_pos e1]
          rw [if_pos e1] at hQ
          exact x_cmpJ hX hS' hI' (k_lt hX.kc s1 e1 (by decide)) (o := 6) e1 hQ
        · rw [if_neg e1]
          rw [if_neg e1] at hQ
          by_cases e2 : KS i = 61
          · rw [if_pos e2]
            rw [if_pos e2] at hQ
            exact x_cmpJ hX hS' hI' (k_lt hX.kc s1 e2 (by decide)) (o := 7) e2 hQ
          · rw [if_neg e2]
            rw [if_neg e2] at hQ
            by_cases e3 : KS i = 62
            · rw [if_pos e3]
              rw [if_pos e3] at hQ
              exact x_cmpJ hX hS' hI' (k_lt hX.kc s1 e3 (by decide)) (o := 8) e3 hQ
            · rw [if_neg e3]
              rw [if_neg e3] at hQ
              exact x_refuse hX hS' hI' (k := 1) (by decide) hQ
    cases r with
    | inl e =>
      simp only [gK, gI, gL, gR_, g_stI, g_stL, forall_eq, true_and, ad_s, okA_s, okO_s, okN_s, i10, i00, if_true, if_false, reduceCtorEq, Kf_1, Kf_400, Kf_12, x_kindL hX h, show ¬ (1 : Int32) = 258 by decide, show ¬ (1 : Int32) = 40 by decide]
      have := cmp (.inl e) I hS h hQ
      simpa only [gK, gI, gL, gR_, g_stI, g_stL, forall_eq, true_and, ad_s, okA_s, okO_s, okN_s, i10, i00, if_true, if_false, reduceCtorEq, Kf_1, Kf_400, Kf_12] using this
    | inr q =>
      obtain ⟨i, C⟩ := q
      obtain ⟨s1, s2⟩ := hS i C rfl
      simp only [gK, gI, gL, gR_, g_stI, g_stL, forall_eq, true_and, ad_s, okA_s, okO_s, okN_s, i10, i00, if_true, if_false, reduceCtorEq, Kf_1, Kf_400, Kf_12, x_kindR hX hS h]
      unfold wp_X5_readClaim_J78
      have hQ : ∀ I', XR I0 t0 PS (pClaim lw KS rr i C) I' → Q (fm I' L D) := hQ
      cases rr with
      | zero =>
        unfold pClaim at hQ
        simp only [if_neg (show ¬ nI (8 - 0) < (8 : Int32) by decide)]
        by_cases e1 : KS i = 258
        · rw [if_pos e1]
          rw [if_pos e1] at hQ
          refine ⟨rfl, x_refuse hX hS h (k := 3) (by decide) hQ⟩
        · rw [if_neg e1]
          rw [if_neg e1] at hQ
          by_cases e2 : KS i = 40
          · rw [if_pos e2]
            rw [if_pos e2] at hQ
            refine ⟨rfl, x_refuse hX hS h (k := 3) (by decide) hQ⟩
          · rw [if_neg e2]
            rw [if_neg e2] at hQ
            have := cmp (.inr (i, C)) I hS h hQ
            simpa only [gK, gI, gL, gR_, g_stI, g_stL, forall_eq, true_and, ad_s, okA_s, okO_s, okN_s, i10, i00, if_true, if_false, reduceCtorEq, Kf_1, Kf_400, Kf_12] using this
      | succ rr =>
        unfold pClaim at hQ
        have o1 : nI (8 - (rr + 1)) < (8 : Int32) := nI_lt (b := 8) (by omega) (by decide)
        have o2 : nI (8 - (rr + 1)) + 1 = nI (8 - rr) := by rw [nI_1]; congr 1; omega
        have hcl := ih rr (by omega) (by omega)
        have hin := Inc_claim hX.kc (lw := lw) rr
        simp only [if_pos o1, o2]
        by_cases e1 : KS i = 258
        · rw [if_pos e1, if_pos e1]
          rw [if_pos e1] at hQ
          have hi := k_lt hX.kc s1 e1 (by decide)
          have S2 : Sd2 c (.inr (i + 1, C)) := Sd2_r (by omega) (by omega)
          simp only [gK, gI, gL, gR_, g_stI, g_stL, forall_eq, true_and, ad_s, okA_s, okO_s, okN_s, i10, i00, if_true, if_false, reduceCtorEq, Kf_1, Kf_400, Kf_12]
          refine hcl _ _ _ S2.d (XR_next hX.t8 h) (fun I' hI' => ?_)
          simp only [gK, gI, gL, gR_, g_stI, g_stL, forall_eq, true_and, ad_s, okA_s, okO_s, okN_s, i10, i00, if_true, if_false, reduceCtorEq, Kf_1, Kf_400, Kf_12, ad12 hX, kTx hX]
          refine x_put7 hX hI' (9, 0) rfl (fun i C q => ?_) (fun I'' hI'' => hQ I'' hI'')
          have := Sd_bd S2.d hin.z i C q
          have := hX.c6
          omega
        · rw [if_neg e1]
          rw [if_neg e1] at hQ
          by_cases e2 : KS i = 40
          · rw [if_pos e2, if_neg e1]
            rw [if_pos e2] at hQ
            have hi := k_lt hX.kc s1 e2 (by decide)
            have S2 : Sd2 c (.inr (i + 1, C)) := Sd2_r (by omega) (by omega)
            simp only [gK, gI, gL, gR_, g_stI, g_stL, forall_eq, true_and, ad_s, okA_s, okO_s, okN_s, i10, i00, if_true, if_false, reduceCtorEq, Kf_1, Kf_400, Kf_12]
            refine x_readEither hX hcl hin _ _ _ S2.d (XR_next hX.t8 h) (fun I' hI' => ?_)
            simp only [gK, gI, gL, gR_, g_stI, g_stL, forall_eq, true_and, ad_s, okA_s, okO_s, okN_s, i10, i00, if_true, if_false, reduceCtorEq, Kf_1, Kf_400, Kf_12]
            exact x_expect hX (Sd_bd S2.d (Inc_eith hX.kc hin).z) hI' (by decide) hQ
          · rw [if_neg e2]
            rw [if_neg e2] at hQ
            have := cmp (.inr (i, C)) I hS h hQ
            simpa only [gK, gI, gL, gR_, g_stI, g_stL, forall_eq, true_and, ad_s, okA_s, okO_s, okN_s, i10, i00, if_true, if_false, reduceCtorEq, Kf_1, Kf_400, Kf_12] using this
end XQ
