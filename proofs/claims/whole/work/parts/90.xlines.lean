/-! READING A TEXT: lines (my own) -/
def hdk (lw : Bool) (k : Int32) : Prop := (lw = true ∧ 260 ≤ k ∧ k ≤ 262) ∨ (lw = false ∧ (k = 263 ∨ k = 264))
abbrev LR : Type := Nat × Nat × Nat × Nat
abbrev PL : Type := (Nat × Nat) ⊕ (Nat × CD × Nat)
def mkL (r : PR) (s : Nat) : PL := match r with
  | .inl e => .inl e
  | .inr q => .inr (q.1, q.2, s)
noncomputable def pLine (lw : Bool) (KS : Nat → Int32) (i : Nat) (C : CD) : PL := if lw = true then (match pSum lw KS (i + 1) C with
    | .inl e => .inl e
    | .inr q => if KS q.1 = 259 then mkL (bd (pEith KS (pClaim lw KS 8) (q.1 + 1) q.2) (pEnd KS 59)) q.2.length else mkL (pEnd KS 59 q.1 q.2) q.2.length)
  else mkL (bd (pEith KS (pClaim lw KS 8) (i + 1) C) (pEnd KS 59)) C.length
noncomputable def pLine0 (lw : Bool) (KS : Nat → Int32) (m i : Nat) (C : CD) : PL := @ite _ (hdk lw (KS i)) (Classical.propDecidable _) (if m = 16 then .inl (3, i) else pLine lw KS i C) (.inl (1, i))
noncomputable def pText (lw : Bool) (KS : Nat → Int32) : Nat → Nat → CD → List LR → (Nat × Nat) ⊕ (CD × List LR)
  | 0, _, _, _ => .inl (0, 0)
  | n + 1, i, C, Ls => if KS i = 0 then .inr (C, Ls) else match pLine0 lw KS Ls.length i C with
    | .inl e => .inl e
    | .inr q => pText lw KS n q.1 q.2.1 (Ls ++ [((KS i).toNatClampNeg - 260, C.length, q.2.2, q.2.1.length)])
def FT (t0 : Nat) (I0 I : Nat → Nat → Int32) : Prop := ∀ l k, ¬ ((l = 12 ∧ (k = 0 ∨ k = 1 ∨ k = 5)) ∨ (20 + 8 * t0 ≤ l ∧ l ≤ 20 + 8 * t0 + 5)) → I l k = I0 l k
def XT (I0 : Nat → Nat → Int32) (t0 i : Nat) (C : CD) (Ls : List LR) (I : Nat → Nat → Int32) : Prop := FT t0 I0 I ∧ XOK I t0 i C ∧ I (20 + 8 * t0) 7 = nI Ls.length ∧ Ls.length ≤ 16 ∧ ∀ (x : Nat) (q : LR), Ls[x]? = some q → I (20 + 8 * t0 + 1) x = nI (260 + q.1) ∧ I (20 + 8 * t0 + 2) x = nI q.2.1 ∧ I (20 + 8 * t0 + 3) x = nI q.2.2.1 ∧ I (20 + 8 * t0 + 4) x = nI q.2.2.2
def XTB (I0 : Nat → Nat → Int32) (t0 : Nat) (PS : Nat → Nat) (k j : Nat) (I : Nat → Nat → Int32) : Prop := FT t0 I0 I ∧ I 12 0 = nI k ∧ I 12 1 = nI (PS j) ∧ 0 < k ∧ k < 4
section XL
variable {L : Nat → Nat → Int64} {D : DD} {I0 : Nat → Nat → Int32} {t0 c : Nat} {KS : Nat → Int32} {PS : Nat → Nat} {lw : Bool}
theorem XC_of {I1 : Nat → Nat → Int32} (hX : XC D I0 t0 c KS PS lw) (h : ∀ l k, l = 10 ∨ l = 11 ∨ (l = 12 ∧ k = 4) → I1 l k = I0 l k) : XC D I1 t0 c KS PS lw := by
  obtain ⟨x1, x2, x3, x4, x5, x6, x7⟩ := hX
  exact ⟨x1, x2, x3, x4, x5, fun i hi => by rw [h 10 i (Or.inl rfl), h 11 i (Or.inr (Or.inl rfl))]; exact x6 i hi, by rw [h 12 4 (Or.inr (Or.inr ⟨rfl, rfl⟩))]; exact x7⟩
theorem x_kind0 (hX : XC D I0 t0 c KS PS lw) {i : Nat} {C : CD} {I : Nat → Nat → Int32} (hi : i ≤ c) (h : XOK I t0 i C) (h10 : I 10 i = I0 10 i) {Q : Int32 → Hp → Prop} : wp_X5_kind 12 (fm I L D) Q ↔ Q (KS i) (fm I L D) := by
  obtain ⟨x1, x2, x3, x4, x5, x6, x7⟩ := hX
  obtain ⟨b1, b2, b3, -⟩ := h
  unfold wp_X5_kind
  have e10 : I 10 i = KS i := h10.trans (x6 i hi).1
  simp only [gK, gI, gL, gR_, g_stI, g_stL, forall_eq, true_and, ad_s, okA_s, okO_s, okN_s, i10, i00, if_true, if_false, reduceCtorEq, Kf_1, Kf_400, Kf_12, b1, Rf_12_2, Kf_8, Rf_8_2, Kf_10, b3, if_neg (nI_ge (show i < 601 by omega) (show 601 < 2 ^ 31 by decide)), vp_in_nI (show i < 601 by omega) (show 601 < 2 ^ 31 by decide), nI_clamp (show i < 2 ^ 31 by omega), e10]
theorem x_refuse0 (hX : XC D I0 t0 c KS PS lw) {i : Nat} {C : CD} {I : Nat → Nat → Int32} (hi : i ≤ c) (h : XOK I t0 i C) (h11 : I 11 i = I0 11 i) (hf : FT t0 I0 I) {k : Nat} (hk : 0 < k ∧ k < 4) {Q : Hp → Prop} (hQ : ∀ I', XTB I0 t0 PS k i I' → Q (fm I' L D)) : wp_X5_refuse 12 (nI k) (fm I L D) Q := by
  have t8 := hX.t8
  obtain ⟨x1, x2, x3, x4, x5, x6, x7⟩ := hX
  obtain ⟨b1, b2, b3, -⟩ := h
  unfold wp_X5_refuse
  have e11 : I 11 i = nI (PS i) := h11.trans (x6 i hi).2
  have o5 : ∀ v, up2 I 12 0 v 12 5 = nI i := fun v => (up2_o (by omega)).trans b3
  have o11 : ∀ v, up2 I 12 0 v 11 i = nI (PS i) := fun v => (up2_o (by omega)).trans e11
  simp only [gK, gI, gL, gR_, g_stI, g_stL, forall_eq, true_and, ad_s, okA_s, okO_s, okN_s, i10, i00, if_true, if_false, reduceCtorEq, Kf_1, Kf_400, Kf_12, b1, Rf_12_2, Kf_8, Rf_8_3, Kf_11, b3, if_neg (nI_ge (show i < 601 by omega) (show 601 < 2 ^ 31 by decide)), o5, vp_in_nI (show i < 601 by omega) (show 601 < 2 ^ 31 by decide), nI_clamp (show i < 2 ^ 31 by omega), o11]
  refine hQ _ ⟨fun l k' hn => ?_, ?_, up2_s, hk⟩
  · rw [up2_o (by omega), up2_o (by omega)]; exact hf l k' hn
  · rw [up2_o (by omega), up2_s]
/-- the line's end, however it stands -/
theorem x_J104 {Ib : Nat → Nat → Int32} (hX : XC D Ib t0 c KS PS lw) {r : PR} {I : Nat → Nat → Int32} (hS : Sd c r) (h : XR Ib t0 PS r I) {m : Nat} (hm : m < 16) (h7 : Ib (20 + 8 * t0) 7 = nI m) {Q : Hp → Prop} (hbad : ∀ k j I', bd r (pEnd KS 59) = .inl (k, j) → FT t0 Ib I' → I' 12 0 = nI k → I' 12 1 = nI (PS j) → 0 < k → k < 4 → Q (fm I' L D)) (hok : ∀ j C I', bd r (pEnd KS 59) = .inr (j, C) → XOK I' t0 j C → (∀ l k, ¬ ((l = 12 ∧ (k = 0 ∨ k = 1 ∨ k = 5)) ∨ (l = 20 + 8 * t0 ∧ (k = 6 ∨ k = 7 ∨ k = 8)) ∨ l = 20 + 8 * t0 + 5 ∨ (l = 20 + 8 * t0 + 4 ∧ k = m)) → I' l k = Ib l k) → I' (20 + 8 * t0) 7 = nI (m + 1) → I' (20 + 8 * t0 + 4) m = nI C.length → Q (fm I' L D)) : wp_X5_readLine_J104 12 Q (fm I L D) := by
  have t8 := hX.t8
  have r3 : Rf D (20 + 8 * t0) 3 = some (20 + 8 * t0 + 4) := Rf_text (k := 3) hX.2.1 hX.2.2.1 (by decide)
  have k4 : Kf D (20 + 8 * t0 + 4) = (1, 16) := Kf_text (r := 4) hX.2.1 hX.2.2.1 (by decide)
  unfold wp_X5_readLine_J104
  simp only [gK, gI, gL, gR_, g_stI, g_stL, forall_eq, true_and, ad_s, okA_s, okO_s, okN_s, i10, i00, if_true, if_false, reduceCtorEq, Kf_1, Kf_400, Kf_12]
  refine x_expect hX hS h (by decide) (fun J hJ => ?_)
  simp only [gK, gI, gL, gR_, g_stI, g_stL, forall_eq, true_and, ad_s, okA_s, okO_s, okN_s, i10, i00, if_true, if_false, reduceCtorEq, Kf_1, Kf_400, Kf_12, ad12 hX, kTx hX]
  have j7 : J (20 + 8 * t0) 7 = nI m := (hJ.1 _ _ (by omega)).trans h7
  have o7 : ∀ k v, up2 J (20 + 8 * t0 + 4) k v (20 + 8 * t0) 7 = nI m := fun k v => (up2_o (by omega)).trans j7
  unfold wp_X7_finishLine wp_X7_isFull
  simp only [gK, gI, gL, gR_, g_stI, g_stL, forall_eq, true_and, ad_s, okA_s, okO_s, okN_s, i10, i00, if_true, if_false, reduceCtorEq, Kf_1, Kf_400, kTx hX, j7, if_pos (show nI m < (16 : Int32) from nI_lt (b := 16) hm (by decide)), r3, k4, vp_in_nI hm (show 16 < 2 ^ 31 by decide), nI_clamp (show m < 2 ^ 31 by omega), o7, nI_1]
  cases hr : bd r (pEnd KS 59) with
  | inl e =>
    obtain ⟨k, j⟩ := e
    rw [hr] at hJ
    obtain ⟨hf, b1, b2, b3, z, b4, b5⟩ := hJ
    refine hbad k j _ hr (fun l k' hn => ?_) ?_ ?_ b3.1 b3.2
    · rw [up2_o (by omega), up2_o (by omega)]; exact hf l k' (by omega)
    · rw [up2_o (by omega), up2_o (by omega)]; exact b1
    · rw [up2_o (by omega), up2_o (by omega)]; exact b2
  | inr q =>
    obtain ⟨j, C⟩ := q
    rw [hr] at hJ
    obtain ⟨hf, b1, b2, b3, b4, b5, b6, b7⟩ := hJ
    have b1 : J 12 0 = 0 := b1
    have b2 : J 12 1 = -1 := b2
    have b3 : J 12 5 = nI j := b3
    have b4 : J (20 + 8 * t0) 6 = nI C.length := b4
    refine hok j C _ hr ⟨?_, ?_, ?_, ?_, fun j' e he => ?_, ?_, fun z j' he => ?_⟩ (fun l k hn => ?_) up2_s ?_
    · rw [up2_o (by omega), up2_o (by omega)]; exact b1
    · rw [up2_o (by omega), up2_o (by omega)]; exact b2
    · rw [up2_o (by omega), up2_o (by omega)]; exact b3
    · rw [up2_o (by omega), up2_o (by omega)]; exact b4
    · rw [up2_o (by omega), up2_o (by omega)]; exact b5 j' e he
    · rw [up2_o (by omega), up2_o (by omega)]; exact b6
    · rw [up2_o (by omega), up2_o (by omega)] at z
      exact b7 z j' he
    · rw [up2_o (by omega), up2_o (by omega)]; exact hf l k (by omega)
    · rw [up2_o (by omega), up2_s, b4]
theorem XOK_cg {I J : Nat → Nat → Int32} {i : Nat} {C : CD} (h : XOK I t0 i C) (hc : ∀ l k, (l = 12 ∧ (k = 0 ∨ k = 1 ∨ k = 5)) ∨ (l = 20 + 8 * t0 ∧ (k = 6 ∨ k = 8)) ∨ l = 20 + 8 * t0 + 5 → J l k = I l k) : XOK J t0 i C := by
  obtain ⟨b1, b2, b3, b4, b5, b6, b7⟩ := h
  have e8 := hc (20 + 8 * t0) 8 (by omega)
  exact ⟨(hc _ _ (by omega)).trans b1, (hc _ _ (by omega)).trans b2, (hc _ _ (by omega)).trans b3, (hc _ _ (by omega)).trans b4, fun j e he => (hc _ _ (by omega)).trans (b5 j e he), by rw [e8]; exact b6, fun z => b7 (e8.symm.trans z)⟩
theorem get_appL {Ls : List LR} {e : LR} {j : Nat} {x : LR} (h : (Ls ++ [e])[j]? = some x) : (j < Ls.length ∧ Ls[j]? = some x) ∨ (j = Ls.length ∧ x = e) := by
  rcases Nat.lt_or_ge j Ls.length with q | q
  · rw [List.getElem?_append_left q] at h
    exact Or.inl ⟨q, h⟩
  · rw [List.getElem?_append_right q] at h
    have : j - Ls.length = 0 := by
      rcases Nat.eq_zero_or_pos (j - Ls.length) with z | z
      · exact z
      · rw [List.getElem?_eq_none (by simp; omega)] at h; cases h
    rw [this] at h
    exact Or.inr ⟨by omega, by simpa using h.symm⟩
theorem hdk_so {k : Int32} (h : hdk lw k) : ∃ so, so < 5 ∧ k = nI (260 + so) ∧ (lw = true → so < 3) ∧ (lw = false → 3 ≤ so) := by
  rcases h with ⟨hl, h1, h2⟩ | ⟨hl, h1 | h1⟩
  · obtain ⟨j, hj, e⟩ : ∃ j : Nat, j ≤ 262 ∧ k = nI j := nI_of2 (M := 262) (n := 262) (by decide) (Int32.not_lt.mpr (Int32.le_trans (by decide) h1)) h2
    have : 260 ≤ j := by rw [e] at h1; exact (nI_leI (a := 260) (by decide) (by omega)).mp h1
    exact ⟨j - 260, by omega, by rw [show 260 + (j - 260) = j by omega]; exact e, fun _ => by omega, fun z => by rw [hl] at z; cases z⟩
  · exact ⟨3, by decide, h1, (fun z => by rw [hl] at z; cases z), fun _ => by decide⟩
  · exact ⟨4, by decide, h1, (fun z => by rw [hl] at z; cases z), fun _ => by decide⟩
theorem x_head (hX : XC D I0 t0 c KS PS lw) {I : Nat → Nat → Int32} (h4 : I 12 4 = I0 12 4) {k : Int32} {Q : Int32 → Hp → Prop} (h1 : hdk lw k → Q 1 (fm I L D)) (h0 : ¬ hdk lw k → Q 0 (fm I L D)) : wp_X5_isHead 12 k (fm I L D) Q := by
  have e4 : I 12 4 = if lw = true then 1 else 0 := h4.trans hX.2.2.2.2.2.2
  unfold wp_X5_isHead
  simp only [gK, gI, gL, gR_, g_stI, g_stL, forall_eq, true_and, ad_s, okA_s, okO_s, okN_s, i10, i00, if_true, if_false, reduceCtorEq, Kf_1, Kf_400, Kf_12, e4]
  unfold hdk at h1 h0
  cases lw with
  | false =>
    simp only [Bool.false_eq_true, if_false, false_and, false_or, true_and, i00, if_true] at h1 h0 ⊢
    by_cases q1 : k = 263
    · rw [if_pos q1]; exact h1 (Or.inl q1)
    · rw [if_neg q1]
      by_cases q2 : k = 264
      · rw [if_pos q2]; exact h1 (Or.inr q2)
      · rw [if_neg q2]; exact h0 (fun z => z.elim q1 q2)
  | true =>
    simp only [if_true, i10, if_false, true_and, reduceCtorEq, false_and, or_false] at h1 h0 ⊢
    by_cases q1 : k < 260
    · rw [if_pos q1]; exact h0 (fun z => absurd z.1 (Int32.not_le.mpr q1))
    · rw [if_neg q1]
      by_cases q2 : (262 : Int32) < k
      · rw [if_pos q2]; exact h0 (fun z => absurd z.2 (Int32.not_le.mpr q2))
      · rw [if_neg q2]; exact h1 ⟨Int32.not_lt.mp q1, Int32.not_lt.mp q2⟩
set_option maxHeartbeats 1000000 in
theorem x_readLine (hX : XC D I0 t0 c KS PS lw) {i : Nat} {C : CD} {Ls : List LR} {I : Nat → Nat → Int32} (h : XT I0 t0 i C Ls I) (hi : i ≤ c) (hC : C.length ≤ i) {Q : Hp → Prop} (hbad : ∀ k j I', pLine0 lw KS Ls.length i C = .inl (k, j) → XTB I0 t0 PS k j I' → Q (fm I' L D)) (hok : ∀ j C2 s I', pLine0 lw KS Ls.length i C = .inr (j, C2, s) → XT I0 t0 j C2 (Ls ++ [((KS i).toNatClampNeg - 260, C.length, s, C2.length)]) I' → Q (fm I' L D)) : wp_X5_readLine 12 (fm I L D) Q := by
  have t8 := hX.t8
  have c6 := hX.c6
  obtain ⟨hf, hO, h7, h16, hLs⟩ := h
  have h10 : ∀ k, I 10 k = I0 10 k := fun k => hf 10 k (by omega)
  have h11 : ∀ k, I 11 k = I0 11 k := fun k => hf 11 k (by omega)
  unfold wp_X5_readLine
  simp only [gK, gI, gL, gR_, g_stI, g_stL, forall_eq, true_and, ad_s, okA_s, okO_s, okN_s, i10, i00, if_true, if_false, reduceCtorEq, Kf_1, Kf_400, Kf_12, x_kind0 hX hi hO (h10 i)]
  refine x_head hX (hf 12 4 (by omega)) (fun hh => ?_) (fun hh => ?_)
  rotate_left
  · simp only [gK, gI, gL, gR_, g_stI, g_stL, forall_eq, true_and, ad_s, okA_s, okO_s, okN_s, i10, i00, if_true, if_false, reduceCtorEq, Kf_1, Kf_400, Kf_12]
    refine x_refuse0 hX hi hO (h11 i) hf (k := 1) (by decide) (fun I' hI' => hbad 1 i I' ?_ hI')
    unfold pLine0
    rw [if_neg hh]
  · obtain ⟨so, so5, eso, so3, so3'⟩ := hdk_so hh
    have hic : i < c := by
      refine k_lt hX.kc hi eso ?_
      exact nI_ne0 (by omega) (by omega)
    have enat : (KS i).toNatClampNeg - 260 = so := by rw [eso, nI_clamp (by omega)]; omega
    have pl : pLine0 lw KS Ls.length i C = if Ls.length = 16 then .inl (3, i) else pLine lw KS i C := by
      unfold pLine0
      rw [if_pos hh]
    rw [pl] at hbad hok
    have kT := kTx hX
    have r0 : Rf D (20 + 8 * t0) 0 = some (20 + 8 * t0 + 1) := Rf_text (k := 0) hX.2.1 hX.2.2.1 (by decide)
    have r1 : Rf D (20 + 8 * t0) 1 = some (20 + 8 * t0 + 2) := Rf_text (k := 1) hX.2.1 hX.2.2.1 (by decide)
    have r2 : Rf D (20 + 8 * t0) 2 = some (20 + 8 * t0 + 3) := Rf_text (k := 2) hX.2.1 hX.2.2.1 (by decide)
    have k1 : Kf D (20 + 8 * t0 + 1) = (1, 16) := Kf_text (r := 1) hX.2.1 hX.2.2.1 (by decide)
    have k2 : Kf D (20 + 8 * t0 + 2) = (1, 16) := Kf_text (r := 2) hX.2.1 hX.2.2.1 (by decide)
    have k3 : Kf D (20 + 8 * t0 + 3) = (1, 16) := Kf_text (r := 3) hX.2.1 hX.2.2.1 (by decide)
    unfold wp_X7_isFull
    simp only [gK, gI, gL, gR_, g_stI, g_stL, forall_eq, true_and, ad_s, okA_s, okO_s, okN_s, i10, i00, if_true, if_false, reduceCtorEq, Kf_1, Kf_400, Kf_12, ad12 hX, kT, h7]
    by_cases full : Ls.length = 16
    · rw [if_neg (show ¬ nI Ls.length < (16 : Int32) by rw [full]; decide)]
      try simp only [gK, gI, gL, gR_, g_stI, g_stL, forall_eq, true_and, ad_s, okA_s, okO_s, okN_s, i10, i00, if_true, if_false, reduceCtorEq, Kf_1, Kf_400, Kf_12]
      refine x_refuse0 hX hi hO (h11 i) hf (k := 3) (by decide) (fun I' hI' => hbad 3 i I' ?_ hI')
      rw [if_pos full]
    · have hm : Ls.length < 16 := by omega
      rw [if_pos (show nI Ls.length < (16 : Int32) from nI_lt (b := 16) hm (by decide))]
      rw [if_neg full] at hbad hok
      obtain ⟨b1, b2, b3, b4, b5, b6, b7⟩ := id hO
      have o7 : ∀ v, up2 I 12 5 v (20 + 8 * t0) 7 = nI Ls.length := fun v => (up2_o (by omega)).trans h7
      have o6 : ∀ v, up2 I 12 5 v (20 + 8 * t0) 6 = nI C.length := fun v => (up2_o (by omega)).trans b4
      have p7 : ∀ (J : Nat → Nat → Int32) a k v, a = 20 + 8 * t0 + 1 ∨ a = 20 + 8 * t0 + 2 → up2 J a k v (20 + 8 * t0) 7 = J (20 + 8 * t0) 7 := fun J a k v z => up2_o (by omega)
      have p6 : ∀ (J : Nat → Nat → Int32) a k v, a = 20 + 8 * t0 + 1 ∨ a = 20 + 8 * t0 + 2 → up2 J a k v (20 + 8 * t0) 6 = J (20 + 8 * t0) 6 := fun J a k v z => up2_o (by omega)
      unfold wp_X7_beginLine wp_X7_isFull
      simp only [gK, gI, gL, gR_, g_stI, g_stL, forall_eq, true_and, ad_s, okA_s, okO_s, okN_s, i10, i00, if_true, if_false, reduceCtorEq, Kf_1, Kf_400, Kf_12, ad12 hX, kT, r0, r1, r2, k1, k2, k3, o7, o6, if_pos (show nI Ls.length < (16 : Int32) from nI_lt (b := 16) hm (by decide)), vp_in_nI hm (show 16 < 2 ^ 31 by decide), nI_clamp (show Ls.length < 2 ^ 31 by omega), p7 _ _ _ _ (Or.inl rfl), p7 _ _ _ _ (Or.inr rfl), p6 _ _ _ _ (Or.inl rfl), p6 _ _ _ _ (Or.inr rfl)]
      generalize hI1 : up2 (up2 (up2 (up2 I 12 5 _) (20 + 8 * t0 + 1) Ls.length _) (20 + 8 * t0 + 2) Ls.length _) (20 + 8 * t0 + 3) Ls.length _ = I1
      have f1 : ∀ l k, ¬ (l = 12 ∧ k = 5) → ¬ ((l = 20 + 8 * t0 + 1 ∨ l = 20 + 8 * t0 + 2 ∨ l = 20 + 8 * t0 + 3) ∧ k = Ls.length) → I1 l k = I l k := by
        intro l k a1 a2
        rw [← hI1, up2_o (by omega), up2_o (by omega), up2_o (by omega), up2_o (by omega)]
      have e1 : I1 (20 + 8 * t0 + 1) Ls.length = KS i := by
        rw [← hI1, up2_o (by omega), up2_o (by omega), up2_s]
      have e2 : I1 (20 + 8 * t0 + 2) Ls.length = nI C.length := by rw [← hI1, up2_o (by omega), up2_s]
      have e3 : I1 (20 + 8 * t0 + 3) Ls.length = nI C.length := by rw [← hI1, up2_s]
      have e5 : I1 12 5 = nI (i + 1) := by
        rw [← hI1, up2_o (by omega), up2_o (by omega), up2_o (by omega), up2_s, b3, nI_1]
      have X1 : XC D I1 t0 c KS PS lw := XC_of hX (fun l k z => (f1 l k (by omega) (by omega)).trans (hf l k (by omega)))
      have O1 : XR I1 t0 PS (.inr (i + 1, C)) I1 := by
        refine ⟨fun _ _ _ => rfl, (f1 _ _ (by omega) (by omega)).trans b1, (f1 _ _ (by omega) (by omega)).trans b2, e5, (f1 _ _ (by omega) (by omega)).trans b4, fun j e he => (f1 _ _ (by omega) (by omega)).trans (b5 j e he), ?_, fun z => b7 ((f1 _ _ (by omega) (by omega)).symm.trans z)⟩
        show I1 (20 + 8 * t0) 8 = 0 ∨ I1 (20 + 8 * t0) 8 = 1
        rw [f1 _ _ (by omega) (by omega)]; exact b6
      have S1 : Sd c (.inr (i + 1, C)) := Sd_r (by omega) (by omega)
      have h71 : I1 (20 + 8 * t0) 7 = nI Ls.length := (f1 _ _ (by omega) (by omega)).trans h7
      have e4 : I1 12 4 = if lw = true then 1 else 0 := X1.2.2.2.2.2.2
      -- the end of the line, out of any base that keeps the heads
      have fin : ∀ (Ib : Nat → Nat → Int32) (s : Nat), XC D Ib t0 c KS PS lw → FT t0 I0 Ib → Ib (20 + 8 * t0) 7 = nI Ls.length → (∀ l k, l = 20 + 8 * t0 + 1 ∨ l = 20 + 8 * t0 + 2 ∨ (l = 20 + 8 * t0 + 3 ∧ k ≠ Ls.length) ∨ l = 20 + 8 * t0 + 4 → Ib l k = I1 l k) → Ib (20 + 8 * t0 + 3) Ls.length = nI s → ∀ (r : PR) (J : Nat → Nat → Int32), Sd c r → XR Ib t0 PS r J → (∀ k j, bd r (pEnd KS 59) = .inl (k, j) → pLine lw KS i C = .inl (k, j)) → (∀ j C2, bd r (pEnd KS 59) = .inr (j, C2) → pLine lw KS i C = .inr (j, C2, s)) → wp_X5_readLine_J104 12 Q (fm J L D) := by
        intro Ib s Xb Fb b7' bk bs r J SJ hJ hb ho
        refine x_J104 Xb SJ hJ hm b7' (fun k j I' e F' q1 q2 q3 q4 => hbad k j I' (hb k j e) ⟨fun l k' hn => (F' l k' hn).trans (Fb l k' hn), q1, q2, q3, q4⟩) (fun j C2 I' e O' F' q7 q4 => hok j C2 s I' (ho j C2 e) ⟨fun l k hn => (F' l k (by omega)).trans (Fb l k hn), O', ?_, ?_, fun x q hq => ?_⟩)
        · rw [q7, List.length_append]; rfl
        · rw [List.length_append]; simp; omega
        · rcases get_appL hq with ⟨z1, z2⟩ | ⟨z1, z2⟩
          · obtain ⟨w1, w2, w3, w4⟩ := hLs x q z2
            refine ⟨?_, ?_, ?_, ?_⟩
            · rw [F' _ _ (by omega), bk _ _ (by omega), f1 _ _ (by omega) (by omega)]; exact w1
            · rw [F' _ _ (by omega), bk _ _ (by omega), f1 _ _ (by omega) (by omega)]; exact w2
            · rw [F' _ _ (by omega), bk _ _ (by omega), f1 _ _ (by omega) (by omega)]; exact w3
            · rw [F' _ _ (by omega), bk _ _ (by omega), f1 _ _ (by omega) (by omega)]; exact w4
          · subst z2
            rw [z1]
            refine ⟨?_, ?_, ?_, q4⟩
            · rw [F' _ _ (by omega), bk _ _ (by omega), e1, enat]; exact eso
            · rw [F' _ _ (by omega), bk _ _ (by omega)]; exact e2
            · rw [F' _ _ (by omega)]; exact bs
      have F1 : FT t0 I0 I1 := fun l k hn => (f1 l k (by omega) (by omega)).trans (hf l k hn)
      have hcl : RC L D I1 t0 c PS (wpR_claim 12) (nI (8 - 8)) (pClaim lw KS 8) := x_claim X1 12 8 (by decide) (by decide)
      have hin := Inc_claim hX.kc (lw := lw) 8
      have hEi := Inc_eith hX.kc hin
      simp only [e4]
      cases hlw : lw with
      | false =>
        subst hlw
        simp only [Bool.false_eq_true, if_false, i00, if_true]
        refine x_readEither X1 hcl hin _ _ _ S1 O1 (fun J hJ => ?_)
        refine fin I1 C.length X1 F1 h71 (fun _ _ _ => rfl) e3 _ J (Sd_bd S1 hEi.z) hJ (fun k j e => ?_) (fun j C2 e => ?_)
        · unfold pLine
          rw [if_neg (by decide)]
          have e : bd (pEith KS (pClaim false KS 8) (i + 1) C) (pEnd KS 59) = .inl (k, j) := e
          rw [e]; rfl
        · unfold pLine
          rw [if_neg (by decide)]
          have e : bd (pEith KS (pClaim false KS 8) (i + 1) C) (pEnd KS 59) = .inr (j, C2) := e
          rw [e]; rfl
      | true =>
        subst hlw
        simp only [if_true, i10, if_false]
        refine x_readSum X1 S1 O1 (fun J hJ => ?_)
        have hJ : XR I1 t0 PS (pSum true KS (i + 1) C) J := hJ
        have SJ : Sd c (pSum true KS (i + 1) C) := Sd_bd (r := .inr (i + 1, C)) S1 (Inc_sum hX.kc).z
        have j7 : J (20 + 8 * t0) 7 = nI Ls.length := (hJ.1 _ _ (by omega)).trans h71
        unfold wp_X7_beginClaim wp_X7_isFull
        simp only [gK, gI, gL, gR_, g_stI, g_stL, forall_eq, true_and, ad_s, okA_s, okO_s, okN_s, i10, i00, if_true, if_false, reduceCtorEq, Kf_1, Kf_400, Kf_12, ad12 hX, kT, j7, if_pos (show nI Ls.length < (16 : Int32) from nI_lt (b := 16) hm (by decide)), r2, k3, vp_in_nI hm (show 16 < 2 ^ 31 by decide), nI_clamp (show Ls.length < 2 ^ 31 by omega)]
        generalize hI2 : up2 J (20 + 8 * t0 + 3) Ls.length (J (20 + 8 * t0) 6) = I2
        have f2 : ∀ l k, ¬ (l = 20 + 8 * t0 + 3 ∧ k = Ls.length) → I2 l k = J l k := fun l k z => by rw [← hI2, up2_o z]
        have g2 : I2 (20 + 8 * t0 + 3) Ls.length = J (20 + 8 * t0) 6 := by rw [← hI2, up2_s]
        have X2 : XC D I2 t0 c KS PS true := XC_of X1 (fun l k z => (f2 l k (by omega)).trans (hJ.1 l k (by omega)))
        have F2 : FT t0 I0 I2 := fun l k hn => (f2 l k (by omega)).trans ((hJ.1 l k (by omega)).trans (F1 l k hn))
        have h72 : I2 (20 + 8 * t0) 7 = nI Ls.length := (f2 _ _ (by omega)).trans j7
        have bk2 : ∀ l k, l = 20 + 8 * t0 + 1 ∨ l = 20 + 8 * t0 + 2 ∨ (l = 20 + 8 * t0 + 3 ∧ k ≠ Ls.length) ∨ l = 20 + 8 * t0 + 4 → I2 l k = I1 l k := fun l k z => (f2 l k (by omega)).trans (hJ.1 l k (by omega))
        have hpl : pLine true KS i C = (match pSum true KS (i + 1) C with
            | .inl e => .inl e
            | .inr q => if KS q.1 = 259 then mkL (bd (pEith KS (pClaim true KS 8) (q.1 + 1) q.2) (pEnd KS 59)) q.2.length else mkL (pEnd KS 59 q.1 q.2) q.2.length) := by
          unfold pLine
          rw [if_pos rfl]
        cases hps : pSum true KS (i + 1) C with
        | inl e =>
          obtain ⟨k, j⟩ := e
          rw [hps] at hJ hpl
          have h2 : XR I2 t0 PS (.inl (k, j)) I2 := by
            obtain ⟨-, q1, q2, q3, z, q4, q5⟩ := hJ
            exact ⟨fun _ _ _ => rfl, (f2 _ _ (by omega)).trans q1, (f2 _ _ (by omega)).trans q2, q3, z, q4, (f2 _ _ (by omega)).trans q5⟩
          obtain ⟨-, -, -, -, z, q4, q5⟩ := id hJ
          rw [x_kindL X2 h2]
          simp only [show ¬ (1 : Int32) = 259 by decide, if_false]
          exact fin I2 z X2 F2 h72 bk2 (g2.trans q5) (.inl (k, j)) I2 Sd_l h2 (fun k' j' e => by rw [hpl]; cases e; rfl) (fun j' C2 e => by cases e)
        | inr q =>
          obtain ⟨j, C1⟩ := q
          rw [hps] at hJ hpl SJ
          obtain ⟨s1, s2⟩ := SJ j C1 rfl
          have O2 : XOK I2 t0 j C1 := XOK_cg hJ.2 (fun l k z => f2 l k (by omega))
          have h2 : XR I2 t0 PS (.inr (j, C1)) I2 := ⟨fun _ _ _ => rfl, O2⟩
          have g2' : I2 (20 + 8 * t0 + 3) Ls.length = nI C1.length := g2.trans hJ.2.2.2.2.1
          rw [x_kindR X2 SJ h2]
          have hpl : pLine true KS i C = if KS j = 259 then mkL (bd (pEith KS (pClaim true KS 8) (j + 1) C1) (pEnd KS 59)) C1.length else mkL (pEnd KS 59 j C1) C1.length := hpl
          by_cases ew : KS j = 259
          · rw [if_pos ew]
            rw [if_pos ew] at hpl
            have hj := k_lt hX.kc s1 ew (by decide)
            simp only [gK, gI, gL, gR_, g_stI, g_stL, forall_eq, true_and, ad_s, okA_s, okO_s, okN_s, i10, i00, if_true, if_false, reduceCtorEq, Kf_1, Kf_400, Kf_12]
            have S3 : Sd c (.inr (j + 1, C1)) := Sd_r (by omega) (by omega)
            have hcl2 : RC L D I2 t0 c PS (wpR_claim 12) (nI (8 - 8)) (pClaim true KS 8) := x_claim X2 12 8 (by decide) (by decide)
            refine x_readEither X2 hcl2 hin _ _ _ S3 (XR_next t8 h2) (fun J3 hJ3 => ?_)
            refine fin I2 C1.length X2 F2 h72 bk2 g2' _ J3 (Sd_bd S3 hEi.z) hJ3 (fun k j' e => ?_) (fun j' C2 e => ?_)
            · rw [hpl]
              have e : bd (pEith KS (pClaim true KS 8) (j + 1) C1) (pEnd KS 59) = .inl (k, j') := e
              rw [e]; rfl
            · rw [hpl]
              have e : bd (pEith KS (pClaim true KS 8) (j + 1) C1) (pEnd KS 59) = .inr (j', C2) := e
              rw [e]; rfl
          · rw [if_neg ew]
            rw [if_neg ew] at hpl
            refine fin I2 C1.length X2 F2 h72 bk2 g2' (.inr (j, C1)) I2 SJ h2 (fun k j' e => ?_) (fun j' C2 e => ?_)
            · rw [hpl]
              have e : pEnd KS 59 j C1 = .inl (k, j') := e
              rw [e]; rfl
            · rw [hpl]
              have e : pEnd KS 59 j C1 = .inr (j', C2) := e
              rw [e]; rfl
end XL
