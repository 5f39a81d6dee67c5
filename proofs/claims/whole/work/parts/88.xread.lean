/-! READING A TEXT: the object's reader (my own) -/
def Sd (c : Nat) (r : PR) : Prop := ∀ i C, r = .inr (i, C) → i ≤ c ∧ C.length + 1 ≤ i
theorem Sd_l {c : Nat} {e : Nat × Nat} : Sd c (.inl e) := fun i C q => (by cases q)
theorem Sd_r {c i : Nat} {C : CD} (h1 : i ≤ c) (h2 : C.length + 1 ≤ i) : Sd c (.inr (i, C)) := fun i' C' q => (by cases q; exact ⟨h1, h2⟩)
theorem Sd_bd {c : Nat} {r : PR} {p : Nat → CD → PR} (h : Sd c r) (hp : Inz c p) : Sd c (bd r p) := by
  cases r with
  | inl e => exact Sd_l
  | inr q =>
    obtain ⟨i, C⟩ := q
    obtain ⟨h1, h2⟩ := h i C rfl
    intro j D e
    have := (hp i C h1).1 j D e
    omega
theorem Inc.z {c : Nat} {p : Nat → CD → PR} (h : Inc c p) : Inz c p := fun i C hi => ⟨fun j D q => by have := (h i C hi).1 j D q; omega, (h i C hi).2⟩
def FE (t0 : Nat) (I0 I : Nat → Nat → Int32) : Prop := ∀ l k, ¬ ((l = 12 ∧ (k = 0 ∨ k = 1 ∨ k = 5)) ∨ (l = 20 + 8 * t0 ∧ (k = 6 ∨ k = 8)) ∨ l = 20 + 8 * t0 + 5) → I l k = I0 l k
def XC (D : DD) (I0 : Nat → Nat → Int32) (t0 c : Nat) (KS : Nat → Int32) (PS : Nat → Nat) (lw : Bool) : Prop := D.tx 0 = t0 ∧ t0 < 2 + D.nL ∧ D.nL ≤ 6 ∧ c ≤ 600 ∧ KS c = 0 ∧ (∀ i, i ≤ c → I0 10 i = KS i ∧ I0 11 i = nI (PS i)) ∧ I0 12 4 = (if lw = true then 1 else 0)
def XOK (I : Nat → Nat → Int32) (t0 i : Nat) (C : CD) : Prop := I 12 0 = 0 ∧ I 12 1 = -1 ∧ I 12 5 = nI i ∧ I (20 + 8 * t0) 6 = nI C.length ∧ (∀ (j : Nat) (e : Int32 × Int32), C[j]? = some e → I (20 + 8 * t0 + 5) j = stp e.1 e.2) ∧ (I (20 + 8 * t0) 8 = 0 ∨ I (20 + 8 * t0) 8 = 1) ∧ (I (20 + 8 * t0) 8 = 0 → ∀ j : Nat, C[j]? ≠ some ((1 : Int32), (11 : Int32)))
def XBAD (I : Nat → Nat → Int32) (t0 : Nat) (PS : Nat → Nat) (k j : Nat) : Prop := I 12 0 = nI k ∧ I 12 1 = nI (PS j) ∧ (0 < k ∧ k < 4) ∧ ∃ z, z ≤ 600 ∧ I (20 + 8 * t0) 6 = nI z
def XO (I : Nat → Nat → Int32) (t0 : Nat) (PS : Nat → Nat) (r : PR) : Prop := match r with
  | .inl e => XBAD I t0 PS e.1 e.2
  | .inr q => XOK I t0 q.1 q.2
def XR (I0 : Nat → Nat → Int32) (t0 : Nat) (PS : Nat → Nat) (r : PR) (I : Nat → Nat → Int32) : Prop := FE t0 I0 I ∧ XO I t0 PS r
def kd (KS : Nat → Int32) (r : PR) : Int32 := match r with
  | .inl _ => 1
  | .inr q => KS q.1
section XP
variable {L : Nat → Nat → Int64} {D : DD} {I0 : Nat → Nat → Int32} {t0 c : Nat} {KS : Nat → Int32} {PS : Nat → Nat} {lw : Bool}
theorem x_kind (hX : XC D I0 t0 c KS PS lw) {r : PR} {I : Nat → Nat → Int32} (hS : Sd c r) (h : XR I0 t0 PS r I) {Q : Int32 → Hp → Prop} : wp_X5_kind 12 (fm I L D) Q ↔ Q (kd KS r) (fm I L D) := by
  obtain ⟨x1, x2, x3, x4, x5, x6, x7⟩ := hX
  unfold wp_X5_kind
  cases r with
  | inl e =>
    obtain ⟨k, j⟩ := e
    obtain ⟨hf, b1, b2, b3, b4⟩ := h
    have : ¬ I 12 0 = 0 := by rw [b1]; exact nI_ne0 b3.1 (by have := b3.2; omega)
    simp only [gK, gI, gL, gR_, g_stI, g_stL, forall_eq, true_and, ad_s, okA_s, okO_s, okN_s, i10, i00, if_true, if_false, reduceCtorEq, Kf_1, Kf_400, Kf_12, if_neg this]
    rfl
  | inr q =>
    obtain ⟨i, C⟩ := q
    obtain ⟨hf, b1, b2, b3, b4, b5, b6, b7⟩ := h
    obtain ⟨s1, s2⟩ := hS i C rfl
    have b1 : I 12 0 = 0 := b1
    have b3 : I 12 5 = nI i := b3
    have e10 : I 10 i = KS i := (hf 10 i (by omega)).trans (x6 i s1).1
    simp only [gK, gI, gL, gR_, g_stI, g_stL, forall_eq, true_and, ad_s, okA_s, okO_s, okN_s, i10, i00, if_true, if_false, reduceCtorEq, Kf_1, Kf_400, Kf_12, b1, Rf_12_2, Kf_8, Rf_8_2, Kf_10, b3, if_neg (nI_ge (show i < 601 by omega) (show 601 < 2 ^ 31 by decide)), vp_in_nI (show i < 601 by omega) (show 601 < 2 ^ 31 by decide), nI_clamp (show i < 2 ^ 31 by omega), e10]
    rfl
theorem x_kindL (hX : XC D I0 t0 c KS PS lw) {e : Nat × Nat} {I : Nat → Nat → Int32} (h : XR I0 t0 PS (.inl e) I) {Q : Int32 → Hp → Prop} : wp_X5_kind 12 (fm I L D) Q ↔ Q 1 (fm I L D) := x_kind hX (r := .inl e) Sd_l h
theorem x_kindR (hX : XC D I0 t0 c KS PS lw) {i : Nat} {C : CD} {I : Nat → Nat → Int32} (hS : Sd c (.inr (i, C))) (h : XR I0 t0 PS (.inr (i, C)) I) {Q : Int32 → Hp → Prop} : wp_X5_kind 12 (fm I L D) Q ↔ Q (KS i) (fm I L D) := x_kind hX (r := .inr (i, C)) hS h
theorem x_refuse (hX : XC D I0 t0 c KS PS lw) {r : PR} {I : Nat → Nat → Int32} (hS : Sd c r) (h : XR I0 t0 PS r I) {k : Nat} (hk : 0 < k ∧ k < 4) {Q : Hp → Prop} (hQ : ∀ I', XR I0 t0 PS (bd r (fun i _ => .inl (k, i))) I' → Q (fm I' L D)) : wp_X5_refuse 12 (nI k) (fm I L D) Q := by
  obtain ⟨x1, x2, x3, x4, x5, x6, x7⟩ := hX
  have t8 : t0 < 8 := by omega
  unfold wp_X5_refuse
  cases r with
  | inl e =>
    obtain ⟨k', j⟩ := e
    have hQ := hQ I h
    obtain ⟨hf, b1, b2, b3, b4⟩ := h
    have : ¬ I 12 0 = 0 := by rw [b1]; exact nI_ne0 b3.1 (by have := b3.2; omega)
    simp only [gK, gI, gL, gR_, g_stI, g_stL, forall_eq, true_and, ad_s, okA_s, okO_s, okN_s, i10, i00, if_true, if_false, reduceCtorEq, Kf_1, Kf_400, Kf_12, if_neg this]
    exact hQ
  | inr q =>
    obtain ⟨i, C⟩ := q
    obtain ⟨hf, b1, b2, b3, b4, b5, b6, b7⟩ := h
    obtain ⟨s1, s2⟩ := hS i C rfl
    have b1 : I 12 0 = 0 := b1
    have b3 : I 12 5 = nI i := b3
    have b4 : I (20 + 8 * t0) 6 = nI C.length := b4
    have e11 : I 11 i = nI (PS i) := (hf 11 i (by omega)).trans (x6 i s1).2
    have o5 : ∀ v, up2 I 12 0 v 12 5 = nI i := fun v => (up2_o (by omega)).trans b3
    have o11 : ∀ v, up2 I 12 0 v 11 i = nI (PS i) := fun v => (up2_o (by omega)).trans e11
    simp only [gK, gI, gL, gR_, g_stI, g_stL, forall_eq, true_and, ad_s, okA_s, okO_s, okN_s, i10, i00, if_true, if_false, reduceCtorEq, Kf_1, Kf_400, Kf_12, b1, Rf_12_2, Kf_8, Rf_8_3, Kf_11, b3, if_neg (nI_ge (show i < 601 by omega) (show 601 < 2 ^ 31 by decide)), o5, vp_in_nI (show i < 601 by omega) (show 601 < 2 ^ 31 by decide), nI_clamp (show i < 2 ^ 31 by omega), o11]
    refine hQ _ ⟨fun l k' hn => ?_, ?_, up2_s, hk, C.length, by omega, ?_⟩
    · rw [up2_o (by omega), up2_o (by omega)]; exact hf l k' hn
    · show up2 _ 12 1 _ 12 0 = nI k
      rw [up2_o (by omega), up2_s]
    · rw [up2_o (by omega), up2_o (by omega)]; exact b4
theorem XR_next {i : Nat} {C : CD} (t8 : t0 < 8) {I : Nat → Nat → Int32} (h : XR I0 t0 PS (.inr (i, C)) I) : XR I0 t0 PS (.inr (i + 1, C)) (up2 I 12 5 (I 12 5 + 1)) := by
  obtain ⟨hf, b1, b2, b3, b4, b5, b6, b7⟩ := h
  have b3 : I 12 5 = nI i := b3
  refine ⟨fun l k hn => by rw [up2_o (by omega)]; exact hf l k hn, (up2_o (by omega)).trans b1, (up2_o (by omega)).trans b2, ?_, (up2_o (by omega)).trans b4, fun j e he => (up2_o (by omega)).trans (b5 j e he), ?_, fun z => b7 ((up2_o (by omega)).symm.trans z)⟩
  · show up2 I 12 5 (I 12 5 + 1) 12 5 = nI (i + 1)
    rw [up2_s, b3, nI_1]
  · rw [show up2 I 12 5 (I 12 5 + 1) (20 + 8 * t0) 8 = I (20 + 8 * t0) 8 from up2_o (by omega)]
    exact b6
theorem get_app {C : CD} {e : Int32 × Int32} {j : Nat} {x : Int32 × Int32} (h : (C ++ [e])[j]? = some x) : (j < C.length ∧ C[j]? = some x) ∨ (j = C.length ∧ x = e) := by
  rcases Nat.lt_or_ge j C.length with q | q
  · rw [List.getElem?_append_left q] at h
    exact Or.inl ⟨q, h⟩
  · rw [List.getElem?_append_right q] at h
    have : j - C.length = 0 := by
      rcases Nat.eq_zero_or_pos (j - C.length) with z | z
      · exact z
      · rw [List.getElem?_eq_none (by simp; omega)] at h; cases h
    rw [this] at h
    exact Or.inr ⟨by omega, by simpa using h.symm⟩
theorem x_put7 (hX : XC D I0 t0 c KS PS lw) {r : PR} {I : Nat → Nat → Int32} (h : XR I0 t0 PS r I) (e : Int32 × Int32) {x : Int32} (hx : x = stp e.1 e.2) (hC : ∀ i C, r = .inr (i, C) → C.length < 600) {Q : Hp → Prop} (hQ : ∀ I', XR I0 t0 PS (bd r (fun i C => .inr (i, C ++ [e]))) I' → Q (fm I' L D)) : wp_X7_put (20 + 8 * t0) x (fm I L D) Q := by
  obtain ⟨x1, x2, x3, x4, x5, x6, x7⟩ := hX
  have t8 : t0 < 8 := by omega
  have kT : Kf D (20 + 8 * t0) = (25, 0) := Kf_text (r := 0) x2 x3 (by decide)
  have k5 : Kf D (20 + 8 * t0 + 5) = (1, 600) := Kf_text (r := 5) x2 x3 (by decide)
  have r4 : Rf D (20 + 8 * t0) 4 = some (20 + 8 * t0 + 5) := Rf_text (k := 4) x2 x3 (by decide)
  have o6 : ∀ (J : Nat → Nat → Int32) k v, up2 J (20 + 8 * t0 + 5) k v (20 + 8 * t0) 6 = J (20 + 8 * t0) 6 := fun J k v => up2_o (by omega)
  have o8 : ∀ (J : Nat → Nat → Int32) k v w, up2 (up2 J (20 + 8 * t0 + 5) k v) (20 + 8 * t0) 6 w (20 + 8 * t0) 8 = J (20 + 8 * t0) 8 := fun J k v w => (up2_o (by omega)).trans (up2_o (by omega))
  unfold wp_X7_put
  cases r with
  | inl q =>
    obtain ⟨k, j⟩ := q
    obtain ⟨hf, b1, b2, b3, z, b4, b5⟩ := h
    have b1 : I 12 0 = nI k := b1
    have b2 : I 12 1 = nI (PS j) := b2
    simp only [gK, gI, gL, gR_, g_stI, g_stL, forall_eq, true_and, ad_s, okA_s, okO_s, okN_s, i10, i00, if_true, if_false, reduceCtorEq, Kf_1, Kf_400, kT, r4, k5, b5]
    rcases Nat.lt_or_ge z 600 with hz | hz
    · rw [if_neg (nI_ge hz (by decide))]
      simp only [gK, gI, gL, gR_, g_stI, g_stL, forall_eq, true_and, ad_s, okA_s, okO_s, okN_s, i10, i00, if_true, if_false, reduceCtorEq, Kf_1, Kf_400, kT, r4, k5, vp_in_nI hz (show 600 < 2 ^ 31 by decide), nI_clamp (show z < 2 ^ 31 by omega), o6, o8, b5, nI_1]
      have fin : ∀ v, XR I0 t0 PS (.inl (k, j)) (up2 (up2 (up2 I (20 + 8 * t0 + 5) z x) (20 + 8 * t0) 6 (nI (z + 1))) (20 + 8 * t0) 8 v) := by
        intro v
        refine ⟨fun l k' hn => ?_, ?_, ?_, b3, z + 1, by omega, ?_⟩
        · rw [up2_o (by omega), up2_o (by omega), up2_o (by omega)]; exact hf l k' hn
        · rw [up2_o (by omega), up2_o (by omega), up2_o (by omega)]; exact b1
        · rw [up2_o (by omega), up2_o (by omega), up2_o (by omega)]; exact b2
        · rw [up2_o (by omega), up2_s]
      by_cases c1 : I (20 + 8 * t0) 8 = 0
      · rw [if_pos c1]
        by_cases c2 : x = 276
        · rw [if_pos c2]; exact hQ _ (fin _)
        · rw [if_neg c2]; exact hQ _ (fin _)
      · rw [if_neg c1]; exact hQ _ (fin _)
    · rw [if_pos (nI_le hz (by omega))]
      exact hQ I ⟨hf, b1, b2, b3, z, b4, b5⟩
  | inr q =>
    obtain ⟨i, C⟩ := q
    obtain ⟨hf, b1, b2, b3, b4, b5, b6, b7⟩ := h
    have hz := hC i C rfl
    have b1 : I 12 0 = 0 := b1
    have b2 : I 12 1 = -1 := b2
    have b3 : I 12 5 = nI i := b3
    have b4 : I (20 + 8 * t0) 6 = nI C.length := b4
    simp only [gK, gI, gL, gR_, g_stI, g_stL, forall_eq, true_and, ad_s, okA_s, okO_s, okN_s, i10, i00, if_true, if_false, reduceCtorEq, Kf_1, Kf_400, kT, r4, k5, b4]
    rw [if_neg (nI_ge hz (by decide))]
    simp only [gK, gI, gL, gR_, g_stI, g_stL, forall_eq, true_and, ad_s, okA_s, okO_s, okN_s, i10, i00, if_true, if_false, reduceCtorEq, Kf_1, Kf_400, kT, r4, k5, vp_in_nI hz (show 600 < 2 ^ 31 by decide), nI_clamp (show C.length < 2 ^ 31 by omega), o6, o8, b4, nI_1]
    have fin : ∀ v, (v = 0 ∨ v = 1) → (v = 0 → I (20 + 8 * t0) 8 = 0 ∧ ¬ x = 276) → XR I0 t0 PS (.inr (i, C ++ [e])) (up2 (up2 (up2 I (20 + 8 * t0 + 5) C.length x) (20 + 8 * t0) 6 (nI (C.length + 1))) (20 + 8 * t0) 8 v) := by
      intro v hv hv0
      refine ⟨fun l k' hn => ?_, ?_, ?_, ?_, ?_, fun j e' he => ?_, ?_, fun z j he => ?_⟩
      · rw [up2_o (by omega), up2_o (by omega), up2_o (by omega)]; exact hf l k' hn
      · show up2 _ _ _ _ 12 0 = _
        rw [up2_o (by omega), up2_o (by omega), up2_o (by omega)]; exact b1
      · show up2 _ _ _ _ 12 1 = _
        rw [up2_o (by omega), up2_o (by omega), up2_o (by omega)]; exact b2
      · show up2 _ _ _ _ 12 5 = _
        rw [up2_o (by omega), up2_o (by omega), up2_o (by omega)]; exact b3
      · show up2 _ _ _ _ (20 + 8 * t0) 6 = nI (C ++ [e]).length
        rw [up2_o (by omega), up2_s, List.length_append]; rfl
      · show up2 _ _ _ _ (20 + 8 * t0 + 5) j = _
        rw [up2_o (by omega), up2_o (by omega)]
        rcases get_app he with ⟨q1, q2⟩ | ⟨q1, q2⟩
        · rw [up2_o (by omega)]; exact b5 j e' q2
        · rw [q1, q2, up2_s, hx]
      · show up2 _ _ _ _ (20 + 8 * t0) 8 = 0 ∨ up2 _ _ _ _ (20 + 8 * t0) 8 = 1
        rw [up2_s]; exact hv
      · have z : up2 (up2 (up2 I (20 + 8 * t0 + 5) C.length x) (20 + 8 * t0) 6 (nI (C.length + 1))) (20 + 8 * t0) 8 v (20 + 8 * t0) 8 = 0 := z
        rw [up2_s] at z
        obtain ⟨z1, z2⟩ := hv0 z
        have he : (C ++ [e])[j]? = some (1, 11) := he
        rcases get_app he with ⟨q1, q2⟩ | ⟨q1, q2⟩
        · exact b7 z1 j q2
        · exact z2 (by rw [hx, ← q2]; rfl)
    by_cases c1 : I (20 + 8 * t0) 8 = 0
    · rw [if_pos c1]
      by_cases c2 : x = 276
      · rw [if_pos c2]; exact hQ _ (fin 1 (Or.inr rfl) (fun z => absurd z (by decide)))
      · rw [if_neg c2]; exact hQ _ (fin 0 (Or.inl rfl) (fun _ => ⟨c1, c2⟩))
    · rw [if_neg c1]; exact hQ _ (fin 1 (Or.inr rfl) (fun z => absurd z (by decide)))
theorem k12 {I : Nat → Nat → Int32} : (hpK (fm I L D) 12).1 = 20 + 4 := rfl
theorem ad12 (hX : XC D I0 t0 c KS PS lw) : Rf D 12 3 = some (20 + 8 * t0) := by
  rw [Rf_12_3, hX.1]
theorem kTx (hX : XC D I0 t0 c KS PS lw) : Kf D (20 + 8 * t0) = (25, 0) := Kf_text (r := 0) hX.2.1 hX.2.2.1 (by decide)
theorem x_fact (hX : XC D I0 t0 c KS PS lw) {r : PR} {I : Nat → Nat → Int32} (h : XR I0 t0 PS r I) {k : Int32} {Q : Int32 → Hp → Prop} (h1 : fct lw k → Q 1 (fm I L D)) (h0 : ¬ fct lw k → Q 0 (fm I L D)) : wp_X5_isFact 12 k (fm I L D) Q := by
  have e4 : I 12 4 = if lw = true then 1 else 0 := (h.1 12 4 (by omega)).trans hX.2.2.2.2.2.2
  unfold wp_X5_isFact
  simp only [gK, gI, gL, gR_, g_stI, g_stL, forall_eq, true_and, ad_s, okA_s, okO_s, okN_s, i10, i00, if_true, if_false, reduceCtorEq, Kf_1, Kf_400, Kf_12, e4]
  unfold fct at h1 h0
  cases lw with
  | false =>
    simp only [Bool.false_eq_true, if_false, false_and, false_or, true_and, i00, if_true] at h1 h0 ⊢
    by_cases q1 : k < 273
    · rw [if_pos q1]; exact h0 (fun z => absurd z.1 (Int32.not_le.mpr q1))
    · rw [if_neg q1]
      by_cases q2 : (279 : Int32) ≤ k
      · rw [if_pos q2]; exact h0 (fun z => absurd z.2 (Int32.not_lt.mpr q2))
      · rw [if_neg q2]; exact h1 ⟨Int32.not_lt.mp q1, Int32.not_le.mp q2⟩
  | true =>
    simp only [if_true, i10, if_false, true_and, reduceCtorEq, false_and, or_false] at h1 h0 ⊢
    by_cases q1 : k < 265
    · rw [if_pos q1]; exact h0 (fun z => absurd z.1 (Int32.not_le.mpr q1))
    · rw [if_neg q1]
      by_cases q2 : (273 : Int32) ≤ k
      · rw [if_pos q2]; exact h0 (fun z => absurd z.2 (Int32.not_lt.mpr q2))
      · rw [if_neg q2]; exact h1 ⟨Int32.not_lt.mp q1, Int32.not_le.mp q2⟩
theorem fct_1 : ¬ fct lw 1 := by
  unfold fct
  rintro (⟨-, z, -⟩ | ⟨-, z, -⟩) <;> exact absurd z (by decide)
theorem stp_0 (k : Int32) : stp 0 (-1 - k) = k := by
  show (-1 : Int32) - (-1 - k) = k
  rw [Int32.sub_eq_add_neg, Int32.neg_sub, Int32.sub_eq_add_neg, Int32.add_comm k, ← Int32.add_assoc]
  show ((-1 : Int32) + - (-1)) + k = k
  rw [Int32.add_right_neg, Int32.zero_add]
theorem stp_1 (k : Int32) : stp 1 (k - 265) = k := by
  show (265 : Int32) + (k - 265) = k
  rw [Int32.add_comm, Int32.sub_add_cancel]
theorem x_readPart (hX : XC D I0 t0 c KS PS lw) {r : PR} {I : Nat → Nat → Int32} (hS : Sd c r) (h : XR I0 t0 PS r I) {Q : Hp → Prop} (hQ : ∀ I', XR I0 t0 PS (bd r (pUnit lw KS)) I' → Q (fm I' L D)) : wp_X5_readPart 12 (fm I L D) Q := by
  have t8 : t0 < 8 := by have := hX.2.1; have := hX.2.2.1; omega
  unfold wp_X5_readPart wp_X5_readPart_J17
  cases r with
  | inl e =>
    simp only [gK, gI, gL, gR_, g_stI, g_stL, forall_eq, true_and, ad_s, okA_s, okO_s, okN_s, i10, i00, if_true, if_false, reduceCtorEq, Kf_1, Kf_400, Kf_12, x_kindL hX h, show ¬ (1 : Int32) < 0 by decide]
    refine x_fact hX h (fun z => absurd z fct_1) (fun _ => ?_)
    simp only [gK, gI, gL, gR_, g_stI, g_stL, forall_eq, true_and, ad_s, okA_s, okO_s, okN_s, i10, i00, if_true, if_false, reduceCtorEq, Kf_1, Kf_400, Kf_12]
    exact x_refuse hX hS h (k := 1) (by decide) hQ
  | inr q =>
    obtain ⟨i, C⟩ := q
    obtain ⟨s1, s2⟩ := hS i C rfl
    have c6 := hX.2.2.2.1
    have hQ : ∀ I', XR I0 t0 PS (pUnit lw KS i C) I' → Q (fm I' L D) := hQ
    simp only [gK, gI, gL, gR_, g_stI, g_stL, forall_eq, true_and, ad_s, okA_s, okO_s, okN_s, i10, i00, if_true, if_false, reduceCtorEq, Kf_1, Kf_400, Kf_12, x_kindR hX hS h]
    have ok : ∀ e : Int32 × Int32, uF lw (KS i) = some e → KS i = stp e.1 e.2 → ((hpK (fm I L D) 12).1 = 20 + 4) ∧ (okO (fm I L D) (hpR (fm I L D) 12 3) 5 ∧ (wp_X7_put (ad (hpR (fm I L D) 12 3)) (KS i) (fm I L D) (fun (h7 : Hp) => ((hpK h7 12).1 = 20 + 4) ∧ (∀ h10 : Hp, h10 = stI h7 12 5 ((hpI h7 12 5) + (1 : Int32)) → (Q h10))))) := by
      intro e he hs
      refine ⟨rfl, ?_⟩
      rw [gR_, ad12 hX]
      refine ⟨okO_s.mpr (by rw [gK, kTx hX]), ?_⟩
      refine x_put7 hX h e hs (fun i' C' z => by cases z; omega) (fun I' hI' => ⟨rfl, fun h10 e10 => ?_⟩)
      subst e10
      rw [gI, g_stI]
      refine hQ _ ?_
      unfold pUnit
      rw [he]
      exact XR_next t8 hI'
    by_cases q1 : KS i < 0
    · rw [if_pos q1]
      have := ok (0, -1 - KS i) (by unfold uF; rw [if_pos q1]) (stp_0 _).symm
      simpa only [gK, gI, gL, gR_, g_stI, g_stL, forall_eq, true_and, ad_s, okA_s, okO_s, okN_s, i10, i00, if_true, if_false, reduceCtorEq, Kf_1, Kf_400, Kf_12] using this
    · rw [if_neg q1]
      refine x_fact hX h (fun z => ?_) (fun z => ?_)
      · have := ok (1, KS i - 265) (by unfold uF; rw [if_neg q1, if_pos z]) (stp_1 _).symm
        simpa only [gK, gI, gL, gR_, g_stI, g_stL, forall_eq, true_and, ad_s, okA_s, okO_s, okN_s, i10, i00, if_true, if_false, reduceCtorEq, Kf_1, Kf_400, Kf_12, i10, if_false] using this
      · simp only [gK, gI, gL, gR_, g_stI, g_stL, forall_eq, true_and, ad_s, okA_s, okO_s, okN_s, i10, i00, if_true, if_false, reduceCtorEq, Kf_1, Kf_400, Kf_12]
        refine x_refuse hX hS h (k := 1) (by decide) (fun I' hI' => hQ I' ?_)
        unfold pUnit uF
        rw [if_neg q1, if_neg z]
        exact hI'
end XP
