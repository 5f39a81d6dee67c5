/-! THE MEASURES OF THE CLASS (my own) -/
theorem b_1 : ∀ j, j < 32 → bt 1 j = decide (j = 0) := by decide +kernel
/-- the set of those below n that are so -/
def mkS (f : Nat → Bool) : Nat → Int32
  | 0 => 0
  | n + 1 => if f n then mkS f n ||| ((1 : Int32) <<< (nI n &&& 31)) else mkS f n
theorem bt_mkS (f : Nat → Bool) : ∀ n, n ≤ 32 → ∀ i, i < 32 → bt (mkS f n) i = (decide (i < n) && f i) := by
  intro n
  induction n with
  | zero => intro _ i _; rw [mkS, b_0]; simp
  | succ n ih =>
    intro hn i hi
    have h1 := ih (by omega) i hi
    rw [mkS]
    cases hf : f n with
    | true =>
      rw [if_pos rfl, b_or, h1, b_shl n (by omega) 1 hi]
      by_cases e : i = n
      · subst e
        simp [hf, b_1]
      · by_cases e2 : n ≤ i
        · have : bt 1 (i - n) = false := by rw [b_1 _ (by omega)]; simp; omega
          rw [this]
          simp [show ¬ i < n by omega, show ¬ i < n + 1 by omega]
        · simp [e2, show i < n by omega, show i < n + 1 by omega]
    | false =>
      rw [if_neg (by decide), h1]
      by_cases e : i = n
      · subst e; simp [hf]
      · by_cases e2 : i < n
        · simp [e2, show i < n + 1 by omega]
        · simp [e2, show ¬ i < n + 1 by omega]
theorem bt_set {f : Nat → Bool} {i : Nat} (hi : i < 32) : bt (mkS f 32) i = f i := by rw [bt_mkS f 32 (by omega) i hi, decide_eq_true hi, Bool.true_and]
theorem and31 {n : Nat} (h : n < 2 ^ 32) : nI n &&& (31 : Int32) = nI (n % 32) := pk_andN h (m := 31) 5 (by decide)
section SL
variable {I : Nat → Nat → Int32} {L : Nat → Nat → Int64} {D : DD}
theorem x_runs {ra rb s m : Nat} (ka : Kf D ra = (1, 32)) (kb : Kf D rb = (1, 32)) (hs : s < 32) (hm : m < 16) (ga : rg (I ra)) (gb : rg (I rb)) {Q : Int32 → Hp → Prop} (hQ : Q (mkS (rn (I ra) (I rb) (nI m) s) 32) (fm I L D)) : wp_X6_runs (some ra) (some rb) (nI s) (nI m) (fm I L D) Q := by
  unfold wp_X6_runs
  have key : ∀ (n j : Nat), j ≤ 32 → 33 ≤ n + j → wp_X6_runs_L6 (some ra) (some rb) (nI s) (nI m) (fun y17 h16 => Q y17 h16) Q n (mkS (rn (I ra) (I rb) (nI m) s) j) (nI j) (fm I L D) := by
    intro n
    induction n with
    | zero => intro j h1 h2; omega
    | succ n ih =>
      intro j h1 h2
      rw [wp_X6_runs_L6]
      by_cases hj : j = 32
      · subst hj
        rw [if_pos (show (32 : Int32) ≤ nI 32 from by decide)]
        exact hQ
      · rw [if_neg (show ¬ (32 : Int32) ≤ nI j from nI_ge (b := 32) (by omega) (by decide))]
        have hk : (j + s) % 32 < 32 := Nat.mod_lt _ (by decide)
        have hs := ih (j + 1) (by omega) (by omega)
        rw [mkS] at hs
        simp only [gK, gI, gL, gR_, g_stI, g_stL, forall_eq, true_and, ad_s, okA_s, okO_s, okN_s, i10, i00, if_true, if_false, reduceCtorEq, Kf_1, Kf_400, ka, kb, nI_add, and31 (show j + s < 2 ^ 32 by omega), vp_in_nI (show j < 32 by omega) (by decide), vp_in_nI hk (by decide), nI_clamp (show j < 2 ^ 31 by omega), nI_clamp (show (j + s) % 32 < 2 ^ 31 by omega), nI_1]
        by_cases e1 : I ra j = -1
        · rw [if_pos e1]
          have : rn (I ra) (I rb) (nI m) s j = false := by unfold rn; simp [e1]
          rw [this, if_neg (by decide)] at hs; exact hs
        · rw [if_neg e1]
          by_cases e2 : I rb ((j + s) % 32) = -1
          · rw [if_pos e2]
            have : rn (I ra) (I rb) (nI m) s j = false := by unfold rn; simp [e2]
            rw [this, if_neg (by decide)] at hs; exact hs
          · rw [if_neg e2]
            obtain ⟨u, hu, eu⟩ := rg_of (ga j (by omega)).1 (ga j (by omega)).2 e1
            obtain ⟨w, hw, ew⟩ := rg_of (gb _ hk).1 (gb _ hk).2 e2
            have t1 := pk_sub_toInt (a := u) (b := w) (by omega) (by omega)
            have t2 := pk_sub_toInt (a := w) (b := u) (by omega) (by omega)
            have tm := nI_toInt (n := m) (by omega)
            rw [rn_nI eu ew rfl hu hw hm] at hs
            rw [eu, ew]
            by_cases e3 : nI m < nI u - nI w
            · rw [if_pos e3]
              have q := Int32.lt_iff_toInt_lt.mp e3
              rw [t1, tm] at q
              rw [decide_eq_false (by omega), if_neg (by decide)] at hs; exact hs
            · rw [if_neg e3]
              have q : ¬ ((m : Int) < (u : Int) - w) := fun z => e3 (Int32.lt_iff_toInt_lt.mpr (by rw [t1, tm]; exact z))
              by_cases e4 : nI m < nI w - nI u
              · rw [if_pos e4]
                have q2 := Int32.lt_iff_toInt_lt.mp e4
                rw [t2, tm] at q2
                rw [decide_eq_false (by omega), if_neg (by decide)] at hs; exact hs
              · rw [if_neg e4]
                have q2 : ¬ ((m : Int) < (w : Int) - u) := fun z => e4 (Int32.lt_iff_toInt_lt.mpr (by rw [t2, tm]; exact z))
                rw [decide_eq_true (by omega), if_pos rfl] at hs; exact hs
  exact key fuel 0 (by omega) (by have := fuel_ge; omega)
end SL
/-- t hairs run one behind the other, round, up to i -/
def cr (f : Nat → Bool) (t i : Nat) : Prop := ∀ j, j < t → f ((i + 64 - j) % 32) = true
theorem cr_s {f : Nat → Bool} {t i : Nat} (hi : i < 32) (ht : t ≤ 32) : cr f (t + 2) i ↔ cr f (t + 1) i ∧ cr f (t + 1) ((i + 31) % 32) := by
  have e : ∀ j, j < t + 1 → ((i + 31) % 32 + 64 - j) % 32 = (i + 64 - (j + 1)) % 32 := by intro j hj; omega
  constructor
  · intro h
    refine ⟨fun j hj => h j (by omega), fun j hj => ?_⟩
    rw [e j hj]; exact h (j + 1) (by omega)
  · rintro ⟨h1, h2⟩ j hj
    by_cases h0 : j < t + 1
    · exact h1 j h0
    · have := h2 t (by omega)
      rw [e t (by omega)] at this
      rw [show j = t + 1 by omega]; exact this
theorem lng_c (f : Nat → Bool) : ∀ n, (∀ j, j < (lng f n).1 → f ((n - 1 - j) % 32) = true) ∧ (lng f n).1 ≤ (lng f n).2 ∧ (∀ t, t ≤ n → (∀ j, j < t → f ((n - 1 - j) % 32) = true) → t ≤ (lng f n).1) := by
  intro n
  induction n with
  | zero => exact ⟨fun j hj => by exact absurd hj (Nat.not_lt_zero _), Nat.le_refl _, fun t ht _ => ht⟩
  | succ n ih =>
    obtain ⟨i1, i2, i3⟩ := ih
    unfold lng
    refine ⟨?_, ?_, ?_⟩
    · intro j hj
      have hj : j < (if f (n % 32) then (lng f n).1 + 1 else 0) := hj
      cases hf : f (n % 32) with
      | true =>
        rw [hf, if_pos rfl] at hj
        cases j with
        | zero => exact hf
        | succ j =>
          have := i1 j (by omega)
          rw [show n + 1 - 1 - (j + 1) = n - 1 - j by omega]; exact this
      | false => rw [hf, if_neg (by decide)] at hj; omega
    · show (if f (n % 32) then (lng f n).1 + 1 else 0) ≤ (if (lng f n).2 < (if f (n % 32) then (lng f n).1 + 1 else 0) then (if f (n % 32) then (lng f n).1 + 1 else 0) else (lng f n).2)
      repeat' split
      all_goals omega
    · intro t ht h
      show t ≤ (if f (n % 32) then (lng f n).1 + 1 else 0)
      cases t with
      | zero => omega
      | succ t =>
        have h0 := h 0 (by omega)
        rw [show n + 1 - 1 - 0 = n by omega] at h0
        rw [h0, if_pos rfl]
        have := i3 t (by omega) (fun j hj => by have := h (j + 1) (by omega); rw [show n + 1 - 1 - (j + 1) = n - 1 - j by omega] at this; exact this)
        omega
theorem lng_m (f : Nat → Bool) : ∀ n, (∀ m, m ≤ n → (lng f m).1 ≤ (lng f n).2) ∧ (∃ m, m ≤ n ∧ (lng f m).1 = (lng f n).2) := by
  intro n
  induction n with
  | zero => exact ⟨fun m hm => by rw [show m = 0 by omega]; exact Nat.le_refl _, 0, Nat.le_refl _, rfl⟩
  | succ n ih =>
    obtain ⟨i1, m0, i2, i3⟩ := ih
    have e1 : (lng f (n + 1)).2 = if (lng f n).2 < (lng f (n + 1)).1 then (lng f (n + 1)).1 else (lng f n).2 := rfl
    by_cases h : (lng f n).2 < (lng f (n + 1)).1
    · rw [if_pos h] at e1
      refine ⟨fun m hm => ?_, n + 1, Nat.le_refl _, e1.symm⟩
      by_cases em : m = n + 1
      · rw [em, e1]; exact Nat.le_refl _
      · have := i1 m (by omega); omega
    · rw [if_neg h] at e1
      refine ⟨fun m hm => ?_, m0, by omega, by rw [e1]; exact i3⟩
      by_cases em : m = n + 1
      · rw [em, e1]; omega
      · have := i1 m (by omega); omega
theorem cr_long (f : Nat → Bool) {t : Nat} (ht : t ≤ 32) : (∃ i, i < 32 ∧ cr f t i) ↔ t ≤ (lng f 64).2 := by
  constructor
  · rintro ⟨i, hi, h⟩
    have := (lng_c f (i + 33)).2.2 t (by omega) (fun j hj => by
      have := h j hj
      rw [show (i + 33 - 1 - j) % 32 = (i + 64 - j) % 32 by omega]; exact this)
    exact Nat.le_trans this ((lng_m f 64).1 (i + 33) (by omega))
  · intro h
    obtain ⟨m, hm, e⟩ := (lng_m f 64).2
    have h1 := (lng_c f m).1
    have hm1 := (lng_le f m).1
    by_cases h0 : t = 0
    · exact ⟨0, by omega, fun j hj => by omega⟩
    · refine ⟨(m - 1) % 32, Nat.mod_lt _ (by decide), fun j hj => ?_⟩
      have := h1 j (by omega)
      rw [show ((m - 1) % 32 + 64 - j) % 32 = (m - 1 - j) % 32 by omega]; exact this
theorem x_longestIn {x : Int32} {h : Hp} {Q : Int32 → Hp → Prop} (hQ : Q (nI (min 32 (lng (bt x) 64).2)) h) : wp_X6_longestIn x h Q := by
  unfold wp_X6_longestIn
  have key : ∀ (n t : Nat) (x1 : Int32), t ≤ 32 → 33 ≤ n + t → t ≤ (lng (bt x) 64).2 → (∀ i, i < 32 → (bt x1 i = true ↔ cr (bt x) (t + 1) i)) → wp_X6_longestIn_L6 (fun y7 h6 => Q y7 h6) Q n x1 (nI t) (nI t) h := by
    intro n
    induction n with
    | zero => intro t x1 h1 h2; omega
    | succ n ih =>
      intro t x1 h1 h2 h3 hb
      rw [wp_X6_longestIn_L6]
      by_cases ht : t = 32
      · subst ht
        rw [if_pos (show (32 : Int32) ≤ nI 32 from by decide)]
        rw [Nat.min_eq_left h3] at hQ; exact hQ
      · rw [if_neg (show ¬ (32 : Int32) ≤ nI t from nI_ge (b := 32) (by omega) (by decide))]
        by_cases h0 : x1 = 0
        · rw [if_pos h0]
          have hn : ¬ t + 1 ≤ (lng (bt x) 64).2 := by
            rw [← cr_long (bt x) (by omega)]
            rintro ⟨i, hi, hc⟩
            have := (hb i hi).mpr hc
            rw [h0, b_0] at this; cases this
          rw [show min 32 (lng (bt x) 64).2 = t by omega] at hQ; exact hQ
        · rw [if_neg h0]
          simp only [forall_eq, nI_1]
          have hex : ∃ i, i < 32 ∧ bt x1 i = true := by
            apply Classical.byContradiction
            intro hne
            apply h0
            apply b_ext
            intro i hi
            rw [b_0]
            cases hc : bt x1 i with
            | false => rfl
            | true => exact absurd ⟨i, hi, hc⟩ hne
          obtain ⟨i0, hi0, hc0⟩ := hex
          have hle : t + 1 ≤ (lng (bt x) 64).2 := (cr_long (bt x) (by omega)).mp ⟨i0, hi0, (hb i0 hi0).mp hc0⟩
          refine ih (t + 1) _ (by omega) (by omega) hle (fun i hi => ?_)
          have eu : bt ((x1.toUInt32 >>> ((31 : Int32).toUInt32 &&& Int32.toUInt32 31)).toInt32) i = bt x1 (31 + i) := b_ushr 31 (by decide) x1 i
          have el : bt (x1 <<< ((1 : Int32) &&& 31)) i = (decide (1 ≤ i) && bt x1 (i - 1)) := b_shl 1 (by decide) x1 hi
          rw [b_and, b_or, el, eu]
          have e : (decide (1 ≤ i) && bt x1 (i - 1) || bt x1 (31 + i)) = bt x1 ((i + 31) % 32) := by
            by_cases hi1 : i = 0
            · subst hi1; simp
            · rw [b_big (x := x1) (i := 31 + i) (by omega), show (i + 31) % 32 = i - 1 by omega]
              simp [show 1 ≤ i by omega]
          rw [e, Bool.and_eq_true, hb i hi, hb _ (Nat.mod_lt _ (by decide))]
          exact (cr_s hi (by omega)).symm
  refine key fuel 0 x (by omega) (by have := fuel_ge; omega) (by omega) (fun i hi => ?_)
  constructor
  · intro hx j hj
    rw [show j = 0 by omega, show (i + 64 - 0) % 32 = i by omega]; exact hx
  · intro hx
    have := hx 0 (by omega)
    rw [show (i + 64 - 0) % 32 = i by omega] at this; exact this
