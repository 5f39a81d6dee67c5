/-! round (my own) -/
/-- the sets and groups of a call may differ -/
def Wk (l k : Nat) : Prop := l = 18 ∨ l = 19 ∨ l = 458 ∨ l = 460 ∨ (l = 400 ∧ (k = 60 ∨ k = 61))
def Bse (I0 B : Nat → Nat → Int32) : Prop := ∀ l k, ¬ Wk l k → B l k = I0 l k
theorem Bse.refl {I0 : Nat → Nat → Int32} : Bse I0 I0 := fun _ _ _ => rfl
theorem Bse.up {I0 B : Nat → Nat → Int32} (h : Bse I0 B) {l k : Nat} {v : Int32} (hw : Wk l k) : Bse I0 (up2 B l k v) := fun l' k' z => (up2_o (fun ⟨e1, e2⟩ => by subst e1; subst e2; exact z hw)).trans (h l' k' z)
theorem Bse.lab {I0 B : Nat → Nat → Int32} (h : Bse I0 B) (l : Nat) (hl : l ≠ 18 ∧ l ≠ 19 ∧ l ≠ 458 ∧ l ≠ 460 ∧ l ≠ 400) : B l = I0 l := funext fun k => h l k (by unfold Wk; omega)
theorem Bse.row {I0 B : Nat → Nat → Int32} (h : Bse I0 B) (a : Nat) : row B a = row I0 a := by unfold Jvm.Pilot.COneBarrelLaw_law_r7749_c425b7.row; rw [h.lab 414 (by omega)]
theorem sayL_fun {I J : Nat → Nat → Int32} (h27 : J 427 = I 427) (h29 : J 429 = I 429) (h30 : J 430 = I 430) (h31 : J 431 = I 431) (h32 : J 432 = I 432) (fx : Nat → Int32) (r : Nat) : ∀ n i, sayL J fx r i n = sayL I fx r i n := by
  intro n
  induction n with
  | zero => intro i; rfl
  | succ n ih => intro i; unfold sayL; rw [h27, h29, h30, h31, h32, ih]
theorem Bse.say {I0 B : Nat → Nat → Int32} (h : Bse I0 B) (l a b t : Nat) : sayF B l a b t = sayF I0 l a b t := by
  unfold sayF
  rw [h.row, h.row, h.lab 447 (by omega), h.lab 426 (by omega)]
  exact sayL_fun (h.lab _ (by omega)) (h.lab _ (by omega)) (h.lab _ (by omega)) (h.lab _ (by omega)) (h.lab _ (by omega)) _ _ _ _
theorem Bse.tru {I0 B : Nat → Nat → Int32} (h : Bse I0 B) (D : DD) (a b : Nat) : truF B D a b = truF I0 D a b := truF_cg (fun k => by rw [h.lab 409 (by omega)])
theorem Bse.gd {I0 B : Nat → Nat → Int32} (h : Bse I0 B) (D : DD) (l k t : Nat) : gdF B D l k t = gdF I0 D l k t := by
  unfold gdF
  rw [h.tru, h.say]
theorem St_w {n : Nat} {L : Nat → Nat → Int64} {D : DD} {B I : Nat → Nat → Int32} (h : St n L D B I) {l k : Nat} (hw : Wk l k) (v : Int32) : St n L D (up2 B l k v) (up2 I l k v) := by
  refine ⟨InvI_up h.1 ?_, h.2.1, fun l' k' a b c => ?_⟩
  · rcases hw with e | e | e | e | ⟨e, e2⟩ <;> (subst e; unfold Scr; omega)
  · by_cases e : l' = l ∧ k' = k
    · obtain ⟨rfl, rfl⟩ := e
      rw [up2_s, up2_s]
    · rw [up2_o e, up2_o e]; exact h.2.2 l' k' a b c
theorem St.wk {n : Nat} {L : Nat → Nat → Int64} {D : DD} {B I : Nat → Nat → Int32} (h : St n L D B I) {l k : Nat} (hw : Wk l k) : I l k = B l k := by
  have t0 := h.2.1
  refine h.2.2 l k (fun z => z.2 hw) ?_ ?_
  · rcases hw with e | e | e | e | ⟨e, e2⟩ <;> (subst e; unfold Xs_K; omega)
  · rcases hw with e | e | e | e | ⟨e, e2⟩ <;> (subst e; unfold Xs_V; omega)
theorem bit_sof (x : Int32) {i : Nat} (hi : i < 32) : (x >>> (nI i &&& 31)) &&& (1 : Int32) = nI (if bt x i then 1 else 0) := by
  apply b_ext
  intro j hj
  rw [b_and, b_sshr i hi x hj, b_1 j hj]
  by_cases e : j = 0
  · subst e
    rw [Nat.add_zero, if_pos hi]
    cases bt x i <;> decide
  · rw [decide_eq_false e, Bool.and_false]
    cases bt x i
    · exact (b_0 j).symm
    · show false = bt 1 j
      rw [b_1 j hj, decide_eq_false e]
theorem ite1 (c : Bool) : (nI (if c then 1 else 0) = (1 : Int32)) = (c = true) := by cases c <;> decide
/-- sets of those k below n with c k, put together -/
def orF (g : Nat → Int32) (c : Nat → Bool) : Nat → Int32
  | 0 => 0
  | k + 1 => if c k then orF g c k ||| g k else orF g c k
theorem bt_orF {g : Nat → Int32} {c : Nat → Bool} {l : Nat} : ∀ n, bt (orF g c n) l = true ↔ ∃ k, k < n ∧ c k = true ∧ bt (g k) l = true := by
  intro n
  induction n with
  | zero =>
    constructor
    · intro h; have h : bt 0 l = true := h; rw [b_0] at h; cases h
    · rintro ⟨k, hk, -⟩; omega
  | succ n ih =>
    unfold orF
    by_cases hc : c n = true
    · rw [if_pos hc, b_or, Bool.or_eq_true, ih]
      constructor
      · rintro (⟨k, hk, h1, h2⟩ | h)
        · exact ⟨k, by omega, h1, h2⟩
        · exact ⟨n, by omega, hc, h⟩
      · rintro ⟨k, hk, h1, h2⟩
        by_cases e : k = n
        · subst e; exact Or.inr h2
        · exact Or.inl ⟨k, by omega, h1, h2⟩
    · rw [if_neg hc, ih]
      constructor
      · rintro ⟨k, hk, h1, h2⟩; exact ⟨k, by omega, h1, h2⟩
      · rintro ⟨k, hk, h1, h2⟩
        by_cases e : k = n
        · subst e; exact absurd h1 hc
        · exact ⟨k, by omega, h1, h2⟩
def hrF (g : Nat → Int32) (c : Nat → Bool) : Nat → Int32
  | 0 => 0
  | k + 1 => if c k then hrF g c k + g k else hrF g c k
theorem and_all {x y : Int32} : (y &&& x) = x ↔ ∀ l, l < 32 → bt x l = true → bt y l = true := by
  constructor
  · intro h l hl hx
    have := congrArg (fun z => bt z l) h
    simp only [b_and, hx, Bool.and_true] at this
    exact this
  · intro h
    apply b_ext
    intro l hl
    rw [b_and]
    cases hx : bt x l with
    | false => exact Bool.and_false _
    | true => rw [h l hl hx]; rfl
theorem and_some {x y : Int32} : ¬ (y &&& x) = 0 ↔ ∃ l, l < 32 ∧ bt x l = true ∧ bt y l = true := by
  constructor
  · intro h
    apply Classical.byContradiction
    intro hn
    apply h
    apply b_ext
    intro l hl
    rw [b_0, b_and]
    cases hx : bt x l with
    | false => exact Bool.and_false _
    | true =>
      cases hy : bt y l with
      | false => rfl
      | true => exact absurd ⟨l, hl, hx, hy⟩ hn
  · rintro ⟨l, hl, h1, h2⟩ h
    have := congrArg (fun z => bt z l) h
    simp only [b_and, h1, h2, b_0] at this
    exact absurd this (by decide)
theorem ones_step : ∀ s, s < 1024 → s = 0 ∨ cnt (fun i => Nat.testBit s i) 32 = cnt (fun i => Nat.testBit (s &&& (s - 1)) i) 32 + 1 := by decide +kernel
theorem bt_nI {s i : Nat} (hs : s < 2 ^ 32) : bt (nI s) i = Nat.testBit s i := by
  rw [bt_tb]
  congr 1
  show (BitVec.ofNat 32 s).toNat = s
  rw [BitVec.toNat_ofNat, Nat.mod_eq_of_lt hs]
theorem m_ones {s : Nat} (hs : s < 1024) {h : Hp} {o : Nat} {Q : Int32 → Hp → Prop} (hQ : Q (nI (cnt (bt (nI s)) 32)) h) : wp_X12_ones o (nI s) h Q := by
  unfold wp_X12_ones
  have key : ∀ (N t c : Nat), t < 1024 → t < N → c + cnt (fun i => Nat.testBit t i) 32 = cnt (bt (nI s)) 32 → wp_X12_ones_L4 (fun y5 h4 => Q y5 h4) Q N (nI c) (nI t) h := by
    intro N
    induction N with
    | zero => intro t c h1 h2; omega
    | succ N ih =>
      intro t c h1 h2 h3
      rw [wp_X12_ones_L4]
      by_cases h0 : t = 0
      · subst h0
        rw [if_pos (show nI 0 = (0 : Int32) from rfl)]
        have z : cnt (fun i => Nat.testBit 0 i) 32 = 0 := by decide
        rw [z, Nat.add_zero] at h3
        show Q (nI c) h
        rw [h3]; exact hQ
      · rw [if_neg (nI_ne0 (by omega) (by omega))]
        have e : nI t &&& (nI t - (1 : Int32)) = nI (t &&& (t - 1)) := by rw [show (1 : Int32) = nI 1 from rfl, nI_sb (by omega), nx_and]
        simp only [forall_eq, nI_1, e]
        have le : t &&& (t - 1) ≤ t - 1 := Nat.and_le_right
        rcases ones_step t h1 with q | q
        · exact absurd q h0
        · exact ih _ _ (by omega) (by omega) (by omega)
  refine key fuel s 0 hs (by have := fuel_ge; omega) ?_
  rw [Nat.zero_add]
  exact cnt_cg (fun i hi => (bt_nI (by omega)).symm)
theorem shl1 {k : Nat} (hk : k < 31) : (1 : Int32) <<< (nI k &&& 31) = nI (2 ^ k) := by
  have : 2 ^ k < 2 ^ 31 := Nat.pow_lt_pow_right (by decide) hk
  exact shl_nI (x := 1) (by omega) (by omega) (Nat.one_mul _)
section RO
variable {n : Nat} {I0 : Nat → Nat → Int32} {L : Nat → Nat → Int64} {D : DD}
/-- those who go wrong at pair k -/
def mlF (I0 : Nat → Nat → Int32) (D : DD) (k : Nat) : Int32 := mkS (fun l => decide (l < D.nL) && decide (gdF I0 D l k 0 = 1)) 6
theorem x_mark_L14 {k : Nat} (hk : k < D.nP) {B : Nat → Nat → Int32} (hB : Bse I0 B) {K : Int32 → Hp → Prop} {Q : Hp → Prop} : ∀ (N l : Nat) (I : Nat → Nat → Int32), St n L D B I → l ≤ 6 → 7 ≤ N + l → (∀ I', St n L D B I' → K (mlF I0 D k) (fm I' L D)) → wp_X11_markMisled_L14 1 (nI k) K Q N (mkS (fun l => decide (l < D.nL) && decide (gdF I0 D l k 0 = 1)) l) (nI l) (fm I L D) := by
  intro N
  induction N with
  | zero => intro l I _ h1 h2; omega
  | succ N ih =>
    intro l I h h1 h2 hK
    have nL6 := h.1.nL6
    have nP10 := h.1.nP10
    rw [wp_X11_markMisled_L14]
    by_cases hl6 : l = 6
    · subst hl6
      rw [if_pos (show (6 : Int32) ≤ nI 6 from by decide)]
      exact hK I h
    · rw [if_neg (show ¬ (6 : Int32) ≤ nI l from nI_ge (b := 6) (by omega) (by decide))]
      simp only [gK, gI, gL, gR_, g_stI, g_stL, forall_eq, true_and, ad_s, okA_s, okO_s, okN_s, i10, i00, if_true, if_false, reduceCtorEq, Kf_1, Kf_400, x_lookerAt nL6]
      have next := fun J hJ => ih (l + 1) J hJ (by omega) (by omega) hK
      rw [mkS] at next
      by_cases hl : l < D.nL
      · simp only [gK, gI, gL, gR_, g_stI, g_stL, forall_eq, true_and, ad_s, okA_s, okO_s, okN_s, i10, i00, if_true, if_false, reduceCtorEq, Kf_1, Kf_400, if_pos ((inN_nI (show l < 2 ^ 31 by omega) (show D.nL < 2 ^ 31 by omega)).mpr hl), nI_clamp (show l < 2 ^ 31 by omega), Rf_1_9, Kf_6, vp_in_nI (show k < 10 by omega) (show 10 < 2 ^ 31 by decide), nI_clamp (show k < 2 ^ 31 by omega), Rf_6, if_pos hk]
        refine x_gradeOf (tl := 0) h hl hk (by decide) (fun J hJ => ?_)
        rw [hB.gd]
        have q := next J hJ
        rw [decide_eq_true hl, Bool.true_and] at q
        simp only [nI_1]
        by_cases e : gdF I0 D l k 0 = 1
        · rw [if_pos e]
          rw [decide_eq_true e, if_pos rfl] at q
          exact q
        · rw [if_neg e]
          rw [decide_eq_false e, if_neg (by decide)] at q
          exact q
      · simp only [gK, gI, gL, gR_, g_stI, g_stL, forall_eq, true_and, ad_s, okA_s, okO_s, okN_s, i10, i00, if_true, if_false, reduceCtorEq, Kf_1, Kf_400, if_neg (fun z => hl ((inN_nI (show l < 2 ^ 31 by omega) (show D.nL < 2 ^ 31 by omega)).mp z)), nI_1]
        have q := next I h
        rw [decide_eq_false hl, Bool.false_and, if_neg (by decide)] at q
        exact q
theorem x_mark_L2 {K Q : Hp → Prop} : ∀ (N k : Nat) (B I : Nat → Nat → Int32), Bse I0 B → St n L D B I → k ≤ D.nP → D.nP < N + k → (∀ j, j < k → B 18 j = mlF I0 D j) → (∀ B' I', Bse I0 B' → St n L D B' I' → (∀ j, j < D.nP → B' 18 j = mlF I0 D j) → K (fm I' L D)) → wp_X11_markMisled_L2 1 K Q N (nI k) (fm I L D) := by
  intro N
  induction N with
  | zero => intro k B I _ _ h1 h2; omega
  | succ N ih =>
    intro k B I hB h h1 h2 hM hK
    have nP10 := h.1.nP10
    rw [wp_X11_markMisled_L2]
    simp only [gK, gI, gL, gR_, g_stI, g_stL, forall_eq, true_and, ad_s, okA_s, okO_s, okN_s, i10, i00, if_true, if_false, reduceCtorEq, Kf_1, Kf_400, h.1.xP]
    by_cases hb : k = D.nP
    · subst hb
      rw [if_pos (nI_le (Nat.le_refl _) (by omega))]
      exact hK B I hB h hM
    · rw [if_neg (nI_ge (by omega) (by omega))]
      refine x_mark_L14 (k := k) (by omega) hB fuel 0 I h (by omega) (by have := fuel_ge; omega) (fun J hJ => ?_)
      simp only [gK, gI, gL, gR_, g_stI, g_stL, forall_eq, true_and, ad_s, okA_s, okO_s, okN_s, i10, i00, if_true, if_false, reduceCtorEq, Kf_1, Kf_400, Rf_1_15, Kf_13, Rf_13_4, Kf_18, vp_in_nI (show k < 10 by omega) (show 10 < 2 ^ 31 by decide), nI_clamp (show k < 2 ^ 31 by omega), nI_1]
      have w : Wk 18 k := Or.inl rfl
      refine ih (k + 1) _ _ (hB.up (v := mlF I0 D k) w) (St_w hJ w _) (by omega) (by omega) (fun j hj => ?_) hK
      by_cases e : j = k
      · subst e; rw [up2_s]
      · rw [up2_o (by omega)]; exact hM j (by omega)
theorem x_misledBy {B I : Nat → Nat → Int32} (h : St n L D B I) (hM : ∀ j, j < D.nP → B 18 j = mlF I0 D j) {x : Int32} {Q : Int32 → Hp → Prop} (hQ : Q (orF (mlF I0 D) (bt x) D.nP) (fm I L D)) : wp_X11_misledBy 1 x (fm I L D) Q := by
  have nP10 := h.1.nP10
  unfold wp_X11_misledBy
  have key : ∀ (N k : Nat), k ≤ D.nP → D.nP < N + k → wp_X11_misledBy_L4 1 x (fun y11 h10 => Q y11 h10) Q N (orF (mlF I0 D) (bt x) k) (nI k) (fm I L D) := by
    intro N
    induction N with
    | zero => intro k h1 h2; omega
    | succ N ih =>
      intro k h1 h2
      rw [wp_X11_misledBy_L4]
      simp only [gK, gI, gL, gR_, g_stI, g_stL, forall_eq, true_and, ad_s, okA_s, okO_s, okN_s, i10, i00, if_true, if_false, reduceCtorEq, Kf_1, Kf_400, h.1.xP]
      by_cases hb : k = D.nP
      · subst hb
        rw [if_pos (nI_le (Nat.le_refl _) (by omega))]
        exact hQ
      · rw [if_neg (nI_ge (by omega) (by omega))]
        have q := ih (k + 1) (by omega) (by omega)
        unfold orF at q
        have e18 : I 18 k = mlF I0 D k := (h.wk (Or.inl rfl)).trans (hM k (by omega))
        simp only [gK, gI, gL, gR_, g_stI, g_stL, forall_eq, true_and, ad_s, okA_s, okO_s, okN_s, i10, i00, if_true, if_false, reduceCtorEq, Kf_1, Kf_400, bit_of x (show k < 32 by omega), ite1, Rf_1_15, Kf_13, Rf_13_4, Kf_18, vp_in_nI (show k < 10 by omega) (show 10 < 2 ^ 31 by decide), nI_clamp (show k < 2 ^ 31 by omega), nI_1, e18]
        by_cases hc : bt x k = true
        · rw [if_pos hc]; rw [if_pos hc] at q; exact q
        · rw [if_neg hc]; rw [if_neg hc] at q; exact q
  exact key fuel 0 (by omega) (by have := fuel_ge; omega)
theorem x_hoursOf {B I : Nat → Nat → Int32} (hB : Bse I0 B) (h : St n L D B I) {x : Int32} {Q : Int32 → Hp → Prop} (hQ : Q (hrF (I0 457) (bt x) D.nP) (fm I L D)) : wp_X11_hoursOf 1 x (fm I L D) Q := by
  have nP10 := h.1.nP10
  have t0 := h.2.1
  unfold wp_X11_hoursOf
  have key : ∀ (N k : Nat), k ≤ D.nP → D.nP < N + k → wp_X11_hoursOf_L4 1 x (fun y12 h11 => Q y12 h11) Q N (hrF (I0 457) (bt x) k) (nI k) (fm I L D) := by
    intro N
    induction N with
    | zero => intro k h1 h2; omega
    | succ N ih =>
      intro k h1 h2
      rw [wp_X11_hoursOf_L4]
      simp only [gK, gI, gL, gR_, g_stI, g_stL, forall_eq, true_and, ad_s, okA_s, okO_s, okN_s, i10, i00, if_true, if_false, reduceCtorEq, Kf_1, Kf_400, h.1.xP]
      by_cases hb : k = D.nP
      · subst hb
        rw [if_pos (nI_le (Nat.le_refl _) (by omega))]
        exact hQ
      · rw [if_neg (nI_ge (by omega) (by omega))]
        have hk : k < D.nP := by omega
        have q := ih (k + 1) (by omega) (by omega)
        unfold hrF at q
        have e7 : I (260 + k) 2 = I0 457 k := by
          rw [(h.1.cp hk).1, ← hB.lab 457 (by omega)]
          exact h.2.2 457 k (by unfold Scr2 Scr; omega) (by unfold Xs_K; omega) (by unfold Xs_V; omega)
        simp only [gK, gI, gL, gR_, g_stI, g_stL, forall_eq, true_and, ad_s, okA_s, okO_s, okN_s, i10, i00, if_true, if_false, reduceCtorEq, Kf_1, Kf_400, bit_of x (show k < 32 by omega), ite1, Rf_1_9, Kf_6, vp_in_nI (show k < 10 by omega) (show 10 < 2 ^ 31 by decide), nI_clamp (show k < 2 ^ 31 by omega), Rf_6, if_pos hk, nI_1, Kf_pair hk nP10, e7]
        by_cases hc : bt x k = true
        · rw [if_pos hc]; rw [if_pos hc] at q; exact q
        · rw [if_neg hc]; rw [if_neg hc] at q; exact q
  exact key fuel 0 (by omega) (by have := fuel_ge; omega)
theorem m_hoursOf {B I : Nat → Nat → Int32} (hB : Bse I0 B) (h : St n L D B I) {x : Int32} {Q : Int32 → Hp → Prop} (hQ : Q (hrF (I0 457) (bt x) D.nP) (fm I L D)) : wp_X12_hoursOfSet 400 x (fm I L D) Q := by
  have nP10 := h.1.nP10
  have t0 := h.2.1
  unfold wp_X12_hoursOfSet
  have key : ∀ (N k : Nat), k ≤ D.nP → D.nP < N + k → wp_X12_hoursOfSet_L4 400 x (fun y10 h9 => Q y10 h9) Q N (hrF (I0 457) (bt x) k) (nI k) (fm I L D) := by
    intro N
    induction N with
    | zero => intro k h1 h2; omega
    | succ N ih =>
      intro k h1 h2
      rw [wp_X12_hoursOfSet_L4]
      simp only [gK, gI, gL, gR_, g_stI, g_stL, forall_eq, true_and, ad_s, okA_s, okO_s, okN_s, i10, i00, if_true, if_false, reduceCtorEq, Kf_1, Kf_400, h.1.mP]
      by_cases hb : k = D.nP
      · subst hb
        rw [if_pos (nI_le (Nat.le_refl _) (by omega))]
        exact hQ
      · rw [if_neg (nI_ge (by omega) (by omega))]
        have hk : k < D.nP := by omega
        have q := ih (k + 1) (by omega) (by omega)
        unfold hrF at q
        have e7 : I 457 k = I0 457 k := by
          rw [← hB.lab 457 (by omega)]
          exact h.2.2 457 k (by unfold Scr2 Scr; omega) (by unfold Xs_K; omega) (by unfold Xs_V; omega)
        simp only [gK, gI, gL, gR_, g_stI, g_stL, forall_eq, true_and, ad_s, okA_s, okO_s, okN_s, i10, i00, if_true, if_false, reduceCtorEq, Kf_1, Kf_400, bit_sof x (show k < 32 by omega), ite1, Rf_400_56, Kf_457, vp_in_nI (show k < 10 by omega) (show 10 < 2 ^ 31 by decide), nI_clamp (show k < 2 ^ 31 by omega), nI_1, e7]
        by_cases hc : bt x k = true
        · rw [if_pos hc]; rw [if_pos hc] at q; exact q
        · rw [if_neg hc]; rw [if_neg hc] at q; exact q
  exact key fuel 0 (by omega) (by have := fuel_ge; omega)
/-- a set that finds all that are asked for -/
abbrev okS (I0 : Nat → Nat → Int32) (D : DD) (x1 : Int32) (s : Nat) : Prop := orF (mlF I0 D) (bt (nI s)) D.nP &&& x1 = x1

abbrev chp (I0 : Nat → Nat → Int32) (D : DD) (x y : Int32) : Prop := hrF (I0 457) (bt x) D.nP < hrF (I0 457) (bt y) D.nP ∨ (hrF (I0 457) (bt x) D.nP = hrF (I0 457) (bt y) D.nP ∧ cnt (bt x) 32 < cnt (bt y) 32)

def chF (I0 : Nat → Nat → Int32) (D : DD) (x1 : Int32) (s : Nat) (x : Int32) : Int32 := if okS I0 D x1 s ∧ (x = -1 ∨ chp I0 D (nI s) x) then nI s else x
theorem x_isCheaper {B I : Nat → Nat → Int32} (hB : Bse I0 B) (h : St n L D B I) {x y : Int32} {Q : Int32 → Hp → Prop} (hQ : Q (if chp I0 D x y then 1 else 0) (fm I L D)) : wp_X11_isCheaper 1 x y (fm I L D) Q := by
  unfold wp_X11_isCheaper
  simp only [gK, gI, gL, gR_, g_stI, g_stL, forall_eq, true_and, ad_s, okA_s, okO_s, okN_s, i10, i00, if_true, if_false, reduceCtorEq, Kf_1, Kf_400]
  refine x_hoursOf hB h ?_
  simp only [gK, gI, gL, gR_, g_stI, g_stL, forall_eq, true_and, ad_s, okA_s, okO_s, okN_s, i10, i00, if_true, if_false, reduceCtorEq, Kf_1, Kf_400]
  refine x_hoursOf hB h ?_
  simp only [j_bitCount]
  by_cases e1 : hrF (I0 457) (bt x) D.nP < hrF (I0 457) (bt y) D.nP
  · rw [if_pos e1]
    rw [if_pos (show chp I0 D x y from Or.inl e1)] at hQ; exact hQ
  · rw [if_neg e1]
    by_cases e2 : hrF (I0 457) (bt x) D.nP = hrF (I0 457) (bt y) D.nP
    · rw [if_pos e2]
      have c1 := cnt_le (bt x) 32
      have c2 := cnt_le (bt y) 32
      by_cases e3 : cnt (bt x) 32 < cnt (bt y) 32
      · rw [if_neg (nI_ge e3 (by omega))]
        rw [if_pos (show chp I0 D x y from Or.inr ⟨e2, e3⟩)] at hQ; exact hQ
      · rw [if_pos (nI_le (by omega) (by omega))]
        rw [if_neg (show ¬ chp I0 D x y from fun z => z.elim e1 (fun z => e3 z.2))] at hQ; exact hQ
    · rw [if_neg e2]
      rw [if_neg (show ¬ chp I0 D x y from fun z => z.elim e1 (fun z => e2 z.1))] at hQ; exact hQ
theorem x_cheapest {B I : Nat → Nat → Int32} (hB : Bse I0 B) (h : St n L D B I) (hM : ∀ j, j < D.nP → B 18 j = mlF I0 D j) {x1 : Int32} {Q : Int32 → Hp → Prop} (hQ : Q (inr (chF I0 D x1) 1 (2 ^ D.nP - 1) (-1)) (fm I L D)) : wp_X11_cheapestRound 1 x1 (fm I L D) Q := by
  have nP10 := h.1.nP10
  have p2 : 2 ^ D.nP ≤ 2 ^ 10 := Nat.pow_le_pow_right (by decide) nP10
  have p0 : 0 < 2 ^ D.nP := Nat.two_pow_pos _
  unfold wp_X11_cheapestRound
  have key : ∀ (N s : Nat) (x : Int32), s ≤ 2 ^ D.nP → 2 ^ D.nP < N + s → inr (chF I0 D x1) s (2 ^ D.nP - s) x = inr (chF I0 D x1) 1 (2 ^ D.nP - 1) (-1) → wp_X11_cheapestRound_L4 1 x1 (fun y16 h15 => Q y16 h15) Q N x (nI s) (fm I L D) := by
    intro N
    induction N with
    | zero => intro s x h1 h2; omega
    | succ N ih =>
      intro s x h1 h2 he
      rw [wp_X11_cheapestRound_L4]
      simp only [gK, gI, gL, gR_, g_stI, g_stL, forall_eq, true_and, ad_s, okA_s, okO_s, okN_s, i10, i00, if_true, if_false, reduceCtorEq, Kf_1, Kf_400, h.1.xP, shl1 (show D.nP < 31 by omega)]
      by_cases hs : s = 2 ^ D.nP
      · subst hs
        rw [if_pos (nI_le (Nat.le_refl _) (by omega))]
        rw [Nat.sub_self] at he
        have he : x = _ := he
        rw [he]; exact hQ
      · rw [if_neg (nI_ge (by omega) (by omega))]
        rw [show 2 ^ D.nP - s = (2 ^ D.nP - (s + 1)) + 1 by omega] at he
        have he : inr (chF I0 D x1) (s + 1) (2 ^ D.nP - (s + 1)) (chF I0 D x1 s x) = inr (chF I0 D x1) 1 (2 ^ D.nP - 1) (-1) := he
        have go := ih (s + 1) (chF I0 D x1 s x) (by omega) (by omega) he
        refine x_misledBy h hM ?_
        simp only [gK, gI, gL, gR_, g_stI, g_stL, forall_eq, true_and, ad_s, okA_s, okO_s, okN_s, i10, i00, if_true, if_false, reduceCtorEq, Kf_1, Kf_400, nI_1]
        by_cases e1 : okS I0 D x1 s
        · rw [if_pos (show orF (mlF I0 D) (bt (nI s)) D.nP &&& x1 = x1 from e1)]
          by_cases e2 : x = -1
          · rw [if_pos e2]
            have : chF I0 D x1 s x = nI s := if_pos ⟨e1, Or.inl e2⟩
            rw [this] at go; exact go
          · rw [if_neg e2]
            refine x_isCheaper hB h ?_
            by_cases e3 : chp I0 D (nI s) x
            · rw [if_pos e3, if_neg (by decide)]
              have : chF I0 D x1 s x = nI s := if_pos ⟨e1, Or.inr e3⟩
              rw [this] at go; exact go
            · rw [if_neg e3, if_pos rfl]
              have : chF I0 D x1 s x = x := if_neg (fun z => z.2.elim e2 e3)
              rw [this] at go; exact go
        · rw [if_neg (show ¬ orF (mlF I0 D) (bt (nI s)) D.nP &&& x1 = x1 from e1)]
          have : chF I0 D x1 s x = x := if_neg (fun z => e1 z.1)
          rw [this] at go; exact go
  exact key fuel 1 (-1) (by omega) (by have := fuel_ge; omega) rfl
end RO
