/-! round: the reference (my own) -/
section RP
variable {n : Nat} {I0 : Nat → Nat → Int32} {L : Nat → Nat → Int64} {D : DD}
def wgF (I0 : Nat → Nat → Int32) (D : DD) (l : Nat) (k : Nat) : Bool := decide (gdF I0 D l k 0 = 1)
def wrF (I0 : Nat → Nat → Int32) (D : DD) (x1 : Int32) (l : Nat) : Int32 := if bt x1 l = true then mkS (wgF I0 D l) D.nP else 0
theorem m_rd_L54 {l : Nat} (hl : l < D.nL) {x1 x2 : Int32} (hb : bt x1 l = true) {K : Hp → Prop} {Q : Int32 → Hp → Prop} : ∀ (N k : Nat) (B I : Nat → Nat → Int32), Bse I0 B → St n L D B I → k ≤ D.nP → D.nP < N + k → B 458 l = mkS (wgF I0 D l) k → (∀ B' I', Bse I0 B' → St n L D B' I' → (∀ j, j ≠ l → B' 458 j = B 458 j) → B' 458 l = mkS (wgF I0 D l) D.nP → K (fm I' L D)) → wp_X12_round_L54 400 x1 x2 (nI l) K Q N (nI k) (fm I L D) := by
  intro N
  induction N with
  | zero => intro k B I _ _ h1 h2; omega
  | succ N ih =>
    intro k B I hB h h1 h2 hM hK
    have nP10 := h.1.nP10
    have nL6 := h.1.nL6
    rw [wp_X12_round_L54]
    simp only [gK, gI, gL, gR_, g_stI, g_stL, forall_eq, true_and, ad_s, okA_s, okO_s, okN_s, i10, i00, if_true, if_false, reduceCtorEq, Kf_1, Kf_400, h.1.mP]
    by_cases e : k = D.nP
    · subst e
      rw [if_pos (nI_le (Nat.le_refl _) (by omega))]
      exact hK B I hB h (fun _ _ => rfl) hM
    · rw [if_neg (nI_ge (by omega) (by omega))]
      have hk : k < D.nP := by omega
      simp only [bit_sof x1 (show l < 32 by omega), ite1, if_pos hb]
      refine m_countOf (tl := 0) h hl hk (by decide) (fun J hJ => ?_)
      rw [hB.gd]
      have w : Wk 458 l := Or.inr (Or.inr (Or.inl rfl))
      have e8 : J 458 l = mkS (wgF I0 D l) k := (hJ.wk w).trans hM
      by_cases e1 : gdF I0 D l k 0 = 1
      · rw [if_pos e1]
        simp only [gK, gI, gL, gR_, g_stI, g_stL, forall_eq, true_and, ad_s, okA_s, okO_s, okN_s, i10, i00, if_true, if_false, reduceCtorEq, Kf_1, Kf_400, Rf_400_57, Kf_458, vp_in_nI (show l < 6 by omega) (show 6 < 2 ^ 31 by decide), nI_clamp (show l < 2 ^ 31 by omega), nI_1, e8]
        refine ih (k + 1) _ _ (hB.up (v := mkS (wgF I0 D l) k ||| (1 : Int32) <<< (nI k &&& 31)) w) (St_w hJ w _) (by omega) (by omega) ?_ (fun B' I' b1 b2 b3 b4 => hK B' I' b1 b2 (fun j hj => (b3 j hj).trans (up2_o (by omega))) b4)
        rw [up2_s, mkS, if_pos (show wgF I0 D l k = true from decide_eq_true e1)]
      · rw [if_neg e1]
        simp only [forall_eq, nI_1]
        refine ih (k + 1) B J hB hJ (by omega) (by omega) ?_ hK
        rw [mkS, if_neg (show ¬ wgF I0 D l k = true from fun z => e1 (of_decide_eq_true z))]
        exact hM
theorem m_rd_L36 {x1 x2 : Int32} {K : Hp → Prop} {Q : Int32 → Hp → Prop} : ∀ (N l : Nat) (B I : Nat → Nat → Int32), Bse I0 B → St n L D B I → l ≤ D.nL → D.nL < N + l → (∀ j, j < l → B 458 j = wrF I0 D x1 j) → (∀ B' I', Bse I0 B' → St n L D B' I' → (∀ j, j < D.nL → B' 458 j = wrF I0 D x1 j) → K (fm I' L D)) → wp_X12_round_L36 400 x1 x2 K Q N (nI l) (fm I L D) := by
  intro N
  induction N with
  | zero => intro l B I _ _ h1 h2; omega
  | succ N ih =>
    intro l B I hB h h1 h2 hM hK
    have nP10 := h.1.nP10
    have nL6 := h.1.nL6
    rw [wp_X12_round_L36]
    simp only [gK, gI, gL, gR_, g_stI, g_stL, forall_eq, true_and, ad_s, okA_s, okO_s, okN_s, i10, i00, if_true, if_false, reduceCtorEq, Kf_1, Kf_400, h.1.mL]
    by_cases e : l = D.nL
    · subst e
      rw [if_pos (nI_le (Nat.le_refl _) (by omega))]
      exact hK B I hB h hM
    · rw [if_neg (nI_ge (by omega) (by omega))]
      have hl : l < D.nL := by omega
      have w : Wk 458 l := Or.inr (Or.inr (Or.inl rfl))
      simp only [gK, gI, gL, gR_, g_stI, g_stL, forall_eq, true_and, ad_s, okA_s, okO_s, okN_s, i10, i00, if_true, if_false, reduceCtorEq, Kf_1, Kf_400, Rf_400_57, Kf_458, vp_in_nI (show l < 6 by omega) (show 6 < 2 ^ 31 by decide), nI_clamp (show l < 2 ^ 31 by omega)]
      have hB1 := hB.up (v := 0) w
      have h1' := St_w h w 0
      by_cases hb : bt x1 l = true
      · refine m_rd_L54 hl hb fuel 0 _ _ hB1 h1' (by omega) (by have := fuel_ge; omega) up2_s (fun B' I' b1 b2 b3 b4 => ?_)
        simp only [forall_eq, nI_1]
        refine ih (l + 1) B' I' b1 b2 (by omega) (by omega) (fun j hj => ?_) hK
        by_cases ej : j = l
        · subst ej; rw [b4, wrF, if_pos hb]
        · rw [b3 j ej, up2_o (by omega)]; exact hM j (by omega)
      · have go : (∀ v29 : Int32, v29 = nI l + (1 : Int32) → wp_X12_round_L36 400 x1 x2 K Q N v29 (fm (up2 I 458 l 0) L D)) := by
          simp only [forall_eq, nI_1]
          refine ih (l + 1) _ _ hB1 h1' (by omega) (by omega) (fun j hj => ?_) hK
          by_cases ej : j = l
          · subst ej; rw [up2_s, wrF, if_neg hb]
          · rw [up2_o (by omega)]; exact hM j (by omega)
        obtain ⟨f, hf⟩ : ∃ f, fuel = f + 1 := ⟨fuel - 1, by decide⟩
        rw [hf, wp_X12_round_L54]
        simp only [gK, gI, gL, gR_, g_stI, g_stL, forall_eq, true_and, ad_s, okA_s, okO_s, okN_s, i10, i00, if_true, if_false, reduceCtorEq, Kf_1, Kf_400, h1'.1.mP, bit_sof x1 (show l < 32 by omega), ite1, if_neg hb]
        by_cases e0 : nI D.nP ≤ (0 : Int32)
        · rw [if_pos e0]; exact go _ rfl
        · rw [if_neg e0, if_neg (show ¬ nI 0 = (1 : Int32) from by decide)]; exact go _ rfl
theorem bt_hi {w i m : Nat} (h : w < 2 ^ m) (hm : m ≤ i) (hw : w < 2 ^ 32) : bt (nI w) i = false := by
  rw [bt_nI hw]
  exact Nat.testBit_lt_two_pow (Nat.lt_of_lt_of_le h (Nat.pow_le_pow_right (by decide) hm))
theorem okS_iff (hL : D.nL ≤ 6) (hP : D.nP ≤ 10) {w s : Nat} (hw : w < 2 ^ D.nL) : okS I0 D (nI w) s ↔ ∀ l, l < D.nL → bt (nI w) l = true → ¬ (wrF I0 D (nI w) l &&& nI s) = 0 := by
  have w6 : w < 2 ^ 32 := Nat.lt_of_lt_of_le hw (Nat.pow_le_pow_right (by decide) (by omega))
  have key : ∀ l, l < D.nL → bt (nI w) l = true → (bt (orF (mlF I0 D) (bt (nI s)) D.nP) l = true ↔ ¬ (wrF I0 D (nI w) l &&& nI s) = 0) := by
    intro l hl hb
    rw [bt_orF, and_some]
    constructor
    · rintro ⟨k, hk, h1, h2⟩
      refine ⟨k, by omega, h1, ?_⟩
      rw [mlF, bt_mkS _ 6 (by omega) l (by omega), decide_eq_true (show l < 6 by omega), decide_eq_true hl, Bool.true_and, Bool.true_and] at h2
      rw [wrF, if_pos hb, bt_mkS _ D.nP (by omega) k (by omega), decide_eq_true hk, Bool.true_and]
      exact h2
    · rintro ⟨k, hk, h1, h2⟩
      rw [wrF, if_pos hb, bt_mkS _ D.nP (by omega) k hk, Bool.and_eq_true] at h2
      have hk2 := of_decide_eq_true h2.1
      refine ⟨k, hk2, h1, ?_⟩
      rw [mlF, bt_mkS _ 6 (by omega) l (by omega), decide_eq_true (show l < 6 by omega), decide_eq_true hl, Bool.true_and, Bool.true_and]
      exact h2.2
  unfold okS
  rw [and_all]
  constructor
  · intro h l hl hb
    exact (key l hl hb).mp (h l (by omega) hb)
  · intro h l hl hb
    by_cases e : l < D.nL
    · exact (key l e hb).mpr (h l e hb)
    · rw [bt_hi hw (by omega) w6] at hb; cases hb
theorem m_findsAll {B I : Nat → Nat → Int32} (h : St n L D B I) {w s : Nat} (hw : w < 2 ^ D.nL) (hM : ∀ j, j < D.nL → B 458 j = wrF I0 D (nI w) j) {Q : Int32 → Hp → Prop} (hQ : Q (if okS I0 D (nI w) s then 1 else 0) (fm I L D)) : wp_X12_findsAll 400 (nI w) (nI s) (fm I L D) Q := by
  have nL6 := h.1.nL6
  have nP10 := h.1.nP10
  have ok := okS_iff (I0 := I0) nL6 nP10 (s := s) hw
  unfold wp_X12_findsAll
  have key : ∀ (N l : Nat), l ≤ D.nL → D.nL < N + l → (∀ j, j < l → bt (nI w) j = true → ¬ (wrF I0 D (nI w) j &&& nI s) = 0) → wp_X12_findsAll_L2 400 (nI w) (nI s) (fun (h9 : Hp) => Q (0 : Int32) h9) (fun (h10 : Hp) => Q (1 : Int32) h10) Q N (nI l) (fm I L D) := by
    intro N
    induction N with
    | zero => intro l h1 h2; omega
    | succ N ih =>
      intro l h1 h2 hp
      rw [wp_X12_findsAll_L2]
      simp only [gK, gI, gL, gR_, g_stI, g_stL, forall_eq, true_and, ad_s, okA_s, okO_s, okN_s, i10, i00, if_true, if_false, reduceCtorEq, Kf_1, Kf_400, h.1.mL]
      by_cases e : l = D.nL
      · subst e
        rw [if_pos (nI_le (Nat.le_refl _) (by omega))]
        rw [if_pos (ok.mpr hp)] at hQ; exact hQ
      · rw [if_neg (nI_ge (by omega) (by omega))]
        have hl : l < D.nL := by omega
        have e8 : I 458 l = wrF I0 D (nI w) l := (h.wk (Or.inr (Or.inr (Or.inl rfl)))).trans (hM l hl)
        simp only [bit_sof (nI w) (show l < 32 by omega), ite1]
        by_cases hb : bt (nI w) l = true
        · rw [if_pos hb]
          simp only [gK, gI, gL, gR_, g_stI, g_stL, forall_eq, true_and, ad_s, okA_s, okO_s, okN_s, i10, i00, if_true, if_false, reduceCtorEq, Kf_1, Kf_400, Rf_400_57, Kf_458, vp_in_nI (show l < 6 by omega) (show 6 < 2 ^ 31 by decide), nI_clamp (show l < 2 ^ 31 by omega), nI_1, e8]
          by_cases e0 : (wrF I0 D (nI w) l &&& nI s) = 0
          · rw [if_pos e0]
            rw [if_neg (fun z => ok.mp z l hl hb e0)] at hQ; exact hQ
          · rw [if_neg e0]
            refine ih (l + 1) (by omega) (by omega) (fun j hj hb' => ?_)
            by_cases ej : j = l
            · subst ej; exact e0
            · exact hp j (by omega) hb'
        · rw [if_neg hb]
          simp only [forall_eq, nI_1]
          refine ih (l + 1) (by omega) (by omega) (fun j hj hb' => ?_)
          by_cases ej : j = l
          · subst ej; exact absurd hb' hb
          · exact hp j (by omega) hb'
  exact key fuel 0 (by omega) (by have := fuel_ge; omega) (fun j hj => by omega)
theorem m_rd_L118 {B I : Nat → Nat → Int32} (hB : Bse I0 B) (h : St n L D B I) {w : Nat} (hw : w < 2 ^ D.nL) (hM : ∀ j, j < D.nL → B 458 j = wrF I0 D (nI w) j) {x2 : Int32} {K : Int32 → Hp → Prop} {Q : Int32 → Hp → Prop} (hK : K (inr (chF I0 D (nI w)) 1 (2 ^ D.nP - 1) (-1)) (fm I L D)) : wp_X12_round_L118 400 (nI w) x2 K Q fuel (-1) 1 (fm I L D) := by
  have nP10 := h.1.nP10
  have p2 : 2 ^ D.nP ≤ 2 ^ 10 := Nat.pow_le_pow_right (by decide) nP10
  have p0 : 0 < 2 ^ D.nP := Nat.two_pow_pos _
  have key : ∀ (N s : Nat) (x : Int32), s ≤ 2 ^ D.nP → 2 ^ D.nP < N + s → (x = -1 ∨ ∃ b, b < 1024 ∧ x = nI b) → inr (chF I0 D (nI w)) s (2 ^ D.nP - s) x = inr (chF I0 D (nI w)) 1 (2 ^ D.nP - 1) (-1) → wp_X12_round_L118 400 (nI w) x2 K Q N x (nI s) (fm I L D) := by
    intro N
    induction N with
    | zero => intro s x h1 h2; omega
    | succ N ih =>
      intro s x h1 h2 hx he
      rw [wp_X12_round_L118]
      simp only [gK, gI, gL, gR_, g_stI, g_stL, forall_eq, true_and, ad_s, okA_s, okO_s, okN_s, i10, i00, if_true, if_false, reduceCtorEq, Kf_1, Kf_400, h.1.mP, shl1 (show D.nP < 31 by omega)]
      by_cases hs : s = 2 ^ D.nP
      · subst hs
        rw [if_pos (nI_le (Nat.le_refl _) (by omega))]
        rw [Nat.sub_self] at he
        have he : x = _ := he
        rw [he]; exact hK
      · rw [if_neg (nI_ge (by omega) (by omega))]
        rw [show 2 ^ D.nP - s = (2 ^ D.nP - (s + 1)) + 1 by omega] at he
        have he : inr (chF I0 D (nI w)) (s + 1) (2 ^ D.nP - (s + 1)) (chF I0 D (nI w) s x) = inr (chF I0 D (nI w)) 1 (2 ^ D.nP - 1) (-1) := he
        have go := ih (s + 1) (chF I0 D (nI w) s x) (by omega) (by omega) (by
          unfold chF
          split
          · exact Or.inr ⟨s, by omega, rfl⟩
          · exact hx) he
        have stay : chF I0 D (nI w) s x = x → wp_X12_round_L118 400 (nI w) x2 K Q N x (nI (s + 1)) (fm I L D) := fun z => by rw [z] at go; exact go
        have take : chF I0 D (nI w) s x = nI s → wp_X12_round_L118 400 (nI w) x2 K Q N (nI s) (nI (s + 1)) (fm I L D) := fun z => by rw [z] at go; exact go
        refine m_findsAll h hw hM ?_
        by_cases e1 : okS I0 D (nI w) s
        · rw [if_pos e1, if_neg (by decide)]
          by_cases e2 : x = -1
          · rw [if_pos e2]
            simp only [forall_eq, nI_1]
            exact take (if_pos ⟨e1, Or.inl e2⟩)
          · rw [if_neg e2]
            obtain ⟨b, hb, rfl⟩ : ∃ b, b < 1024 ∧ x = nI b := hx.elim (fun z => absurd z e2) id
            have c1 := cnt_le (bt (nI s)) 32
            have c2 := cnt_le (bt (nI b)) 32
            simp only [gK, gI, gL, gR_, g_stI, g_stL, forall_eq, true_and, ad_s, okA_s, okO_s, okN_s, i10, i00, if_true, if_false, reduceCtorEq, Kf_1, Kf_400]
            refine m_hoursOf hB h ?_
            simp only [gK, gI, gL, gR_, g_stI, g_stL, forall_eq, true_and, ad_s, okA_s, okO_s, okN_s, i10, i00, if_true, if_false, reduceCtorEq, Kf_1, Kf_400]
            refine m_hoursOf hB h ?_
            by_cases e3 : hrF (I0 457) (bt (nI b)) D.nP < hrF (I0 457) (bt (nI s)) D.nP
            · rw [if_pos e3]
              simp only [forall_eq, nI_1]
              refine stay (if_neg (fun z => z.2.elim e2 (fun q => q.elim (fun q => ?_) (fun q => ?_))))
              · exact absurd (Int32.lt_trans q e3) Int32.lt_irrefl
              · rw [q.1] at e3; exact absurd e3 Int32.lt_irrefl
            · rw [if_neg e3]
              simp only [gK, gI, gL, gR_, g_stI, g_stL, forall_eq, true_and, ad_s, okA_s, okO_s, okN_s, i10, i00, if_true, if_false, reduceCtorEq, Kf_1, Kf_400]
              refine m_hoursOf hB h ?_
              simp only [gK, gI, gL, gR_, g_stI, g_stL, forall_eq, true_and, ad_s, okA_s, okO_s, okN_s, i10, i00, if_true, if_false, reduceCtorEq, Kf_1, Kf_400]
              refine m_hoursOf hB h ?_
              by_cases e4 : hrF (I0 457) (bt (nI s)) D.nP = hrF (I0 457) (bt (nI b)) D.nP
              · rw [if_pos e4]
                simp only [gK, gI, gL, gR_, g_stI, g_stL, forall_eq, true_and, ad_s, okA_s, okO_s, okN_s, i10, i00, if_true, if_false, reduceCtorEq, Kf_1, Kf_400]
                refine m_ones (by omega) ?_
                simp only [gK, gI, gL, gR_, g_stI, g_stL, forall_eq, true_and, ad_s, okA_s, okO_s, okN_s, i10, i00, if_true, if_false, reduceCtorEq, Kf_1, Kf_400]
                refine m_ones hb ?_
                simp only [forall_eq, nI_1]
                by_cases e5 : cnt (bt (nI s)) 32 < cnt (bt (nI b)) 32
                · rw [if_pos (nI_lt e5 (by omega))]
                  exact take (if_pos ⟨e1, Or.inr (Or.inr ⟨e4, e5⟩)⟩)
                · rw [if_neg (fun z => e5 ((nI_ltI (by omega) (by omega)).mp z))]
                  refine stay (if_neg (fun z => z.2.elim e2 (fun q => q.elim (fun q => ?_) (fun q => e5 q.2))))
                  rw [e4] at q; exact absurd q Int32.lt_irrefl
              · rw [if_neg e4]
                simp only [forall_eq, nI_1]
                refine take (if_pos ⟨e1, Or.inr (Or.inl ?_)⟩)
                exact Int32.lt_of_le_of_ne (Int32.not_lt.mp e3) e4
        · rw [if_neg e1, if_pos rfl]
          simp only [forall_eq, nI_1]
          exact stay (if_neg (fun z => e1 z.1))
  exact key fuel 1 (-1) (by omega) (by have := fuel_ge; omega) (Or.inl rfl) rfl
theorem chF_ok {x1 : Int32} : ∀ (m s : Nat) (x : Int32), s + m ≤ 1024 → (x = -1 ∨ ∃ b, b < 1024 ∧ x = nI b) → (inr (chF I0 D x1) s m x = -1 ∨ ∃ b, b < 1024 ∧ inr (chF I0 D x1) s m x = nI b) := by
  intro m
  induction m with
  | zero => intro s x _ hx; exact hx
  | succ m ih =>
    intro s x hs hx
    refine ih (s + 1) (chF I0 D x1 s x) (by omega) ?_
    unfold chF
    split
    · exact Or.inr ⟨s, by omega, rfl⟩
    · exact hx
end RP
theorem pair_round {n : Nat} {g : Hp} (hI : Inv n g) (x1 x2 : Int32) : wp_X11_round 1 x1 x2 g (fun r h1 => wp_X12_round 400 x1 x2 h1 (fun r' h2 => r' = r ∧ Inv (n + 1) h2)) := by
  obtain ⟨I, L, D, rfl, h⟩ := hI
  have nL6 := h.nL6
  have nP10 := h.nP10
  have hT0 := St_told (St.refl h)
  have pL : 2 ^ D.nL ≤ 2 ^ 6 := Nat.pow_le_pow_right (by decide) nL6
  have p0 : 0 < 2 ^ D.nL := Nat.two_pow_pos _
  have eS : nI (2 ^ D.nL) - (1 : Int32) = nI (2 ^ D.nL - 1) := by rw [show (1 : Int32) = nI 1 from rfl, nI_sb (by omega)]
  have eT : (nI (2 ^ D.nL - 1)).toInt = (2 ^ D.nL - 1 : Nat) := nI_toInt (by omega)
  have no1 : ¬ ((1 : Int32) ≤ x1 ∧ x1 ≤ nI (2 ^ D.nL - 1)) → wp_X12_round 400 x1 x2 (fm I L D) (fun r' h2 => r' = -1 ∧ Inv (n + 1) h2) := by
    intro z
    unfold wp_X12_round
    simp only [gK, gI, gL, gR_, g_stI, g_stL, forall_eq, true_and, ad_s, okA_s, okO_s, okN_s, i10, i00, if_true, if_false, reduceCtorEq, Kf_1, Kf_400, hT0.1.mL, shl1 (show D.nL < 31 by omega), eS, m_isIn, if_neg z]
    exact hT0.inv
  have no2 : ((1 : Int32) ≤ x1 ∧ x1 ≤ nI (2 ^ D.nL - 1)) → ¬ ((0 : Int32) ≤ x2 ∧ x2 ≤ 1) → wp_X12_round 400 x1 x2 (fm I L D) (fun r' h2 => r' = -1 ∧ Inv (n + 1) h2) := by
    intro z z2
    unfold wp_X12_round
    simp only [gK, gI, gL, gR_, g_stI, g_stL, forall_eq, true_and, ad_s, okA_s, okO_s, okN_s, i10, i00, if_true, if_false, reduceCtorEq, Kf_1, Kf_400, hT0.1.mL, shl1 (show D.nL < 31 by omega), eS, m_isIn, if_pos z, if_neg z2]
    exact hT0.inv
  unfold wp_X11_round
  by_cases a1 : x1 ≤ 0
  · rw [if_pos a1]
    exact no1 (fun z => absurd (Int32.le_trans z.1 a1) (by decide))
  · rw [if_neg a1]
    simp only [gK, gI, gL, gR_, g_stI, g_stL, forall_eq, true_and, ad_s, okA_s, okO_s, okN_s, i10, i00, if_true, if_false, reduceCtorEq, Kf_1, Kf_400, h.xL, shl1 (show D.nL < 31 by omega)]
    have a1' : (0 : Int32) < x1 := Int32.not_le.mp a1
    by_cases a2 : nI (2 ^ D.nL) ≤ x1
    · rw [if_pos a2]
      refine no1 (fun z => ?_)
      have q := Int32.le_iff_toInt_le.mp (Int32.le_trans a2 z.2)
      rw [eT, nI_toInt (by omega)] at q
      omega
    · rw [if_neg a2]
      obtain ⟨w, hw, rfl⟩ : ∃ w, w < 2 ^ D.nL ∧ x1 = nI w := inN_of (by omega) ⟨Int32.le_of_lt a1', Int32.not_le.mp a2⟩
      have w0 : 0 < w := by
        have := (nI_ltI (a := 0) (b := w) (by omega) (by omega)).mp a1'
        exact this
      have z1 : (1 : Int32) ≤ nI w ∧ nI w ≤ nI (2 ^ D.nL - 1) := ⟨nI_le (a := 1) w0 (by omega), nI_le (by omega) (by omega)⟩
      by_cases b1 : x2 < 0
      · rw [if_pos b1]
        exact no2 z1 (fun z => absurd z.1 (Int32.not_le.mpr b1))
      · rw [if_neg b1]
        by_cases b2 : x2 ≤ 1
        · rw [if_pos b2]
          have z2 : (0 : Int32) ≤ x2 ∧ x2 ≤ 1 := ⟨Int32.not_lt.mp b1, b2⟩
          unfold wp_X11_markMisled
          refine x_mark_L2 (I0 := I) fuel 0 I I Bse.refl (St.refl h) (by omega) (by have := fuel_ge; omega) (fun j hj => by omega) (fun B J hB hJ hM => ?_)
          simp only [gK, gI, gL, gR_, g_stI, g_stL, forall_eq, true_and, ad_s, okA_s, okO_s, okN_s, i10, i00, if_true, if_false, reduceCtorEq, Kf_1, Kf_400]
          refine x_cheapest hB hJ hM ?_
          have hTJ := St_told hJ
          have rest : ∀ (r : Int32), (r = if x2 = 0 then inr (chF I D (nI w)) 1 (2 ^ D.nP - 1) (-1) else if inr (chF I D (nI w)) 1 (2 ^ D.nP - 1) (-1) = -1 then inr (chF I D (nI w)) 1 (2 ^ D.nP - 1) (-1) else hrF (I 457) (bt (inr (chF I D (nI w)) 1 (2 ^ D.nP - 1) (-1))) D.nP) → wp_X12_round 400 (nI w) x2 (fm J L D) (fun r' h2 => r' = r ∧ Inv (n + 1) h2) := by
            intro r hr
            unfold wp_X12_round
            simp only [gK, gI, gL, gR_, g_stI, g_stL, forall_eq, true_and, ad_s, okA_s, okO_s, okN_s, i10, i00, if_true, if_false, reduceCtorEq, Kf_1, Kf_400, hTJ.1.mL, shl1 (show D.nL < 31 by omega), eS, m_isIn, if_pos z1, if_pos z2]
            refine m_rd_L36 (I0 := I) fuel 0 B _ hB hTJ (by omega) (by have := fuel_ge; omega) (fun j hj => by omega) (fun B' J' hB' hJ' hM' => ?_)
            refine m_rd_L118 hB' hJ' hw hM' ?_
            by_cases c1 : inr (chF I D (nI w)) 1 (2 ^ D.nP - 1) (-1) = -1
            · rw [if_pos c1]
              rw [if_pos c1, ite_self] at hr
              exact ⟨hr.symm, hJ'.inv⟩
            · rw [if_neg c1]
              by_cases c2 : x2 = 0
              · rw [if_pos c2]
                rw [if_pos c2] at hr
                exact ⟨hr.symm, hJ'.inv⟩
              · rw [if_neg c2]
                rw [if_neg c2, if_neg c1] at hr
                simp only [gK, gI, gL, gR_, g_stI, g_stL, forall_eq, true_and, ad_s, okA_s, okO_s, okN_s, i10, i00, if_true, if_false, reduceCtorEq, Kf_1, Kf_400]
                refine m_hoursOf hB' hJ' ?_
                exact ⟨hr.symm, hJ'.inv⟩
          by_cases c2 : x2 = 0
          · rw [if_pos c2]
            exact rest _ (by rw [if_pos c2])
          · rw [if_neg c2]
            by_cases c1 : inr (chF I D (nI w)) 1 (2 ^ D.nP - 1) (-1) = -1
            · rw [if_pos c1]
              exact rest _ (by rw [if_neg c2, if_pos c1])
            · rw [if_neg c1]
              simp only [gK, gI, gL, gR_, g_stI, g_stL, forall_eq, true_and, ad_s, okA_s, okO_s, okN_s, i10, i00, if_true, if_false, reduceCtorEq, Kf_1, Kf_400]
              refine x_hoursOf hB hJ ?_
              exact rest _ (by rw [if_neg c2, if_neg c1])
        · rw [if_neg b2]
          exact no2 z1 (fun z => b2 z.2)
