/-! joined: groups, the weakest (my own) -/
def uni (g : Nat → Nat) (i j : Nat) : Nat → Nat := fun k => if g k = g i ∨ g k = g j then min (g i) (g j) else g k
theorem uni_same {g : Nat → Nat} {i j : Nat} (h : g i = g j) : uni g i j = g := by
  funext k
  unfold uni
  split <;> omega
def GI (B : Nat → Nat → Int32) (lab : Nat) (g : Nat → Nat) : Prop := ∀ k, k < 8 → B lab k = nI (g k) ∧ g k < 8
theorem uni_lt {g : Nat → Nat} {i j k : Nat} (hi : g i < 8) (hk : g k < 8) : uni g i j k < 8 := by
  unfold uni
  split <;> omega
def grI (st : Nat → Nat → Bool) (i : Nat) : Nat → Nat → (Nat → Nat) → (Nat → Nat)
  | _, 0, g => g
  | j, m + 1, g => grI st i (j + 1) m (if st i j = true then uni g i j else g)
def grO (st : Nat → Nat → Bool) : Nat → Nat → (Nat → Nat) → (Nat → Nat)
  | _, 0, g => g
  | i, m + 1, g => grO st (i + 1) m (grI st i (i + 1) (7 - i) g)
def wk1 (s : Nat → Nat → Nat) (i j : Nat) (w : Nat × Nat) : Nat × Nat := if s i j = 0 then w else if w.2 = 0 ∨ s i j < w.2 then (8 * i + j, s i j) else w
def wkI (s : Nat → Nat → Nat) (i : Nat) : Nat → Nat → Nat × Nat → Nat × Nat
  | _, 0, w => w
  | j, m + 1, w => wkI s i (j + 1) m (wk1 s i j w)
def wkO (s : Nat → Nat → Nat) : Nat → Nat → Nat × Nat → Nat × Nat
  | _, 0, w => w
  | i, m + 1, w => wkO s (i + 1) m (wkI s i (i + 1) (7 - i) w)
/-- the pair that is the weakest so far lies ahead of p -/
def WB (w : Nat × Nat) (p : Nat) : Prop := w.2 ≤ 33 ∧ (w.2 ≠ 0 → w.1 < p) ∧ w.1 < 64
theorem WB_1 {s : Nat → Nat → Nat} (hs : ∀ i j, s i j ≤ 33) {i j : Nat} (hi : i < 8) (hj : j < 8) {w : Nat × Nat} (h : WB w (8 * i + j)) : WB (wk1 s i j w) (8 * i + (j + 1)) := by
  obtain ⟨h1, h2, h3⟩ := h
  have := hs i j
  unfold wk1
  split
  · exact ⟨h1, fun z => by have := h2 z; omega, h3⟩
  · split
    · exact ⟨this, fun _ => by show 8 * i + j < _; omega, by show 8 * i + j < 64; omega⟩
    · exact ⟨h1, fun z => by have := h2 z; omega, h3⟩
def w60 (w : Nat × Nat) : Int32 := if w.2 = 0 then -1 else nI w.1
def wx (w : Nat × Nat) : Int32 := if w.2 = 0 then -1 else nI (64 * (w.2 - 1) + w.1)
section JG
variable {n : Nat} {I0 : Nat → Nat → Int32} {L : Nat → Nat → Int64} {D : DD} {l i j : Nat}
def sjF (I0 : Nat → Nat → Int32) (L : Nat → Nat → Int64) (D : DD) (l i j : Nat) : Bool := decide (sNF I0 L D l i j ≠ 0)
theorem x_unite {g : Nat → Nat} {p q : Nat} (hp : p < 8) (hq : q < 8) (hg : ∀ k, k < 8 → g k < 8) {K Q : Hp → Prop} : ∀ (N k : Nat) (B I : Nat → Nat → Int32), Bse I0 B → St n L D B I → k ≤ 8 → 9 ≤ N + k → (∀ t, t < 8 → B 19 t = nI (if t < k then (if g t = p ∨ g t = q then min p q else g t) else g t)) → (∀ B' I', Bse I0 B' → St n L D B' I' → (∀ t, t < 8 → B' 19 t = nI (if g t = p ∨ g t = q then min p q else g t)) → K (fm I' L D)) → wp_X10_uniteGroups_L9 13 (nI p) (nI q) (nI (min p q)) K Q N (nI k) (fm I L D) := by
  intro N
  induction N with
  | zero => intro k B I _ _ h1 h2; omega
  | succ N ih =>
    intro k B I hB h h1 h2 hM hK
    rw [wp_X10_uniteGroups_L9]
    by_cases e : k = 8
    · subst e
      rw [if_pos (show (8 : Int32) ≤ nI 8 from by decide)]
      refine hK B I hB h (fun t ht => ?_)
      rw [hM t ht, if_pos ht]
    · rw [if_neg (show ¬ (8 : Int32) ≤ nI k from nI_ge (b := 8) (by omega) (by decide))]
      have hk : k < 8 := by omega
      have w : Wk 19 k := Or.inr (Or.inl rfl)
      have e9 : I 19 k = nI (g k) := by rw [h.wk w, hM k hk, if_neg (by omega)]
      have gk := hg k hk
      have eqp : (nI (g k) = nI p) = (g k = p) := propext (nI_eq (by omega) (by omega))
      have eqq : (nI (g k) = nI q) = (g k = q) := propext (nI_eq (by omega) (by omega))
      have set : wp_X10_uniteGroups_L9 13 (nI p) (nI q) (nI (min p q)) K Q N (nI (k + 1)) (fm (up2 I 19 k (nI (min p q))) L D) ∨ ¬ (g k = p ∨ g k = q) := by
        by_cases c : g k = p ∨ g k = q
        · refine Or.inl (ih (k + 1) _ _ (hB.up (v := nI (min p q)) w) (St_w h w _) (by omega) (by omega) (fun t ht => ?_) hK)
          by_cases et : t = k
          · subst et; rw [up2_s, if_pos (by omega), if_pos c]
          · rw [up2_o (by omega), hM t ht]
            by_cases e2 : t < k
            · rw [if_pos e2, if_pos (show t < k + 1 by omega)]
            · rw [if_neg e2, if_neg (show ¬ t < k + 1 by omega)]
        · exact Or.inr c
      unfold wp_X10_uniteGroups_J38
      simp only [gK, gI, gL, gR_, g_stI, g_stL, forall_eq, true_and, ad_s, okA_s, okO_s, okN_s, i10, i00, if_true, if_false, reduceCtorEq, Kf_1, Kf_400, Kf_13, Rf_13_5, Kf_19, vp_in_nI hk (show 8 < 2 ^ 31 by decide), nI_clamp (show k < 2 ^ 31 by omega), nI_1, e9, eqp, eqq]
      by_cases c1 : g k = p
      · rw [if_pos c1]
        exact set.elim id (fun z => absurd (Or.inl c1) z)
      · rw [if_neg c1]
        by_cases c2 : g k = q
        · rw [if_pos c2]
          exact set.elim id (fun z => absurd (Or.inr c2) z)
        · rw [if_neg c2]
          refine ih (k + 1) B I hB h (by omega) (by omega) (fun t ht => ?_) hK
          rw [hM t ht]
          by_cases e2 : t < k
          · rw [if_pos e2, if_pos (show t < k + 1 by omega)]
          · rw [if_neg e2]
            by_cases et : t = k
            · subst et; rw [if_pos (show t < t + 1 by omega), if_neg (fun z => z.elim c1 c2)]
            · rw [if_neg (show ¬ t < k + 1 by omega)]
theorem imin {x y : Nat} (hx : x < 2 ^ 31) (hy : y < 2 ^ 31) : (if nI y < nI x then nI y else nI x) = nI (min x y) := by
  by_cases h : y < x
  · rw [if_pos (nI_lt h hx), Nat.min_eq_right (by omega)]
  · rw [if_neg (fun z => h ((nI_ltI hy hx).mp z)), Nat.min_eq_left (by omega)]
theorem x_mk_L36 (hl : l < D.nL) (hi : i < 8) {G : Nat → Nat} {K Q : Hp → Prop} : ∀ (N j : Nat) (g : Nat → Nat) (B I : Nat → Nat → Int32), Bse I0 B → St n L D B I → j ≤ 8 → 9 ≤ N + j → GI B 19 g → grI (sjF I0 L D l) i j (8 - j) g = G → (∀ B' I', Bse I0 B' → St n L D B' I' → GI B' 19 G → K (fm I' L D)) → wp_X11_makeGroups_L36 1 (some (240 + 2 * l)) (nI i) K Q N (nI j) (fm I L D) := by
  intro N
  induction N with
  | zero => intro j g B I _ _ h1 h2; omega
  | succ N ih =>
    intro j g B I hB h h1 h2 hM hG hK
    rw [wp_X11_makeGroups_L36]
    by_cases e : j = 8
    · subst e
      rw [if_pos (show (8 : Int32) ≤ nI 8 from by decide)]
      have hG : g = G := hG
      subst hG
      exact hK B I hB h hM
    · rw [if_neg (show ¬ (8 : Int32) ≤ nI j from nI_ge (b := 8) (by omega) (by decide))]
      have hj : j < 8 := by omega
      rw [show 8 - j = (8 - (j + 1)) + 1 by omega] at hG
      have hG : grI (sjF I0 L D l) i (j + 1) (8 - (j + 1)) (if sjF I0 L D l i j = true then uni g i j else g) = G := hG
      have ei : I 19 i = nI (g i) := (h.wk (Or.inr (Or.inl rfl))).trans (hM i hi).1
      have ej : I 19 j = nI (g j) := (h.wk (Or.inr (Or.inl rfl))).trans (hM j hj).1
      have gi := (hM i hi).2
      have gj := (hM j hj).2
      simp only [gK, gI, gL, gR_, g_stI, g_stL, forall_eq, true_and, ad_s, okA_s, okO_s, okN_s, i10, i00, if_true, if_false, reduceCtorEq, Kf_1, Kf_400, Rf_1_15, Kf_13, Rf_13_5, Kf_19, vp_in_nI hi (show 8 < 2 ^ 31 by decide), vp_in_nI hj (show 8 < 2 ^ 31 by decide), nI_clamp (show i < 2 ^ 31 by omega), nI_clamp (show j < 2 ^ 31 by omega), nI_1, ei, ej]
      by_cases c : g i = g j
      · rw [if_pos (by rw [c])]
        refine ih (j + 1) g B I hB h (by omega) (by omega) hM ?_ hK
        rw [uni_same c, ite_self] at hG
        exact hG
      · rw [if_neg (fun z => c ((nI_eq (by omega) (by omega)).mp z))]
        refine x_strength hB h hl hi hj (fun J hJ => ?_)
        have sn := sNF_le I0 L D l i j
        by_cases c2 : sNF I0 L D l i j = 0
        · rw [if_pos ((pr_m1 (by omega)).mpr c2)]
          try simp only [forall_eq, nI_1]
          refine ih (j + 1) g B J hB hJ (by omega) (by omega) hM ?_ hK
          rw [if_neg (by unfold sjF; simp [c2])] at hG
          exact hG
        · rw [if_neg (fun z => c2 ((pr_m1 (by omega)).mp z))]
          have ei : J 19 i = nI (g i) := (hJ.wk (Or.inr (Or.inl rfl))).trans (hM i hi).1
          have ej : J 19 j = nI (g j) := (hJ.wk (Or.inr (Or.inl rfl))).trans (hM j hj).1
          simp only [gK, gI, gL, gR_, g_stI, g_stL, forall_eq, true_and, ad_s, okA_s, okO_s, okN_s, i10, i00, if_true, if_false, reduceCtorEq, Kf_1, Kf_400, Rf_1_15, Kf_13, Rf_13_5, Kf_19, vp_in_nI hi (show 8 < 2 ^ 31 by decide), vp_in_nI hj (show 8 < 2 ^ 31 by decide), nI_clamp (show i < 2 ^ 31 by omega), nI_clamp (show j < 2 ^ 31 by omega), nI_1, ei, ej]
          unfold wp_X10_uniteGroups
          simp only [forall_eq, imin (show g i < 2 ^ 31 by omega) (show g j < 2 ^ 31 by omega)]
          refine x_unite (I0 := I0) gi gj (fun k hk => (hM k hk).2) fuel 0 B J hB hJ (by omega) (by have := fuel_ge; omega) (fun t ht => by rw [if_neg (by omega)]; exact (hM t ht).1) (fun B' J' hB' hJ' hM' => ?_)
          try simp only [forall_eq, nI_1]
          rw [if_pos (show sjF I0 L D l i j = true from decide_eq_true c2)] at hG
          exact ih (j + 1) (uni g i j) B' J' hB' hJ' (by omega) (by omega) (fun k hk => ⟨hM' k hk, uni_lt gi (hM k hk).2⟩) hG hK
theorem x_mk_L26 (hl : l < D.nL) {G : Nat → Nat} {K Q : Hp → Prop} : ∀ (N i : Nat) (g : Nat → Nat) (B I : Nat → Nat → Int32), Bse I0 B → St n L D B I → i ≤ 8 → 9 ≤ N + i → GI B 19 g → grO (sjF I0 L D l) i (8 - i) g = G → (∀ B' I', Bse I0 B' → St n L D B' I' → GI B' 19 G → K (fm I' L D)) → wp_X11_makeGroups_L26 1 (some (240 + 2 * l)) K Q N (nI i) (fm I L D) := by
  intro N
  induction N with
  | zero => intro i g B I _ _ h1 h2; omega
  | succ N ih =>
    intro i g B I hB h h1 h2 hM hG hK
    rw [wp_X11_makeGroups_L26]
    by_cases e : i = 8
    · subst e
      rw [if_pos (show (8 : Int32) ≤ nI 8 from by decide)]
      have hG : g = G := hG
      subst hG
      exact hK B I hB h hM
    · rw [if_neg (show ¬ (8 : Int32) ≤ nI i from nI_ge (b := 8) (by omega) (by decide))]
      rw [show 8 - i = (8 - (i + 1)) + 1 by omega] at hG
      have hG : grO (sjF I0 L D l) (i + 1) (8 - (i + 1)) (grI (sjF I0 L D l) i (i + 1) (7 - i) g) = G := hG
      try simp only [forall_eq, nI_1]
      refine x_mk_L36 hl (show i < 8 by omega) fuel (i + 1) g B I hB h (by omega) (by have := fuel_ge; omega) hM (by rw [show 8 - (i + 1) = 7 - i by omega]) (fun B' J' hB' hJ' hM' => ?_)
      try simp only [forall_eq, nI_1]
      exact ih (i + 1) _ B' J' hB' hJ' (by omega) (by omega) hM' hG hK
def gz (I0 : Nat → Nat → Int32) (L : Nat → Nat → Int64) (D : DD) (l : Nat) : Nat → Nat := grO (sjF I0 L D l) 0 8 (fun k => k)
theorem x_mk_L2 {r1 : Option Nat} {K Q : Hp → Prop} : ∀ (N k : Nat) (B I : Nat → Nat → Int32), Bse I0 B → St n L D B I → k ≤ 8 → 9 ≤ N + k → (∀ t, t < k → B 19 t = nI t) → (∀ B' I', Bse I0 B' → St n L D B' I' → GI B' 19 (fun k => k) → K (fm I' L D)) → wp_X11_makeGroups_L2 1 r1 K Q N (nI k) (fm I L D) := by
  intro N
  induction N with
  | zero => intro k B I _ _ h1 h2; omega
  | succ N ih =>
    intro k B I hB h h1 h2 hM hK
    rw [wp_X11_makeGroups_L2]
    by_cases e : k = 8
    · subst e
      rw [if_pos (show (8 : Int32) ≤ nI 8 from by decide)]
      exact hK B I hB h (fun t ht => ⟨hM t ht, ht⟩)
    · rw [if_neg (show ¬ (8 : Int32) ≤ nI k from nI_ge (b := 8) (by omega) (by decide))]
      have w : Wk 19 k := Or.inr (Or.inl rfl)
      simp only [gK, gI, gL, gR_, g_stI, g_stL, forall_eq, true_and, ad_s, okA_s, okO_s, okN_s, i10, i00, if_true, if_false, reduceCtorEq, Kf_1, Kf_400, Rf_1_15, Kf_13, Rf_13_5, Kf_19, vp_in_nI (show k < 8 by omega) (show 8 < 2 ^ 31 by decide), nI_clamp (show k < 2 ^ 31 by omega), nI_1]
      refine ih (k + 1) _ _ (hB.up (v := nI k) w) (St_w h w _) (by omega) (by omega) (fun t ht => ?_) hK
      by_cases et : t = k
      · subst et; rw [up2_s]
      · rw [up2_o (by omega)]; exact hM t (by omega)
theorem x_groups {B I : Nat → Nat → Int32} (hB : Bse I0 B) (h : St n L D B I) (hl : l < D.nL) {Q : Hp → Prop} (hQ : ∀ B' I', Bse I0 B' → St n L D B' I' → GI B' 19 (gz I0 L D l) → Q (fm I' L D)) : wp_X11_makeGroups 1 (some (240 + 2 * l)) (fm I L D) Q := by
  unfold wp_X11_makeGroups
  refine x_mk_L2 (I0 := I0) fuel 0 B I hB h (by omega) (by have := fuel_ge; omega) (fun t ht => by omega) (fun B' J' hB' hJ' hM' => ?_)
  exact x_mk_L26 hl fuel 0 _ B' J' hB' hJ' (by omega) (by have := fuel_ge; omega) hM' rfl hQ
theorem x_wk_L15 {B : Nat → Nat → Int32} (hB : Bse I0 B) (hl : l < D.nL) (hi : i < 8) {W : Nat × Nat} {K : Int32 → Hp → Prop} {Q : Int32 → Hp → Prop} : ∀ (N j : Nat) (w : Nat × Nat) (I : Nat → Nat → Int32), St n L D B I → j ≤ 8 → 9 ≤ N + j → WB w (8 * i + j) → wkI (sNF I0 L D l) i j (8 - j) w = W → (∀ I', St n L D B I' → WB W (8 * i + 8) → K (wx W) (fm I' L D)) → wp_X11_weakest_L15 1 (some (240 + 2 * l)) (nI i) K Q N (wx w) (nI j) (fm I L D) := by
  intro N
  induction N with
  | zero => intro j w I _ h1 h2; omega
  | succ N ih =>
    intro j w I h h1 h2 hw hW hK
    rw [wp_X11_weakest_L15]
    by_cases e : j = 8
    · subst e
      rw [if_pos (show (8 : Int32) ≤ nI 8 from by decide)]
      have hW : w = W := hW
      subst hW
      exact hK I h hw
    · rw [if_neg (show ¬ (8 : Int32) ≤ nI j from nI_ge (b := 8) (by omega) (by decide))]
      have hj : j < 8 := by omega
      rw [show 8 - j = (8 - (j + 1)) + 1 by omega] at hW
      have hW : wkI (sNF I0 L D l) i (j + 1) (8 - (j + 1)) (wk1 (sNF I0 L D l) i j w) = W := hW
      have hw1 := WB_1 (sNF_le I0 L D l) hi hj hw
      simp only [gK, gI, gL, gR_, g_stI, g_stL, forall_eq, true_and, ad_s, okA_s, okO_s, okN_s, i10, i00, if_true, if_false, reduceCtorEq, Kf_1, Kf_400]
      refine x_strength hB h hl hi hj (fun J hJ => ?_)
      have go := ih (j + 1) _ J hJ (by omega) (by omega) hw1 hW hK
      have sn := sNF_le I0 L D l i j
      try simp only [forall_eq, nI_1]
      unfold wk1 at go
      by_cases c2 : sNF I0 L D l i j = 0
      · rw [if_pos ((pr_m1 (by omega)).mpr c2)]
        rw [if_pos c2] at go; exact go
      · rw [if_neg (fun z => c2 ((pr_m1 (by omega)).mp z))]
        rw [if_neg c2] at go
        have ek : (pr (sNF I0 L D l i j) * 8 + nI i) * 8 + nI j = nI (64 * (sNF I0 L D l i j - 1) + (8 * i + j)) := by
          obtain ⟨v, hv⟩ : ∃ v, sNF I0 L D l i j = v + 1 := ⟨sNF I0 L D l i j - 1, by omega⟩
          rw [hv, pr_s, show (8 : Int32) = nI 8 from rfl, pk_mul, nI_add, pk_mul, nI_add]
          congr 1
          show _ = 64 * (v + 1 - 1) + (8 * i + j)
          omega
        rw [ek]
        obtain ⟨b1, b2, b3⟩ := hw
        by_cases c3 : w.2 = 0
        · have : wx w = -1 := if_pos c3
          rw [if_pos this]
          rw [if_pos (Or.inl c3)] at go
          have e2 : wx (8 * i + j, sNF I0 L D l i j) = nI (64 * (sNF I0 L D l i j - 1) + (8 * i + j)) := if_neg c2
          rw [e2] at go; exact go
        · have ew : wx w = nI (64 * (w.2 - 1) + w.1) := if_neg c3
          have bw := b2 c3
          rw [ew, if_neg (nI_m1 (by omega))]
          by_cases c4 : sNF I0 L D l i j < w.2
          · rw [if_neg (nI_ge (by omega) (by omega))]
            rw [if_pos (Or.inr c4)] at go
            have e2 : wx (8 * i + j, sNF I0 L D l i j) = nI (64 * (sNF I0 L D l i j - 1) + (8 * i + j)) := if_neg c2
            rw [e2] at go; exact go
          · rw [if_pos (nI_le (by omega) (by omega))]
            rw [if_neg (fun z => z.elim c3 c4), ew] at go
            exact go
theorem x_wk_L4 {B : Nat → Nat → Int32} (hB : Bse I0 B) (hl : l < D.nL) {W : Nat × Nat} {K : Int32 → Hp → Prop} {Q : Int32 → Hp → Prop} : ∀ (N i : Nat) (w : Nat × Nat) (I : Nat → Nat → Int32), St n L D B I → i ≤ 8 → 9 ≤ N + i → WB w (8 * i) → wkO (sNF I0 L D l) i (8 - i) w = W → (∀ I', St n L D B I' → WB W 64 → K (wx W) (fm I' L D)) → wp_X11_weakest_L4 1 (some (240 + 2 * l)) K Q N (wx w) (nI i) (fm I L D) := by
  intro N
  induction N with
  | zero => intro i w I _ h1 h2; omega
  | succ N ih =>
    intro i w I h h1 h2 hw hW hK
    rw [wp_X11_weakest_L4]
    by_cases e : i = 8
    · subst e
      rw [if_pos (show (8 : Int32) ≤ nI 8 from by decide)]
      have hW : w = W := hW
      subst hW
      exact hK I h hw
    · rw [if_neg (show ¬ (8 : Int32) ≤ nI i from nI_ge (b := 8) (by omega) (by decide))]
      rw [show 8 - i = (8 - (i + 1)) + 1 by omega] at hW
      have hW : wkO (sNF I0 L D l) (i + 1) (8 - (i + 1)) (wkI (sNF I0 L D l) i (i + 1) (7 - i) w) = W := hW
      try simp only [forall_eq, nI_1]
      refine x_wk_L15 hB hl (show i < 8 by omega) fuel (i + 1) w I h (by omega) (by have := fuel_ge; omega) ⟨hw.1, fun z => by have := hw.2.1 z; omega, hw.2.2⟩ (by rw [show 8 - (i + 1) = 7 - i by omega]) (fun J hJ hb => ?_)
      try simp only [forall_eq, nI_1]
      exact ih (i + 1) _ J hJ (by omega) (by omega) (by rw [show 8 * (i + 1) = 8 * i + 8 by omega]; exact hb) hW hK
def wz (I0 : Nat → Nat → Int32) (L : Nat → Nat → Int64) (D : DD) (l : Nat) : Nat × Nat := wkO (sNF I0 L D l) 0 8 (0, 0)
theorem x_weakest {B I : Nat → Nat → Int32} (hB : Bse I0 B) (h : St n L D B I) (hl : l < D.nL) {Q : Int32 → Hp → Prop} (hQ : ∀ I', St n L D B I' → WB (wz I0 L D l) 64 → Q (wx (wz I0 L D l)) (fm I' L D)) : wp_X11_weakest 1 (some (240 + 2 * l)) (fm I L D) Q := by
  unfold wp_X11_weakest
  exact x_wk_L4 hB hl fuel 0 (0, 0) I h (by omega) (by have := fuel_ge; omega) ⟨by decide, fun z => absurd rfl z, by decide⟩ rfl hQ
/-! the reference -/
theorem m_joins_L51 {g : Nat → Nat} {kp go : Nat} (hkp : kp < 8) (hgo : go < 8) (hg : ∀ k, k < 8 → g k < 8) {K Q : Hp → Prop} : ∀ (N k : Nat) (B I : Nat → Nat → Int32), Bse I0 B → St n L D B I → k ≤ 8 → 9 ≤ N + k → (∀ t, t < 8 → B 460 t = nI (if t < k then (if g t = go then kp else g t) else g t)) → (∀ B' I', Bse I0 B' → St n L D B' I' → (∀ t, t < 8 → B' 460 t = nI (if g t = go then kp else g t)) → (∀ l k, l ≠ 460 → B' l k = B l k) → K (fm I' L D)) → wp_X12_joins_L51 400 (nI kp) (nI go) K Q N (nI k) (fm I L D) := by
  intro N
  induction N with
  | zero => intro k B I _ _ h1 h2; omega
  | succ N ih =>
    intro k B I hB h h1 h2 hM hK
    rw [wp_X12_joins_L51]
    by_cases e : k = 8
    · subst e
      rw [if_pos (show (8 : Int32) ≤ nI 8 from by decide)]
      refine hK B I hB h (fun t ht => ?_) (fun _ _ _ => rfl)
      rw [hM t ht, if_pos ht]
    · rw [if_neg (show ¬ (8 : Int32) ≤ nI k from nI_ge (b := 8) (by omega) (by decide))]
      have hk : k < 8 := by omega
      have w : Wk 460 k := Or.inr (Or.inr (Or.inr (Or.inl rfl)))
      have e9 : I 460 k = nI (g k) := by rw [h.wk w, hM k hk, if_neg (by omega)]
      have gk := hg k hk
      have eqp : (nI (g k) = nI go) = (g k = go) := propext (nI_eq (by omega) (by omega))
      simp only [gK, gI, gL, gR_, g_stI, g_stL, forall_eq, true_and, ad_s, okA_s, okO_s, okN_s, i10, i00, if_true, if_false, reduceCtorEq, Kf_1, Kf_400, Rf_400_59, Kf_460, vp_in_nI hk (show 8 < 2 ^ 31 by decide), nI_clamp (show k < 2 ^ 31 by omega), nI_1, e9, eqp]
      by_cases c1 : g k = go
      · rw [if_pos c1]
        refine ih (k + 1) _ _ (hB.up (v := nI kp) w) (St_w h w _) (by omega) (by omega) (fun t ht => ?_) (fun B' I' a1 a2 a3 a4 => hK B' I' a1 a2 a3 (fun l k hl => (a4 l k hl).trans (up2_o (by omega))))
        by_cases et : t = k
        · subst et; rw [up2_s, if_pos (by omega), if_pos c1]
        · rw [up2_o (by omega), hM t ht]
          by_cases e2 : t < k
          · rw [if_pos e2, if_pos (show t < k + 1 by omega)]
          · rw [if_neg e2, if_neg (show ¬ t < k + 1 by omega)]
      · rw [if_neg c1]
        refine ih (k + 1) B I hB h (by omega) (by omega) (fun t ht => ?_) hK
        rw [hM t ht]
        by_cases e2 : t < k
        · rw [if_pos e2, if_pos (show t < k + 1 by omega)]
        · rw [if_neg e2]
          by_cases et : t = k
          · subst et; rw [if_pos (show t < t + 1 by omega), if_neg c1]
          · rw [if_neg (show ¬ t < k + 1 by omega)]
theorem m_joins {g : Nat → Nat} (hi : i < 8) (hj : j < 8) {B I : Nat → Nat → Int32} (hB : Bse I0 B) (h : St n L D B I) (hM : GI B 460 g) {Q : Hp → Prop} (hQ : ∀ B' I', Bse I0 B' → St n L D B' I' → GI B' 460 (uni g i j) → (∀ l k, l ≠ 460 → B' l k = B l k) → Q (fm I' L D)) : wp_X12_joins 400 (nI i) (nI j) (fm I L D) Q := by
  have ei : I 460 i = nI (g i) := (h.wk (Or.inr (Or.inr (Or.inr (Or.inl rfl))))).trans (hM i hi).1
  have ej : I 460 j = nI (g j) := (h.wk (Or.inr (Or.inr (Or.inr (Or.inl rfl))))).trans (hM j hj).1
  have gi := (hM i hi).2
  have gj := (hM j hj).2
  unfold wp_X12_joins wp_X12_joins_J30
  simp only [gK, gI, gL, gR_, g_stI, g_stL, forall_eq, true_and, ad_s, okA_s, okO_s, okN_s, i10, i00, if_true, if_false, reduceCtorEq, Kf_1, Kf_400, Rf_400_59, Kf_460, vp_in_nI hi (show 8 < 2 ^ 31 by decide), vp_in_nI hj (show 8 < 2 ^ 31 by decide), nI_clamp (show i < 2 ^ 31 by omega), nI_clamp (show j < 2 ^ 31 by omega), ei, ej]
  have fin : ∀ kp go : Nat, kp = min (g i) (g j) → go = max (g i) (g j) → wp_X12_joins_L51 400 (nI kp) (nI go) (fun h24 => Q h24) Q fuel 0 (fm I L D) := by
    intro kp go e1 e2
    refine m_joins_L51 (I0 := I0) (g := g) (by omega) (by omega) (fun k hk => (hM k hk).2) fuel 0 B I hB h (by omega) (by have := fuel_ge; omega) (fun t ht => by rw [if_neg (by omega)]; exact (hM t ht).1) (fun B' J' hB' hJ' hM' hf => ?_)
    refine hQ B' J' hB' hJ' (fun t ht => ⟨?_, uni_lt gi (hM t ht).2⟩) hf
    rw [hM' t ht]
    congr 1
    unfold uni
    split <;> split <;> omega
  by_cases c : g j ≤ g i
  · rw [if_pos (nI_le c (by omega)), nI_add, nI_sb (by omega)]
    exact fin _ _ (by omega) (by omega)
  · rw [if_neg (nI_ge (by omega) (by omega)), nI_add, nI_sb (by omega)]
    exact fin _ _ (by omega) (by omega)
theorem m_fg_L43 (hl : l < D.nL) (hi : i < 8) {G : Nat → Nat} {W : Nat × Nat} {K Q : Hp → Prop} : ∀ (N j : Nat) (g : Nat → Nat) (w : Nat × Nat) (B I : Nat → Nat → Int32), Bse I0 B → St n L D B I → j ≤ 8 → 9 ≤ N + j → GI B 460 g → B 400 60 = w60 w → B 400 61 = pr w.2 → WB w (8 * i + j) → grI (sjF I0 L D l) i j (8 - j) g = G → wkI (sNF I0 L D l) i j (8 - j) w = W → (∀ B' I', Bse I0 B' → St n L D B' I' → GI B' 460 G → B' 400 60 = w60 W → B' 400 61 = pr W.2 → WB W (8 * i + 8) → K (fm I' L D)) → wp_X12_findsGroups_L43 400 (nI l) (nI i) K Q N (nI j) (fm I L D) := by
  intro N
  induction N with
  | zero => intro j g w B I _ _ h1 h2; omega
  | succ N ih =>
    intro j g w B I hB h h1 h2 hM h60 h61 hw hG hW hK
    rw [wp_X12_findsGroups_L43]
    by_cases e : j = 8
    · subst e
      rw [if_pos (show (8 : Int32) ≤ nI 8 from by decide)]
      have hG : g = G := hG
      have hW : w = W := hW
      subst hG
      subst hW
      exact hK B I hB h hM h60 h61 hw
    · rw [if_neg (show ¬ (8 : Int32) ≤ nI j from nI_ge (b := 8) (by omega) (by decide))]
      have hj : j < 8 := by omega
      rw [show 8 - j = (8 - (j + 1)) + 1 by omega] at hG hW
      have hG : grI (sjF I0 L D l) i (j + 1) (8 - (j + 1)) (if sjF I0 L D l i j = true then uni g i j else g) = G := hG
      have hW : wkI (sNF I0 L D l) i (j + 1) (8 - (j + 1)) (wk1 (sNF I0 L D l) i j w) = W := hW
      have hw1 := WB_1 (sNF_le I0 L D l) hi hj hw
      simp only [gK, gI, gL, gR_, g_stI, g_stL, forall_eq, true_and, ad_s, okA_s, okO_s, okN_s, i10, i00, if_true, if_false, reduceCtorEq, Kf_1, Kf_400]
      refine m_bestOf hB h hl hi hj (fun J hJ => ?_)
      have sn := sNF_le I0 L D l i j
      unfold wk1 at hW hw1
      by_cases c2 : sNF I0 L D l i j = 0
      · rw [if_pos ((pr_m1 (by omega)).mpr c2)]
        try simp only [forall_eq, nI_1]
        rw [if_neg (by unfold sjF; simp [c2])] at hG
        rw [if_pos c2] at hW hw1
        exact ih (j + 1) g w B J hB hJ (by omega) (by omega) hM h60 h61 hw1 hG hW hK
      · rw [if_neg (fun z => c2 ((pr_m1 (by omega)).mp z))]
        rw [if_pos (show sjF I0 L D l i j = true from decide_eq_true c2)] at hG
        rw [if_neg c2] at hW hw1
        simp only [gK, gI, gL, gR_, g_stI, g_stL, forall_eq, true_and, ad_s, okA_s, okO_s, okN_s, i10, i00, if_true, if_false, reduceCtorEq, Kf_1, Kf_400]
        refine m_joins hi hj hB hJ hM (fun B' J' hB' hJ' hM' hf => ?_)
        have k60 : J' 400 60 = w60 w := ((hJ'.wk (Or.inr (Or.inr (Or.inr (Or.inr ⟨rfl, Or.inl rfl⟩))))).trans (hf 400 60 (by decide))).trans h60
        have k61 : J' 400 61 = pr w.2 := ((hJ'.wk (Or.inr (Or.inr (Or.inr (Or.inr ⟨rfl, Or.inr rfl⟩))))).trans (hf 400 61 (by decide))).trans h61
        have b60 : B' 400 60 = w60 w := (hf 400 60 (by decide)).trans h60
        have b61 : B' 400 61 = pr w.2 := (hf 400 61 (by decide)).trans h61
        obtain ⟨u1, u2, u3⟩ := hw
        have t0 : Wk 400 60 := Or.inr (Or.inr (Or.inr (Or.inr ⟨rfl, Or.inl rfl⟩)))
        have t1 : Wk 400 61 := Or.inr (Or.inr (Or.inr (Or.inr ⟨rfl, Or.inr rfl⟩)))
        have take : (w.2 = 0 ∨ sNF I0 L D l i j < w.2) → wp_X12_findsGroups_L43 400 (nI l) (nI i) K Q N (nI (j + 1)) (fm (up2 (up2 J' 400 60 (nI (8 * i + j))) 400 61 (pr (sNF I0 L D l i j))) L D) := by
          intro z
          rw [if_pos z] at hW hw1
          refine ih (j + 1) (uni g i j) (8 * i + j, sNF I0 L D l i j) _ _ ((hB'.up (v := nI (8 * i + j)) t0).up (v := pr (sNF I0 L D l i j)) t1) (St_w (St_w hJ' t0 _) t1 _) (by omega) (by omega) (fun k hk => ?_) ?_ up2_s hw1 hG hW hK
          · rw [up2_o (by omega), up2_o (by omega)]; exact hM' k hk
          · rw [up2_o (by omega), up2_s]
            exact (if_neg c2).symm
        unfold wp_X12_findsGroups_J93
        have e8 : (8 : Int32) * nI i + nI j = nI (8 * i + j) := by rw [show (8 : Int32) = nI 8 from rfl, pk_mul, nI_add]
        simp only [gK, gI, gL, gR_, g_stI, g_stL, forall_eq, true_and, ad_s, okA_s, okO_s, okN_s, i10, i00, if_true, if_false, reduceCtorEq, Kf_1, Kf_400, k60, k61, e8, nI_1]
        by_cases c3 : w.2 = 0
        · rw [if_pos (show w60 w = -1 from if_pos c3)]
          exact take (Or.inl c3)
        · rw [if_neg (show ¬ w60 w = -1 from fun z => nI_m1 (show w.1 < 2 ^ 31 by omega) ((if_neg c3).symm.trans z))]
          by_cases c4 : sNF I0 L D l i j < w.2
          · rw [if_pos ((pr_lt (by omega) (by omega)).mpr c4)]
            exact take (Or.inr c4)
          · rw [if_neg (fun z => c4 ((pr_lt (by omega) (by omega)).mp z))]
            rw [if_neg (fun z => z.elim c3 c4)] at hW hw1
            exact ih (j + 1) (uni g i j) w B' J' hB' hJ' (by omega) (by omega) hM' b60 b61 hw1 hG hW hK
theorem m_fg_L33 (hl : l < D.nL) {G : Nat → Nat} {W : Nat × Nat} {K Q : Hp → Prop} : ∀ (N i : Nat) (g : Nat → Nat) (w : Nat × Nat) (B I : Nat → Nat → Int32), Bse I0 B → St n L D B I → i ≤ 8 → 9 ≤ N + i → GI B 460 g → B 400 60 = w60 w → B 400 61 = pr w.2 → WB w (8 * i) → grO (sjF I0 L D l) i (8 - i) g = G → wkO (sNF I0 L D l) i (8 - i) w = W → (∀ B' I', Bse I0 B' → St n L D B' I' → GI B' 460 G → B' 400 60 = w60 W → B' 400 61 = pr W.2 → K (fm I' L D)) → wp_X12_findsGroups_L33 400 (nI l) K Q N (nI i) (fm I L D) := by
  intro N
  induction N with
  | zero => intro i g w B I _ _ h1 h2; omega
  | succ N ih =>
    intro i g w B I hB h h1 h2 hM h60 h61 hw hG hW hK
    rw [wp_X12_findsGroups_L33]
    by_cases e : i = 8
    · subst e
      rw [if_pos (show (8 : Int32) ≤ nI 8 from by decide)]
      have hG : g = G := hG
      have hW : w = W := hW
      subst hG
      subst hW
      exact hK B I hB h hM h60 h61
    · rw [if_neg (show ¬ (8 : Int32) ≤ nI i from nI_ge (b := 8) (by omega) (by decide))]
      rw [show 8 - i = (8 - (i + 1)) + 1 by omega] at hG hW
      have hG : grO (sjF I0 L D l) (i + 1) (8 - (i + 1)) (grI (sjF I0 L D l) i (i + 1) (7 - i) g) = G := hG
      have hW : wkO (sNF I0 L D l) (i + 1) (8 - (i + 1)) (wkI (sNF I0 L D l) i (i + 1) (7 - i) w) = W := hW
      try simp only [forall_eq, nI_1]
      refine m_fg_L43 hl (show i < 8 by omega) fuel (i + 1) g w B I hB h (by omega) (by have := fuel_ge; omega) hM h60 h61 ⟨hw.1, fun z => by have := hw.2.1 z; omega, hw.2.2⟩ (by rw [show 8 - (i + 1) = 7 - i by omega]) (by rw [show 8 - (i + 1) = 7 - i by omega]) (fun B' J' hB' hJ' hM' a1 a2 a3 => ?_)
      try simp only [forall_eq, nI_1]
      exact ih (i + 1) _ _ B' J' hB' hJ' (by omega) (by omega) hM' a1 a2 (by rw [show 8 * (i + 1) = 8 * i + 8 by omega]; exact a3) hG hW hK
theorem m_fg_L12 {x1 : Int32} {K Q : Hp → Prop} : ∀ (N k : Nat) (B I : Nat → Nat → Int32), Bse I0 B → St n L D B I → k ≤ 8 → 9 ≤ N + k → (∀ t, t < k → B 460 t = nI t) → B 400 60 = -1 → B 400 61 = -1 → (∀ B' I', Bse I0 B' → St n L D B' I' → GI B' 460 (fun k => k) → B' 400 60 = -1 → B' 400 61 = -1 → K (fm I' L D)) → wp_X12_findsGroups_L12 400 x1 K Q N (nI k) (fm I L D) := by
  intro N
  induction N with
  | zero => intro k B I _ _ h1 h2; omega
  | succ N ih =>
    intro k B I hB h h1 h2 hM h60 h61 hK
    rw [wp_X12_findsGroups_L12]
    by_cases e : k = 8
    · subst e
      rw [if_pos (show (8 : Int32) ≤ nI 8 from by decide)]
      exact hK B I hB h (fun t ht => ⟨hM t ht, ht⟩) h60 h61
    · rw [if_neg (show ¬ (8 : Int32) ≤ nI k from nI_ge (b := 8) (by omega) (by decide))]
      have w : Wk 460 k := Or.inr (Or.inr (Or.inr (Or.inl rfl)))
      simp only [gK, gI, gL, gR_, g_stI, g_stL, forall_eq, true_and, ad_s, okA_s, okO_s, okN_s, i10, i00, if_true, if_false, reduceCtorEq, Kf_1, Kf_400, Rf_400_59, Kf_460, vp_in_nI (show k < 8 by omega) (show 8 < 2 ^ 31 by decide), nI_clamp (show k < 2 ^ 31 by omega), nI_1]
      refine ih (k + 1) _ _ (hB.up (v := nI k) w) (St_w h w _) (by omega) (by omega) (fun t ht => ?_) ((up2_o (by omega)).trans h60) ((up2_o (by omega)).trans h61) hK
      by_cases et : t = k
      · subst et; rw [up2_s]
      · rw [up2_o (by omega)]; exact hM t (by omega)
theorem m_groups {B I : Nat → Nat → Int32} (hB : Bse I0 B) (h : St n L D B I) (hl : l < D.nL) {Q : Hp → Prop} (hQ : ∀ B' I', Bse I0 B' → St n L D B' I' → GI B' 460 (gz I0 L D l) → B' 400 60 = w60 (wz I0 L D l) → B' 400 61 = pr (wz I0 L D l).2 → Q (fm I' L D)) : wp_X12_findsGroups 400 (nI l) (fm I L D) Q := by
  have t0 : Wk 400 60 := Or.inr (Or.inr (Or.inr (Or.inr ⟨rfl, Or.inl rfl⟩)))
  have t1 : Wk 400 61 := Or.inr (Or.inr (Or.inr (Or.inr ⟨rfl, Or.inr rfl⟩)))
  unfold wp_X12_findsGroups
  simp only [gK, gI, gL, gR_, g_stI, g_stL, forall_eq, true_and, ad_s, okA_s, okO_s, okN_s, i10, i00, if_true, if_false, reduceCtorEq, Kf_1, Kf_400]
  refine m_fg_L12 (I0 := I0) fuel 0 _ _ ((hB.up (v := -1) t0).up (v := -1) t1) (St_w (St_w h t0 _) t1 _) (by omega) (by have := fuel_ge; omega) (fun t ht => by omega) ((up2_o (by omega)).trans up2_s) up2_s (fun B' J' hB' hJ' hM' a1 a2 => ?_)
  exact m_fg_L33 hl fuel 0 _ (0, 0) B' J' hB' hJ' (by omega) (by have := fuel_ge; omega) hM' a1 (a2.trans pr_0.symm) ⟨by decide, fun z => absurd rfl z, by decide⟩ rfl rfl hQ
def gcF (G : Nat → Nat) (L : Nat → Nat → Int64) (k : Nat) (x : Int32) : Int32 := if L 459 k = 0 then x else if G k = k then x + 1 else x
theorem x_gcount {B I : Nat → Nat → Int32} (h : St n L D B I) {G : Nat → Nat} (hM : GI B 19 G) {Q : Int32 → Hp → Prop} (hQ : Q (inr (gcF G L) 0 8 0) (fm I L D)) : wp_X11_groupCount 1 (fm I L D) Q := by
  unfold wp_X11_groupCount
  have key : ∀ (N k : Nat) (x : Int32), k ≤ 8 → 9 ≤ N + k → inr (gcF G L) k (8 - k) x = inr (gcF G L) 0 8 0 → wp_X11_groupCount_L4 1 (fun y15 h14 => Q y15 h14) Q N x (nI k) (fm I L D) := by
    intro N
    induction N with
    | zero => intro k x h1 h2; omega
    | succ N ih =>
      intro k x h1 h2 he
      rw [wp_X11_groupCount_L4]
      by_cases e : k = 8
      · subst e
        rw [if_pos (show (8 : Int32) ≤ nI 8 from by decide)]
        have he : x = _ := he
        rw [he]; exact hQ
      · rw [if_neg (show ¬ (8 : Int32) ≤ nI k from nI_ge (b := 8) (by omega) (by decide))]
        have hk : k < 8 := by omega
        rw [show 8 - k = (8 - (k + 1)) + 1 by omega] at he
        have he : inr (gcF G L) (k + 1) (8 - (k + 1)) (gcF G L k x) = inr (gcF G L) 0 8 0 := he
        have e7 : L 7 k = L 459 k := h.1.2.2.2.2.2.2.2.2.1 k hk
        have ei : I 19 k = nI (G k) := (h.wk (Or.inr (Or.inl rfl))).trans (hM k hk).1
        have gk := (hM k hk).2
        have eq : (nI (G k) = nI k) = (G k = k) := propext (nI_eq (by omega) (by omega))
        simp only [gK, gI, gL, gR_, g_stI, g_stL, forall_eq, true_and, ad_s, okA_s, okO_s, okN_s, i10, i00, if_true, if_false, reduceCtorEq, Kf_1, Kf_400, Rf_1_11, Kf_7, Rf_1_15, Kf_13, Rf_13_5, Kf_19, vp_in_nI hk (show 8 < 2 ^ 31 by decide), nI_clamp (show k < 2 ^ 31 by omega), nI_1, e7, ei, eq, lgc0]
        have go := ih (k + 1) (gcF G L k x) (by omega) (by omega) he
        unfold gcF at go
        by_cases c1 : L 459 k = 0
        · rw [if_pos c1]; rw [if_pos c1] at go; exact go
        · rw [if_neg c1]; rw [if_neg c1] at go
          by_cases c2 : G k = k
          · rw [if_pos c2]; rw [if_pos c2] at go; exact go
          · rw [if_neg c2]; rw [if_neg c2] at go; exact go
  exact key fuel 0 0 (by omega) (by have := fuel_ge; omega) rfl
theorem m_gcount {B I : Nat → Nat → Int32} (h : St n L D B I) {G : Nat → Nat} (hM : GI B 460 G) {K : Int32 → Hp → Prop} {Q : Int32 → Hp → Prop} (hK : K (inr (gcF G L) 0 8 0) (fm I L D)) : wp_X12_joined_L101 400 K Q fuel 0 0 (fm I L D) := by
  have key : ∀ (N k : Nat) (x : Int32), k ≤ 8 → 9 ≤ N + k → inr (gcF G L) k (8 - k) x = inr (gcF G L) 0 8 0 → wp_X12_joined_L101 400 K Q N x (nI k) (fm I L D) := by
    intro N
    induction N with
    | zero => intro k x h1 h2; omega
    | succ N ih =>
      intro k x h1 h2 he
      rw [wp_X12_joined_L101]
      by_cases e : k = 8
      · subst e
        rw [if_pos (show (8 : Int32) ≤ nI 8 from by decide)]
        have he : x = _ := he
        rw [he]; exact hK
      · rw [if_neg (show ¬ (8 : Int32) ≤ nI k from nI_ge (b := 8) (by omega) (by decide))]
        have hk : k < 8 := by omega
        rw [show 8 - k = (8 - (k + 1)) + 1 by omega] at he
        have he : inr (gcF G L) (k + 1) (8 - (k + 1)) (gcF G L k x) = inr (gcF G L) 0 8 0 := he
        have ei : I 460 k = nI (G k) := (h.wk (Or.inr (Or.inr (Or.inr (Or.inl rfl))))).trans (hM k hk).1
        have gk := (hM k hk).2
        have eq : (nI (G k) = nI k) = (G k = k) := propext (nI_eq (by omega) (by omega))
        simp only [gK, gI, gL, gR_, g_stI, g_stL, forall_eq, true_and, ad_s, okA_s, okO_s, okN_s, i10, i00, if_true, if_false, reduceCtorEq, Kf_1, Kf_400, Rf_400_58, Kf_459, Rf_400_59, Kf_460, vp_in_nI hk (show 8 < 2 ^ 31 by decide), nI_clamp (show k < 2 ^ 31 by omega), nI_1, ei, eq, lgc0]
        have go := ih (k + 1) (gcF G L k x) (by omega) (by omega) he
        unfold gcF at go
        by_cases c1 : L 459 k = 0
        · rw [if_pos c1]; rw [if_pos c1] at go; exact go
        · rw [if_neg c1]; rw [if_neg c1] at go
          by_cases c2 : G k = k
          · rw [if_pos c2]; rw [if_pos c2] at go; exact go
          · rw [if_neg c2]; rw [if_neg c2] at go; exact go
  exact key fuel 0 0 (by omega) (by have := fuel_ge; omega) rfl
/-- what the reference answers -/
def jaF (I0 : Nat → Nat → Int32) (L : Nat → Nat → Int64) (D : DD) (l : Nat) (x2 : Int32) : Int32 := if x2 = 1 then w60 (wz I0 L D l) else if x2 = 2 then pr (wz I0 L D l).2 else if x2 = 0 then inr (gcF (gz I0 L D l) L) 0 8 0 else if L 459 (x2 - 10).toNatClampNeg = 0 then -1 else nI (gz I0 L D l (x2 - 10).toNatClampNeg)
theorem m_J37 {B I : Nat → Nat → Int32} (hB : Bse I0 B) (h : St n L D B I) (hl : l < D.nL) {x2 : Int32} (hx : x2 = 0 ∨ x2 = 1 ∨ x2 = 2 ∨ ∃ k, k < 8 ∧ x2 = nI (10 + k)) {Q : Int32 → Hp → Prop} (hQ : ∀ B' I', St n L D B' I' → Q (jaF I0 L D l x2) (fm I' L D)) : wp_X12_joined_J37 400 (nI l) x2 Q (fm I L D) := by
  unfold wp_X12_joined_J37
  simp only [gK, gI, gL, gR_, g_stI, g_stL, forall_eq, true_and, ad_s, okA_s, okO_s, okN_s, i10, i00, if_true, if_false, reduceCtorEq, Kf_1, Kf_400]
  refine m_groups hB h hl (fun B' J hB' hJ hM b60 b61 => ?_)
  have hQ := hQ B' J hJ
  have e60 : J 400 60 = w60 (wz I0 L D l) := (hJ.wk (Or.inr (Or.inr (Or.inr (Or.inr ⟨rfl, Or.inl rfl⟩))))).trans b60
  have e61 : J 400 61 = pr (wz I0 L D l).2 := (hJ.wk (Or.inr (Or.inr (Or.inr (Or.inr ⟨rfl, Or.inr rfl⟩))))).trans b61
  unfold jaF at hQ
  simp only [gK, gI, gL, gR_, g_stI, g_stL, forall_eq, true_and, ad_s, okA_s, okO_s, okN_s, i10, i00, if_true, if_false, reduceCtorEq, Kf_1, Kf_400, e60, e61]
  by_cases c1 : x2 = 1
  · rw [if_pos c1]; rw [if_pos c1] at hQ; exact hQ
  · rw [if_neg c1]; rw [if_neg c1] at hQ
    by_cases c2 : x2 = 2
    · rw [if_pos c2]; rw [if_pos c2] at hQ; exact hQ
    · rw [if_neg c2]; rw [if_neg c2] at hQ
      rcases hx with e | e | e | ⟨k, hk, rfl⟩
      · subst e
        rw [if_pos (by decide)]
        rw [if_pos rfl] at hQ
        exact m_gcount hJ hM hQ
      · exact absurd e c1
      · exact absurd e c2
      · have ek : nI (10 + k) - (10 : Int32) = nI k := by rw [show (10 : Int32) = nI 10 from rfl, nI_sb (by omega)]; congr 1; omega
        rw [if_neg (show ¬ nI (10 + k) < (10 : Int32) from nI_nlt (b := 10) (by omega) (by omega))]
        rw [if_neg (nI_ne0 (by omega) (by omega)), ek, nI_clamp (show k < 2 ^ 31 by omega)] at hQ
        have ei : J 460 k = nI (gz I0 L D l k) := (hJ.wk (Or.inr (Or.inr (Or.inr (Or.inl rfl))))).trans (hM k hk).1
        simp only [gK, gI, gL, gR_, g_stI, g_stL, forall_eq, true_and, ad_s, okA_s, okO_s, okN_s, i10, i00, if_true, if_false, reduceCtorEq, Kf_1, Kf_400, ek, Rf_400_58, Kf_459, Rf_400_59, Kf_460, vp_in_nI hk (show 8 < 2 ^ 31 by decide), nI_clamp (show k < 2 ^ 31 by omega), lgc0, ei]
        by_cases c3 : L 459 k = 0
        · rw [if_pos c3]; rw [if_pos c3] at hQ; exact hQ
        · rw [if_neg c3]; rw [if_neg c3] at hQ; exact hQ
end JG
theorem pair_joined {n : Nat} {g : Hp} (hI : Inv n g) (x1 x2 : Int32) : wp_X11_joined 1 x1 x2 g (fun r h1 => wp_X12_joined 400 x1 x2 h1 (fun r' h2 => r' = r ∧ Inv (n + 1) h2)) := by
  obtain ⟨I, L, D, rfl, h⟩ := hI
  have nL6 := h.nL6
  have hT0 := St_told (St.refl h)
  unfold wp_X11_joined
  simp only [gK, gI, gL, gR_, g_stI, g_stL, forall_eq, true_and, ad_s, okA_s, okO_s, okN_s, i10, i00, if_true, if_false, reduceCtorEq, Kf_1, Kf_400, x_lookerAt nL6]
  by_cases w1 : inN x1 D.nL
  · obtain ⟨l, hl, rfl⟩ := inN_of (by omega) w1
    simp only [gK, gI, gL, gR_, g_stI, g_stL, forall_eq, true_and, ad_s, okA_s, okO_s, okN_s, i10, i00, if_true, if_false, reduceCtorEq, Kf_1, Kf_400, if_pos w1, nI_clamp (show l < 2 ^ 31 by omega)]
    -- what the reference does, out of any heap that the other may leave
    have ref : ∀ {B J : Nat → Nat → Int32}, Bse I B → St n L D B J → (x2 = 0 ∨ x2 = 1 ∨ x2 = 2 ∨ ∃ k, k < 8 ∧ x2 = nI (10 + k)) → wp_X12_joined 400 (nI l) x2 (fm J L D) (fun r' h2 => r' = jaF I L D l x2 ∧ Inv (n + 1) h2) := by
      intro B J hB hJ hx
      have hT := St_told hJ
      unfold wp_X12_joined
      simp only [gK, gI, gL, gR_, g_stI, g_stL, forall_eq, true_and, ad_s, okA_s, okO_s, okN_s, i10, i00, if_true, if_false, reduceCtorEq, Kf_1, Kf_400, m_isLooker hT.1.mL, if_pos w1, m_isIn]
      have fin := m_J37 hB hT hl hx (Q := fun r' h2 => r' = jaF I L D l x2 ∧ Inv (n + 1) h2) (fun B' J' hJ' => ⟨rfl, hJ'.inv⟩)
      by_cases z : (0 : Int32) ≤ x2 ∧ x2 ≤ 2
      · simp only [if_pos z, gK, gI, gL, gR_, g_stI, g_stL, forall_eq, true_and, ad_s, okA_s, okO_s, okN_s, i10, i00, if_true, if_false, reduceCtorEq, Kf_1, Kf_400]; exact fin
      · simp only [if_neg z, gK, gI, gL, gR_, g_stI, g_stL, forall_eq, true_and, ad_s, okA_s, okO_s, okN_s, i10, i00, if_true, if_false, reduceCtorEq, Kf_1, Kf_400]
        rcases hx with e | e | e | ⟨k, hk, e⟩
        · subst e; exact absurd ⟨by decide, by decide⟩ z
        · subst e; exact absurd ⟨by decide, by decide⟩ z
        · subst e; exact absurd ⟨by decide, by decide⟩ z
        · have z2 : (10 : Int32) ≤ x2 ∧ x2 ≤ 17 := by
            rw [e]
            exact ⟨nI_le (a := 10) (by omega) (by omega), nI_le (b := 17) (by omega) (by decide)⟩
          simp only [if_pos z2, gK, gI, gL, gR_, g_stI, g_stL, forall_eq, true_and, ad_s, okA_s, okO_s, okN_s, i10, i00, if_true, if_false, reduceCtorEq, Kf_1, Kf_400]; exact fin
    have none' : ¬ ((0 : Int32) ≤ x2 ∧ x2 ≤ 2) → ¬ ((10 : Int32) ≤ x2 ∧ x2 ≤ 17) → wp_X12_joined 400 (nI l) x2 (fm I L D) (fun r' h2 => r' = -1 ∧ Inv (n + 1) h2) := by
      intro z1 z2
      unfold wp_X12_joined
      simp only [gK, gI, gL, gR_, g_stI, g_stL, forall_eq, true_and, ad_s, okA_s, okO_s, okN_s, i10, i00, if_true, if_false, reduceCtorEq, Kf_1, Kf_400, m_isLooker hT0.1.mL, if_pos w1, m_isIn, if_neg z1, if_neg z2]
      exact hT0.inv
    have weak : (x2 = 1 ∨ x2 = 2) → wp_X11_joined_J22 1 x2 (some (240 + 2 * l)) (fun r h1 => wp_X12_joined 400 (nI l) x2 h1 (fun r' h2 => r' = r ∧ Inv (n + 1) h2)) (fm I L D) := by
      intro hx
      unfold wp_X11_joined_J22
      simp only [gK, gI, gL, gR_, g_stI, g_stL, forall_eq, true_and, ad_s, okA_s, okO_s, okN_s, i10, i00, if_true, if_false, reduceCtorEq, Kf_1, Kf_400]
      refine x_weakest Bse.refl (St.refl h) hl (fun J hJ hb => ?_)
      have R := ref Bse.refl hJ (hx.elim (fun e => Or.inr (Or.inl e)) (fun e => Or.inr (Or.inr (Or.inl e))))
      obtain ⟨b1, b2, b3⟩ := hb
      by_cases c : (wz I L D l).2 = 0
      · rw [if_pos (show wx (wz I L D l) = -1 from if_pos c)]
        have : jaF I L D l x2 = -1 := by
          unfold jaF
          rcases hx with e | e
          · rw [if_pos e]; exact if_pos c
          · rw [if_neg (by rw [e]; decide), if_pos e, c]; exact pr_0
        rw [this] at R; exact R
      · have ew : wx (wz I L D l) = nI (64 * ((wz I L D l).2 - 1) + (wz I L D l).1) := if_neg c
        rw [ew, if_neg (nI_m1 (by omega))]
        rcases hx with e | e
        · rw [if_pos e]
          have e1 : nI (64 * ((wz I L D l).2 - 1) + (wz I L D l).1) - nI (64 * ((wz I L D l).2 - 1) + (wz I L D l).1) / (64 : Int32) * (64 : Int32) = jaF I L D l x2 := by
            have := pk_rem (a := 64 * ((wz I L D l).2 - 1) + (wz I L D l).1) (d := 64) (by omega) (by decide) (by decide)
            refine this.trans ?_
            unfold jaF
            rw [if_pos e]
            unfold w60
            rw [if_neg c]
            congr 1
            omega
          rw [e1]; exact R
        · rw [if_neg (show ¬ x2 = 1 by rw [e]; decide)]
          have e1 : nI (64 * ((wz I L D l).2 - 1) + (wz I L D l).1) / (64 : Int32) = jaF I L D l x2 := by
            have := pk_div (a := 64 * ((wz I L D l).2 - 1) + (wz I L D l).1) (d := 64) (by omega) (by decide) (by decide)
            refine this.trans ?_
            unfold jaF
            rw [if_neg (show ¬ x2 = 1 by rw [e]; decide), if_pos e]
            obtain ⟨v, hv⟩ : ∃ v, (wz I L D l).2 = v + 1 := ⟨(wz I L D l).2 - 1, by omega⟩
            rw [hv, pr_s]
            congr 1
            omega
          rw [e1]; exact R
    by_cases c1 : x2 = 1
    · rw [if_pos c1]; exact weak (Or.inl c1)
    · rw [if_neg c1]
      by_cases c2 : x2 = 2
      · rw [if_pos c2]; exact weak (Or.inr c2)
      · rw [if_neg c2]
        by_cases c0 : x2 = 0
        · rw [if_pos c0]
          refine x_groups Bse.refl (St.refl h) hl (fun B J hB hJ hM => ?_)
          simp only [gK, gI, gL, gR_, g_stI, g_stL, forall_eq, true_and, ad_s, okA_s, okO_s, okN_s, i10, i00, if_true, if_false, reduceCtorEq, Kf_1, Kf_400]
          refine x_gcount hJ hM ?_
          have R := ref hB hJ (Or.inl c0)
          have : jaF I L D l x2 = inr (gcF (gz I L D l) L) 0 8 0 := by
            unfold jaF
            rw [if_neg c1, if_neg c2, if_pos c0]
          rw [this] at R; exact R
        · rw [if_neg c0]
          have no1 : ¬ ((0 : Int32) ≤ x2 ∧ x2 ≤ 2) := by
            intro z
            obtain ⟨k, hk, e⟩ : ∃ k : Nat, k ≤ 2 ∧ x2 = nI k := nI_of2 (M := 2) (n := 2) (by decide) (Int32.not_lt.mpr z.1) z.2
            have : k = 0 ∨ k = 1 ∨ k = 2 := by omega
            rcases this with q | q | q
            · subst q; exact c0 e
            · subst q; exact c1 e
            · subst q; exact c2 e
          have no2 : (¬ ∃ k, k < 8 ∧ x2 - 10 = nI k) → ¬ ((10 : Int32) ≤ x2 ∧ x2 ≤ 17) := by
            intro z q
            obtain ⟨k, hk, e⟩ : ∃ k : Nat, k ≤ 17 ∧ x2 = nI k := nI_of2 (M := 17) (n := 17) (by decide) (Int32.not_lt.mpr (Int32.le_trans (by decide) q.1)) q.2
            have h10 : 10 ≤ k := by
              have := q.1
              rw [e] at this
              exact (nI_leI (a := 10) (by decide) (by omega)).mp this
            exact z ⟨k - 10, by omega, by rw [e, show (10 : Int32) = nI 10 from rfl, nI_sb h10]⟩
          rcases pk_ix (x2 - 10) (n := 8) (by decide) with q | q | ⟨k, hk, e⟩
          · rw [if_pos q]
            exact none' no1 (no2 (fun ⟨k, hk, e⟩ => absurd (by rw [e] at q; exact q) (nI_pos (show k < 2 ^ 31 by omega))))
          · have q2 : (8 : Int32) ≤ x2 - 10 := q
            rw [if_neg (fun z => absurd (Int32.le_trans q (Int32.le_of_lt z)) (by decide)), if_pos q2]
            exact none' no1 (no2 (fun ⟨k, hk, e⟩ => by rw [e] at q; exact nI_ge hk (by decide) q))
          · have ex : x2 = nI (10 + k) := by
              rw [Nat.add_comm, ← nI_add, ← e]
              show x2 = x2 - 10 + 10
              rw [Int32.sub_add_cancel]
            have R := fun {B J : Nat → Nat → Int32} (hB : Bse I B) (hJ : St n L D B J) => ref hB hJ (Or.inr (Or.inr (Or.inr ⟨k, hk, ex⟩)))
            have ja : jaF I L D l x2 = if L 459 k = 0 then -1 else nI (gz I L D l k) := by
              unfold jaF
              rw [if_neg c1, if_neg c2, if_neg c0, e, nI_clamp (show k < 2 ^ 31 by omega)]
            have e7 : L 7 k = L 459 k := h.2.2.2.2.2.2.2.2.1 k hk
            rw [e, if_neg (nI_pos (show k < 2 ^ 31 by omega)), if_neg (show ¬ (8 : Int32) ≤ nI k from nI_ge (b := 8) hk (by decide))]
            simp only [gK, gI, gL, gR_, g_stI, g_stL, forall_eq, true_and, ad_s, okA_s, okO_s, okN_s, i10, i00, if_true, if_false, reduceCtorEq, Kf_1, Kf_400, Rf_1_11, Kf_7, vp_in_nI hk (show 8 < 2 ^ 31 by decide), nI_clamp (show k < 2 ^ 31 by omega), lgc0, e7]
            by_cases c3 : L 459 k = 0
            · rw [if_pos c3]
              rw [ja, if_pos c3] at R
              exact R Bse.refl (St.refl h)
            · rw [if_neg c3]
              rw [ja, if_neg c3] at R
              refine x_groups Bse.refl (St.refl h) hl (fun B J hB hJ hM => ?_)
              have ei : J 19 k = nI (gz I L D l k) := (hJ.wk (Or.inr (Or.inl rfl))).trans (hM k hk).1
              simp only [gK, gI, gL, gR_, g_stI, g_stL, forall_eq, true_and, ad_s, okA_s, okO_s, okN_s, i10, i00, if_true, if_false, reduceCtorEq, Kf_1, Kf_400, Rf_1_15, Kf_13, Rf_13_5, Kf_19, vp_in_nI hk (show 8 < 2 ^ 31 by decide), nI_clamp (show k < 2 ^ 31 by omega), ei]
              exact R hB hJ
  · simp only [gK, gI, gL, gR_, g_stI, g_stL, forall_eq, true_and, ad_s, okA_s, okO_s, okN_s, i10, i00, if_true, if_false, reduceCtorEq, Kf_1, Kf_400, if_neg w1]
    unfold wp_X12_joined
    simp only [gK, gI, gL, gR_, g_stI, g_stL, forall_eq, true_and, ad_s, okA_s, okO_s, okN_s, i10, i00, if_true, if_false, reduceCtorEq, Kf_1, Kf_400, m_isLooker hT0.1.mL, if_neg w1]
    exact hT0.inv
