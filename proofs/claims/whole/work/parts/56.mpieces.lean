/-! PIECES OF THE REFERENCE, AND ITS KEPT LONGEST (my own) -/
def md (f : Nat → Nat → Bool) : Nat → Nat → Nat → Nat
  | 0, 0, _ => 1000
  | 0, _ + 1, _ => 0
  | i + 1, 0, s => md f i 0 s + (if f s i then 1 else 0)
  | i + 1, c + 1, s => (if i = 0 then md f i (c + 1) s else max (md f i (c + 1) s) (max (md f i c ((s + 1) % 32)) (md f i c ((s + 31) % 32)))) + (if f s i then 1 else 0)
theorem md_le (f : Nat → Nat → Bool) : ∀ i c s, md f i c s ≤ 1000 + i := by
  intro i
  induction i with
  | zero => intro c s; cases c <;> (unfold md; omega)
  | succ i ih =>
    intro c s
    cases c with
    | zero => have := ih 0 s; unfold md; split <;> omega
    | succ c =>
      have h1 := ih (c + 1) s
      have h2 := ih c ((s + 1) % 32)
      have h3 := ih c ((s + 31) % 32)
      unfold md
      repeat' split
      all_goals omega
def mm (f : Nat → Nat → Bool) (i : Nat) : Nat → Nat → Nat
  | 0, s => md f i 0 s
  | c + 1, s => max (mm f i c s) (md f i (c + 1) s)
def bo (f : Nat → Nat → Bool) (s i : Nat) : Nat := if f s i then 1 else 0
theorem pcs_e0 (f : Nat → Nat → Bool) (i s : Nat) : pcs f (i + 1) 0 s = pcs f i 0 s + bo f s i := rfl
theorem pcs_e1 (f : Nat → Nat → Bool) (i c s : Nat) : pcs f (i + 1) (c + 1) s = max (pcs f i (c + 1) s) (max (pcs f i c ((s + 31) % 32)) (pcs f i c ((s + 1) % 32))) + bo f s i := rfl
theorem md_e0 (f : Nat → Nat → Bool) (i s : Nat) : md f (i + 1) 0 s = md f i 0 s + bo f s i := rfl
theorem md_e1 (f : Nat → Nat → Bool) {i : Nat} (hi : i ≠ 0) (c s : Nat) : md f (i + 1) (c + 1) s = max (md f i (c + 1) s) (max (md f i c ((s + 1) % 32)) (md f i c ((s + 31) % 32))) + bo f s i := by
  show (if i = 0 then _ else _) + bo f s i = _
  rw [if_neg hi]
theorem md_e2 (f : Nat → Nat → Bool) (c s : Nat) : md f (0 + 1) (c + 1) s = bo f s 0 := by
  show (if 0 = 0 then md f 0 (c + 1) s else _) + bo f s 0 = _
  rw [if_pos rfl]
  exact Nat.zero_add _
theorem mm_0 (f : Nat → Nat → Bool) (i s : Nat) : mm f i 0 s = md f i 0 s := rfl
theorem mm_c (f : Nat → Nat → Bool) (i c s : Nat) : mm f i (c + 1) s = max (mm f i c s) (md f i (c + 1) s) := rfl
theorem nat_a {X pX Y1 Y2 y1 y2 d0 d1 d2 b pA pB pC : Nat} (h1 : X = 1000 + pX) (h2 : Y1 = 1000 + y1) (h3 : Y2 = 1000 + y2) (h4 : max X d0 = 1000 + pA) (h5 : max Y1 d1 = 1000 + pB) (h6 : max Y2 d2 = 1000 + pC) : max (1000 + (max pX (max y2 y1) + b)) (max d0 (max d1 d2) + b) = 1000 + (max pA (max pC pB) + b) := by omega
theorem nat_b {X pX d0 d1 d2 b pA pB pC : Nat} (h1 : X = 1000 + pX) (h4 : max X d0 = 1000 + pA) (h5 : d1 = 1000 + pB) (h6 : d2 = 1000 + pC) : max (1000 + (pX + b)) (max d0 (max d1 d2) + b) = 1000 + (max pA (max pC pB) + b) := by omega
theorem pcs_z (f : Nat → Nat → Bool) (c s : Nat) : pcs f 0 c s = 0 := by cases c <;> rfl
theorem pcs_1 (f : Nat → Nat → Bool) (c s : Nat) : pcs f (0 + 1) c s = bo f s 0 := by
  cases c with
  | zero => rw [pcs_e0, pcs_z, Nat.zero_add]
  | succ c => rw [pcs_e1, pcs_z, pcs_z, pcs_z, Nat.max_self, Nat.max_self, Nat.zero_add]
theorem mm_1 (f : Nat → Nat → Bool) (s : Nat) : ∀ c, mm f (0 + 1) c s = 1000 + bo f s 0 := by
  intro c
  induction c with
  | zero => rw [mm_0, md_e0]; rfl
  | succ c ih =>
    rw [mm_c, ih, md_e2]
    exact Nat.max_eq_left (by omega)
theorem mm_pcs (f : Nat → Nat → Bool) : ∀ i, 0 < i → ∀ c s, mm f i c s = 1000 + pcs f i c s := by
  intro i
  induction i with
  | zero => intro h; omega
  | succ i ih =>
    intro _ c
    by_cases hi : i = 0
    · subst hi
      intro s
      rw [mm_1, pcs_1]
    · have ih := ih (by omega)
      induction c with
      | zero => intro s; rw [mm_0, md_e0, pcs_e0, ← mm_0, ih 0 s]; omega
      | succ c ihc =>
        intro s
        rw [mm_c, ihc s, md_e1 f hi, pcs_e1]
        cases c with
        | zero =>
          rw [pcs_e0]
          refine nat_b (ih 0 s) (ih 1 s) ?_ ?_
          · rw [← mm_0]; exact ih 0 _
          · rw [← mm_0]; exact ih 0 _
        | succ c =>
          rw [pcs_e1]
          exact nat_a (ih (c + 1) s) (ih c _) (ih c _) (ih (c + 1 + 1) s) (ih (c + 1) _) (ih (c + 1) _)
def mdk (f : Nat → Nat → Bool) (i k : Nat) : Nat := md f i (k / 32) (k % 32)
theorem md_max (f : Nat → Nat → Bool) : maxTo (fun k => mdk f 32 k - 1000) 128 = maxTo (fun s => pcs f 32 3 s) 32 := by
  have mo : ∀ s, mm f 32 3 s = max (max (max (md f 32 0 s) (md f 32 1 s)) (md f 32 2 s)) (md f 32 3 s) := fun s => rfl
  apply Nat.le_antisymm
  · refine maxTo_le2 (fun k hk => ?_)
    have h1 := le_maxTo (f := fun s => pcs f 32 3 s) (n := 32) (k := k % 32) (Nat.mod_lt _ (by decide))
    have h2 := mm_pcs f 32 (by decide) 3 (k % 32)
    rw [mo] at h2
    have h3 : k / 32 = 0 ∨ k / 32 = 1 ∨ k / 32 = 2 ∨ k / 32 = 3 := by omega
    show md f 32 (k / 32) (k % 32) - 1000 ≤ _
    rcases h3 with h3 | h3 | h3 | h3 <;> (rw [h3]; omega)
  · refine maxTo_le2 (fun s hs => ?_)
    have h2 := mm_pcs f 32 (by decide) 3 s
    rw [mo] at h2
    have hk : ∀ c, c < 4 → md f 32 c s - 1000 ≤ maxTo (fun k => mdk f 32 k - 1000) 128 := fun c hc => by
      have := le_maxTo (f := fun k => mdk f 32 k - 1000) (n := 128) (k := 32 * c + s) (by omega)
      dsimp only [mdk] at this
      rw [show (32 * c + s) / 32 = c by omega, show (32 * c + s) % 32 = s by omega] at this
      exact this
    have k0 := hk 0 (by omega)
    have k1 := hk 1 (by omega)
    have k2 := hk 2 (by omega)
    have k3 := hk 3 (by omega)
    show pcs f 32 3 s ≤ _
    omega
/-- numbers that begin 1000 below -/
def V1k (x : Nat) : Int32 := nI x - 1000
theorem V1k_toInt {x : Nat} (hx : x < 2 ^ 20) : (V1k x).toInt = (x : Int) - 1000 := by
  unfold V1k
  rw [show (1000 : Int32) = nI 1000 from rfl, pk_sub_toInt (by omega) (by omega)]; rfl
theorem V1k_gt {x y : Nat} (hx : x < 2 ^ 20) (hy : y < 2 ^ 20) {o : Nat} {h : Hp} {Q : Int32 → Hp → Prop} : wp_X12_greater o (V1k x) (V1k y) h Q ↔ Q (V1k (max x y)) h := by
  unfold wp_X12_greater
  by_cases e : x ≤ y
  · rw [if_pos (Int32.le_iff_toInt_le.mpr (by rw [V1k_toInt hx, V1k_toInt hy]; omega)), Nat.max_eq_right e]
  · rw [if_neg (fun z => by have := Int32.le_iff_toInt_le.mp z; rw [V1k_toInt hx, V1k_toInt hy] at this; omega), Nat.max_eq_left (by omega)]
theorem V1k_gt0 {x y : Nat} (hx : x < 2 ^ 20) (hy : y < 2 ^ 20) {o : Nat} {h : Hp} {Q : Int32 → Hp → Prop} : wp_X12_greater o (nI x) (V1k y) h Q ↔ Q (nI (max x (y - 1000))) h := by
  unfold wp_X12_greater
  by_cases e : (x : Int) ≤ (y : Int) - 1000
  · rw [if_pos (Int32.le_iff_toInt_le.mpr (by rw [nI_toInt (by omega), V1k_toInt hy]; omega)), Nat.max_eq_right (by omega)]
    have : V1k y = nI (y - 1000) := by unfold V1k; rw [show (1000 : Int32) = nI 1000 from rfl, nI_sb (by omega)]
    rw [this]
  · rw [if_neg (fun z => by have := Int32.le_iff_toInt_le.mp z; rw [nI_toInt (by omega), V1k_toInt hy] at this; omega), Nat.max_eq_left (by omega)]
theorem V1k_1 (x : Nat) : V1k x + 1 = V1k (x + 1) := by
  unfold V1k
  rw [nI_succ, Int32.sub_eq_add_neg, Int32.sub_eq_add_neg, Int32.add_assoc, Int32.add_comm (-1000), ← Int32.add_assoc]
theorem V1k_0 (x : Nat) : V1k x + 0 = V1k x := Int32.add_zero _
section MP
variable {L : Nat → Nat → Int64} {D : DD} {l a b : Nat}
theorem m_pieces_L3 {f : Nat → Nat → Bool} {x1 x2 x3 : Int32} {K : Hp → Prop} {Q : Int32 → Hp → Prop} : ∀ (n j : Nat) (I : Nat → Nat → Int32), j ≤ 128 → 129 ≤ n + j → (∀ k, k < j → I 448 k = V1k (mdk f 0 k)) → (∀ I' : Nat → Nat → Int32, (∀ l k, l ≠ 448 → I' l k = I l k) → (∀ k, k < 128 → I' 448 k = V1k (mdk f 0 k)) → K (fm I' L D)) → wp_X12_piecesOf_L3 400 x1 x2 x3 K Q n (nI j) (fm I L D) := by
  intro n
  induction n with
  | zero => intro j I h1 h2; omega
  | succ n ih =>
    intro j I h1 h2 hM hK
    rw [wp_X12_piecesOf_L3]
    by_cases hj : j = 128
    · subst hj
      rw [if_pos (show (128 : Int32) ≤ nI 128 from by decide)]
      exact hK I (fun _ _ _ => rfl) hM
    · rw [if_neg (show ¬ (128 : Int32) ≤ nI j from nI_ge (b := 128) (by omega) (by decide))]
      have fin : ∀ v : Int32, v = V1k (mdk f 0 j) → wp_X12_piecesOf_L3 400 x1 x2 x3 K Q n (nI (j + 1)) (fm (up2 I 448 j v) L D) := by
        intro v hv
        refine ih (j + 1) _ (by omega) (by omega) (fun k hk => ?_) (fun I' hf hM' => hK I' (fun l k hl => ?_) hM')
        · by_cases e : k = j
          · subst e; rw [up2_s, hv]
          · rw [up2_o (by omega)]; exact hM k (by omega)
        · rw [hf l k hl, up2_o (by omega)]
      simp only [gK, gI, gL, gR_, g_stI, g_stL, forall_eq, true_and, ad_s, okA_s, okO_s, okN_s, i10, i00, if_true, if_false, reduceCtorEq, Kf_1, Kf_400, Rf_400_47, Kf_448, vp_in_nI (show j < 128 by omega) (by decide), nI_clamp (show j < 2 ^ 31 by omega), nI_1]
      by_cases h32 : 32 ≤ j
      · rw [if_pos (show (32 : Int32) ≤ nI j from nI_le (a := 32) h32 (by omega))]
        refine fin _ ?_
        unfold mdk
        rw [show j / 32 = (j / 32 - 1) + 1 by omega]
        show _ = V1k 0
        decide
      · rw [if_neg (show ¬ (32 : Int32) ≤ nI j from nI_ge (b := 32) (by omega) (by decide))]
        refine fin _ ?_
        unfold mdk
        rw [show j / 32 = 0 by omega]
        show _ = V1k 1000
        decide
theorem m_pieces_L180 {x1 x2 x3 x4 : Int32} {K : Hp → Prop} {Q : Int32 → Hp → Prop} : ∀ (n j : Nat) (I : Nat → Nat → Int32), j ≤ 128 → 129 ≤ n + j → (∀ I' : Nat → Nat → Int32, (∀ l k, l ≠ 448 → I' l k = I l k) → (∀ k, k < 128 → j ≤ k → I' 448 k = I 449 k) → (∀ k, k < j → I' 448 k = I 448 k) → K (fm I' L D)) → wp_X12_piecesOf_L180 400 x1 x2 x3 x4 K Q n (nI j) (fm I L D) := by
  intro n
  induction n with
  | zero => intro j I h1 h2; omega
  | succ n ih =>
    intro j I h1 h2 hK
    rw [wp_X12_piecesOf_L180]
    by_cases hj : j = 128
    · subst hj
      rw [if_pos (show (128 : Int32) ≤ nI 128 from by decide)]
      exact hK I (fun _ _ _ => rfl) (fun k _ _ => by omega) (fun _ _ => rfl)
    · rw [if_neg (show ¬ (128 : Int32) ≤ nI j from nI_ge (b := 128) (by omega) (by decide))]
      simp only [gK, gI, gL, gR_, g_stI, g_stL, forall_eq, true_and, ad_s, okA_s, okO_s, okN_s, i10, i00, if_true, if_false, reduceCtorEq, Kf_1, Kf_400, Rf_400_47, Rf_400_48, Kf_448, Kf_449, vp_in_nI (show j < 128 by omega) (by decide), nI_clamp (show j < 2 ^ 31 by omega), nI_1]
      refine ih (j + 1) _ (by omega) (by omega) (fun I' hf h3 h4 => hK I' (fun l k hl => ?_) (fun k h5 h6 => ?_) (fun k h5 => ?_))
      · rw [hf l k hl, up2_o (by omega)]
      · by_cases e : k = j
        · subst e; rw [h4 k (by omega), up2_s]
        · rw [h3 k h5 (by omega), up2_o (by omega)]
      · rw [h4 k (by omega), up2_o (by omega)]
theorem m_pieces_L51 {f : Nat → Nat → Bool} {i : Nat} (hl : l < 6) (ha : a < 40) (hb : b < 40) (hi : i < 32) {K : Hp → Prop} {Q : Int32 → Hp → Prop} : ∀ (n j : Nat) (I : Nat → Nat → Int32), rg (row I a) → rg (row I b) → inN (I 447 l) 16 → (∀ s, s < 32 → f s i = rn (row I a) (row I b) (I 447 l) s i) → j ≤ 128 → 129 ≤ n + j → (∀ k, k < 128 → I 448 k = V1k (mdk f i k)) → (∀ k, k < j → I 449 k = V1k (mdk f (i + 1) k)) → (∀ I' : Nat → Nat → Int32, (∀ l k, l ≠ 449 → I' l k = I l k) → (∀ k, k < 128 → I' 449 k = V1k (mdk f (i + 1) k)) → K (fm I' L D)) → wp_X12_piecesOf_L51 400 (nI l) (nI a) (nI b) (nI i) K Q n (nI j) (fm I L D) := by
  intro n
  induction n with
  | zero => intro j I _ _ _ _ h1 h2; omega
  | succ n ih =>
    intro j I ra rb hm hf h1 h2 hM hT hK
    rw [wp_X12_piecesOf_L51]
    by_cases hj : j = 128
    · subst hj
      rw [if_pos (show (128 : Int32) ≤ nI 128 from by decide)]
      exact hK I (fun _ _ _ => rfl) hT
    · rw [if_neg (show ¬ (128 : Int32) ≤ nI j from nI_ge (b := 128) (by omega) (by decide))]
      have fin : ∀ v : Int32, v = V1k (mdk f (i + 1) j) → wp_X12_piecesOf_L51 400 (nI l) (nI a) (nI b) (nI i) K Q n (nI (j + 1)) (fm (up2 I 449 j v) L D) := by
        intro v hv
        have er : ∀ z, row (up2 I 449 j v) z = row I z := fun z => by unfold row; funext k; exact up2_o (by omega)
        have em : up2 I 449 j v 447 l = I 447 l := up2_o (by omega)
        refine ih (j + 1) _ (by rw [er]; exact ra) (by rw [er]; exact rb) (by rw [em]; exact hm) (by rw [er, er, em]; exact hf) (by omega) (by omega) (fun k hk => ?_) (fun k hk => ?_) (fun I' hf hM' => hK I' (fun l k hl => ?_) hM')
        · rw [up2_o (by omega)]; exact hM k hk
        · by_cases e : k = j
          · subst e; rw [up2_s, hv]
          · rw [up2_o (by omega)]; exact hT k (by omega)
        · rw [hf l k hl, up2_o (by omega)]
      have hs : j % 32 < 32 := Nat.mod_lt _ (by decide)
      have j142 : ∀ x : Nat, x + (if f (j % 32) i then 1 else 0) = mdk f (i + 1) j → wp_X12_piecesOf_J142 400 (nI l) (nI a) (nI b) (nI i) (nI j) (nI (j % 32)) (V1k x) (wp_X12_piecesOf_L51 400 (nI l) (nI a) (nI b) (nI i) K Q n) K Q (fm I L D) := by
        intro x hx
        unfold wp_X12_piecesOf_J142
        simp only [gK, gI, gL, gR_, g_stI, g_stL, forall_eq, true_and, ad_s, okA_s, okO_s, okN_s, i10, i00, if_true, if_false, reduceCtorEq, Kf_1, Kf_400, m_runs hl ha hb hi hs ra rb hm, Rf_400_48, Kf_449, vp_in_nI (show j < 128 by omega) (by decide), nI_clamp (show j < 2 ^ 31 by omega), nI_1, ← hf _ hs]
        cases hc : f (j % 32) i with
        | true =>
          rw [hc, if_pos rfl] at hx
          rw [if_pos rfl, if_neg (by decide), V1k_1]
          exact fin _ (by rw [hx])
        | false =>
          rw [hc, if_neg (by decide)] at hx
          rw [if_neg (show ¬ false = true by decide), if_pos rfl, V1k_0]
          exact fin _ (by rw [← hx, Nat.add_zero])
      have eM := hM j (by omega)
      have lM : mdk f i j ≤ 1000 + i := md_le f i _ _
      simp only [gK, gI, gL, gR_, g_stI, g_stL, forall_eq, true_and, ad_s, okA_s, okO_s, okN_s, i10, i00, if_true, if_false, reduceCtorEq, Kf_1, Kf_400, rem32 (show j < 2 ^ 31 by omega), Rf_400_47, Kf_448, vp_in_nI (show j < 128 by omega) (by decide), nI_clamp (show j < 2 ^ 31 by omega), eM]
      by_cases h32 : j < 32
      · rw [if_pos (show nI j < (32 : Int32) from nI_lt (b := 32) h32 (by decide))]
        refine j142 _ ?_
        unfold mdk
        rw [show j / 32 = 0 by omega]
        rfl
      · rw [if_neg (show ¬ nI j < (32 : Int32) from nI_nlt (b := 32) (by omega) (by omega))]
        obtain ⟨c, s, hcs, hc3, hs32⟩ : ∃ c s, j = 32 * (c + 1) + s ∧ c < 3 ∧ s < 32 := ⟨j / 32 - 1, j % 32, by omega, by omega, by omega⟩
        have e1 : j / 32 = c + 1 := by omega
        have e2 : j % 32 = s := by omega
        by_cases hi0 : i = 0
        · subst hi0
          rw [if_pos (show nI 0 ≤ (0 : Int32) by decide)]
          refine j142 _ ?_
          unfold mdk
          rw [e1]
          show _ = (if 0 = 0 then _ else _) + _
          rw [if_pos rfl]
        · rw [if_neg (show ¬ nI i ≤ (0 : Int32) from nI_nle (by omega) (by omega))]
          have t1 : (s + 1) % 32 < 32 := Nat.mod_lt _ (by decide)
          have t2 : (s + 31) % 32 < 32 := Nat.mod_lt _ (by decide)
          have i1 : ((nI j - (32 : Int32)) - nI (j % 32)) + nI ((s + 1) % 32) = nI (32 * c + (s + 1) % 32) := by
            rw [show (32 : Int32) = nI 32 from rfl, nI_sb (by omega), nI_sb (by omega), nI_add]; congr 1; omega
          have i2 : ((nI j - (32 : Int32)) - nI (j % 32)) + nI ((s + 31) % 32) = nI (32 * c + (s + 31) % 32) := by
            rw [show (32 : Int32) = nI 32 from rfl, nI_sb (by omega), nI_sb (by omega), nI_add]; congr 1; omega
          have m1 := hM (32 * c + (s + 1) % 32) (by omega)
          have m2 := hM (32 * c + (s + 31) % 32) (by omega)
          have l1 : mdk f i (32 * c + (s + 1) % 32) ≤ 1000 + i := md_le f i _ _
          have l2 : mdk f i (32 * c + (s + 31) % 32) ≤ 1000 + i := md_le f i _ _
          have r1 : nI (j % 32) + (1 : Int32) - (nI (j % 32) + (1 : Int32)) / (32 : Int32) * (32 : Int32) = nI ((s + 1) % 32) := by rw [nI_1, rem32 (by omega), e2]
          have r2 : nI (j % 32) + (31 : Int32) - (nI (j % 32) + (31 : Int32)) / (32 : Int32) * (32 : Int32) = nI ((s + 31) % 32) := by rw [show (31 : Int32) = nI 31 from rfl, nI_add, rem32 (by omega), e2]
          simp only [gK, gI, gL, gR_, g_stI, g_stL, forall_eq, true_and, ad_s, okA_s, okO_s, okN_s, i10, i00, if_true, if_false, reduceCtorEq, Kf_1, Kf_400, r1, r2, i1, i2, Rf_400_47, Kf_448, vp_in_nI (show 32 * c + (s + 1) % 32 < 128 by omega) (by decide), nI_clamp (show 32 * c + (s + 1) % 32 < 2 ^ 31 by omega), vp_in_nI (show 32 * c + (s + 31) % 32 < 128 by omega) (by decide), nI_clamp (show 32 * c + (s + 31) % 32 < 2 ^ 31 by omega), m1, m2]
          rw [V1k_gt (by omega) (by omega)]
          simp only [gK, gI, gL, gR_, g_stI, g_stL, forall_eq, true_and, ad_s, okA_s, okO_s, okN_s, i10, i00, if_true, if_false, reduceCtorEq, Kf_1, Kf_400]
          rw [V1k_gt (by omega) (by omega)]
          refine j142 _ ?_
          unfold mdk
          rw [e1, e2, show (32 * c + (s + 1) % 32) / 32 = c by omega, show (32 * c + (s + 1) % 32) % 32 = (s + 1) % 32 by omega, show (32 * c + (s + 31) % 32) / 32 = c by omega, show (32 * c + (s + 31) % 32) % 32 = (s + 31) % 32 by omega]
          show _ = (if i = 0 then _ else _) + _
          rw [if_neg hi0]
theorem m_pieces_L41 {f : Nat → Nat → Bool} (hl : l < 6) (ha : a < 40) (hb : b < 40) {K : Hp → Prop} {Q : Int32 → Hp → Prop} : ∀ (n i : Nat) (I : Nat → Nat → Int32), rg (row I a) → rg (row I b) → inN (I 447 l) 16 → (∀ s i, s < 32 → i < 32 → f s i = rn (row I a) (row I b) (I 447 l) s i) → i ≤ 32 → 33 ≤ n + i → (∀ k, k < 128 → I 448 k = V1k (mdk f i k)) → (∀ I' : Nat → Nat → Int32, (∀ l k, l ≠ 448 → l ≠ 449 → I' l k = I l k) → (∀ k, k < 128 → I' 448 k = V1k (mdk f 32 k)) → K (fm I' L D)) → wp_X12_piecesOf_L41 400 (nI l) (nI a) (nI b) K Q n (nI i) (fm I L D) := by
  intro n
  induction n with
  | zero => intro i I _ _ _ _ h1 h2; omega
  | succ n ih =>
    intro i I ra rb hm hf h1 h2 hM hK
    rw [wp_X12_piecesOf_L41]
    by_cases hi : i = 32
    · subst hi
      rw [if_pos (show (32 : Int32) ≤ nI 32 from by decide)]
      exact hK I (fun _ _ _ _ => rfl) hM
    · rw [if_neg (show ¬ (32 : Int32) ≤ nI i from nI_ge (b := 32) (by omega) (by decide))]
      refine m_pieces_L51 (f := f) hl ha hb (by omega) fuel 0 I ra rb hm (fun s hs => hf s i hs (by omega)) (by omega) (by have := fuel_ge; omega) hM (fun k hk => by omega) (fun I1 f1 hT => ?_)
      refine m_pieces_L180 fuel 0 I1 (by omega) (by have := fuel_ge; omega) (fun I2 f2 h3 h4 => ?_)
      simp only [forall_eq, nI_1]
      have er : ∀ z, row I2 z = row I z := fun z => by unfold row; funext k; rw [f2 _ _ (by omega), f1 _ _ (by omega)]
      have em : I2 447 l = I 447 l := by rw [f2 _ _ (by omega), f1 _ _ (by omega)]
      refine ih (i + 1) I2 (by rw [er]; exact ra) (by rw [er]; exact rb) (by rw [em]; exact hm) (by rw [er, er, em]; exact hf) (by omega) (by omega) (fun k hk => ?_) (fun I' hf' hM' => hK I' (fun l k hl hl2 => ?_) hM')
      · rw [h3 k hk (by omega)]; exact hT k hk
      · rw [hf' l k hl hl2, f2 _ _ hl, f1 _ _ hl2]
theorem m_piecesOf {I : Nat → Nat → Int32} (hl : l < 6) (ha : a < 40) (hb : b < 40) (ra : rg (row I a)) (rb : rg (row I b)) (hm : inN (I 447 l) 16) {Q : Int32 → Hp → Prop} (hQ : ∀ I' : Nat → Nat → Int32, (∀ l k, l ≠ 448 → l ≠ 449 → I' l k = I l k) → Q (nI (piecesF (row I a) (row I b) (I 447 l))) (fm I' L D)) : wp_X12_piecesOf 400 (nI l) (nI a) (nI b) (fm I L D) Q := by
  unfold wp_X12_piecesOf
  refine m_pieces_L3 (f := fun s i => rn (row I a) (row I b) (I 447 l) s i) fuel 0 I (by omega) (by have := fuel_ge; omega) (fun k hk => by omega) (fun I1 f1 hM => ?_)
  have er : ∀ z, row I1 z = row I z := fun z => by unfold row; funext k; rw [f1 _ _ (by omega)]
  have em : I1 447 l = I 447 l := by rw [f1 _ _ (by omega)]
  refine m_pieces_L41 (f := fun s i => rn (row I a) (row I b) (I 447 l) s i) hl ha hb fuel 0 I1 (by rw [er]; exact ra) (by rw [er]; exact rb) (by rw [em]; exact hm) (by rw [er, er, em]; exact fun _ _ _ _ => rfl) (by omega) (by have := fuel_ge; omega) hM (fun I2 f2 hM2 => ?_)
  have key : ∀ (K : Int32 → Hp → Prop), K (nI (maxTo (fun k => mdk (fun s i => rn (row I a) (row I b) (I 447 l) s i) 32 k - 1000) 128)) (fm I2 L D) → ∀ (n j : Nat), j ≤ 128 → 129 ≤ n + j → wp_X12_piecesOf_L220 400 K Q n (nI (maxTo (fun k => mdk (fun s i => rn (row I a) (row I b) (I 447 l) s i) 32 k - 1000) j)) (nI j) (fm I2 L D) := by
    intro K hK n
    induction n with
    | zero => intro j h1 h2; omega
    | succ n ih =>
      intro j h1 h2
      rw [wp_X12_piecesOf_L220]
      by_cases hj : j = 128
      · subst hj
        rw [if_pos (show (128 : Int32) ≤ nI 128 from by decide)]
        exact hK
      · rw [if_neg (show ¬ (128 : Int32) ≤ nI j from nI_ge (b := 128) (by omega) (by decide))]
        have l1 : mdk (fun s i => rn (row I a) (row I b) (I 447 l) s i) 32 j ≤ 1000 + 32 := md_le _ 32 _ _
        have l2 := maxTo_le (fun k => mdk (fun s i => rn (row I a) (row I b) (I 447 l) s i) 32 k - 1000) (B := 32) (fun k => by have : mdk (fun s i => rn (row I a) (row I b) (I 447 l) s i) 32 k ≤ 1000 + 32 := md_le _ 32 _ _; omega) j
        simp only [gK, gI, gL, gR_, g_stI, g_stL, forall_eq, true_and, ad_s, okA_s, okO_s, okN_s, i10, i00, if_true, if_false, reduceCtorEq, Kf_1, Kf_400, Rf_400_47, Kf_448, vp_in_nI (show j < 128 by omega) (by decide), nI_clamp (show j < 2 ^ 31 by omega), hM2 j (by omega)]
        rw [V1k_gt0 (by omega) (by omega)]
        simp only [forall_eq, nI_1]
        exact ih (j + 1) (by omega) (by omega)
  refine key _ ?_ fuel 0 (by omega) (by have := fuel_ge; omega)
  rw [md_max]
  exact hQ I2 (fun l k h1 h2 => by rw [f2 _ _ h1 h2, f1 _ _ h1])
theorem m_pieces_St {n : Nat} {I0 I : Nat → Nat → Int32} (h : St n L D I0 I) (hl : l < D.nL) (ha : a < D.nA) (hb : b < D.nA) {Q : Int32 → Hp → Prop} (hQ : ∀ I' : Nat → Nat → Int32, St n L D I0 I' → (∀ l k, l ≠ 448 → l ≠ 449 → I' l k = I l k) → Q (nI (piecesF (row I0 a) (row I0 b) (I0 447 l))) (fm I' L D)) : wp_X12_piecesOf 400 (nI l) (nI a) (nI b) (fm I L D) Q := by
  have n3 := h.1.1.2.2.1
  have nL6 := h.1.1.2.2.2.1
  refine m_piecesOf (by omega) (by omega) (by omega) (rg_row h.1 ha) (rg_row h.1 hb) ((h.1.2.2.2.2.2.2.1 l).1 hl).2 (fun J hJ => ?_)
  rw [h.2.row, h.2.row, h.2.mg]
  exact hQ J (St_scr h (fun l' k' hn => hJ l' k' (fun z => hn (by first | (unfold Scr2 Scr; omega) | (unfold Scr; omega))) (fun z => hn (by first | (unfold Scr2 Scr; omega) | (unfold Scr; omega))))) hJ
end MP
