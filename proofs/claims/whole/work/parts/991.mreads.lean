/-! TOKENS: the reference reads one (my own) -/
section MR
variable {L : Nat → Nat → Int64} {D : DD} {n : Nat} {b : Nat → Nat}
def F20 (I0 I : Nat → Nat → Int32) : Prop := ∀ l k, ¬ (l = 400 ∧ k = 20) → I l k = I0 l k
theorem F20.mb {I0 I : Nat → Nat → Int32} (h : F20 I0 I) (hB : MB I0 n b) : MB I n b := hB.fr (fun l k z => h l k (by omega))
theorem m_skip {I0 : Nat → Nat → Int32} (hB : MB I0 n b) {P : Nat} {K Q : Hp → Prop} (hK : ∀ I, F20 I0 I → I 400 20 = nI P → K (fm I L D)) : ∀ (N q : Nat) (I : Nat → Nat → Int32), q ≤ n → n < N + q → F20 I0 I → I 400 20 = nI q → Bdy b n q → nx b (n - q) q = P → wp_X12_reads_L0 400 K Q N (fm I L D) := by
  intro N
  induction N with
  | zero => intro q I h1 h2; omega
  | succ N ih =>
    intro q I h1 h2 hf h20 hb hP
    have hn := hB.1
    have hBI := hf.mb hB
    rw [wp_X12_reads_L0]
    simp only [gK, gI, gL, gR_, g_stI, g_stL, forall_eq, true_and, ad_s, okA_s, okO_s, okN_s, i10, i00, if_true, if_false, reduceCtorEq, Kf_1, Kf_400, h20, m_raw hBI (show q < 2 ^ 31 by omega)]
    have J : q < n → srt (b q) = 0 → wp_X12_reads_J26 400 (wp_X12_reads_L0 400 K Q N) K Q (fm I L D) := by
      intro hq h0
      unfold wp_X12_reads_J26
      simp only [gK, gI, gL, gR_, g_stI, g_stL, forall_eq, true_and, ad_s, okA_s, okO_s, okN_s, i10, i00, if_true, if_false, reduceCtorEq, Kf_1, Kf_400, h20, nI_1]
      have ns : ¬ isSt b q := by
        rintro (z | z)
        · omega
        · exact z.1 h0
      have e1 : nx b (n - q) q = nx b (n - (q + 1)) (q + 1) := by
        rw [show n - q = (n - (q + 1)) + 1 by omega, nx, if_neg ns]
      refine ih (q + 1) _ (by omega) (by omega) (fun l k z => (up2_o (by omega)).trans (hf l k z)) up2_s (fun hq1 => ?_) (e1.symm.trans hP)
      by_cases d : srt (b (q + 1)) = 0
      · exact Or.inl d
      · exact Or.inr (Or.inr ⟨d, Or.inr (by rw [Nat.add_sub_cancel, h0]; exact fun z => d z.symm)⟩)
    by_cases c : q < n
    · have l2 := (hBI.2.2.1 q c).2
      have er : rawV b n q = nI (b q) := if_pos c
      simp only [er]
      by_cases c1 : b q = 32
      · rw [if_pos (by rw [c1]; rfl)]
        exact J c (by rw [c1]; rfl)
      · rw [if_neg (nI_neL (c := 32) (v := (32 : Int32)) (by omega) (by decide) rfl c1)]
        by_cases c2 : b q = 10
        · rw [if_pos (by rw [c2]; rfl)]
          exact J c (by rw [c2]; rfl)
        · rw [if_neg (nI_neL (c := 10) (v := (10 : Int32)) (by omega) (by decide) rfl c2)]
          have n0 : srt (b q) ≠ 0 := by
            unfold srt
            rw [if_neg (by omega)]
            split
            · decide
            · split <;> decide
          have hs := (hb c).resolve_left n0
          have e1 : nx b (n - q) q = q := by
            rw [show n - q = (n - (q + 1)) + 1 by omega, nx, if_pos hs]
          exact hK I hf (by rw [h20, ← hP, e1])
    · have er : rawV b n q = -1 := if_neg c
      simp only [er]
      rw [if_neg (by decide), if_neg (by decide)]
      have e0 : n - q = 0 := by omega
      rw [e0] at hP
      have hP : q = P := hP
      exact hK I hf (by rw [h20, hP])
theorem m_letters {I0 : Nat → Nat → Int32} (hB : MB I0 n b) {P : Nat} (hP : P < n) (h1 : srt (b P) = 1) {K Q : Hp → Prop} (hK : ∀ I, F20 I0 I → I 400 20 = nI (P + runN b n P) → K (fm I L D)) : ∀ (N q : Nat) (I : Nat → Nat → Int32), q ≤ n → n < N + q → F20 I0 I → I 400 20 = nI q → q + smr b 1 (n - q) q = P + runN b n P → wp_X12_reads_L95 400 K Q N (fm I L D) := by
  intro N
  induction N with
  | zero => intro q I h1 h2; omega
  | succ N ih =>
    intro q I h1 h2 hf h20 hr
    have hn := hB.1
    have hBI := hf.mb hB
    rw [wp_X12_reads_L95]
    simp only [gK, gI, gL, gR_, g_stI, g_stL, forall_eq, true_and, ad_s, okA_s, okO_s, okN_s, i10, i00, if_true, if_false, reduceCtorEq, Kf_1, Kf_400, h20, m_raw hBI (show q < 2 ^ 31 by omega)]
    by_cases c : q < n
    · have l2 := (hBI.2.2.1 q c).2
      have er : rawV b n q = nI (b q) := if_pos c
      rw [er, m_isLetter l2]
      rw [show n - q = (n - (q + 1)) + 1 by omega, smr] at hr
      by_cases d : srt (b q) = 1
      · rw [if_pos d] at hr
        rw [if_pos d, if_neg (by decide)]
        simp only [gK, gI, gL, gR_, g_stI, g_stL, forall_eq, true_and, ad_s, okA_s, okO_s, okN_s, i10, i00, if_true, if_false, reduceCtorEq, Kf_1, Kf_400, h20, nI_1]
        exact ih (q + 1) _ (by omega) (by omega) (fun l k z => (up2_o (by omega)).trans (hf l k z)) up2_s (by omega)
      · rw [if_neg d] at hr
        rw [if_neg d, if_pos rfl]
        exact hK I hf (by rw [h20, ← hr]; rfl)
    · have er : rawV b n q = -1 := if_neg c
      rw [er, m_isLetterN, if_pos rfl]
      rw [show n - q = 0 by omega] at hr
      exact hK I hf (by rw [h20, ← hr]; rfl)
def F23 (I0 I : Nat → Nat → Int32) : Prop := ∀ l k, ¬ (l = 400 ∧ (k = 20 ∨ k = 23)) → I l k = I0 l k
theorem m_digits {I0 : Nat → Nat → Int32} (hB : MB I0 n b) {P : Nat} (hP : P < n) (h2 : srt (b P) = 2) {K Q : Hp → Prop} (hK : ∀ I, F23 I0 I → I 400 20 = nI (P + runN b n P) → (runN b n P ≤ 4 → I 400 23 = nI (numV b P (runN b n P))) → K (fm I L D)) : ∀ (N q : Nat) (I : Nat → Nat → Int32), P < q → q ≤ n → n < N + q → F23 I0 I → I 400 20 = nI q → q + smr b 2 (n - q) q = P + runN b n P → (q - P ≤ 4 → I 400 23 = nI (numV b P (q - P))) → wp_X12_reads_L171 400 K Q N (fm I L D) := by
  intro N
  induction N with
  | zero => intro q I h0 h1 h2; omega
  | succ N ih =>
    intro q I hq0 h1 h3 hf h20 hr hv
    have hn := hB.1
    have hBI : MB I n b := hB.fr (fun l k z => hf l k (by omega))
    rw [wp_X12_reads_L171]
    simp only [gK, gI, gL, gR_, g_stI, g_stL, forall_eq, true_and, ad_s, okA_s, okO_s, okN_s, i10, i00, if_true, if_false, reduceCtorEq, Kf_1, Kf_400, h20, m_raw hBI (show q < 2 ^ 31 by omega)]
    by_cases c : q < n
    · have l2 := (hBI.2.2.1 q c).2
      have er : rawV b n q = nI (b q) := if_pos c
      simp only [er, m_isDigit l2]
      rw [show n - q = (n - (q + 1)) + 1 by omega, smr] at hr
      by_cases d : srt (b q) = 2
      · rw [if_pos d] at hr
        simp only [if_pos d]
        rw [if_neg (by decide)]
        obtain ⟨d1, d2⟩ := dig _ d
        have go : ∀ w : Int32, (q + 1 - P ≤ 4 → w = nI (numV b P (q + 1 - P))) → wp_X12_reads_J223 400 w (some 400) (wp_X12_reads_L171 400 K Q N) K Q (fm I L D) := by
          intro w hw
          unfold wp_X12_reads_J223
          have q20 : up2 I 400 23 w 400 20 = nI q := (up2_o (by omega)).trans h20
          simp only [gK, gI, gL, gR_, g_stI, g_stL, forall_eq, true_and, ad_s, okA_s, okO_s, okN_s, i10, i00, if_true, if_false, reduceCtorEq, Kf_1, Kf_400, q20, nI_1]
          refine ih (q + 1) _ (by omega) (by omega) (by omega) (fun l k z => ?_) up2_s (by omega) (fun z => ?_)
          · rw [up2_o (by omega), up2_o (by omega)]; exact hf l k z
          · rw [up2_o (by omega), up2_s]; exact hw z
        obtain ⟨vv, hvv⟩ : ∃ vv, I 400 23 = vv := ⟨_, rfl⟩
        simp only [gK, gI, gL, gR_, g_stI, g_stL, forall_eq, true_and, ad_s, okA_s, okO_s, okN_s, i10, i00, if_true, if_false, reduceCtorEq, Kf_1, Kf_400, hvv, h20, m_raw hBI (show q < 2 ^ 31 by omega), er]
        rw [hvv] at hv
        by_cases c4 : q + 1 - P ≤ 4
        · have v0 := hv (by omega)
          have ds : ∀ j, j < q - P → srt (b (P + j)) = 2 := fun j hj => (runN_all (n := n) (by omega)).trans h2
          have lv := numV_lt (q - P) ds
          have l3 : 10 ^ (q - P) ≤ 10 ^ 3 := Nat.pow_le_pow_right (by decide) (by omega)
          rw [v0, if_neg (show ¬ (10000 : Int32) ≤ nI (numV b P (q - P)) from nI_ge (b := 10000) (by omega) (by decide))]
          refine go _ (fun _ => ?_)
          rw [show (10 : Int32) = nI 10 from rfl, pk_mul, nI_add, show q + 1 - P = (q - P) + 1 by omega]
          show _ = nI (numV b P (q - P) * 10 + (b (P + (q - P)) - 48))
          rw [show P + (q - P) = q by omega, show 10 * numV b P (q - P) + b q = (numV b P (q - P) * 10 + (b q - 48)) + 48 by omega, ← nI_add]
          exact Int32.add_sub_cancel _ _
        · by_cases cv : (10000 : Int32) ≤ vv
          · rw [if_pos cv]
            exact go _ (fun z => absurd z c4)
          · rw [if_neg cv]
            exact go _ (fun z => absurd z c4)
      · rw [if_neg d] at hr
        simp only [if_neg d, if_true]
        have er : P + runN b n P = q := hr.symm
        refine hK I hf (by rw [er]; exact h20) (fun z => ?_)
        have : q - P = runN b n P := by omega
        rw [this] at hv
        exact hv z
    · have er : rawV b n q = -1 := if_neg c
      simp only [er, m_isDigitN, if_true]
      rw [show n - q = 0 by omega] at hr
      have er : P + runN b n P = q := hr.symm
      refine hK I hf (by rw [er]; exact h20) (fun z => ?_)
      have : q - P = runN b n P := by omega
      rw [this] at hv
      exact hv z
theorem m_cmp {I : Nat → Nat → Int32} (hB : MB I n b) {P r w : Nat} (hP : P + r ≤ n) (hs : ∀ j, j < r → srt (b (P + j)) = 1) (hw : w < 23) {x : Int32} {K Q : Int32 → Hp → Prop} (h1 : r ≤ wlM w → (∀ j, j < r → chM (wsM w + 1 + j) = b (P + j)) → K (nI r) (fm I L D)) (h0 : ∀ y, y < r → y ≤ wlM w → chM (wsM w + 1 + y) ≠ b (P + y) → K (nI y) (fm I L D)) : ∀ (N y : Nat), y ≤ r → r < N + y → (∀ j, j < y → chM (wsM w + 1 + j) = b (P + j)) → y ≤ wlM w → wp_X12_wordAt_L19 400 (nI P) (nI (P + r)) x (nI (wsM w)) K Q N (nI y) (fm I L D) := by
  obtain ⟨a1, a2, a3, a4, -, -⟩ := wm_ok w hw
  have hn := hB.1
  intro N
  induction N with
  | zero => intro y h1 h2; omega
  | succ N ih =>
    intro y y1 y2 hy yl
    rw [wp_X12_wordAt_L19, nI_add]
    by_cases e : y = r
    · rw [if_pos (nI_le (by omega) (by omega)), e]
      rw [e] at yl hy
      exact h1 yl hy
    · rw [if_neg (nI_ge (by omega) (by omega)), nI_1, nI_add]
      have hq : P + y < n := by omega
      have hc := ch_128 (wsM w + 1 + y) (by omega)
      have l2 := (hB.2.2.1 _ hq).2
      simp only [gK, gI, gL, gR_, g_stI, g_stL, forall_eq, true_and, ad_s, okA_s, okO_s, okN_s, i10, i00, if_true, if_false, reduceCtorEq, Kf_1, Kf_400, Rf_400_24, Kf_425, Rf_400_18, Kf_419, vp_in_nI (show wsM w + 1 + y < 115 by omega) (show 115 < 2 ^ 31 by decide), vp_in_nI (show P + y < 600 by omega) (show 600 < 2 ^ 31 by decide), nI_clamp (show wsM w + 1 + y < 2 ^ 31 by omega), nI_clamp (show P + y < 2 ^ 31 by omega), (hB.2.2.1 _ hq).1, hB.2.2.2 (wsM w + 1 + y) (by omega), nI_1]
      by_cases c : chM (wsM w + 1 + y) = b (P + y)
      · rw [if_pos (by rw [c])]
        have ny : y ≠ wlM w := by
          intro z
          rw [z] at c
          rw [a2] at c
          have := hs y (by omega)
          rw [z, ← c] at this
          exact absurd this (by decide)
        refine ih (y + 1) (by omega) (by omega) (fun j hj => ?_) (by omega)
        by_cases ej : j = y
        · rw [ej]; exact c
        · exact hy j (by omega)
      · rw [if_neg (fun z => c ((nI_eq (by omega) (by omega)).mp z))]
        exact h0 y (by omega) yl c
theorem m_fwd {I : Nat → Nat → Int32} (hB : MB I n b) {x1 x2 x3 : Int32} {w : Nat} (hw : w < 23) {K Q : Int32 → Hp → Prop} (hK : K (nI (wsM (w + 1))) (fm I L D)) : ∀ (N q : Nat), wsM w < q → q ≤ wsM (w + 1) → wsM (w + 1) < N + q → wp_X12_wordAt_L93 400 x1 x2 x3 K Q N (nI q) (fm I L D) := by
  obtain ⟨a1, a2, a3, a4, -, -⟩ := wm_ok w hw
  intro N
  induction N with
  | zero => intro q h1 h2 h3; omega
  | succ N ih =>
    intro q h1 h2 h3
    rw [wp_X12_wordAt_L93]
    have hc := ch_128 q (by omega)
    simp only [gK, gI, gL, gR_, g_stI, g_stL, forall_eq, true_and, ad_s, okA_s, okO_s, okN_s, i10, i00, if_true, if_false, reduceCtorEq, Kf_1, Kf_400, Rf_400_24, Kf_425, vp_in_nI (show q < 115 by omega) (show 115 < 2 ^ 31 by decide), nI_clamp (show q < 2 ^ 31 by omega), hB.2.2.2 q (by omega), nI_1]
    by_cases e : q = wsM (w + 1)
    · have : chM q = 32 := by
        rw [e, a1, show wsM w + wlM w + 1 = wsM w + 1 + wlM w by omega]; exact a2
      rw [this, if_pos (show nI 32 = (32 : Int32) from rfl), e]
      exact hK
    · have := a4 (q - (wsM w + 1)) (by omega)
      rw [show wsM w + 1 + (q - (wsM w + 1)) = q by omega] at this
      rw [if_neg (nI_neL (c := 32) (v := (32 : Int32)) (by omega) (by decide) rfl this)]
      exact ih (q + 1) (by omega) (by omega) (by omega)
theorem m_wordAt {I : Nat → Nat → Int32} (hB : MB I n b) {P r : Nat} (hP : P + r ≤ n) (hs : ∀ j, j < r → srt (b (P + j)) = 1) {Q : Int32 → Hp → Prop} (hQ : ∀ k, ((∃ w, w < 23 ∧ wIs b P r (piW w) ∧ k = nI w) ∨ ((∀ w, w < 23 → ¬ wIs b P r (piW w)) ∧ k = -1)) → Q k (fm I L D)) : wp_X12_wordAt 400 (nI P) (nI (P + r)) (fm I L D) Q := by
  unfold wp_X12_wordAt
  have hn := hB.1
  have key : ∀ (N w : Nat), w ≤ 23 → 23 < N + w → (∀ w', w' < w → ¬ wIs b P r (piW w')) → wp_X12_wordAt_L5 400 (nI P) (nI (P + r)) (fun (y30 : Int32) (h29 : Hp) => Q y30 h29) (fun (h31 : Hp) => Q (-1 : Int32) h31) Q N (nI w - 1) (nI (wsM w)) (fm I L D) := by
    intro N
    induction N with
    | zero => intro w h1 h2; omega
    | succ N ih =>
      intro w w1 w2 w3
      rw [wp_X12_wordAt_L5]
      by_cases e : w = 23
      · rw [e, wm_23.1, if_pos (by decide)]
        rw [e] at w3
        exact hQ _ (Or.inr ⟨w3, rfl⟩)
      · have hw : w < 23 := by omega
        obtain ⟨a1, a2, a3, a4, a5, a6⟩ := wm_ok w hw
        rw [if_neg (show ¬ (114 : Int32) ≤ nI (wsM w) from nI_ge (b := 114) (by omega) (by decide))]
        intro v2 hv2
        rw [Int32.sub_add_cancel] at hv2
        rw [hv2]
        have nxt : ¬ wIs b P r (piW w) → ∀ v14 : Int32, v14 = nI (wsM w) + 1 → wp_X12_wordAt_L93 400 (nI P) (nI (P + r)) (nI w) (fun (y21 : Int32) (h20 : Hp) => wp_X12_wordAt_L5 400 (nI P) (nI (P + r)) (fun (y30 : Int32) (h29 : Hp) => Q y30 h29) (fun (h31 : Hp) => Q (-1 : Int32) h31) Q N (nI w) y21 h20) Q fuel v14 (fm I L D) := by
          intro hno v14 hv14
          rw [hv14, nI_1]
          refine m_fwd hB hw ?_ fuel _ (by omega) (by omega) (by have := fuel_ge; omega)
          have := ih (w + 1) (by omega) (by omega) (fun w' hw' => by
            by_cases ew : w' = w
            · rw [ew]; exact hno
            · exact w3 w' (by omega))
          rw [← nI_1, Int32.add_sub_cancel] at this
          exact this
        refine m_cmp hB hP hs hw (fun hl hm => ?_) (fun y yr yl hm => ?_) fuel 0 (by omega) (by have := fuel_ge; omega) (fun j hj => by omega) (by omega)
        · rw [nI_add, if_pos rfl]
          have hc := ch_128 (wsM w + 1 + r) (by omega)
          simp only [gK, gI, gL, gR_, g_stI, g_stL, forall_eq, true_and, ad_s, okA_s, okO_s, okN_s, i10, i00, if_true, if_false, reduceCtorEq, Kf_1, Kf_400, nI_1, nI_add, Rf_400_24, Kf_425, vp_in_nI (show wsM w + 1 + r < 115 by omega) (show 115 < 2 ^ 31 by decide), nI_clamp (show wsM w + 1 + r < 2 ^ 31 by omega), hB.2.2.2 (wsM w + 1 + r) (by omega)]
          by_cases c : r = wlM w
          · rw [c, a2, if_pos (show nI 32 = (32 : Int32) from rfl)]
            refine hQ _ (Or.inl ⟨w, hw, ⟨by omega, fun j hj => ?_⟩, rfl⟩)
            rw [← a6 j (by omega)]
            exact hm j hj
          · rw [if_neg (nI_neL (c := 32) (v := (32 : Int32)) (by omega) (by decide) rfl (a4 r (by omega)))]
            have := nxt (fun z => c (by rw [z.1, a5])) _ rfl
            rw [nI_1] at this
            exact this
        · rw [nI_add, if_neg (fun z => absurd ((nI_eq (by omega) (by omega)).mp z) (by omega))]
          refine nxt (fun z => ?_)
          have e1 : r = wlM w := by rw [z.1, a5]
          exact hm (by rw [a6 y (by omega)]; exact z.2 y yr)
  have := key fuel 0 (by omega) (by have := fuel_ge; omega) (fun w' hw' => by omega)
  exact this
end MR
