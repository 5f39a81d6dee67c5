/-! TOKENS: the object's scan (my own) -/
theorem smr_all (b : Nat → Nat) (s : Nat) : ∀ f q j, j < smr b s f q → srt (b (q + j)) = s := by
  intro f
  induction f with
  | zero => intro q j h; unfold smr at h; omega
  | succ f ih =>
    intro q j h
    unfold smr at h
    by_cases c : srt (b q) = s
    · rw [if_pos c] at h
      by_cases e : j = 0
      · rw [e]; exact c
      · have := ih (q + 1) (j - 1) (by omega)
        rw [show q + 1 + (j - 1) = q + j by omega] at this
        exact this
    · rw [if_neg c] at h; omega
theorem runN_le {b : Nat → Nat} {n p : Nat} (hp : p < n) : 0 < runN b n p ∧ p + runN b n p ≤ n := by
  unfold runN
  have := smr_le b (srt (b p)) (n - (p + 1)) (p + 1)
  omega
theorem runN_all {b : Nat → Nat} {n p j : Nat} (hj : j < runN b n p) : srt (b (p + j)) = srt (b p) := by
  by_cases e : j = 0
  · rw [e]; rfl
  · have := smr_all b (srt (b p)) (n - (p + 1)) (p + 1) (j - 1) (by unfold runN at hj; omega)
    rw [show p + 1 + (j - 1) = p + j by omega] at this
    exact this
theorem nI_neL {a c : Nat} {v : Int32} (ha : a < 2 ^ 31) (hc : c < 2 ^ 31) (hv : v = nI c) (h : a ≠ c) : ¬ nI a = v := fun z => h ((nI_eq ha hc).mp (z.trans hv))
theorem ch256 : ∀ v, v < 256 → ((nI v).toUInt32 % 65536).toInt32 = nI v := by decide +kernel
def XB (I : Nat → Nat → Int32) (n : Nat) (b : Nat → Nat) : Prop := n ≤ 600 ∧ I 8 1 = nI n ∧ ∀ j, j < n → I 9 j = nI (b j) ∧ b j < 256
section XS
variable {L : Nat → Nat → Int64} {D : DD} {I : Nat → Nat → Int32} {n : Nat} {b : Nat → Nat}
theorem x_runFrom (hB : XB I n b) {p : Nat} (hp : p < n) {Q : Int32 → Hp → Prop} (hQ : Q (nI (runN b n p)) (fm I L D)) : wp_X8_runFrom 8 (nI p) (fm I L D) Q := by
  obtain ⟨hn, b1, b2⟩ := hB
  unfold wp_X8_runFrom
  simp only [gK, gI, gL, gR_, g_stI, g_stL, forall_eq, true_and, ad_s, okA_s, okO_s, okN_s, i10, i00, if_true, if_false, reduceCtorEq, Kf_1, Kf_400, Kf_8, Rf_8_0, Kf_9, vp_in_nI (show p < 600 by omega) (show 600 < 2 ^ 31 by decide), nI_clamp (show p < 2 ^ 31 by omega), (b2 p hp).1, x_sortOf (b2 p hp).2, nI_1]
  have key : ∀ (N q r : Nat), q ≤ n → n < N + q → r + smr b (srt (b p)) (n - q) q = runN b n p → wp_X8_runFrom_L17 8 (nI (srt (b p))) (fun (y17 : Int32) (h16 : Hp) => Q y17 h16) Q N (nI r) (nI q) (fm I L D) := by
    intro N
    induction N with
    | zero => intro q r h1 h2; omega
    | succ N ih =>
      intro q r h1 h2 h3
      rw [wp_X8_runFrom_L17]
      simp only [gK, gI, gL, gR_, g_stI, g_stL, forall_eq, true_and, ad_s, okA_s, okO_s, okN_s, i10, i00, if_true, if_false, reduceCtorEq, Kf_1, Kf_400, Kf_8, b1]
      by_cases e : q = n
      · rw [if_pos (nI_le (by omega) (by omega))]
        rw [e, Nat.sub_self] at h3
        rw [← h3] at hQ
        exact hQ
      · have hq : q < n := by omega
        rw [if_neg (nI_ge hq (by omega))]
        have s4 := srt_lt (b q)
        have s5 := srt_lt (b p)
        rw [show n - q = (n - (q + 1)) + 1 by omega, smr] at h3
        simp only [gK, gI, gL, gR_, g_stI, g_stL, forall_eq, true_and, ad_s, okA_s, okO_s, okN_s, i10, i00, if_true, if_false, reduceCtorEq, Kf_1, Kf_400, Rf_8_0, Kf_9, vp_in_nI (show q < 600 by omega) (show 600 < 2 ^ 31 by decide), nI_clamp (show q < 2 ^ 31 by omega), (b2 q hq).1, x_sortOf (b2 q hq).2, nI_1]
        by_cases c : srt (b q) = srt (b p)
        · rw [if_pos c] at h3
          rw [if_pos (by rw [c])]
          exact ih (q + 1) (r + 1) (by omega) (by omega) (by omega)
        · rw [if_neg c] at h3
          rw [if_neg (fun z => c ((nI_eq (by omega) (by omega)).mp z))]
          rw [← h3] at hQ
          exact hQ
  exact key fuel (p + 1) 1 (by omega) (by have := fuel_ge; omega) rfl
theorem dig (x : Nat) (h : srt x = 2) : 48 ≤ x ∧ x ≤ 57 := by
  unfold srt at h
  split at h
  · omega
  · split at h
    · omega
    · split at h
      · assumption
      · omega
theorem numV_lt {b : Nat → Nat} {p : Nat} : ∀ k, (∀ j, j < k → srt (b (p + j)) = 2) → numV b p k < 10 ^ k := by
  intro k
  induction k with
  | zero => intro _; exact Nat.one_pos
  | succ k ih =>
    intro h
    have a := ih (fun j hj => h j (by omega))
    have d := dig _ (h k (by omega))
    unfold numV
    rw [Nat.pow_succ]
    omega
theorem x_numberKind (hB : XB I n b) {p : Nat} (hp : p < n) (h2 : srt (b p) = 2) {Q : Int32 → Hp → Prop} (hQ : ∀ k, ((runN b n p ≤ 4 ∧ k = -1 - nI (numV b p (runN b n p))) ∨ (4 < runN b n p ∧ k = 1)) → Q k (fm I L D)) : wp_X8_numberKind 8 (nI p) (nI (runN b n p)) (fm I L D) Q := by
  obtain ⟨hn, b1, b2⟩ := hB
  obtain ⟨r0, r1⟩ := runN_le (b := b) hp
  have hd : ∀ j, j < runN b n p → srt (b (p + j)) = 2 := fun j hj => (runN_all hj).trans h2
  obtain ⟨r, er⟩ : ∃ r, runN b n p = r := ⟨_, rfl⟩
  rw [er] at hQ r0 r1 hd ⊢
  unfold wp_X8_numberKind
  by_cases c : r ≤ 4
  · rw [if_pos (show nI r ≤ (4 : Int32) from nI_le (b := 4) c (by decide))]
    have key : ∀ (N q : Nat), q ≤ r → r < N + q → wp_X8_numberKind_L12 8 (nI p) (nI r) (fun (y9 : Int32) (h8 : Hp) => Q (y9 ^^^ (-1 : Int32)) h8) Q N (nI (numV b p q)) (nI (p + q)) (fm I L D) := by
      intro N
      induction N with
      | zero => intro q h1 h2; omega
      | succ N ih =>
        intro q h1 h2
        rw [wp_X8_numberKind_L12, nI_add]
        by_cases e : q = r
        · rw [if_pos (nI_le (by omega) (by omega)), e]
          have lv := numV_lt r hd
          have l4 : 10 ^ r ≤ 10 ^ 4 := Nat.pow_le_pow_right (by decide) c
          have x1 : nI (numV b p r) ^^^ (-1 : Int32) = -1 - nI (numV b p r) := by
            have := (not_num (w := numV b p r) (by omega)).2
            have y : ∀ z w : Int32, z ^^^ (-1 : Int32) = w → w ^^^ (-1 : Int32) = z := by
              intro z w hz
              rw [← hz, Int32.xor_assoc, Int32.xor_self, Int32.xor_zero]
            exact y _ _ this
          rw [x1]
          exact hQ _ (Or.inl ⟨c, rfl⟩)
        · have hq : p + q < n := by omega
          rw [if_neg (nI_ge (by omega) (by omega))]
          obtain ⟨d1, d2⟩ := dig _ (hd q (by omega))
          have ev : ((nI (numV b p q) * (10 : Int32)) + nI (b (p + q))) - (48 : Int32) = nI (numV b p (q + 1)) := by
            rw [show (10 : Int32) = nI 10 from rfl, pk_mul, nI_add]
            show _ = nI (numV b p q * 10 + (b (p + q) - 48))
            rw [show numV b p q * 10 + b (p + q) = (numV b p q * 10 + (b (p + q) - 48)) + 48 by omega, ← nI_add]
            exact Int32.add_sub_cancel _ _
          simp only [gK, gI, gL, gR_, g_stI, g_stL, forall_eq, true_and, ad_s, okA_s, okO_s, okN_s, i10, i00, if_true, if_false, reduceCtorEq, Kf_1, Kf_400, Kf_8, Rf_8_0, Kf_9, vp_in_nI (show p + q < 600 by omega) (show 600 < 2 ^ 31 by decide), nI_clamp (show p + q < 2 ^ 31 by omega), (b2 _ hq).1, ev, nI_1]
          exact ih (q + 1) (by omega) (by omega)
    exact key fuel 0 (by omega) (by have := fuel_ge; omega)
  · rw [if_neg (show ¬ nI r ≤ (4 : Int32) from nI_ge (b := r) (a := 4) (by omega) (by omega))]
    exact hQ _ (Or.inr ⟨by omega, rfl⟩)
theorem x_isWord (hB : XB I n b) {p s r : Nat} (hp : p + r ≤ n) (hs : s + r ≤ 114) {Q : Int32 → Hp → Prop} (h1 : (∀ j, j < r → chW (s + j) = b (p + j)) → Q 1 (fm I L D)) (h0 : (∃ j, j < r ∧ chW (s + j) ≠ b (p + j)) → Q 0 (fm I L D)) : wp_X8_isWord 8 (nI p) (nI s) (nI r) (fm I L D) Q := by
  obtain ⟨hn, b1, b2⟩ := hB
  unfold wp_X8_isWord
  have key : ∀ (N j : Nat), j ≤ r → r < N + j → (∀ i, i < j → chW (s + i) = b (p + i)) → wp_X8_isWord_L3 8 (nI p) (nI s) (nI r) (fun (h10 : Hp) => Q (0 : Int32) h10) (fun (h11 : Hp) => Q (1 : Int32) h11) Q N (nI j) (fm I L D) := by
    intro N
    induction N with
    | zero => intro j h1 h2; omega
    | succ N ih =>
      intro j j1 j2 hj
      rw [wp_X8_isWord_L3]
      by_cases e : j = r
      · rw [if_pos (nI_le (by omega) (by omega))]
        exact h1 (fun i hi => hj i (by omega))
      · rw [if_neg (nI_ge (by omega) (by omega)), nI_add, nI_add]
        refine ⟨by decide, j_charAt (by omega) ?_⟩
        have hq : p + j < n := by omega
        obtain ⟨-, l⟩ := ch_ok (s + j) (by omega)
        have l2 := (b2 _ hq).2
        simp only [gK, gI, gL, gR_, g_stI, g_stL, forall_eq, true_and, ad_s, okA_s, okO_s, okN_s, i10, i00, if_true, if_false, reduceCtorEq, Kf_1, Kf_400, Kf_8, Rf_8_0, Kf_9, vp_in_nI (show p + j < 600 by omega) (show 600 < 2 ^ 31 by decide), nI_clamp (show p + j < 2 ^ 31 by omega), (b2 _ hq).1, nI_1]
        by_cases c : chW (s + j) = b (p + j)
        · rw [if_pos (by rw [c])]
          refine ih (j + 1) (by omega) (by omega) (fun i hi => ?_)
          by_cases ei : i = j
          · rw [ei]; exact c
          · exact hj i (by omega)
        · rw [if_neg (fun z => c ((nI_eq (by omega) (by omega)).mp z))]
          exact h0 ⟨j, by omega, c⟩
  exact key fuel 0 (by omega) (by have := fuel_ge; omega) (fun i hi => by omega)
theorem x_wordKind (hB : XB I n b) {p r : Nat} (hp : p + r ≤ n) (hr : 0 < r) {Q : Int32 → Hp → Prop} (hQ : ∀ k, ((∃ w, w < 23 ∧ wIs b p r w ∧ k = nI (256 + w)) ∨ ((∀ w, w < 23 → ¬ wIs b p r w) ∧ k = 1)) → Q k (fm I L D)) : wp_X8_wordKind 8 (nI p) (nI r) (fm I L D) Q := by
  unfold wp_X8_wordKind
  have hn := hB.1
  have key : ∀ (N q w : Nat), w ≤ 23 → wsO w ≤ q → q ≤ 114 → (w < 23 → q ≤ wsO w + wlO w) → 114 < N + q → (∀ w', w' < w → ¬ wIs b p r w') → wp_X8_wordKind_L8 8 (nI p) (nI r) (fun (y19 : Int32) (h18 : Hp) => Q ((256 : Int32) + y19) h18) (fun (h20 : Hp) => Q (1 : Int32) h20) Q N (nI w) (nI (wsO w)) (nI q) (fm I L D) := by
    intro N
    induction N with
    | zero => intro q w h1 h2 h3 h4 h5; omega
    | succ N ih =>
      intro q w w1 w2 w3 w4 w5 w6
      rw [wp_X8_wordKind_L8]
      refine ⟨by decide, ?_⟩
      rw [j_length]
      by_cases e : q = 114
      · rw [if_pos (nI_le (by omega) (by omega))]
        have : w = 23 := by
          rcases Nat.lt_or_ge w 23 with z | z
          · have := w4 z
            obtain ⟨a1, a2, a3, a4⟩ := ws_ok w z
            omega
          · omega
        exact hQ _ (Or.inr ⟨fun w' hw' => w6 w' (by omega), rfl⟩)
      · rw [if_neg (nI_ge (by omega) (by decide))]
        have hw : w < 23 := by
          rcases Nat.lt_or_ge w 23 with z | z
          · exact z
          · have e23 : w = 23 := by omega
            have := ws_23.1
            rw [e23] at w2
            omega
        obtain ⟨a1, a2, a3, a4⟩ := ws_ok w hw
        have w4 := w4 hw
        refine ⟨by decide, j_charAt (by omega) ?_⟩
        obtain ⟨-, l⟩ := ch_ok q (by omega)
        have J : (∀ w', w' < w + 1 → ¬ wIs b p r w') → q = wsO w + wlO w → wp_X8_wordKind_J56 8 (nI p) (nI r) (nI w) (nI q) (wp_X8_wordKind_L8 8 (nI p) (nI r) (fun (y19 : Int32) (h18 : Hp) => Q ((256 : Int32) + y19) h18) (fun (h20 : Hp) => Q (1 : Int32) h20) Q N) (fun (y19 : Int32) (h18 : Hp) => Q ((256 : Int32) + y19) h18) (fun (h20 : Hp) => Q (1 : Int32) h20) Q (fm I L D) := by
          intro hh hq
          unfold wp_X8_wordKind_J56
          simp only [forall_eq, nI_1]
          have := ih (q + 1) (w + 1) (by omega) (by omega) (by omega) (fun z => by omega) (by omega) hh
          rw [show wsO (w + 1) = q + 1 by omega] at this
          exact this
        by_cases c : q = wsO w + wlO w
        · rw [if_pos (by rw [c, a2]; rfl)]
          have es : nI q - nI (wsO w) = nI (wlO w) := by
            rw [c, ← nI_add, Int32.add_comm]
            exact Int32.add_sub_cancel _ _
          rw [es]
          by_cases d : wlO w = r
          · rw [if_pos (by rw [d])]
            simp only [gK, gI, gL, gR_, g_stI, g_stL, forall_eq, true_and, ad_s, okA_s, okO_s, okN_s, i10, i00, if_true, if_false, reduceCtorEq, Kf_1, Kf_400, Kf_8]
            refine x_isWord hB hp (by omega) (fun hy => ?_) (fun hx => ?_)
            · rw [if_neg (by decide)]
              show Q ((256 : Int32) + nI w) _
              rw [show (256 : Int32) = nI 256 from rfl, nI_add]
              exact hQ _ (Or.inl ⟨w, hw, ⟨d.symm, hy⟩, rfl⟩)
            · rw [if_pos rfl]
              refine J (fun w' hw' hi => ?_) c
              by_cases e' : w' = w
              · rw [e'] at hi
                obtain ⟨j, j1, j2⟩ := hx
                exact j2 (hi.2 j j1)
              · exact w6 w' (by omega) hi
          · rw [if_neg (fun z => d ((nI_eq (by omega) (by omega)).mp z))]
            refine J (fun w' hw' hi => ?_) c
            by_cases e' : w' = w
            · rw [e'] at hi
              exact d hi.1.symm
            · exact w6 w' (by omega) hi
        · have n32 : chW q ≠ 32 := by
            have := a4 (q - wsO w) (by omega)
            rw [show wsO w + (q - wsO w) = q by omega] at this
            exact this
          rw [if_neg (nI_neL (c := 32) (v := (32 : Int32)) (by omega) (by decide) rfl n32)]
          simp only [forall_eq, nI_1]
          exact ih (q + 1) w w1 (by omega) (by omega) (fun _ => by omega) (by omega) w6
  have := key fuel 0 0 (by omega) (by decide) (by omega) (fun _ => by decide) (by have := fuel_ge; omega) (fun w' hw' => by omega)
  exact this
theorem x_isStart (hB : XB I n b) {p : Nat} (hp : p < n) {Q : Int32 → Hp → Prop} (h1 : isSt b p → Q 1 (fm I L D)) (h0 : ¬ isSt b p → Q 0 (fm I L D)) : wp_X8_isStart 8 (nI p) (fm I L D) Q := by
  obtain ⟨hn, b1, b2⟩ := hB
  have s4 := srt_lt (b p)
  unfold wp_X8_isStart
  simp only [gK, gI, gL, gR_, g_stI, g_stL, forall_eq, true_and, ad_s, okA_s, okO_s, okN_s, i10, i00, if_true, if_false, reduceCtorEq, Kf_1, Kf_400, Kf_8, Rf_8_0, Kf_9, vp_in_nI (show p < 600 by omega) (show 600 < 2 ^ 31 by decide), nI_clamp (show p < 2 ^ 31 by omega), (b2 p hp).1, x_sortOf (b2 p hp).2]
  by_cases c3 : srt (b p) = 3
  · rw [if_pos (by rw [c3]; rfl)]
    exact h1 (Or.inl c3)
  · rw [if_neg (nI_neL (c := 3) (v := (3 : Int32)) (by omega) (by decide) rfl c3)]
    by_cases c0 : srt (b p) = 0
    · rw [if_pos (by rw [c0]; rfl)]
      exact h0 (fun z => z.elim c3 (fun y => y.1 c0))
    · rw [if_neg (nI_neL (c := 0) (v := (0 : Int32)) (by omega) (by decide) rfl c0)]
      by_cases e : p = 0
      · rw [if_pos (by rw [e]; rfl)]
        exact h1 (Or.inr ⟨c0, Or.inl e⟩)
      · rw [if_neg (nI_neL (c := 0) (v := (0 : Int32)) (by omega) (by decide) rfl e)]
        have ep : nI p - 1 = nI (p - 1) := by
          rw [show p = (p - 1) + 1 by omega, ← nI_1]
          exact Int32.add_sub_cancel _ _
        have hq : p - 1 < n := by omega
        have s5 := srt_lt (b (p - 1))
        simp only [ep, gK, gI, gL, gR_, g_stI, g_stL, forall_eq, true_and, ad_s, okA_s, okO_s, okN_s, i10, i00, if_true, if_false, reduceCtorEq, Kf_1, Kf_400, Kf_8, Rf_8_0, Kf_9, vp_in_nI (show p - 1 < 600 by omega) (show 600 < 2 ^ 31 by decide), nI_clamp (show p - 1 < 2 ^ 31 by omega), (b2 _ hq).1, x_sortOf (b2 _ hq).2]
        by_cases c : srt (b (p - 1)) = srt (b p)
        · rw [if_pos (by rw [c])]
          exact h0 (fun z => z.elim c3 (fun y => y.2.elim e (fun w => w c)))
        · rw [if_neg (fun z => c ((nI_eq (by omega) (by omega)).mp z))]
          exact h1 (Or.inr ⟨c0, Or.inr c⟩)
theorem x_kindAt (hB : XB I n b) {p : Nat} (hp : p < n) (h0 : srt (b p) ≠ 0) {Q : Int32 → Hp → Prop} (hQ : ∀ k, kindR b n p k → Q k (fm I L D)) : wp_X8_kindAt 8 (nI p) (fm I L D) Q := by
  have hB' := hB
  obtain ⟨hn, b1, b2⟩ := hB
  have s4 := srt_lt (b p)
  obtain ⟨r0, r1⟩ := runN_le (b := b) hp
  have l2 := (b2 p hp).2
  unfold wp_X8_kindAt
  simp only [gK, gI, gL, gR_, g_stI, g_stL, forall_eq, true_and, ad_s, okA_s, okO_s, okN_s, i10, i00, if_true, if_false, reduceCtorEq, Kf_1, Kf_400, Kf_8, Rf_8_0, Kf_9, vp_in_nI (show p < 600 by omega) (show 600 < 2 ^ 31 by decide), nI_clamp (show p < 2 ^ 31 by omega), (b2 p hp).1, x_sortOf (b2 p hp).2]
  by_cases c1 : srt (b p) = 1
  · rw [if_pos (by rw [c1]; rfl)]
    refine x_runFrom hB' hp ?_
    simp only [gK, gI, gL, gR_, g_stI, g_stL, forall_eq, true_and, ad_s, okA_s, okO_s, okN_s, i10, i00, if_true, if_false, reduceCtorEq, Kf_1, Kf_400, Kf_8]
    exact x_wordKind hB' r1 r0 (fun k hk => hQ k (Or.inl ⟨c1, hk⟩))
  · rw [if_neg (nI_neL (c := 1) (v := (1 : Int32)) (by omega) (by decide) rfl c1)]
    by_cases c2 : srt (b p) = 2
    · rw [if_pos (by rw [c2]; rfl)]
      refine x_runFrom hB' hp ?_
      simp only [gK, gI, gL, gR_, g_stI, g_stL, forall_eq, true_and, ad_s, okA_s, okO_s, okN_s, i10, i00, if_true, if_false, reduceCtorEq, Kf_1, Kf_400, Kf_8]
      exact x_numberKind hB' hp c2 (fun k hk => hQ k (Or.inr (Or.inl ⟨c2, hk⟩)))
    · rw [if_neg (nI_neL (c := 2) (v := (2 : Int32)) (by omega) (by decide) rfl c2)]
      have c3 : srt (b p) = 3 := by omega
      refine ⟨by decide, ?_⟩
      rw [ch256 (b p) l2]
      refine j_indexOf l2 (fun k hk hs => ?_) (fun hs => ?_)
      · rw [if_neg (nI_pos (show k < 2 ^ 31 by omega))]
        simp only [gK, gI, gL, gR_, g_stI, g_stL, forall_eq, true_and, ad_s, okA_s, okO_s, okN_s, i10, i00, if_true, if_false, reduceCtorEq, Kf_1, Kf_400, Kf_8, Rf_8_0, Kf_9, vp_in_nI (show p < 600 by omega) (show 600 < 2 ^ 31 by decide), nI_clamp (show p < 2 ^ 31 by omega), (b2 p hp).1]
        exact hQ _ (Or.inr (Or.inr ⟨c3, Or.inl ⟨hs, rfl⟩⟩))
      · rw [if_pos (by decide)]
        exact hQ _ (Or.inr (Or.inr ⟨c3, Or.inr ⟨hs, rfl⟩⟩))
end XS
def FS (I0 I : Nat → Nat → Int32) : Prop := ∀ l k, ¬ (l = 10 ∨ l = 11 ∨ (l = 8 ∧ k = 4)) → I l k = I0 l k
theorem x_scanL {L : Nat → Nat → Int64} {D : DD} {I0 : Nat → Nat → Int32} {n : Nat} {b : Nat → Nat} (hB : XB I0 n b) {K Q : Hp → Prop} (hK : ∀ (m : Nat) (I : Nat → Nat → Int32), m ≤ n → FS I0 I → I 8 4 = nI m → (∀ i, i < m → kindR b n (PSf b n i) (I 10 i) ∧ PSf b n i < n ∧ isSt b (PSf b n i)) → (∀ i, i < m → I 11 i = nI (PSf b n i)) → PSf b n m = n → K (fm I L D)) : ∀ (N p m : Nat) (I : Nat → Nat → Int32), p ≤ n → n < N + p → m ≤ p → FS I0 I → I 8 4 = nI m → (∀ i, i < m → kindR b n (PSf b n i) (I 10 i) ∧ PSf b n i < n ∧ isSt b (PSf b n i)) → (∀ i, i < m → I 11 i = nI (PSf b n i)) → PSf b n m = nx b (n - p) p → wp_X8_scan_L7 8 K Q N (nI p) (fm I L D) := by
  intro N
  induction N with
  | zero => intro p m I h1 h2; omega
  | succ N ih =>
    intro p m I h1 h2 h3 hf hm hk hpl hps
    have hn := hB.1
    have i81 : I 8 1 = nI n := (hf 8 1 (by omega)).trans hB.2.1
    have hBI : XB I n b := ⟨hB.1, i81, fun j hj => by rw [hf 9 j (by omega)]; exact hB.2.2 j hj⟩
    rw [wp_X8_scan_L7]
    simp only [gK, gI, gL, gR_, g_stI, g_stL, forall_eq, true_and, ad_s, okA_s, okO_s, okN_s, i10, i00, if_true, if_false, reduceCtorEq, Kf_1, Kf_400, Kf_8, i81]
    by_cases e : p = n
    · rw [if_pos (nI_le (by omega) (by omega))]
      have pn : PSf b n m = n := by rw [hps, e, Nat.sub_self]; rfl
      exact hK m I (by omega) hf hm hk hpl pn
    · rw [if_neg (nI_ge (by omega) (by omega))]
      have hp : p < n := by omega
      have hnx : nx b (n - p) p = @ite _ (isSt b p) (Classical.propDecidable _) p (nx b (n - (p + 1)) (p + 1)) := by
        rw [show n - p = (n - (p + 1)) + 1 by omega]; rfl
      refine x_isStart hBI hp (fun hs => ?_) (fun hs => ?_)
      · rw [if_neg (by decide)]
        rw [hnx, if_pos hs] at hps
        have h0 : srt (b p) ≠ 0 := by
          rcases hs with z | z
          · omega
          · exact z.1
        simp only [gK, gI, gL, gR_, g_stI, g_stL, forall_eq, true_and, ad_s, okA_s, okO_s, okN_s, i10, i00, if_true, if_false, reduceCtorEq, Kf_1, Kf_400, Kf_8]
        refine x_kindAt hBI hp h0 (fun kk hkk => ?_)
        have q1 : ∀ k v, up2 I 10 k v 8 4 = nI m := fun k v => (up2_o (by omega)).trans hm
        have q2 : ∀ k v k' v', up2 (up2 I 10 k v) 11 k' v' 8 4 = nI m := fun k v k' v' => (up2_o (by omega)).trans (q1 k v)
        simp only [gK, gI, gL, gR_, g_stI, g_stL, forall_eq, true_and, ad_s, okA_s, okO_s, okN_s, i10, i00, if_true, if_false, reduceCtorEq, Kf_1, Kf_400, Kf_8, Rf_8_2, Rf_8_3, Kf_10, Kf_11, hm, vp_in_nI (show m < 601 by omega) (show 601 < 2 ^ 31 by decide), nI_clamp (show m < 2 ^ 31 by omega), q1, q2, nI_1]
        refine ih (p + 1) (m + 1) _ (by omega) (by omega) (by omega) (fun l k hl => ?_) up2_s (fun i hi => ?_) (fun i hi => ?_) ?_
        · rw [up2_o (by omega), up2_o (by omega), up2_o (by omega)]; exact hf l k hl
        · rw [up2_o (by omega), up2_o (by omega)]
          by_cases ei : i = m
          · rw [ei, up2_s, hps]; exact ⟨hkk, hp, hs⟩
          · rw [up2_o (by omega)]; exact hk i (by omega)
        · rw [up2_o (by omega)]
          by_cases ei : i = m
          · rw [ei, up2_s, hps]
          · rw [up2_o (by omega), up2_o (by omega)]; exact hpl i (by omega)
        · unfold PSf
          rw [hps, if_pos hp]
      · rw [if_pos rfl]
        rw [hnx, if_neg hs] at hps
        simp only [forall_eq, nI_1]
        exact ih (p + 1) m I (by omega) (by omega) (by omega) hf hm hk hpl hps
theorem x_scan {L : Nat → Nat → Int64} {D : DD} {I0 : Nat → Nat → Int32} {n : Nat} {b : Nat → Nat} (hB : XB I0 n b) {Q : Hp → Prop} (hQ : ∀ (c : Nat) (I : Nat → Nat → Int32), c ≤ n → FS I0 I → (∀ i, i < c → kindR b n (PSf b n i) (I 10 i) ∧ PSf b n i < n ∧ isSt b (PSf b n i)) → I 10 c = 0 → PSf b n c = n → (∀ i, i ≤ c → I 11 i = nI (PSf b n i)) → Q (fm I L D)) : wp_X8_scan 8 (fm I0 L D) Q := by
  have hn := hB.1
  unfold wp_X8_scan
  have f4 : FS I0 (up2 I0 8 4 0) := fun l k hl => up2_o (by omega)
  rw [gK, Kf_8]
  refine ⟨rfl, fun h2 e2 => ?_⟩
  rw [e2, g_stI]
  refine x_scanL hB (fun m I h1 hf hm hk hpl pn => ?_) fuel 0 0 _ (by omega) (by have := fuel_ge; omega) (by omega) f4 up2_s (fun i hi => by omega) (fun i hi => by omega) rfl
  have i81 : I 8 1 = nI n := (hf 8 1 (by omega)).trans hB.2.1
  have q1 : ∀ k v, up2 I 10 k v 8 4 = nI m := fun k v => (up2_o (by omega)).trans hm
  have q2 : ∀ k v, up2 I 10 k v 8 1 = nI n := fun k v => (up2_o (by omega)).trans i81
  simp only [gK, gI, gL, gR_, g_stI, g_stL, forall_eq, true_and, ad_s, okA_s, okO_s, okN_s, i10, i00, if_true, if_false, reduceCtorEq, Kf_1, Kf_400, Kf_8, Rf_8_2, Rf_8_3, Kf_10, Kf_11, hm, vp_in_nI (show m < 601 by omega) (show 601 < 2 ^ 31 by decide), nI_clamp (show m < 2 ^ 31 by omega), q1, q2]
  refine hQ m _ (by omega) (fun l k hl => ?_) (fun i hi => ?_) ?_ pn (fun i hi => ?_)
  · rw [up2_o (by omega), up2_o (by omega)]; exact hf l k hl
  · rw [up2_o (by omega), up2_o (by omega)]; exact hk i hi
  · rw [up2_o (by omega), up2_s]
  · by_cases ei : i = m
    · rw [ei, up2_s, pn]
    · rw [up2_o (by omega), up2_o (by omega)]; exact hpl i (by omega)
