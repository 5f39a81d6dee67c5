/-! TOKENS: the reference (my own) -/
def chM (q : Nat) : Nat := wordsL.getD q 0
def wmL : List Nat := [0, 4, 9, 14, 19, 23, 28, 31, 35, 38, 41, 46, 51, 57, 62, 68, 73, 78, 83, 91, 97, 104, 109, 114]
def wsM (k : Nat) : Nat := wmL.getD k 0
def wlM (k : Nat) : Nat := wsM (k + 1) - wsM k - 1
theorem wm_ok : ∀ k, k < 23 → wsM (k + 1) = wsM k + wlM k + 1 ∧ chM (wsM k + 1 + wlM k) = 32 ∧ wsM (k + 1) ≤ 114 ∧ (∀ j, j < wlM k → chM (wsM k + 1 + j) ≠ 32) ∧ wlM k = wlO (piW k) ∧ ∀ j, j < wlM k → chM (wsM k + 1 + j) = chW (wsO (piW k) + j) := by decide
theorem wm_23 : wsM 23 = 114 ∧ wsM 0 = 0 := by decide
theorem ch_128 : ∀ q, q < 115 → chM q < 128 := by decide
theorem piW_sur : ∀ w', w' < 23 → ∃ w, w < 23 ∧ piW w = w' := by decide
theorem nx_st (b : Nat → Nat) : ∀ f p, nx b f p < p + f → isSt b (nx b f p) := by
  intro f
  induction f with
  | zero => intro p h; unfold nx at h; omega
  | succ f ih =>
    intro p h
    unfold nx at h ⊢
    by_cases c : isSt b p
    · rw [if_pos c]; exact c
    · rw [if_neg c] at h ⊢
      exact ih (p + 1) (by omega)
theorem smr_stop (b : Nat → Nat) (s : Nat) : ∀ f q, smr b s f q < f → srt (b (q + smr b s f q)) ≠ s := by
  intro f
  induction f with
  | zero => intro q h; omega
  | succ f ih =>
    intro q h
    unfold smr at h ⊢
    by_cases c : srt (b q) = s
    · rw [if_pos c] at h ⊢
      have := ih (q + 1) (by omega)
      rw [show q + 1 + smr b s f (q + 1) = q + (smr b s f (q + 1) + 1) by omega] at this
      exact this
    · rw [if_neg c]; exact c
theorem nx_run (b : Nat → Nat) {s : Nat} (s0 : s ≠ 0) (s3 : s ≠ 3) : ∀ f q, 0 < q → srt (b (q - 1)) = s → nx b f q = nx b (f - smr b s f q) (q + smr b s f q) := by
  intro f
  induction f with
  | zero => intro q _ _; rfl
  | succ f ih =>
    intro q hq hs
    by_cases c : srt (b q) = s
    · have ns : ¬ isSt b q := by
        rintro (z | ⟨z1, z2⟩)
        · exact s3 (c.symm.trans z)
        · rcases z2 with z2 | z2
          · omega
          · exact z2 (hs.trans c.symm)
      have e1 : nx b (f + 1) q = nx b f (q + 1) := by
        rw [nx, if_neg ns]
      have e2 : smr b s (f + 1) q = smr b s f (q + 1) + 1 := by
        rw [smr, if_pos c]
      rw [e1, e2, ih (q + 1) (by omega) (by rw [Nat.add_sub_cancel]; exact c), show f + 1 - (smr b s f (q + 1) + 1) = f - smr b s f (q + 1) by omega, show q + 1 + smr b s f (q + 1) = q + (smr b s f (q + 1) + 1) by omega]
    · have e2 : smr b s (f + 1) q = 0 := by rw [smr, if_neg c]
      rw [e2]; rfl
def EPp (b : Nat → Nat) (n P : Nat) : Nat := if P < n then (if srt (b P) = 3 then P + 1 else P + runN b n P) else n
/-- a place from which only blanks may be skipped -/
def Bdy (b : Nat → Nat) (n q : Nat) : Prop := q < n → srt (b q) = 0 ∨ isSt b q
theorem Bdy_0 (b : Nat → Nat) (n : Nat) : Bdy b n 0 := by
  intro _
  by_cases c : srt (b 0) = 0
  · exact Or.inl c
  · exact Or.inr (Or.inr ⟨c, Or.inl rfl⟩)
theorem EP_ok {b : Nat → Nat} {n P : Nat} (hP : P < n) (hs : isSt b P) : EPp b n P ≤ n ∧ Bdy b n (EPp b n P) ∧ nx b (n - (P + 1)) (P + 1) = nx b (n - EPp b n P) (EPp b n P) := by
  have h0 : srt (b P) ≠ 0 := by
    rcases hs with z | z
    · omega
    · exact z.1
  unfold EPp
  rw [if_pos hP]
  by_cases c : srt (b P) = 3
  · rw [if_pos c]
    refine ⟨by omega, fun hq => ?_, rfl⟩
    by_cases d : srt (b (P + 1)) = 0
    · exact Or.inl d
    · refine Or.inr ?_
      by_cases d3 : srt (b (P + 1)) = 3
      · exact Or.inl d3
      · exact Or.inr ⟨d, Or.inr (by rw [Nat.add_sub_cancel, c]; exact fun z => d3 z.symm)⟩
  · rw [if_neg c]
    obtain ⟨r0, r1⟩ := runN_le (b := b) hP
    refine ⟨r1, fun hq => ?_, ?_⟩
    · have := smr_stop b (srt (b P)) (n - (P + 1)) (P + 1) (by unfold runN at hq; omega)
      rw [show P + 1 + smr b (srt (b P)) (n - (P + 1)) (P + 1) = P + runN b n P by unfold runN; omega] at this
      by_cases d : srt (b (P + runN b n P)) = 0
      · exact Or.inl d
      · refine Or.inr (Or.inr ⟨d, Or.inr ?_⟩)
        have e := runN_all (b := b) (n := n) (p := P) (j := runN b n P - 1) (by omega)
        rw [show P + runN b n P - 1 = P + (runN b n P - 1) by omega, e]
        exact fun z => this z.symm
    · have := nx_run b (s := srt (b P)) h0 c (n - (P + 1)) (P + 1) (by omega) (by rw [Nat.add_sub_cancel])
      rw [this]
      unfold runN
      rw [show n - (P + 1) - smr b (srt (b P)) (n - (P + 1)) (P + 1) = n - (P + (1 + smr b (srt (b P)) (n - (P + 1)) (P + 1))) by omega, show P + 1 + smr b (srt (b P)) (n - (P + 1)) (P + 1) = P + (1 + smr b (srt (b P)) (n - (P + 1)) (P + 1)) by omega]
def MB (I : Nat → Nat → Int32) (n : Nat) (b : Nat → Nat) : Prop := n ≤ 600 ∧ I 400 19 = nI n ∧ (∀ j, j < n → I 419 j = nI (b j) ∧ b j < 256) ∧ ∀ j, j < 115 → I 425 j = nI (chM j)
theorem MB.fr {I I' : Nat → Nat → Int32} {n : Nat} {b : Nat → Nat} (h : MB I n b) (hf : ∀ l k, ¬ (l = 400 ∧ 20 ≤ k ∧ k ≤ 23) → I' l k = I l k) : MB I' n b := by
  obtain ⟨h1, h2, h3, h4⟩ := h
  exact ⟨h1, (hf 400 19 (by omega)).trans h2, fun j hj => by rw [hf 419 j (by omega)]; exact h3 j hj, fun j hj => (hf 425 j (by omega)).trans (h4 j hj)⟩
def rawV (b : Nat → Nat) (n p : Nat) : Int32 := if p < n then nI (b p) else -1
section MK
variable {L : Nat → Nat → Int64} {D : DD} {I : Nat → Nat → Int32} {n : Nat} {b : Nat → Nat}
theorem m_raw (hB : MB I n b) {p : Nat} (hp : p < 2 ^ 31) {Q : Int32 → Hp → Prop} : wp_X12_raw 400 (nI p) (fm I L D) Q ↔ Q (rawV b n p) (fm I L D) := by
  obtain ⟨h1, h2, h3, -⟩ := hB
  unfold wp_X12_raw rawV
  simp only [gK, gI, gL, gR_, g_stI, g_stL, forall_eq, true_and, ad_s, okA_s, okO_s, okN_s, i10, i00, if_true, if_false, reduceCtorEq, Kf_1, Kf_400, h2]
  by_cases c : p < n
  · rw [if_neg (nI_ge c (by omega)), if_pos c]
    simp only [gK, gI, gL, gR_, g_stI, g_stL, forall_eq, true_and, ad_s, okA_s, okO_s, okN_s, i10, i00, if_true, if_false, reduceCtorEq, Kf_1, Kf_400, Rf_400_18, Kf_419, vp_in_nI (show p < 600 by omega) (show 600 < 2 ^ 31 by decide), nI_clamp hp, (h3 p c).1]
  · rw [if_pos (nI_le (by omega) hp), if_neg c]
theorem srt1 (v : Nat) : srt v = 1 ↔ ((97 ≤ v ∧ v ≤ 122) ∨ (65 ≤ v ∧ v ≤ 90)) := by
  unfold srt
  split
  · omega
  · split
    · simp only [true_iff]; assumption
    · split <;> omega
theorem srt2 (v : Nat) : srt v = 2 ↔ 48 ≤ v ∧ v ≤ 57 := by
  unfold srt
  split
  · omega
  · split
    · omega
    · split <;> omega
theorem m_isLetter {v : Nat} (hv : v < 256) {Q : Int32 → Hp → Prop} : wp_X12_isLetter 400 (nI v) (fm I L D) Q ↔ Q (if srt v = 1 then 1 else 0) (fm I L D) := by
  have l : ∀ c : Nat, c < 256 → ((nI v < nI c) = (v < c)) := fun c hc => propext (nI_ltI (by omega) (by omega))
  have g : ∀ c : Nat, c < 256 → ((nI c < nI v) = (c < v)) := fun c hc => propext (nI_ltI (by omega) (by omega))
  unfold wp_X12_isLetter wp_X12_isIn
  simp only [gK, gI, gL, gR_, g_stI, g_stL, forall_eq, true_and, ad_s, okA_s, okO_s, okN_s, i10, i00, if_true, if_false, reduceCtorEq, Kf_1, Kf_400, show (97 : Int32) = nI 97 from rfl, show (122 : Int32) = nI 122 from rfl, show (65 : Int32) = nI 65 from rfl, show (90 : Int32) = nI 90 from rfl, l 97 (by decide), l 65 (by decide), g 90 (by decide), g 122 (by decide)]
  by_cases c : srt v = 1
  · rw [if_pos c]
    rw [srt1] at c
    by_cases c1 : 97 ≤ v ∧ v ≤ 122
    · rw [if_neg (by omega), if_neg (by omega)]
    · rw [if_pos (by omega), if_neg (by omega), if_neg (by omega)]
  · rw [if_neg c]
    rw [srt1] at c
    by_cases c1 : v < 97
    · rw [if_pos c1]
      by_cases c2 : v < 65
      · rw [if_pos c2]
      · rw [if_neg c2, if_pos (by omega)]
    · rw [if_neg c1, if_pos (by omega), if_neg (by omega), if_pos (by omega)]
theorem m_isDigit {v : Nat} (hv : v < 256) {Q : Int32 → Hp → Prop} : wp_X12_isDigit 400 (nI v) (fm I L D) Q ↔ Q (if srt v = 2 then 1 else 0) (fm I L D) := by
  have l : ∀ c : Nat, c < 256 → ((nI v < nI c) = (v < c)) := fun c hc => propext (nI_ltI (by omega) (by omega))
  have g : ∀ c : Nat, c < 256 → ((nI c < nI v) = (c < v)) := fun c hc => propext (nI_ltI (by omega) (by omega))
  have z0 : okZ (0 : Int32) := ⟨rfl, rfl⟩
  have z1 : okZ (1 : Int32) := ⟨rfl, rfl⟩
  unfold wp_X12_isDigit wp_X12_isIn
  simp only [gK, gI, gL, gR_, g_stI, g_stL, forall_eq, true_and, ad_s, okA_s, okO_s, okN_s, i10, i00, if_true, if_false, reduceCtorEq, Kf_1, Kf_400, show (48 : Int32) = nI 48 from rfl, show (57 : Int32) = nI 57 from rfl, l 48 (by decide), g 57 (by decide), z0, z1]
  by_cases c : srt v = 2
  · rw [if_pos c]
    rw [srt2] at c
    rw [if_neg (by omega), if_neg (by omega)]
  · rw [if_neg c]
    rw [srt2] at c
    by_cases c1 : v < 48
    · rw [if_pos c1]
    · rw [if_neg c1, if_pos (by omega)]
theorem m_isLetterN {Q : Int32 → Hp → Prop} : wp_X12_isLetter 400 (-1) (fm I L D) Q ↔ Q 0 (fm I L D) := by
  unfold wp_X12_isLetter wp_X12_isIn
  simp only [gK, gI, gL, gR_, g_stI, g_stL, forall_eq, true_and, ad_s, okA_s, okO_s, okN_s, i10, i00, if_true, if_false, reduceCtorEq, Kf_1, Kf_400, show (-1 : Int32) < 97 by decide, show (-1 : Int32) < 65 by decide]
theorem m_isDigitN {Q : Int32 → Hp → Prop} : wp_X12_isDigit 400 (-1) (fm I L D) Q ↔ Q 0 (fm I L D) := by
  unfold wp_X12_isDigit wp_X12_isIn
  have z0 : okZ (0 : Int32) := ⟨rfl, rfl⟩
  simp only [gK, gI, gL, gR_, g_stI, g_stL, forall_eq, true_and, ad_s, okA_s, okO_s, okN_s, i10, i00, if_true, if_false, reduceCtorEq, Kf_1, Kf_400, show (-1 : Int32) < 48 by decide, z0]
theorem m_isMark {v : Nat} (hv : v < 256) {Q : Int32 → Hp → Prop} (h1 : sgn v → Q 1 (fm I L D)) (h0 : ¬ sgn v → Q 0 (fm I L D)) : wp_X12_isMarkSign 400 (nI v) (fm I L D) Q := by
  have eq : ∀ c : Nat, c < 256 → ((nI v = nI c) = (v = c)) := fun c hc => propext (nI_eq (by omega) (by omega))
  unfold wp_X12_isMarkSign
  simp only [show (59 : Int32) = nI 59 from rfl, show (43 : Int32) = nI 43 from rfl, show (45 : Int32) = nI 45 from rfl, show (42 : Int32) = nI 42 from rfl, show (47 : Int32) = nI 47 from rfl, show (40 : Int32) = nI 40 from rfl, show (41 : Int32) = nI 41 from rfl, show (60 : Int32) = nI 60 from rfl, show (61 : Int32) = nI 61 from rfl, show (62 : Int32) = nI 62 from rfl, eq 59 (by decide), eq 43 (by decide), eq 45 (by decide), eq 42 (by decide), eq 47 (by decide), eq 40 (by decide), eq 41 (by decide), eq 60 (by decide), eq 61 (by decide), eq 62 (by decide)]
  unfold sgn at h1 h0
  by_cases a1 : v = 59
  · rw [if_pos a1]; exact h1 (by omega)
  rw [if_neg a1]
  by_cases a2 : v = 43
  · rw [if_pos a2]; exact h1 (by omega)
  rw [if_neg a2]
  by_cases a3 : v = 45
  · rw [if_pos a3]; exact h1 (by omega)
  rw [if_neg a3]
  by_cases a4 : v = 42
  · rw [if_pos a4]; exact h1 (by omega)
  rw [if_neg a4]
  by_cases a5 : v = 47
  · rw [if_pos a5]; exact h1 (by omega)
  rw [if_neg a5]
  by_cases a6 : v = 40
  · rw [if_pos a6]; exact h1 (by omega)
  rw [if_neg a6]
  by_cases a7 : v = 41
  · rw [if_pos a7]; exact h1 (by omega)
  rw [if_neg a7]
  by_cases a8 : v = 60
  · rw [if_pos a8]; exact h1 (by omega)
  rw [if_neg a8]
  by_cases a9 : v = 61
  · rw [if_pos a9]; exact h1 (by omega)
  rw [if_neg a9]
  by_cases a10 : v = 62
  · rw [if_pos a10]; exact h1 (by omega)
  rw [if_neg a10]; exact h0 (by omega)
end MK
