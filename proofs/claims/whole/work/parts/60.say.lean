/-! WHAT A LOOKER SAYS (my own) -/
theorem ck_ask {lo hi : Nat} {op ar : Nat → Int32} (hlo : lo < 100) (hhi : hi < 100) : ∀ (n k : Nat) (t rt : List Nat), ck lo hi op ar k n t = some rt → ∀ j, k ≤ j → j < k + n → op j = 1 → ∃ w, lo ≤ w ∧ w < hi ∧ ar j = nI w := by
  intro n
  induction n with
  | zero => intro k t rt _ j h1 h2; omega
  | succ n ih =>
    intro k t rt h j h1 h2 ho
    obtain ⟨t', hS, hR⟩ := ck_succ h
    by_cases e : j = k
    · subst e
      rcases ckS_cases hS with ⟨e, -⟩ | ⟨e, h1, h2, h3, h4, h5⟩ | ⟨e, -⟩ | ⟨y, x, z, r, -, -, e⟩
      · rw [e] at ho; exact absurd ho (by decide)
      · obtain ⟨w, hw, ew⟩ := nI_of (Int32.not_lt.mpr h2)
        refine ⟨w, ?_, ?_, ew⟩
        · rw [ew] at h3
          by_cases q : lo ≤ w
          · exact q
          · exact absurd h3 (nI_ge (by omega) (by omega))
        · rw [ew] at h4
          exact (nI_ltI hw (by omega)).mp h4
      · rw [e] at ho; exact absurd ho (by decide)
      · exfalso
        rw [ho] at e
        rcases e with ⟨q, -⟩ | ⟨q | q | q, -⟩ | ⟨q | q | q, -⟩ | ⟨q | q, -⟩ <;> exact absurd q (by decide)
    · exact ih (k + 1) t' rt hR j (by omega) (by omega) ho
theorem wrt_fx {op ar fx fx' : Nat → Int32} {k e : Nat} (h : ∀ j, k ≤ j → j < e → op j = 1 → fx' (ar j).toNatClampNeg = fx (ar j).toNatClampNeg) : wrt op ar fx' k e = wrt op ar fx k e := by
  unfold wrt
  rw [ev_fx (e - k) k [] (fun j h1 h2 => h j h1 (by omega))]
theorem sayL_fx {I : Nat → Nat → Int32} {fx fx' : Nat → Int32} {t r slo shi : Nat} (hT : TR I t r 8 14 slo shi) (hs3 : 3 ≤ slo) {n0 : Nat} (hn0 : I 426 r = nI n0) (hn : n0 ≤ 16) (h : ∀ w, 8 ≤ w → w < 14 → (w = 11 → ¬ I (20 + 8 * t) 8 = 0) → fx' w = fx w) : ∀ (n i : Nat), i + n = n0 → sayL I fx' r i n = sayL I fx r i n := by
  obtain ⟨n1, z, h1, h2, h3, h4, h5, h6, h7, h8, h9⟩ := hT
  have e0 : n1 = n0 := (nI_eq (by omega) (by omega)).mp (h5.symm.trans hn0)
  subst e0
  intro n
  induction n with
  | zero => intro i hi; rfl
  | succ n ih =>
    intro i hi
    obtain ⟨f, s, e, so, q1, q2, q3, q4, q5, q6, q7, q8, q9, q10, q11, q12, q13, q14, q15⟩ := h9 i (by omega)
    have hse : s < e := by omega
    have w : wrt (I 431) (I 432) fx' (600 * r + s) (600 * r + e) = wrt (I 431) (I 432) fx (600 * r + s) (600 * r + e) := by
      refine wrt_fx (fun j b1 b2 ho => ?_)
      obtain ⟨w, w1, w2, ew⟩ := ck_ask (by decide) (by decide) _ _ _ _ (q15 hse) j b1 (by omega) ho
      rw [ew, nI_clamp (by omega)]
      refine h w w1 w2 (fun e11 e8 => ?_)
      have := h8 e8 (j - 600 * r) (by omega)
      rw [show 600 * r + (j - 600 * r) = j by omega] at this
      exact this ⟨ho, by rw [ew, e11]; rfl⟩
    unfold sayL
    rw [q10, q12, nI_clamp (by omega), nI_clamp (by omega), w, ih (i + 1) (by omega)]
section SA
variable {L : Nat → Nat → Int64} {D : DD}
/-- is the line i so -/
theorem x_isSo {I : Nat → Nat → Int32} {t0 r lo hi i s e z : Nat} (ht : t0 < 2 + D.nL) (hL6 : D.nL ≤ 6) (hlo : lo < 100) (hhi : hi ≤ 14) (hi16 : i < 16) (hse : s ≤ e) (hez : e ≤ z) (hz : z ≤ 600) (hop : ∀ k, k < z → I (20 + 8 * t0 + 5) k = stp (I 431 (600 * r + k)) (I 432 (600 * r + k))) (h3 : I (20 + 8 * t0 + 3) i = nI s) (h4 : I (20 + 8 * t0 + 4) i = nI e) (hck : s < e → ck lo hi (I 431) (I 432) (600 * r + s) (e - s) [] = some [1]) {Q : Int32 → Hp → Prop} (hQ : ∀ I' : Nat → Nat → Int32, (∀ l k, l ≠ 20 + 8 * t0 + 6 → I' l k = I l k) → Q (if s = e ∨ ¬ wrt (I 431) (I 432) (I 14) (600 * r + s) (600 * r + e) = 0 then 1 else 0) (fm I' L D)) : wp_X7_isSo (20 + 8 * t0) (nI i) (some 14) (fm I L D) Q := by
  have kT : Kf D (20 + 8 * t0) = (25, 0) := Kf_text (r := 0) ht hL6 (by decide)
  have k3 : Kf D (20 + 8 * t0 + 3) = (1, 16) := Kf_text (r := 3) ht hL6 (by decide)
  have k4 : Kf D (20 + 8 * t0 + 4) = (1, 16) := Kf_text (r := 4) ht hL6 (by decide)
  have r2 : Rf D (20 + 8 * t0) 2 = some (20 + 8 * t0 + 3) := Rf_text (k := 2) ht hL6 (by decide)
  have r3 : Rf D (20 + 8 * t0) 3 = some (20 + 8 * t0 + 4) := Rf_text (k := 3) ht hL6 (by decide)
  unfold wp_X7_isSo
  simp only [gK, gI, gL, gR_, g_stI, g_stL, forall_eq, true_and, ad_s, okA_s, okO_s, okN_s, i10, i00, if_true, if_false, reduceCtorEq, Kf_1, Kf_400, kT, k3, k4, r2, r3, vp_in_nI hi16 (show 16 < 2 ^ 31 by decide), nI_clamp (show i < 2 ^ 31 by omega), h3, h4, nI_eq (show s < 2 ^ 31 by omega) (show e < 2 ^ 31 by omega)]
  by_cases h0 : s = e
  · rw [if_pos h0]
    have := hQ I (fun _ _ _ => rfl)
    rw [if_pos (Or.inl h0)] at this
    exact this
  · rw [if_neg h0]
    refine x_value (Bs := 600 * r) (op := I 431) (ar := I 432) ht hL6 hlo hhi hse (by omega) (fun j hj => hop j (by omega)) (hck (by omega)) (fun I' hf => ?_)
    have := hQ I' hf
    by_cases hw : wrt (I 431) (I 432) (I 14) (600 * r + s) (600 * r + e) = 0
    · rw [if_pos hw]
      rw [if_neg (by rintro (q | q); exact h0 q; exact q hw)] at this
      exact this
    · rw [if_neg hw]
      rw [if_pos (Or.inr hw)] at this
      exact this
theorem x_judge_L {n0 : Nat} {I : Nat → Nat → Int32} {t0 l : Nat} (ht : t0 < 2 + D.nL) (hl : l < D.nL) (hL6 : D.nL ≤ 6) (htx : D.tx (2 + l) = t0) (hT : TR I t0 (1 + l) 8 14 3 5) (hn0 : I 426 (1 + l) = nI n0) (hn : n0 ≤ 16) {v : Nat} {K143 : Int32 → Hp → Prop} {K171 : Hp → Prop} {Q : Int32 → Hp → Prop} (h143 : ∀ (i : Nat) (J : Nat → Nat → Int32), (∀ l k, l ≠ 20 + 8 * t0 + 6 → J l k = I l k) → i < n0 → v = (if I 427 (16 * (1 + l) + i) = 3 then 1 else 0) → K143 (nI i) (fm J L D)) (h171 : ∀ J : Nat → Nat → Int32, (∀ l k, l ≠ 20 + 8 * t0 + 6 → J l k = I l k) → v = 2 → K171 (fm J L D)) : ∀ (N i : Nat) (J : Nat → Nat → Int32), (∀ l k, l ≠ 20 + 8 * t0 + 6 → J l k = I l k) → i ≤ n0 → n0 < N + i → sayL I (I 14) (1 + l) i (n0 - i) = v → wp_X3_judge_L114 (240 + 2 * l) (some 13) K143 K171 Q N (nI i) (fm J L D) := by
  have kT : Kf D (20 + 8 * t0) = (25, 0) := Kf_text (r := 0) ht hL6 (by decide)
  obtain ⟨n1, z, h1, h2, h3, h4, h5, h6, h7, h8, h9⟩ := hT
  have e0 : n1 = n0 := (nI_eq (by omega) (by omega)).mp (h5.symm.trans hn0)
  subst e0
  intro N
  induction N with
  | zero => intro i J _ a1 a2; omega
  | succ N ih =>
    intro i J hJ a1 a2 hv
    rw [wp_X3_judge_L114]
    simp only [gK, gI, gL, gR_, g_stI, g_stL, forall_eq, true_and, ad_s, okA_s, okO_s, okN_s, i10, i00, if_true, if_false, reduceCtorEq, Kf_1, Kf_400, Kf_look hl hL6, Rf_judg hl hL6, htx, kT, hJ (20 + 8 * t0) 7 (by omega), h3, Kf_13, Rf_13_0]
    by_cases hi : i = n1
    · subst hi
      rw [if_pos (nI_le (Nat.le_refl _) (by omega))]
      rw [Nat.sub_self] at hv
      exact h171 J hJ hv.symm
    · rw [if_neg (nI_ge (by omega) (by omega))]
      obtain ⟨f, s, e, so, q1, q2, q3, q4, q5, q6, q7, q8, q9, q10, q11, q12, q13, q14, q15⟩ := h9 i (by omega)
      have hse : s < e := by omega
      have j31 : J 431 = I 431 := funext fun k => hJ 431 k (by omega)
      have j32 : J 432 = I 432 := funext fun k => hJ 432 k (by omega)
      have j14 : J 14 = I 14 := funext fun k => hJ 14 k (by omega)
      refine x_isSo (r := 1 + l) (s := s) (e := e) (z := z) (lo := 8) (hi := 14) ht hL6 (by decide) (by decide) (by omega) q2 q3 h2 (fun k hk => ?_) (by rw [hJ _ _ (by omega)]; exact q11) (by rw [hJ _ _ (by omega)]; exact q13) (fun hh => by rw [j31, j32]; exact q15 hh) (fun J' hf => ?_)
      · rw [hJ _ _ (by omega), j31, j32]; exact h6 k hk
      · have hJ' : ∀ l k, l ≠ 20 + 8 * t0 + 6 → J' l k = I l k := fun l k hh => (hf l k hh).trans (hJ l k hh)
        rw [show n1 - i = (n1 - (i + 1)) + 1 by omega] at hv
        unfold sayL at hv
        rw [q10, q12, nI_clamp (by omega), nI_clamp (by omega)] at hv
        rw [j31, j32, j14]
        by_cases hw : wrt (I 431) (I 432) (I 14) (600 * (1 + l) + s) (600 * (1 + l) + e) = 0
        · rw [if_neg (show ¬ (s = e ∨ ¬ wrt (I 431) (I 432) (I 14) (600 * (1 + l) + s) (600 * (1 + l) + e) = 0) from fun q => q.elim (fun q => by omega) (fun q => q hw)), if_pos rfl]
          rw [if_neg (fun q => q hw)] at hv
          simp only [forall_eq, nI_1]
          exact ih (i + 1) J' hJ' (by omega) (by omega) hv
        · rw [if_pos (show (s = e ∨ ¬ wrt (I 431) (I 432) (I 14) (600 * (1 + l) + s) (600 * (1 + l) + e) = 0) from Or.inr hw), if_neg (by decide)]
          rw [if_pos hw] at hv
          exact h143 i J' hJ' (by omega) hv.symm
end SA
