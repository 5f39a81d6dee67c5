/-! THE TEXTS AT WORK over any heap of names (my own; made by gen81.py out of 59, 60, 78, 79, 80) -/
def TxS (RR : Nat → Nat → Option Nat) (KK : Nat → Nat × Nat) (t0 : Nat) : Prop := (∀ r, r < 7 → KK (20 + 8 * t0 + r) = Ktx r) ∧ (∀ k, k < 6 → RR (20 + 8 * t0) k = some (20 + 8 * t0 + 1 + k)) ∧ KK 13 = (28, 0) ∧ KK 14 = (1, 14) ∧ KK 15 = (1, 32) ∧ RR 13 0 = some 14 ∧ RR 13 1 = some 15
section WW
variable {L : Nat → Nat → Int64} {RR : Nat → Nat → Option Nat} {KK : Nat → Nat × Nat}
set_option maxRecDepth 4096 in
theorem xw_value_L {lo hi e t0 Bs : Nat} {op ar fx : Nat → Int32} (hWW : TxS RR KK t0) (hlo : lo < 100) (hhi : hi ≤ 14) (he : e ≤ 600) {K : Int32 → Hp → Prop} {Q : Int32 → Hp → Prop} : ∀ (N k : Nat) (t rt : List Nat) (st : List Int32) (I : Nat → Nat → Int32), (∀ j, j < e → I (20 + 8 * t0 + 5) j = stp (op (Bs + j)) (ar (Bs + j))) → I 14 = fx → k ≤ e → e < N + k → ck lo hi op ar (Bs + k) (e - k) t = some rt → st.length ≤ 32 → ty t st → stk (I (20 + 8 * t0 + 6)) st → (∀ I' : Nat → Nat → Int32, (∀ l k, l ≠ 20 + 8 * t0 + 6 → I' l k = I l k) → ty rt (ev op ar fx (Bs + k) (e - k) st) → stk (I' (20 + 8 * t0 + 6)) (ev op ar fx (Bs + k) (e - k) st) → K (nI (ev op ar fx (Bs + k) (e - k) st).length) (raw I' L RR KK)) → wp_X7_value_L6 (20 + 8 * t0) (nI e) (some 14) K Q N (nI st.length) (nI k) (raw I L RR KK) := by
  have kT : KK (20 + 8 * t0) = (25, 0) := hWW.1 0 (by decide)
  have k5 : KK (20 + 8 * t0 + 5) = (1, 600) := hWW.1 5 (by decide)
  have k6 : KK (20 + 8 * t0 + 6) = (1, 32) := hWW.1 6 (by decide)
  have r4 : RR (20 + 8 * t0) 4 = some (20 + 8 * t0 + 5) := hWW.2.1 4 (by decide)
  have r5 : RR (20 + 8 * t0) 5 = some (20 + 8 * t0 + 6) := hWW.2.1 5 (by decide)
  intro N
  induction N with
  | zero => intro k t rt st I _ _ h1 h2; omega
  | succ N ih =>
    intro k t rt st I hop hfx h1 h2 hck h32 hty hst hK
    rw [wp_X7_value_L6]
    by_cases hk : k = e
    · subst hk
      rw [if_pos (nI_le (Nat.le_refl _) (by omega))]
      rw [Nat.sub_self] at hck hK
      have : rt = t := (Option.some.inj hck).symm
      subst this
      exact hK I (fun _ _ _ => rfl) hty hst
    · rw [if_neg (nI_ge (by omega) (by omega))]
      have en : e - k = (e - (k + 1)) + 1 := by omega
      rw [en] at hck hK
      obtain ⟨t', hS, hR⟩ := ck_succ hck
      obtain ⟨hty', hc⟩ := step_cases (fx := fx) hS hlo (by omega) hty
      have hK : ∀ I' : Nat → Nat → Int32, (∀ l k, l ≠ 20 + 8 * t0 + 6 → I' l k = I l k) → ty rt (ev op ar fx (Bs + (k + 1)) (e - (k + 1)) (evS (op (Bs + k)) (ar (Bs + k)) fx st)) → stk (I' (20 + 8 * t0 + 6)) (ev op ar fx (Bs + (k + 1)) (e - (k + 1)) (evS (op (Bs + k)) (ar (Bs + k)) fx st)) → K (nI (ev op ar fx (Bs + (k + 1)) (e - (k + 1)) (evS (op (Bs + k)) (ar (Bs + k)) fx st)).length) (raw I' L RR KK) := hK
      have rest : ∀ (j : Nat) (v : Int32) (s2 : List Int32), evS (op (Bs + k)) (ar (Bs + k)) fx st = s2 → s2.length ≤ 32 → stk (up2 I (20 + 8 * t0 + 6) j v (20 + 8 * t0 + 6)) s2 → wp_X7_value_L6 (20 + 8 * t0) (nI e) (some 14) K Q N (nI s2.length) (nI (k + 1)) (raw (up2 I (20 + 8 * t0 + 6) j v) L RR KK) := by
        intro j v s2 e2 l2 hs2
        rw [e2] at hty' hK
        refine ih (k + 1) t' rt s2 _ (fun j hj => (up2_a (by omega)).trans (hop j hj)) ((up2_l (by omega)).trans hfx) (by omega) (by omega) hR l2 hty' hs2 (fun I' hf a1 a2 => hK I' (fun l k hl => ?_) a1 a2)
        rw [hf l k hl, up2_a hl]
      have k48 : k < 600 := by omega
      have es := hop k (by omega)
      simp only [rK, rI, rL, rR, raw_stI, raw_stL, forall_eq, true_and, ad_s, okA_s, okO_s, okN_s, i10, i00, if_true, if_false, reduceCtorEq, kT, r4, k5, vp_in_nI k48 (show 600 < 2 ^ 31 by decide), nI_clamp (show k < 2 ^ 31 by omega), es]
      rcases hc with ⟨o0, q1, ⟨w, hw, ew⟩, q2⟩ | ⟨o1, q1, ⟨w, hw1, hw2, ew⟩, q2⟩ | ⟨o9, x, r, q1, q2⟩ | ⟨oT, y, x, r, q1, q2, q3, q4⟩
      · have ev : stp (op (Bs + k)) (ar (Bs + k)) = -1 - nI w := by rw [o0, ew]; rfl
        obtain ⟨n1, n2⟩ := not_num hw
        rw [ev, if_pos n1]
        unfold wp_X7_value_J34
        rw [if_neg (show ¬ (32 : Int32) ≤ nI st.length from nI_ge (b := 32) q1 (by decide)), if_neg (Int32.not_le.mpr n1), n2]
        simp only [rK, rI, rL, rR, raw_stI, raw_stL, forall_eq, true_and, ad_s, okA_s, okO_s, okN_s, i10, i00, if_true, if_false, reduceCtorEq, kT, r5, k6, vp_in_nI q1 (show 32 < 2 ^ 31 by decide), nI_clamp (show st.length < 2 ^ 31 by omega), nI_1]
        rw [ew] at q2
        have := rest st.length (nI w) (nI w :: st) (by rw [ew]; exact q2) (by rw [List.length_cons]; omega) (stk_push hst)
        rw [List.length_cons] at this
        exact this
      · have ev : stp (op (Bs + k)) (ar (Bs + k)) = nI (265 + w) := by rw [o1, ew]; show (265 : Int32) + nI w = _; rw [show (265 : Int32) = nI 265 from rfl, nI_add]
        rw [ev, if_neg (nI_pos (by omega)), if_neg (show ¬ nI (265 + w) < (265 : Int32) from nI_nlt (b := 265) (by omega) (by omega))]
        unfold wp_X7_value_J34
        rw [if_neg (show ¬ (32 : Int32) ≤ nI st.length from nI_ge (b := 32) q1 (by decide)), if_pos (nI_pos' (by omega)), show nI (265 + w) - (265 : Int32) = nI w from by rw [show (265 : Int32) = nI 265 from rfl, nI_sb (by omega)]; congr 1; omega]
        simp only [rK, rI, rL, rR, raw_stI, raw_stL, forall_eq, true_and, ad_s, okA_s, okO_s, okN_s, i10, i00, if_true, if_false, reduceCtorEq, kT, r5, k6, hWW.2.2.2.1, vp_in_nI q1 (show 32 < 2 ^ 31 by decide), nI_clamp (show st.length < 2 ^ 31 by omega), vp_in_nI (show w < 14 by omega) (by decide), nI_clamp (show w < 2 ^ 31 by omega), nI_1, congrFun hfx]
        rw [ew, nI_clamp (by omega)] at q2
        have := rest st.length (fx w) (fx w :: st) (by rw [ew]; exact q2) (by rw [List.length_cons]; omega) (stk_push hst)
        rw [List.length_cons] at this
        exact this
      · subst q1
        have ev : stp (op (Bs + k)) (ar (Bs + k)) = 258 := by rw [o9]; rfl
        rw [ev, if_neg (show ¬ (258 : Int32) < 0 by decide), if_pos (show (258 : Int32) < 265 by decide), if_pos rfl]
        simp only [List.length_cons] at h32 ⊢
        rw [if_neg (nI_nle (by omega) (by omega))]
        have hx := hst.1
        simp only [rK, rI, rL, rR, raw_stI, raw_stL, forall_eq, true_and, ad_s, okA_s, okO_s, okN_s, i10, i00, if_true, if_false, reduceCtorEq, nI_pred, r5, k6, vp_in_nI (show r.length < 32 by omega) (by decide), nI_clamp (show r.length < 2 ^ 31 by omega), hx, nI_1]
        have := rest r.length (1 - x) ((1 - x) :: r) q2 (by rw [List.length_cons]; omega) (stk_push hst.2)
        rw [List.length_cons] at this
        exact this
      · subst q1
        obtain ⟨s0, s1, s2, s3⟩ := stp_two (a := ar (Bs + k)) oT
        rw [if_neg s1, if_pos s2, if_neg s3]
        simp only [List.length_cons] at h32 ⊢
        rw [if_neg (show ¬ nI (r.length + 1 + 1) ≤ (1 : Int32) from nI_ge (a := 1) (by omega) (by omega))]
        have hy : I (20 + 8 * t0 + 6) (r.length + 1) = y := hst.1
        have hx : I (20 + 8 * t0 + 6) r.length = x := hst.2.1
        simp only [rK, rI, rL, rR, raw_stI, raw_stL, forall_eq, true_and, ad_s, okA_s, okO_s, okN_s, i10, i00, if_true, if_false, reduceCtorEq, nI_m, nI_pred, r5, k6, vp_in_nI (show r.length < 32 by omega) (by decide), vp_in_nI (show r.length + 1 < 32 by omega) (by decide), nI_clamp (show r.length < 2 ^ 31 by omega), nI_clamp (show r.length + 1 < 2 ^ 31 by omega), hx, hy]
        rw [s0]
        refine x_combined oT q3 q4 ?_
        simp only [rK, rI, rL, rR, raw_stI, raw_stL, forall_eq, true_and, ad_s, okA_s, okO_s, okN_s, i10, i00, if_true, if_false, reduceCtorEq, k6, vp_in_nI (show r.length < 32 by omega) (by decide), nI_clamp (show r.length < 2 ^ 31 by omega), nI_1]
        have := rest r.length (two (op (Bs + k)) x y) (two (op (Bs + k)) x y :: r) q2 (by rw [List.length_cons]; omega) (stk_push hst.2.2)
        rw [List.length_cons] at this
        exact this
theorem xw_value {lo hi f e t0 Bs : Nat} {op ar : Nat → Int32} {I : Nat → Nat → Int32} {y : Nat} (hWW : TxS RR KK t0) (hlo : lo < 100) (hhi : hi ≤ 14) (hfe : f ≤ e) (he : e ≤ 600) (hop : ∀ j, j < e → I (20 + 8 * t0 + 5) j = stp (op (Bs + j)) (ar (Bs + j))) (hck : ck lo hi op ar (Bs + f) (e - f) [] = some [y]) {Q : Int32 → Hp → Prop} (hQ : ∀ I' : Nat → Nat → Int32, (∀ l k, l ≠ 20 + 8 * t0 + 6 → I' l k = I l k) → Q (wrt op ar (I 14) (Bs + f) (Bs + e)) (raw I' L RR KK)) : wp_X7_value (20 + 8 * t0) (nI f) (nI e) (some 14) (raw I L RR KK) Q := by
  have kT : KK (20 + 8 * t0) = (25, 0) := hWW.1 0 (by decide)
  have k6 : KK (20 + 8 * t0 + 6) = (1, 32) := hWW.1 6 (by decide)
  have r5 : RR (20 + 8 * t0) 5 = some (20 + 8 * t0 + 6) := hWW.2.1 5 (by decide)
  unfold wp_X7_value
  have hsub : Bs + e - (Bs + f) = e - f := by omega
  refine xw_value_L (lo := lo) (hi := hi) (op := op) (ar := ar) (Bs := Bs) hWW hlo hhi he fuel f [] [y] [] I hop rfl hfe (by have := fuel_ge; omega) hck (by decide) trivial trivial (fun I' hf h1 h2 => ?_)
  obtain ⟨v, ev1⟩ := ty_one h1
  rw [ev1] at h2 ⊢
  have e0 : I' (20 + 8 * t0 + 6) 0 = v := h2.1
  have hw : wrt op ar (I 14) (Bs + f) (Bs + e) = v := by unfold wrt; rw [hsub, ev1]; rfl
  have hq := hQ I' hf
  rw [hw] at hq
  show if nI 1 ≤ 0 then _ else _
  rw [if_neg (by decide)]
  simp only [rK, rI, rL, rR, raw_stI, raw_stL, forall_eq, true_and, ad_s, okA_s, okO_s, okN_s, i10, i00, if_true, if_false, reduceCtorEq, kT, r5, k6, show nI [v].length - (1 : Int32) = nI 0 from nI_pred 0, vp_in_nI (show 0 < 32 by decide) (by decide), nI_clamp (show 0 < 2 ^ 31 by decide), e0]
  exact hq
theorem xw_isSo {I : Nat → Nat → Int32} {t0 r lo hi i s e z : Nat} (hWW : TxS RR KK t0) (hlo : lo < 100) (hhi : hi ≤ 14) (hi16 : i < 16) (hse : s ≤ e) (hez : e ≤ z) (hz : z ≤ 600) (hop : ∀ k, k < z → I (20 + 8 * t0 + 5) k = stp (I 431 (600 * r + k)) (I 432 (600 * r + k))) (h3 : I (20 + 8 * t0 + 3) i = nI s) (h4 : I (20 + 8 * t0 + 4) i = nI e) (hck : s < e → ck lo hi (I 431) (I 432) (600 * r + s) (e - s) [] = some [1]) {Q : Int32 → Hp → Prop} (hQ : ∀ I' : Nat → Nat → Int32, (∀ l k, l ≠ 20 + 8 * t0 + 6 → I' l k = I l k) → Q (if s = e ∨ ¬ wrt (I 431) (I 432) (I 14) (600 * r + s) (600 * r + e) = 0 then 1 else 0) (raw I' L RR KK)) : wp_X7_isSo (20 + 8 * t0) (nI i) (some 14) (raw I L RR KK) Q := by
  have kT : KK (20 + 8 * t0) = (25, 0) := hWW.1 0 (by decide)
  have k3 : KK (20 + 8 * t0 + 3) = (1, 16) := hWW.1 3 (by decide)
  have k4 : KK (20 + 8 * t0 + 4) = (1, 16) := hWW.1 4 (by decide)
  have r2 : RR (20 + 8 * t0) 2 = some (20 + 8 * t0 + 3) := hWW.2.1 2 (by decide)
  have r3 : RR (20 + 8 * t0) 3 = some (20 + 8 * t0 + 4) := hWW.2.1 3 (by decide)
  unfold wp_X7_isSo
  simp only [rK, rI, rL, rR, raw_stI, raw_stL, forall_eq, true_and, ad_s, okA_s, okO_s, okN_s, i10, i00, if_true, if_false, reduceCtorEq, kT, k3, k4, r2, r3, vp_in_nI hi16 (show 16 < 2 ^ 31 by decide), nI_clamp (show i < 2 ^ 31 by omega), h3, h4, nI_eq (show s < 2 ^ 31 by omega) (show e < 2 ^ 31 by omega)]
  by_cases h0 : s = e
  · rw [if_pos h0]
    have := hQ I (fun _ _ _ => rfl)
    rw [if_pos (Or.inl h0)] at this
    exact this
  · rw [if_neg h0]
    refine xw_value (Bs := 600 * r) (op := I 431) (ar := I 432) hWW hlo hhi hse (by omega) (fun j hj => hop j (by omega)) (hck (by omega)) (fun I' hf => ?_)
    have := hQ I' hf
    by_cases hw : wrt (I 431) (I 432) (I 14) (600 * r + s) (600 * r + e) = 0
    · rw [if_pos hw]
      rw [if_neg (by rintro (q | q); exact h0 q; exact q hw)] at this
      exact this
    · rw [if_neg hw]
      rw [if_pos (Or.inr hw)] at this
      exact this
theorem xw_newHeight {I : Nat → Nat → Int32} {t0 n0 law : Nat} {F : Nat → Int32} {d : Int32} (hWW : TxS RR KK t0) (hT : TR I t0 0 0 8 0 3) (hn0 : I 426 0 = nI n0) (hn : n0 ≤ 16) (hlaw : law < 3) (hF : ∀ w, w < 8 → I 14 w = F w) {Q : Int32 → Hp → Prop} (hQ : ∀ I' : Nat → Nat → Int32, (∀ l k, l ≠ 20 + 8 * t0 + 6 → I' l k = I l k) → Q (hgL I F (nI law) d 0 n0) (raw I' L RR KK)) : wp_X7_newHeight (20 + 8 * t0) (nI (260 + law)) d (some 14) (raw I L RR KK) Q := by
  have kT : KK (20 + 8 * t0) = (25, 0) := hWW.1 0 (by decide)
  have k1 : KK (20 + 8 * t0 + 1) = (1, 16) := hWW.1 1 (by decide)
  have k2 : KK (20 + 8 * t0 + 2) = (1, 16) := hWW.1 2 (by decide)
  have k3 : KK (20 + 8 * t0 + 3) = (1, 16) := hWW.1 3 (by decide)
  have r0 : RR (20 + 8 * t0) 0 = some (20 + 8 * t0 + 1) := hWW.2.1 0 (by decide)
  have r1 : RR (20 + 8 * t0) 1 = some (20 + 8 * t0 + 2) := hWW.2.1 1 (by decide)
  have r2 : RR (20 + 8 * t0) 2 = some (20 + 8 * t0 + 3) := hWW.2.1 2 (by decide)
  obtain ⟨n1, z, h1, h2, h3, h4, h5, h6, h7, h8, h9⟩ := hT
  have e0 : n1 = n0 := (nI_eq (by omega) (by omega)).mp (h5.symm.trans hn0)
  subst e0
  generalize hV : hgL I F (nI law) d 0 n1 = V at hQ
  unfold wp_X7_newHeight
  generalize hK33 : (fun (y12 : Int32) (h11 : Hp) => ((hpK h11 (20 + 8 * t0)).1 = 20 + 5) ∧ (okA h11 (hpR h11 (20 + 8 * t0) 1) 1 y12 ∧ (∀ v15 : Int32, v15 = hpI h11 (ad (hpR h11 (20 + 8 * t0) 1)) (y12).toNatClampNeg → (okA h11 (hpR h11 (20 + 8 * t0) 2) 1 y12 ∧ (∀ v17 : Int32, v17 = hpI h11 (ad (hpR h11 (20 + 8 * t0) 2)) (y12).toNatClampNeg → (wp_X7_value (20 + 8 * t0) v15 v17 (some 14) h11 (fun (z19 : Int32) (h18 : Hp) => ∀ v20 : Int32, v20 = (if z19 < (63 : Int32) then z19 else (63 : Int32)) → (∀ v21 : Int32, v21 = (if (0 : Int32) < v20 then v20 else (0 : Int32)) → (Q v21 h18))))))))) = K33
  have key : ∀ (N i : Nat) (J : Nat → Nat → Int32), (∀ l k, l ≠ 20 + 8 * t0 + 6 → J l k = I l k) → i ≤ n1 → n1 < N + i → hgL I F (nI law) d i (n1 - i) = V → wp_X7_newHeight_L3 (20 + 8 * t0) (nI (260 + law)) d (some 14) K33 (fun (h22 : Hp) => Q d h22) Q N (nI i) (raw J L RR KK) := by
    intro N
    induction N with
    | zero => intro i J _ a1 a2; omega
    | succ N ih =>
      intro i J hJ a1 a2 hv
      rw [wp_X7_newHeight_L3]
      simp only [rK, rI, rR, kT, hJ (20 + 8 * t0) 7 (by omega), h3, true_and]
      by_cases hi : i = n1
      · subst hi
        rw [if_pos (nI_le (Nat.le_refl _) (by omega))]
        rw [Nat.sub_self] at hv
        have hv : d = _ := hv
        have q := hQ J hJ
        rw [← hv] at q
        exact q
      · rw [if_neg (nI_ge (by omega) (by omega))]
        rw [show n1 - i = (n1 - (i + 1)) + 1 by omega] at hv
        obtain ⟨f, s, e, so, q1, q2, q3, q4, q5, q6, q7, q8, q9, q10, q11, q12, q13, q14, q15⟩ := h9 i (by omega)
        rw [Nat.mul_zero, Nat.zero_add] at q6 q8 q10 q12
        obtain ⟨y, a3⟩ : ∃ y, ck 0 8 (I 431) (I 432) (600 * 0 + f) (s - f) [] = some [y] := q14.elim (fun zz => zz.2.elim (fun y zz => ⟨y, zz.2⟩)) (fun zz => absurd q5 (Nat.not_lt.mpr zz.1))
        clear q14
        have j31 : J 431 = I 431 := funext fun k => hJ 431 k (by omega)
        have j32 : J 432 = I 432 := funext fun k => hJ 432 k (by omega)
        have j14 : ∀ w, w < 8 → J 14 w = F w := fun w hw => (hJ 14 w (by omega)).trans (hF w hw)
        unfold hgL at hv
        rw [q6, q8, q10, q12, nI_clamp (by omega), nI_clamp (by omega), nI_clamp (by omega)] at hv
        have eso : (nI so = nI law) = (so = law) := propext (nI_eq (by omega) (by omega))
        have ehd : (nI (260 + so) = nI (260 + law)) = (so = law) := propext ⟨fun z => by have := (nI_eq (by omega) (by omega)).mp z; omega, fun z => by rw [z]⟩
        simp only [eso] at hv
        simp only [rK, rI, rL, rR, raw_stI, raw_stL, forall_eq, true_and, ad_s, okA_s, okO_s, okN_s, i10, i00, if_true, if_false, reduceCtorEq, r0, k1, vp_in_nI (show i < 16 by omega) (show 16 < 2 ^ 31 by decide), nI_clamp (show i < 2 ^ 31 by omega), hJ (20 + 8 * t0 + 1) i (by omega), q7, ehd]
        by_cases c1 : so = law
        · rw [if_pos c1]
          refine xw_isSo (r := 0) (s := s) (e := e) (z := z) (lo := 0) (hi := 8) hWW (by decide) (by decide) (by omega) q2 q3 h2 (fun k hk => ?_) (by rw [hJ _ _ (by omega)]; exact q11) (by rw [hJ _ _ (by omega)]; exact q13) (fun hh => by rw [j31, j32]; exact q15 hh) (fun J' hf => ?_)
          · rw [hJ _ _ (by omega), j31, j32]; exact h6 k hk
          · have hJ' : ∀ l k, l ≠ 20 + 8 * t0 + 6 → J' l k = I l k := fun l k hh => (hf l k hh).trans (hJ l k hh)
            rw [Nat.mul_zero, Nat.zero_add, Nat.zero_add, j31, j32]
            have ew : s < e → wrt (I 431) (I 432) (J 14) s e = wrt (I 431) (I 432) F s e := fun hh => by
              have := q15 hh
              rw [Nat.mul_zero, Nat.zero_add] at this
              exact wrt_F this j14
            have ec : (s = e ∨ ¬ wrt (I 431) (I 432) (J 14) s e = 0) = (s = e ∨ ¬ wrt (I 431) (I 432) F s e = 0) := by
              by_cases hse : s = e
              · exact propext ⟨fun _ => Or.inl hse, fun _ => Or.inl hse⟩
              · rw [ew (by omega)]
            simp only [ec]
            by_cases c2 : s = e ∨ ¬ wrt (I 431) (I 432) F s e = 0
            · rw [if_pos c2, if_neg (by decide)]
              rw [if_pos ⟨c1, c2⟩] at hv
              have j31' : J' 431 = I 431 := funext fun k => hJ' 431 k (by omega)
              have j32' : J' 432 = I 432 := funext fun k => hJ' 432 k (by omega)
              have j14' : ∀ w, w < 8 → J' 14 w = F w := fun w hw => (hJ' 14 w (by omega)).trans (hF w hw)
              rw [← hK33]
              simp only [rK, rI, rL, rR, raw_stI, raw_stL, forall_eq, true_and, ad_s, okA_s, okO_s, okN_s, i10, i00, if_true, if_false, reduceCtorEq, kT, r1, r2, k2, k3, vp_in_nI (show i < 16 by omega) (show 16 < 2 ^ 31 by decide), nI_clamp (show i < 2 ^ 31 by omega), hJ' (20 + 8 * t0 + 2) i (by omega), hJ' (20 + 8 * t0 + 3) i (by omega), q9, q11]
              refine xw_value (Bs := 600 * 0) (op := J' 431) (ar := J' 432) (lo := 0) (hi := 8) (y := y) hWW (by decide) (by decide) q1 (by omega) (fun j hj => ?_) (by rw [j31', j32']; exact a3) (fun J'' hf' => ?_)
              · rw [hJ' _ _ (by omega), j31', j32']; exact h6 j (by omega)
              · rw [Nat.mul_zero, Nat.zero_add, Nat.zero_add, j31', j32']
                rw [Nat.mul_zero, Nat.zero_add] at a3
                simp only [clH_x]
                rw [wrt_F a3 j14', hv]
                exact hQ J'' (fun l k hh => (hf' l k hh).trans (hJ' l k hh))
            · rw [if_neg c2, if_pos rfl]
              rw [if_neg (fun zz => c2 zz.2)] at hv
              try simp only [forall_eq, nI_1]
              exact ih (i + 1) J' hJ' (by omega) (by omega) hv
        · rw [if_neg c1]
          rw [if_neg (fun zz => c1 zz.1)] at hv
          try simp only [forall_eq, nI_1]
          exact ih (i + 1) J hJ (by omega) (by omega) hv
  exact key fuel 0 I (fun _ _ _ => rfl) (by omega) (by have := fuel_ge; omega) hV
theorem xw_tellHair {I : Nat → Nat → Int32} {i t0 : Nat} {v : Int32} (hWW : TxS RR KK t0) (hi : i < 32) {Q : Hp → Prop} (hQ : ∀ I' : Nat → Nat → Int32, (∀ l k, ¬ (l = 14 ∧ k < 5) → I' l k = I l k) → I' 14 0 = nI i → I' 14 1 = I 15 i → I' 14 2 = I 15 ((i + 31) % 32) → I' 14 3 = I 15 ((i + 1) % 32) → I' 14 4 = v → Q (raw I' L RR KK)) : wp_X10_tellHair 13 (nI i) v (raw I L RR KK) Q := by
  have e1 : nI i &&& (31 : Int32) = nI i := by rw [and31 (by omega), Nat.mod_eq_of_lt hi]
  have e2 : (nI i - (1 : Int32)) &&& (31 : Int32) = nI ((i + 31) % 32) := sm1 hi
  have e3 : (nI i + (1 : Int32)) &&& (31 : Int32) = nI ((i + 1) % 32) := by rw [nI_1, and31 (by omega)]
  have b2 : (i + 31) % 32 < 32 := Nat.mod_lt _ (by decide)
  have b3 : (i + 1) % 32 < 32 := Nat.mod_lt _ (by decide)
  have v0 : vp_in (0 : Int32) 14 := vp_in_nI (n := 0) (by decide) (by decide)
  have v1 : vp_in (1 : Int32) 14 := vp_in_nI (n := 1) (by decide) (by decide)
  have v2 : vp_in (2 : Int32) 14 := vp_in_nI (n := 2) (by decide) (by decide)
  have v3 : vp_in (3 : Int32) 14 := vp_in_nI (n := 3) (by decide) (by decide)
  have v4 : vp_in (4 : Int32) 14 := vp_in_nI (n := 4) (by decide) (by decide)
  have n0 : (0 : Int32).toNatClampNeg = 0 := by decide
  have n1 : (1 : Int32).toNatClampNeg = 1 := by decide
  have n2 : (2 : Int32).toNatClampNeg = 2 := by decide
  have n3 : (3 : Int32).toNatClampNeg = 3 := by decide
  have n4 : (4 : Int32).toNatClampNeg = 4 := by decide
  have o15 : ∀ (J : Nat → Nat → Int32) k v j, up2 J 14 k v 15 j = J 15 j := fun J k v j => up2_o (by omega)
  unfold wp_X10_tellHair
  simp only [rK, rI, rL, rR, raw_stI, raw_stL, forall_eq, true_and, ad_s, okA_s, okO_s, okN_s, i10, i00, if_true, if_false, reduceCtorEq, hWW.2.2.1, hWW.2.2.2.2.2.1, hWW.2.2.2.2.2.2, hWW.2.2.2.1, hWW.2.2.2.2.1, e1, e2, e3, v0, v1, v2, v3, v4, n0, n1, n2, n3, n4, vp_in_nI hi (show 32 < 2 ^ 31 by decide), vp_in_nI b2 (show 32 < 2 ^ 31 by decide), vp_in_nI b3 (show 32 < 2 ^ 31 by decide), nI_clamp (show i < 2 ^ 31 by omega), nI_clamp (show (i + 31) % 32 < 2 ^ 31 by omega), nI_clamp (show (i + 1) % 32 < 2 ^ 31 by omega), o15]
  refine hQ _ (fun l k hn => ?_) ?_ ?_ ?_ ?_ up2_s
  · rw [up2_o (by omega), up2_o (by omega), up2_o (by omega), up2_o (by omega), up2_o (by omega)]
  · rw [up2_o (by omega), up2_o (by omega), up2_o (by omega), up2_o (by omega), up2_s]
  · rw [up2_o (by omega), up2_o (by omega), up2_o (by omega), up2_s]
  · rw [up2_o (by omega), up2_o (by omega), up2_s]
  · rw [up2_o (by omega), up2_s]
theorem xw_change {I : Nat → Nat → Int32} {t0 n0 law ra : Nat} {p : Nat → Int32} {sh ru so s : Int32} (hWW : TxS RR KK t0) (ht8 : t0 < 8) (hT : TR I t0 0 0 8 0 3) (hn0 : I 426 0 = nI n0) (hn : n0 ≤ 16) (hlaw : law < 3) (kra : KK ra = (1, 32)) (hra : 100 ≤ ra ∧ ra < 400) (hp : ∀ j, j < 32 → I ra j = p j) (h5 : I 14 5 = sh) (h6 : I 14 6 = ru) (h7 : I 14 7 = so) {Q : Int32 → Hp → Prop} (hQ : ∀ I' : Nat → Nat → Int32, (∀ l k, ¬ (l = 14 ∨ l = 15 ∨ l = 20 + 8 * t0 + 6 ∨ (l = ra ∧ k < 32)) → I' l k = I l k) → (∀ j, j < 32 → I' ra j = nhF I p sh ru so (nI law) s n0 j) → I' 14 5 = sh → I' 14 6 = ru → I' 14 7 = so → Q (drN s 32) (raw I' L RR KK)) : wp_X7_change (20 + 8 * t0) (some ra) (nI (260 + law)) s (some 13) (raw I L RR KK) Q := by
  have kT : KK (20 + 8 * t0) = (25, 0) := hWW.1 0 (by decide)
  have key : ∀ (N i : Nat) (J : Nat → Nat → Int32), i ≤ 32 → 33 ≤ N + i → (∀ l k, ¬ (l = 14 ∨ l = 15 ∨ l = 20 + 8 * t0 + 6 ∨ (l = ra ∧ k < 32)) → J l k = I l k) → (∀ j, j < 32 → J 15 j = p j) → (∀ j, j < 32 → J ra j = if j < i then nhF I p sh ru so (nI law) s n0 j else p j) → J 14 5 = sh → J 14 6 = ru → J 14 7 = so → wp_X7_change_L19 (20 + 8 * t0) (some ra) (nI (260 + law)) (some 13) (fun y19 h18 => Q y19 h18) Q N (drN s i) (nI i) (raw J L RR KK) := by
    intro N
    induction N with
    | zero => intro i J h1 h2; omega
    | succ N ih =>
      intro i J h1 h2 hJ h15 hrow g5 g6 g7
      rw [wp_X7_change_L19]
      by_cases e : i = 32
      · subst e
        rw [if_pos (show (32 : Int32) ≤ nI 32 from by decide)]
        exact hQ J hJ (fun j hj => by rw [hrow j hj, if_pos hj]) g5 g6 g7
      · rw [if_neg (show ¬ (32 : Int32) ≤ nI i from nI_ge (b := 32) (by omega) (by decide))]
        have hi : i < 32 := by omega
        simp only [rK, rI, rL, rR, raw_stI, raw_stL, forall_eq, true_and, ad_s, okA_s, okO_s, okN_s, i10, i00, if_true, if_false, reduceCtorEq, hWW.2.2.1]
        refine xw_tellHair hWW hi (fun J1 f1 t0' t1 t2 t3 t4 => ?_)
        have e1 : J1 ra i = p i := by rw [f1 ra i (by omega), hrow i hi, if_neg (by omega)]
        simp only [rK, rI, rL, rR, raw_stI, raw_stL, forall_eq, true_and, ad_s, okA_s, okO_s, okN_s, i10, i00, if_true, if_false, reduceCtorEq, kra, hWW.2.2.1, hWW.2.2.2.2.2.1, kT, vp_in_nI hi (show 32 < 2 ^ 31 by decide), nI_clamp (show i < 2 ^ 31 by omega), e1]
        have fr : ∀ l k, ¬ (l = 14 ∨ l = 15 ∨ l = 20 + 8 * t0 + 6 ∨ (l = ra ∧ k < 32)) → J1 l k = I l k := fun l k z => (f1 l k (by omega)).trans (hJ l k z)
        have T1 : TR J1 t0 0 0 8 0 3 := TR_cg hT ⟨fr _ _ (by omega), fun i hi => ⟨fr _ _ (by omega), fr _ _ (by omega), fr _ _ (by omega), fr _ _ (by omega)⟩, fun k hk => ⟨fr _ _ (by omega), fr _ _ (by omega)⟩⟩ (fun k => fr _ _ (by omega)) (fun j k j1 j2 => fr _ _ (by omega))
        have FX := fx_of (G := J1 14) (p := p) (sh := sh) (ru := ru) (so := so) (d := drN s (i + 1)) (i := i) t0' (by rw [t1]; exact h15 i hi) (by rw [t2]; exact h15 _ (by omega)) (by rw [t3]; exact h15 _ (by omega)) t4 (by rw [f1 _ _ (by omega)]; exact g5) (by rw [f1 _ _ (by omega)]; exact g6) (by rw [f1 _ _ (by omega)]; exact g7)
        refine xw_newHeight (F := fxF p sh ru so i (drN s (i + 1))) hWW T1 ((fr _ _ (by omega)).trans hn0) hn hlaw FX (fun J2 f2 => ?_)
        have hv : hgL J1 (fxF p sh ru so i (drN s (i + 1))) (nI law) (p i) 0 n0 = nhF I p sh ru so (nI law) s n0 i := nhF_fun (J := J1) (I := I) (fun l a1 a2 => funext fun k => fr l k (by omega)) p sh ru so (nI law) s n0 i
        rw [hv]
        simp only [rK, rI, rL, rR, raw_stI, raw_stL, forall_eq, true_and, ad_s, okA_s, okO_s, okN_s, i10, i00, if_true, if_false, reduceCtorEq, kra, vp_in_nI hi (show 32 < 2 ^ 31 by decide), nI_clamp (show i < 2 ^ 31 by omega), nI_1]
        refine ih (i + 1) _ (by omega) (by omega) (fun l k z => ?_) (fun j hj => ?_) (fun j hj => ?_) ?_ ?_ ?_
        · rw [up2_o (by omega), f2 l k (by omega)]; exact fr l k z
        · rw [up2_o (by omega), f2 _ _ (by omega), f1 _ _ (by omega)]; exact h15 j hj
        · by_cases ej : j = i
          · subst ej; rw [up2_s, if_pos (by omega)]
          · rw [up2_o (by omega), f2 _ _ (by omega), f1 _ _ (by omega), hrow j hj]
            by_cases e2 : j < i
            · rw [if_pos e2, if_pos (by omega)]
            · rw [if_neg e2, if_neg (by omega)]
        · rw [up2_o (by omega), f2 _ _ (by omega), f1 _ _ (by omega)]; exact g5
        · rw [up2_o (by omega), f2 _ _ (by omega), f1 _ _ (by omega)]; exact g6
        · rw [up2_o (by omega), f2 _ _ (by omega), f1 _ _ (by omega)]; exact g7
  unfold wp_X7_change
  have ok : okC (raw I L RR KK) (some ra) 0 (RR 13 1) 0 32 := by
    refine ⟨rfl, ?_, by rw [hWW.2.2.2.2.2.2]; rfl, ?_, by decide, by decide, by decide, ?_, ?_⟩
    · show (KK ra).1 = 1; rw [kra]
    · rw [hWW.2.2.2.2.2.2]; show (KK 15).1 = 1; rw [hWW.2.2.2.2.1]
    · show _ ≤ (KK ra).2; rw [kra]; decide
    · rw [hWW.2.2.2.2.2.2]; show _ ≤ (KK 15).2; rw [hWW.2.2.2.2.1]; decide
  simp only [rK, rI, rL, rR, raw_stI, raw_stL, forall_eq, true_and, ad_s, okA_s, okO_s, okN_s, i10, i00, if_true, if_false, reduceCtorEq, hWW.2.2.1, ok, show (0 : Int32).toNatClampNeg = 0 from by decide, show (32 : Int32).toNatClampNeg = 32 from by decide]
  have ecp : cpI (raw I L RR KK) ra 15 0 0 32 = raw (fun b j => if b = 15 then va_cpy (I ra) (I 15) 0 0 32 j else I b j) L RR KK := rfl
  rw [hWW.2.2.2.2.2.2]
  simp only [ad_s, ecp]
  refine key fuel 0 _ (by omega) (by have := fuel_ge; omega) (fun l k z => ?_) (fun j hj => ?_) (fun j hj => ?_) ?_ ?_ ?_
  · rw [if_neg (by omega)]
  · rw [if_pos rfl, pk_cpy_in (by omega) (by omega), Nat.zero_add, Nat.sub_zero]; exact hp j hj
  · rw [if_neg (by omega), if_neg (by omega)]; exact hp j hj
  · rw [if_neg (by omega)]; exact h5
  · rw [if_neg (by omega)]; exact h6
  · rw [if_neg (by omega)]; exact h7
theorem xw_tellShot {I : Nat → Nat → Int32} {t0 : Nat} {a b c : Int32} (hWW : TxS RR KK t0) {Q : Hp → Prop} (hQ : ∀ I' : Nat → Nat → Int32, (∀ l k, ¬ (l = 14 ∧ 5 ≤ k ∧ k < 8) → I' l k = I l k) → I' 14 5 = a → I' 14 6 = b → I' 14 7 = c → Q (raw I' L RR KK)) : wp_X10_tellShot 13 a b c (raw I L RR KK) Q := by
  unfold wp_X10_tellShot
  simp only [rK, rI, rL, rR, raw_stI, raw_stL, forall_eq, true_and, ad_s, okA_s, okO_s, okN_s, i10, i00, if_true, if_false, reduceCtorEq, hWW.2.2.1, hWW.2.2.2.2.2.1, hWW.2.2.2.1, show vp_in (5 : Int32) 14 from vp_in_nI (n := 5) (by decide) (by decide), show vp_in (6 : Int32) 14 from vp_in_nI (n := 6) (by decide) (by decide), show vp_in (7 : Int32) 14 from vp_in_nI (n := 7) (by decide) (by decide), show (5 : Int32).toNatClampNeg = 5 from by decide, show (6 : Int32).toNatClampNeg = 6 from by decide, show (7 : Int32).toNatClampNeg = 7 from by decide]
  refine hQ _ (fun l k z => ?_) ?_ ?_ up2_s
  · rw [up2_o (by omega), up2_o (by omega), up2_o (by omega)]
  · rw [up2_o (by omega), up2_o (by omega), up2_s]
  · rw [up2_o (by omega), up2_s]
end WW
