/-! WORTH BY THE REFERENCE AND BY THE CLASS (my own) -/
theorem up2_l {α : Type} {J : Nat → Nat → α} {a b k : Nat} {v : α} (h : b ≠ a) : up2 J a k v b = J b := funext fun _ => up2_a h
theorem stk_push {I : Nat → Nat → Int32} {lab : Nat} {st : List Int32} {v : Int32} (h : stk (I lab) st) : stk (up2 I lab st.length v lab) (v :: st) := ⟨up2_s, stk_cg (fun k hk => up2_k (by omega)) h⟩
theorem nI_m {n : Nat} : nI (n + 1) + (-1 : Int32) = nI n := by rw [← Int32.sub_eq_add_neg, nI_pred]
theorem ix600 (r k : Nat) : ((600 : Int32) * nI r) + nI k = nI (600 * r + k) := by rw [show (600 : Int32) = nI 600 from rfl, pk_mul, nI_add]
section WO
variable {L : Nat → Nat → Int64} {D : DD}
theorem m_worth_L {lo hi e : Nat} {op ar fx : Nat → Int32} {x1 x3 : Int32} (hlo : lo < 100) (hhi : hi ≤ 14) (he : e ≤ 4800) (hE : ((600 : Int32) * x1) + x3 = nI e) {K : Hp → Prop} {Q : Int32 → Hp → Prop} : ∀ (N k : Nat) (t rt : List Nat) (st : List Int32) (I : Nat → Nat → Int32), I 431 = op → I 432 = ar → I 442 = fx → k ≤ e → e < N + k → ck lo hi op ar k (e - k) t = some rt → st.length ≤ 32 → ty t st → stk (I 443) st → (∀ I' : Nat → Nat → Int32, (∀ l k, l ≠ 443 → I' l k = I l k) → ty rt (ev op ar fx k (e - k) st) → stk (I' 443) (ev op ar fx k (e - k) st) → K (fm I' L D)) → wp_X12_worth_L12 400 x1 x3 K Q N (nI st.length) (nI k) (fm I L D) := by
  intro N
  induction N with
  | zero => intro k t rt st I _ _ _ h1 h2; omega
  | succ N ih =>
    intro k t rt st I hop har hfx h1 h2 hck h32 hty hst hK
    rw [wp_X12_worth_L12, hE]
    by_cases hk : k = e
    · subst hk
      rw [if_pos (nI_le (Nat.le_refl _) (by omega))]
      rw [Nat.sub_self] at hck hK
      have : rt = t := (Option.some.inj hck).symm
      subst this
      exact hK I (fun _ _ _ => rfl) hty hst
    · rw [if_neg (nI_ge (by omega) (by omega))]
      have en : e - k = (e - (k + 1)) + 1 := by omega
      rw [en] at hck hK
      obtain ⟨t', hS, hR⟩ := ck_succ hck
      have lsz : st.length = t.length := (ty_len hty).symm
      obtain ⟨hty', hc⟩ := step_cases (fx := fx) hS hlo (by omega) hty
      have hK : ∀ I' : Nat → Nat → Int32, (∀ l k, l ≠ 443 → I' l k = I l k) → ty rt (ev op ar fx (k + 1) (e - (k + 1)) (evS (op k) (ar k) fx st)) → stk (I' 443) (ev op ar fx (k + 1) (e - (k + 1)) (evS (op k) (ar k) fx st)) → K (fm I' L D) := hK
      -- the rest, behind a step that leaves the stack s2
      have rest : ∀ (j : Nat) (v : Int32) (s2 : List Int32), evS (op k) (ar k) fx st = s2 → s2.length ≤ 32 → stk (up2 I 443 j v 443) s2 → wp_X12_worth_L12 400 x1 x3 K Q N (nI s2.length) (nI (k + 1)) (fm (up2 I 443 j v) L D) := by
        intro j v s2 e2 l2 hs2
        rw [e2] at hty' hK
        refine ih (k + 1) t' rt s2 _ ((up2_l (by omega)).trans hop) ((up2_l (by omega)).trans har) ((up2_l (by omega)).trans hfx) (by omega) (by omega) hR l2 hty' hs2 (fun I' hf a1 a2 => hK I' (fun l k hl => ?_) a1 a2)
        rw [hf l k hl, up2_a hl]
      have k48 : k < 4800 := by omega
      have eo : I 431 k = op k := congrFun hop k
      have ea : I 432 k = ar k := congrFun har k
      simp only [gK, gI, gL, gR_, g_stI, g_stL, forall_eq, true_and, ad_s, okA_s, okO_s, okN_s, i10, i00, if_true, if_false, reduceCtorEq, Kf_1, Kf_400, Rf_400_30, Rf_400_31, Rf_400_41, Rf_400_42, Kf_431, Kf_432, Kf_442, Kf_443, vp_in_nI k48 (show 4800 < 2 ^ 31 by decide), nI_clamp (show k < 2 ^ 31 by omega), eo]
      rcases hc with ⟨o0, q1, ⟨w, hw, ew⟩, q2⟩ | ⟨o1, q1, ⟨w, hw1, hw2, ew⟩, q2⟩ | ⟨o9, x, r, q1, q2⟩ | ⟨oT, y, x, r, q1, q2, q3, q4⟩
      · rw [if_pos o0]
        unfold wp_X12_worth_J45 wp_X12_worth_J83
        simp only [gK, gI, gL, gR_, g_stI, g_stL, forall_eq, true_and, ad_s, okA_s, okO_s, okN_s, i10, i00, if_true, if_false, reduceCtorEq, Kf_1, Kf_400, Rf_400_30, Rf_400_31, Rf_400_41, Rf_400_42, Kf_431, Kf_432, Kf_442, Kf_443, vp_in_nI k48 (show 4800 < 2 ^ 31 by decide), nI_clamp (show k < 2 ^ 31 by omega), eo, ea, o0, vp_in_nI (show st.length < 620 by omega) (by decide), nI_clamp (show st.length < 2 ^ 31 by omega), nI_1]
        have := rest st.length (ar k) (ar k :: st) q2 (by rw [List.length_cons]; omega) (stk_push hst)
        rw [List.length_cons] at this
        exact this
      · rw [if_neg (by rw [o1]; decide), if_pos o1]
        unfold wp_X12_worth_J45 wp_X12_worth_J83
        have e0 : ¬ (1 : Int32) = 0 := by decide
        have ew' : (ar k).toNatClampNeg = w := by rw [ew, nI_clamp (by omega)]
        have vw : vp_in (ar k) 14 := by rw [ew]; exact vp_in_nI (by omega) (by decide)
        simp only [gK, gI, gL, gR_, g_stI, g_stL, forall_eq, true_and, ad_s, okA_s, okO_s, okN_s, i10, i00, if_true, if_false, reduceCtorEq, Kf_1, Kf_400, Rf_400_30, Rf_400_31, Rf_400_41, Rf_400_42, Kf_431, Kf_432, Kf_442, Kf_443, vp_in_nI k48 (show 4800 < 2 ^ 31 by decide), nI_clamp (show k < 2 ^ 31 by omega), eo, ea, o1, vp_in_nI (show st.length < 620 by omega) (by decide), nI_clamp (show st.length < 2 ^ 31 by omega), nI_1, vw, congrFun hfx]
        have := rest st.length (fx (ar k).toNatClampNeg) (fx (ar k).toNatClampNeg :: st) q2 (by rw [List.length_cons]; omega) (stk_push hst)
        rw [List.length_cons] at this
        exact this
      · subst q1
        rw [if_neg (by rw [o9]; decide), if_neg (by rw [o9]; decide), if_pos o9]
        simp only [List.length_cons] at lsz ⊢
        rw [List.length_cons] at h32
        have lr : r.length < 620 := by omega
        have hx := hst.1
        simp only [gK, gI, gL, gR_, g_stI, g_stL, forall_eq, true_and, ad_s, okA_s, okO_s, okN_s, i10, i00, if_true, if_false, reduceCtorEq, Kf_1, Kf_400, nI_pred, Rf_400_42, Kf_443, vp_in_nI lr (by decide), nI_clamp (show r.length < 2 ^ 31 by omega), hx, nI_1]
        have := rest r.length (1 - x) ((1 - x) :: r) q2 (by rw [List.length_cons]; omega) (stk_push hst.2)
        rw [List.length_cons] at this
        exact this
      · subst q1
        obtain ⟨n0, n1, n9⟩ := isTwo_ne oT
        rw [if_neg n0, if_neg n1, if_neg n9]
        simp only [List.length_cons] at h32 ⊢
        have hy : I 443 (r.length + 1) = y := hst.1
        have hx : I 443 r.length = x := hst.2.1
        simp only [gK, gI, gL, gR_, g_stI, g_stL, forall_eq, true_and, ad_s, okA_s, okO_s, okN_s, i10, i00, if_true, if_false, reduceCtorEq, Kf_1, Kf_400, nI_pred, Rf_400_30, Kf_431, vp_in_nI k48 (show 4800 < 2 ^ 31 by decide), nI_clamp (show k < 2 ^ 31 by omega), Rf_400_42, Kf_443, vp_in_nI (show r.length < 620 by omega) (by decide), vp_in_nI (show r.length + 1 < 620 by omega) (by decide), nI_clamp (show r.length < 2 ^ 31 by omega), nI_clamp (show r.length + 1 < 2 ^ 31 by omega), hx, hy, eo]
        refine m_twoOf oT q3 ?_
        simp only [gK, gI, gL, gR_, g_stI, g_stL, forall_eq, true_and, ad_s, okA_s, okO_s, okN_s, i10, i00, if_true, if_false, reduceCtorEq, Kf_1, Kf_400, Kf_443, vp_in_nI (show r.length < 620 by omega) (by decide), nI_clamp (show r.length < 2 ^ 31 by omega), nI_1]
        have := rest r.length (two (op k) x y) (two (op k) x y :: r) q2 (by rw [List.length_cons]; omega) (stk_push hst.2.2)
        rw [List.length_cons] at this
        exact this
theorem ty_one {y : Nat} {s : List Int32} (h : ty [y] s) : ∃ v, s = [v] := by
  obtain ⟨v, s', e1, e2, e3⟩ := ty_cons h
  cases s' with
  | nil => exact ⟨v, e1⟩
  | cons z r => exact e3.elim
theorem m_worth {lo hi r f e : Nat} {I : Nat → Nat → Int32} {y : Nat} (hlo : lo < 100) (hhi : hi ≤ 14) (hfe : f ≤ e) (he : 600 * r + e ≤ 4800) (hck : ck lo hi (I 431) (I 432) (600 * r + f) (e - f) [] = some [y]) {Q : Int32 → Hp → Prop} (hQ : ∀ I' : Nat → Nat → Int32, (∀ l k, l ≠ 443 → I' l k = I l k) → Q (wrt (I 431) (I 432) (I 442) (600 * r + f) (600 * r + e)) (fm I' L D)) : wp_X12_worth 400 (nI r) (nI f) (nI e) (fm I L D) Q := by
  unfold wp_X12_worth
  simp only [forall_eq, ix600]
  have hsub : 600 * r + e - (600 * r + f) = e - f := by omega
  refine m_worth_L (lo := lo) (hi := hi) hlo hhi he (ix600 r e) fuel (600 * r + f) [] [y] [] I rfl rfl rfl (by omega) (by have := fuel_ge; omega) (by rw [hsub]; exact hck) (by decide) trivial trivial (fun I' hf h1 h2 => ?_)
  rw [hsub] at h1 h2
  obtain ⟨v, ev1⟩ := ty_one h1
  rw [ev1] at h2
  have e0 : I' 443 0 = v := h2.1
  have hw : wrt (I 431) (I 432) (I 442) (600 * r + f) (600 * r + e) = v := by unfold wrt; rw [hsub, ev1]; rfl
  have hq := hQ I' hf
  rw [hw] at hq
  simp only [gK, gI, gL, gR_, g_stI, g_stL, forall_eq, true_and, ad_s, okA_s, okO_s, okN_s, i10, i00, if_true, if_false, reduceCtorEq, Kf_1, Kf_400, Rf_400_42, Kf_443, show vp_in (0 : Int32) 620 from vp_in_nI (n := 0) (by decide) (by decide), show (0 : Int32).toNatClampNeg = 0 from rfl, e0]
  exact hq
/-! the class -/
theorem not_num {w : Nat} (hw : w < 2 ^ 31) : (-1 - nI w : Int32) < 0 ∧ (-1 - nI w : Int32) ^^^ (-1 : Int32) = nI w := by
  have e : (-1 - nI w : Int32) = ~~~ (nI w) := by rw [Int32.not_eq_neg_add, Int32.sub_eq_add_neg, Int32.sub_eq_add_neg, Int32.add_comm]
  have x1 : ∀ z : Int32, z ^^^ (-1 : Int32) = ~~~ z := fun z => Int32.toBitVec_inj.1 (by
    show z.toBitVec ^^^ BitVec.allOnes 32 = ~~~ z.toBitVec
    exact BitVec.xor_allOnes)
  refine ⟨?_, by rw [e, x1, Int32.not_not]⟩
  rw [Int32.lt_iff_toInt_lt, e, Int32.toInt_not, nI_toInt hw]
  show Int.bmod (-(w : Int) - 1) (2 ^ 32) < 0
  rw [Int.bmod_eq_of_le (by omega) (by omega)]
  omega
theorem stp_2 (a : Int32) : stp 2 a = 43 := rfl
theorem stp_3 (a : Int32) : stp 3 a = 45 := rfl
theorem stp_4 (a : Int32) : stp 4 a = 42 := rfl
theorem stp_5 (a : Int32) : stp 5 a = 47 := rfl
theorem stp_6 (a : Int32) : stp 6 a = 60 := rfl
theorem stp_7 (a : Int32) : stp 7 a = 61 := rfl
theorem stp_8 (a : Int32) : stp 8 a = 62 := rfl
theorem stp_10 (a : Int32) : stp 10 a = 257 := rfl
theorem stp_11 (a : Int32) : stp 11 a = 256 := rfl
theorem stp_two {o a : Int32} (h : isTwo o) : stp o a = stp o 0 ∧ ¬ stp o a < 0 ∧ stp o a < 265 ∧ ¬ stp o a = 258 := by
  rcases h with h | h | h | h | h | h | h | h | h <;> (subst h; simp only [stp_2, stp_3, stp_4, stp_5, stp_6, stp_7, stp_8, stp_10, stp_11]; decide)
set_option maxRecDepth 4096 in
theorem x_value_L {lo hi e t0 Bs : Nat} {op ar fx : Nat → Int32} (ht : t0 < 2 + D.nL) (hL6 : D.nL ≤ 6) (hlo : lo < 100) (hhi : hi ≤ 14) (he : e ≤ 600) {K : Int32 → Hp → Prop} {Q : Int32 → Hp → Prop} : ∀ (N k : Nat) (t rt : List Nat) (st : List Int32) (I : Nat → Nat → Int32), (∀ j, j < e → I (20 + 8 * t0 + 5) j = stp (op (Bs + j)) (ar (Bs + j))) → I 14 = fx → k ≤ e → e < N + k → ck lo hi op ar (Bs + k) (e - k) t = some rt → st.length ≤ 32 → ty t st → stk (I (20 + 8 * t0 + 6)) st → (∀ I' : Nat → Nat → Int32, (∀ l k, l ≠ 20 + 8 * t0 + 6 → I' l k = I l k) → ty rt (ev op ar fx (Bs + k) (e - k) st) → stk (I' (20 + 8 * t0 + 6)) (ev op ar fx (Bs + k) (e - k) st) → K (nI (ev op ar fx (Bs + k) (e - k) st).length) (fm I' L D)) → wp_X7_value_L6 (20 + 8 * t0) (nI e) (some 14) K Q N (nI st.length) (nI k) (fm I L D) := by
  have kT : Kf D (20 + 8 * t0) = (25, 0) := Kf_text (r := 0) ht hL6 (by decide)
  have k5 : Kf D (20 + 8 * t0 + 5) = (1, 600) := Kf_text (r := 5) ht hL6 (by decide)
  have k6 : Kf D (20 + 8 * t0 + 6) = (1, 32) := Kf_text (r := 6) ht hL6 (by decide)
  have r4 : Rf D (20 + 8 * t0) 4 = some (20 + 8 * t0 + 5) := Rf_text (k := 4) ht hL6 (by decide)
  have r5 : Rf D (20 + 8 * t0) 5 = some (20 + 8 * t0 + 6) := Rf_text (k := 5) ht hL6 (by decide)
  intro N
  induction N with
  | zero => intro k t rt st I _ _ h1 h2; omega
  | succ N ih =>
    intro k t rt st I hop hfx h1 h2 hck h32 hty hst hK
    rw [wp_X7_value_L6]
    by_cases hk : k = e
    · subst hk
      rw [if_pos (nI_le (Nat.le_refl _) (by omega))]
      rw [Nat.sub_self] at hck hK
      have : rt = t := (Option.some.inj hck).symm
      subst this
      exact hK I (fun _ _ _ => rfl) hty hst
    · rw [if_neg (nI_ge (by omega) (by omega))]
      have en : e - k = (e - (k + 1)) + 1 := by omega
      rw [en] at hck hK
      obtain ⟨t', hS, hR⟩ := ck_succ hck
      obtain ⟨hty', hc⟩ := step_cases (fx := fx) hS hlo (by omega) hty
      have hK : ∀ I' : Nat → Nat → Int32, (∀ l k, l ≠ 20 + 8 * t0 + 6 → I' l k = I l k) → ty rt (ev op ar fx (Bs + (k + 1)) (e - (k + 1)) (evS (op (Bs + k)) (ar (Bs + k)) fx st)) → stk (I' (20 + 8 * t0 + 6)) (ev op ar fx (Bs + (k + 1)) (e - (k + 1)) (evS (op (Bs + k)) (ar (Bs + k)) fx st)) → K (nI (ev op ar fx (Bs + (k + 1)) (e - (k + 1)) (evS (op (Bs + k)) (ar (Bs + k)) fx st)).length) (fm I' L D) := hK
      have rest : ∀ (j : Nat) (v : Int32) (s2 : List Int32), evS (op (Bs + k)) (ar (Bs + k)) fx st = s2 → s2.length ≤ 32 → stk (up2 I (20 + 8 * t0 + 6) j v (20 + 8 * t0 + 6)) s2 → wp_X7_value_L6 (20 + 8 * t0) (nI e) (some 14) K Q N (nI s2.length) (nI (k + 1)) (fm (up2 I (20 + 8 * t0 + 6) j v) L D) := by
        intro j v s2 e2 l2 hs2
        rw [e2] at hty' hK
        refine ih (k + 1) t' rt s2 _ (fun j hj => (up2_a (by omega)).trans (hop j hj)) ((up2_l (by omega)).trans hfx) (by omega) (by omega) hR l2 hty' hs2 (fun I' hf a1 a2 => hK I' (fun l k hl => ?_) a1 a2)
        rw [hf l k hl, up2_a hl]
      have k48 : k < 600 := by omega
      have es := hop k (by omega)
      simp only [gK, gI, gL, gR_, g_stI, g_stL, forall_eq, true_and, ad_s, okA_s, okO_s, okN_s, i10, i00, if_true, if_false, reduceCtorEq, Kf_1, Kf_400, kT, r4, k5, vp_in_nI k48 (show 600 < 2 ^ 31 by decide), nI_clamp (show k < 2 ^ 31 by omega), es]
      rcases hc with ⟨o0, q1, ⟨w, hw, ew⟩, q2⟩ | ⟨o1, q1, ⟨w, hw1, hw2, ew⟩, q2⟩ | ⟨o9, x, r, q1, q2⟩ | ⟨oT, y, x, r, q1, q2, q3, q4⟩
      · have ev : stp (op (Bs + k)) (ar (Bs + k)) = -1 - nI w := by rw [o0, ew]; rfl
        obtain ⟨n1, n2⟩ := not_num hw
        rw [ev, if_pos n1]
        unfold wp_X7_value_J34
        rw [if_neg (show ¬ (32 : Int32) ≤ nI st.length from nI_ge (b := 32) q1 (by decide)), if_neg (Int32.not_le.mpr n1), n2]
        simp only [gK, gI, gL, gR_, g_stI, g_stL, forall_eq, true_and, ad_s, okA_s, okO_s, okN_s, i10, i00, if_true, if_false, reduceCtorEq, Kf_1, Kf_400, kT, r5, k6, vp_in_nI q1 (show 32 < 2 ^ 31 by decide), nI_clamp (show st.length < 2 ^ 31 by omega), nI_1]
        rw [ew] at q2
        have := rest st.length (nI w) (nI w :: st) (by rw [ew]; exact q2) (by rw [List.length_cons]; omega) (stk_push hst)
        rw [List.length_cons] at this
        exact this
      · have ev : stp (op (Bs + k)) (ar (Bs + k)) = nI (265 + w) := by rw [o1, ew]; show (265 : Int32) + nI w = _; rw [show (265 : Int32) = nI 265 from rfl, nI_add]
        rw [ev, if_neg (nI_pos (by omega)), if_neg (show ¬ nI (265 + w) < (265 : Int32) from nI_nlt (b := 265) (by omega) (by omega))]
        unfold wp_X7_value_J34
        rw [if_neg (show ¬ (32 : Int32) ≤ nI st.length from nI_ge (b := 32) q1 (by decide)), if_pos (nI_pos' (by omega)), show nI (265 + w) - (265 : Int32) = nI w from by rw [show (265 : Int32) = nI 265 from rfl, nI_sb (by omega)]; congr 1; omega]
        simp only [gK, gI, gL, gR_, g_stI, g_stL, forall_eq, true_and, ad_s, okA_s, okO_s, okN_s, i10, i00, if_true, if_false, reduceCtorEq, Kf_1, Kf_400, kT, r5, k6, Kf_14, vp_in_nI q1 (show 32 < 2 ^ 31 by decide), nI_clamp (show st.length < 2 ^ 31 by omega), vp_in_nI (show w < 14 by omega) (by decide), nI_clamp (show w < 2 ^ 31 by omega), nI_1, congrFun hfx]
        rw [ew, nI_clamp (by omega)] at q2
        have := rest st.length (fx w) (fx w :: st) (by rw [ew]; exact q2) (by rw [List.length_cons]; omega) (stk_push hst)
        rw [List.length_cons] at this
        exact this
      · subst q1
        have ev : stp (op (Bs + k)) (ar (Bs + k)) = 258 := by rw [o9]; rfl
        rw [ev, if_neg (show ¬ (258 : Int32) < 0 by decide), if_pos (show (258 : Int32) < 265 by decide), if_pos rfl]
        simp only [List.length_cons] at h32 ⊢
        rw [if_neg (nI_nle (by omega) (by omega))]
        have hx := hst.1
        simp only [gK, gI, gL, gR_, g_stI, g_stL, forall_eq, true_and, ad_s, okA_s, okO_s, okN_s, i10, i00, if_true, if_false, reduceCtorEq, Kf_1, Kf_400, nI_pred, r5, k6, vp_in_nI (show r.length < 32 by omega) (by decide), nI_clamp (show r.length < 2 ^ 31 by omega), hx, nI_1]
        have := rest r.length (1 - x) ((1 - x) :: r) q2 (by rw [List.length_cons]; omega) (stk_push hst.2)
        rw [List.length_cons] at this
        exact this
      · subst q1
        obtain ⟨s0, s1, s2, s3⟩ := stp_two (a := ar (Bs + k)) oT
        rw [if_neg s1, if_pos s2, if_neg s3]
        simp only [List.length_cons] at h32 ⊢
        rw [if_neg (show ¬ nI (r.length + 1 + 1) ≤ (1 : Int32) from nI_ge (a := 1) (by omega) (by omega))]
        have hy : I (20 + 8 * t0 + 6) (r.length + 1) = y := hst.1
        have hx : I (20 + 8 * t0 + 6) r.length = x := hst.2.1
        simp only [gK, gI, gL, gR_, g_stI, g_stL, forall_eq, true_and, ad_s, okA_s, okO_s, okN_s, i10, i00, if_true, if_false, reduceCtorEq, Kf_1, Kf_400, nI_m, nI_pred, r5, k6, vp_in_nI (show r.length < 32 by omega) (by decide), vp_in_nI (show r.length + 1 < 32 by omega) (by decide), nI_clamp (show r.length < 2 ^ 31 by omega), nI_clamp (show r.length + 1 < 2 ^ 31 by omega), hx, hy]
        rw [s0]
        refine x_combined oT q3 q4 ?_
        simp only [gK, gI, gL, gR_, g_stI, g_stL, forall_eq, true_and, ad_s, okA_s, okO_s, okN_s, i10, i00, if_true, if_false, reduceCtorEq, Kf_1, Kf_400, k6, vp_in_nI (show r.length < 32 by omega) (by decide), nI_clamp (show r.length < 2 ^ 31 by omega), nI_1]
        have := rest r.length (two (op (Bs + k)) x y) (two (op (Bs + k)) x y :: r) q2 (by rw [List.length_cons]; omega) (stk_push hst.2.2)
        rw [List.length_cons] at this
        exact this
theorem x_value {lo hi f e t0 Bs : Nat} {op ar : Nat → Int32} {I : Nat → Nat → Int32} {y : Nat} (ht : t0 < 2 + D.nL) (hL6 : D.nL ≤ 6) (hlo : lo < 100) (hhi : hi ≤ 14) (hfe : f ≤ e) (he : e ≤ 600) (hop : ∀ j, j < e → I (20 + 8 * t0 + 5) j = stp (op (Bs + j)) (ar (Bs + j))) (hck : ck lo hi op ar (Bs + f) (e - f) [] = some [y]) {Q : Int32 → Hp → Prop} (hQ : ∀ I' : Nat → Nat → Int32, (∀ l k, l ≠ 20 + 8 * t0 + 6 → I' l k = I l k) → Q (wrt op ar (I 14) (Bs + f) (Bs + e)) (fm I' L D)) : wp_X7_value (20 + 8 * t0) (nI f) (nI e) (some 14) (fm I L D) Q := by
  have kT : Kf D (20 + 8 * t0) = (25, 0) := Kf_text (r := 0) ht hL6 (by decide)
  have k6 : Kf D (20 + 8 * t0 + 6) = (1, 32) := Kf_text (r := 6) ht hL6 (by decide)
  have r5 : Rf D (20 + 8 * t0) 5 = some (20 + 8 * t0 + 6) := Rf_text (k := 5) ht hL6 (by decide)
  unfold wp_X7_value
  have hsub : Bs + e - (Bs + f) = e - f := by omega
  refine x_value_L (lo := lo) (hi := hi) (op := op) (ar := ar) (Bs := Bs) ht hL6 hlo hhi he fuel f [] [y] [] I hop rfl hfe (by have := fuel_ge; omega) hck (by decide) trivial trivial (fun I' hf h1 h2 => ?_)
  obtain ⟨v, ev1⟩ := ty_one h1
  rw [ev1] at h2 ⊢
  have e0 : I' (20 + 8 * t0 + 6) 0 = v := h2.1
  have hw : wrt op ar (I 14) (Bs + f) (Bs + e) = v := by unfold wrt; rw [hsub, ev1]; rfl
  have hq := hQ I' hf
  rw [hw] at hq
  show if nI 1 ≤ 0 then _ else _
  rw [if_neg (by decide)]
  simp only [gK, gI, gL, gR_, g_stI, g_stL, forall_eq, true_and, ad_s, okA_s, okO_s, okN_s, i10, i00, if_true, if_false, reduceCtorEq, Kf_1, Kf_400, kT, r5, k6, show nI [v].length - (1 : Int32) = nI 0 from nI_pred 0, vp_in_nI (show 0 < 32 by decide) (by decide), nI_clamp (show 0 < 2 ^ 31 by decide), e0]
  exact hq
end WO
