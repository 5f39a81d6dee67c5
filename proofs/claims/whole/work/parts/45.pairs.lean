/-! scene, feed (my own) -/
theorem lgc0 {x y : Int64} : lg_cmp x y = 0 ↔ x = y := by
  unfold lg_cmp
  by_cases h : y < x
  · rw [if_pos h]
    constructor
    · intro q; exact absurd q (by decide)
    · intro q; subst q; exact absurd h (Int64.lt_irrefl)
  · rw [if_neg h]
    by_cases h2 : x = y
    · rw [if_pos h2]; exact ⟨fun _ => h2, fun _ => rfl⟩
    · rw [if_neg h2]
      exact ⟨fun q => absurd q (by decide), fun q => absurd q h2⟩
theorem bl_and1 (x : BitVec 64) : x &&& 1#64 = if x.getLsbD 0 then 1#64 else 0#64 := by
  apply BitVec.eq_of_getLsbD_eq
  intro i hi
  rw [BitVec.getLsbD_and]
  by_cases h0 : i = 0
  · subst h0
    cases h : x.getLsbD 0 <;> simp
  · have e : (1#64).getLsbD i = false := by simp [BitVec.getLsbD_one, h0]
    rw [e]
    cases h : x.getLsbD 0 <;> simp [BitVec.getLsbD_one, h0]
def bL (v : Int64) (b : Nat) : Bool := v.toBitVec.getLsbD b
theorem lushr1 (v : Int64) {b : Nat} (hb : b < 64) : ((v.toUInt64 >>> ((nI b).toInt64.toUInt64 &&& Int64.toUInt64 63)).toInt64 &&& 1) = if bL v b then 1 else 0 := by
  rw [wb_cu b hb]
  apply wb_inj
  have e : (v.toUInt64 >>> UInt64.ofNat b).toInt64.toBitVec = v.toBitVec >>> b := by
    apply BitVec.eq_of_toNat_eq
    show (v.toUInt64 >>> UInt64.ofNat b).toNat = _
    rw [UInt64.toNat_shiftRight, show (UInt64.ofNat b).toNat = b from Nat.mod_eq_of_lt (by omega), Nat.mod_eq_of_lt hb, BitVec.toNat_ushiftRight]
    rfl
  rw [Int64.toBitVec_and, e]
  show v.toBitVec >>> b &&& 1#64 = _
  rw [bl_and1, BitVec.getLsbD_ushiftRight, Nat.add_zero]
  unfold bL
  cases v.toBitVec.getLsbD b <;> rfl
theorem lshr1 (v : Int64) {b : Nat} (hb : b < 64) : ((v >>> ((nI b).toInt64 &&& 63)) &&& 1) = if bL v b then 1 else 0 := by
  rw [wb_c b hb]
  apply wb_inj
  have e : (v >>> lN b).toBitVec = v.toBitVec.sshiftRight b := by
    rw [Int64.toBitVec_shiftRight]
    show v.toBitVec.sshiftRight ((lN b).toBitVec.smod 64).toNat = _
    rw [wb_tb, wb_sm b hb, BitVec.toNat_ofNat, Nat.mod_eq_of_lt (by omega)]
  rw [Int64.toBitVec_and, e]
  show v.toBitVec.sshiftRight b &&& 1#64 = _
  rw [bl_and1, BitVec.getLsbD_sshiftRight]
  simp only [show ¬ 64 ≤ 0 by omega, Nat.add_zero, hb, if_true]
  unfold bL
  cases v.toBitVec.getLsbD b <;> simp
theorem pair_scene {n : Nat} {g : Hp} (hI : Inv n g) (x1 x2 x3 : Int32) (h3 : x3 = 0 ∨ x3 = 1) : wp_X11_scene 1 x1 x2 x3 g (fun r h1 => wp_X12_scene 400 x1 x2 x3 h1 (fun r' h2 => r' = r ∧ Inv (n + 1) h2)) := by
  obtain ⟨I, L, D, rfl, h⟩ := hI
  have hD := h.1
  have n3 := hD.2.2.1
  have hS := h.2.2.2.2.2.2.2.2.1
  have fin : Inv (n + 1) (fm (up2 I 400 0 0) L D) := Inv_told h
  have cA : (up2 I 400 0 0) 400 12 = nI D.nA := (up2_o (by omega)).trans h.2.1.2.2.2.2.2.1
  have i7 : (0 ≤ x1 ∧ x1 ≤ 7 ↔ inN x1 8) := inN_le 7 (by decide) (by decide)
  unfold wp_X11_scene
  rcases pk_ix x1 (n := 8) (by decide) with q | q | ⟨s, hs, rfl⟩
  · rw [if_pos q]
    unfold wp_X12_scene
    simp only [gK, gI, gL, gR_, g_stI, g_stL, forall_eq, true_and, ad_s, okA_s, okO_s, okN_s, i10, i00, if_true, if_false, reduceCtorEq, Kf_1, Kf_400, m_isIn, if_neg (fun z => inN_neg (n := 8) q (i7.mp z))]
    exact fin
  · have q2 : (8 : Int32) ≤ x1 := q
    rw [if_neg (fun z => absurd (Int32.le_trans q (Int32.le_of_lt z)) (by decide)), if_pos q2]
    unfold wp_X12_scene
    simp only [gK, gI, gL, gR_, g_stI, g_stL, forall_eq, true_and, ad_s, okA_s, okO_s, okN_s, i10, i00, if_true, if_false, reduceCtorEq, Kf_1, Kf_400, m_isIn, if_neg (fun z => inN_big (n := 8) q (i7.mp z))]
    exact fin
  · have w1 : inN (nI s) 8 := (inN_nI (by omega) (by decide)).mpr hs
    rw [if_neg (nI_pos (by omega)), if_neg (show ¬ (8 : Int32) ≤ nI s from nI_ge (b := 8) hs (by decide))]
    simp only [gK, gI, gL, gR_, g_stI, g_stL, forall_eq, true_and, ad_s, okA_s, okO_s, okN_s, i10, i00, if_true, if_false, reduceCtorEq, Kf_1, Kf_400, x_ballAt n3]
    by_cases w2 : inN x2 D.nA
    · obtain ⟨b, hb, rfl⟩ := inN_of (by omega) w2
      unfold wp_X11_isOfScene
      simp only [if_pos w2, gK, gI, gL, gR_, g_stI, g_stL, forall_eq, true_and, ad_s, okA_s, okO_s, okN_s, i10, i00, if_true, if_false, reduceCtorEq, Kf_1, Kf_400, Rf_1_11, Kf_7, vp_in_nI hs (by decide), nI_clamp (show s < 2 ^ 31 by omega), lushr1 _ (show b < 64 by omega), lgc0]
      unfold wp_X12_scene wp_X12_scene_J43
      cases hbl : bL (L 7 s) b with
      | false =>
        have hbl2 : bL (L 459 s) b = false := by rw [← hS s hs]; exact hbl
        rcases h3 with rfl | rfl
        · simp only [gK, gI, gL, gR_, g_stI, g_stL, forall_eq, true_and, ad_s, okA_s, okO_s, okN_s, i10, i00, if_true, if_false, reduceCtorEq, Kf_1, Kf_400, Bool.false_eq_true, show ¬ ((0 : Int64) = 1) from by decide, m_isIn, if_pos (i7.mpr w1), m_isBall cA, if_pos w2, Rf_400_58, Kf_459, vp_in_nI hs (by decide), nI_clamp (show s < 2 ^ 31 by omega), lshr1 _ (show b < 64 by omega), hbl2, lgc0]
          exact fin
        · simp only [gK, gI, gL, gR_, g_stI, g_stL, forall_eq, true_and, ad_s, okA_s, okO_s, okN_s, i10, i00, if_true, if_false, reduceCtorEq, Kf_1, Kf_400, Bool.false_eq_true, show ¬ ((0 : Int64) = 1) from by decide, show ¬ ((0 : Int32) = 1) from by decide, m_isIn, if_pos (i7.mpr w1), m_isBall cA, if_pos w2, Rf_400_58, Kf_459, vp_in_nI hs (by decide), nI_clamp (show s < 2 ^ 31 by omega), lshr1 _ (show b < 64 by omega), hS s hs]
          have e9 : (up2 L 7 s (L 459 s ^^^ (1 : Int64) <<< ((nI b).toInt64 &&& 63))) 459 s = L 459 s := up2_o (by omega)
          simp only [e9, hbl2, lgc0, gK, gI, gL, gR_, g_stI, g_stL, forall_eq, true_and, ad_s, okA_s, okO_s, okN_s, i10, i00, if_true, if_false, reduceCtorEq, Kf_1, Kf_400, Bool.false_eq_true, show ¬ ((0 : Int64) = 1) from by decide]
          refine ⟨_, _, _, rfl, InvI_mono (n := n) (m := n + 1) ?_ (by omega)⟩
          obtain ⟨z1, z2, z3, z4, z5, z6, z7, z8, z9, z10⟩ := InvI_up (v := 0) h Scr_told
          refine ⟨z1, z2, z3, z4, z5, z6, z7, z8, fun t ht => ?_, z10⟩
          by_cases hts : t = s
          · subst hts; rw [up2_o (by omega), up2_s, up2_s]
          · rw [up2_o (by omega), up2_o (by omega), up2_o (by omega), up2_o (by omega)]; exact hS t ht
      | true =>
        have hbl2 : bL (L 459 s) b = true := by rw [← hS s hs]; exact hbl
        rcases h3 with rfl | rfl
        · simp only [gK, gI, gL, gR_, g_stI, g_stL, forall_eq, true_and, ad_s, okA_s, okO_s, okN_s, i10, i00, if_true, if_false, reduceCtorEq, Kf_1, Kf_400, m_isIn, if_pos (i7.mpr w1), m_isBall cA, if_pos w2, Rf_400_58, Kf_459, vp_in_nI hs (by decide), nI_clamp (show s < 2 ^ 31 by omega), lshr1 _ (show b < 64 by omega), hS s hs]
          have e9 : (up2 L 7 s (L 459 s ^^^ (1 : Int64) <<< ((nI b).toInt64 &&& 63))) 459 s = L 459 s := up2_o (by omega)
          simp only [e9, hbl2, lgc0, gK, gI, gL, gR_, g_stI, g_stL, forall_eq, true_and, ad_s, okA_s, okO_s, okN_s, i10, i00, if_true, if_false, reduceCtorEq, Kf_1, Kf_400, show ¬ ((1 : Int64) = 0) from by decide]
          refine ⟨_, _, _, rfl, InvI_mono (n := n) (m := n + 1) ?_ (by omega)⟩
          obtain ⟨z1, z2, z3, z4, z5, z6, z7, z8, z9, z10⟩ := InvI_up (v := 0) h Scr_told
          refine ⟨z1, z2, z3, z4, z5, z6, z7, z8, fun t ht => ?_, z10⟩
          by_cases hts : t = s
          · subst hts; rw [up2_o (by omega), up2_s, up2_s]
          · rw [up2_o (by omega), up2_o (by omega), up2_o (by omega), up2_o (by omega)]; exact hS t ht
        · simp only [gK, gI, gL, gR_, g_stI, g_stL, forall_eq, true_and, ad_s, okA_s, okO_s, okN_s, i10, i00, if_true, if_false, reduceCtorEq, Kf_1, Kf_400, m_isIn, if_pos (i7.mpr w1), m_isBall cA, if_pos w2, Rf_400_58, Kf_459, vp_in_nI hs (by decide), nI_clamp (show s < 2 ^ 31 by omega), lshr1 _ (show b < 64 by omega), hbl2, lgc0]
          exact fin
    · simp only [if_neg w2, gK, gI, gL, gR_, g_stI, g_stL, forall_eq, true_and, ad_s, okA_s, okO_s, okN_s, i10, i00, if_true, if_false, reduceCtorEq, Kf_1, Kf_400]
      unfold wp_X12_scene
      simp only [gK, gI, gL, gR_, g_stI, g_stL, forall_eq, true_and, ad_s, okA_s, okO_s, okN_s, i10, i00, if_true, if_false, reduceCtorEq, Kf_1, Kf_400, m_isIn, if_pos (i7.mpr w1), m_isBall cA, if_neg w2]
      exact fin
