/-! shot (my own) -/
section SH
variable {L : Nat → Nat → Int64} {D : DD}
theorem x_newBall {I : Nat → Nat → Int32} {q b : Nat} {x so : Int32} (hq : q = 160 + 2 * D.nA) (hA : D.nA < 40) (z2 : Kf D (q + 1) = (0, 0)) (hb : b < D.nB) (nB16 : D.nB ≤ 16) {Q : Hp → Prop} (hQ : ∀ A : Nat → Nat → Int32, (∀ l k, l ≠ q → l ≠ q + 1 → A l k = I l k) → A q 0 = x → A q 2 = I (120 + 2 * b) 5 → A q 3 = so → (∀ j, A (q + 1) j = I (120 + 2 * b + 1) j) → Q (raw A (up1 (up1 L q 0) (q + 1) 0) (up2 (up1 (up2 (up1 (Rf D) q none) q 1 (some (120 + 2 * b))) (q + 1) none) q 4 (some (q + 1))) (upK (upK (Kf D) q (20, 0)) (q + 1) (1, 32)))) : wp_X0_init q x (some (120 + 2 * b)) so (raw (up1 I q 0) (up1 L q 0) (up1 (Rf D) q none) (upK (Kf D) q (20, 0))) Q := by
  have ut : ∀ (K : Nat → Nat × Nat) v, upK K q v (120 + 2 * b) = K (120 + 2 * b) := fun K v => upK_o (by omega)
  have ur : ∀ (K : Nat → Nat × Nat) v, upK K q v (120 + 2 * b + 1) = K (120 + 2 * b + 1) := fun K v => upK_o (by omega)
  have u6 : ∀ (K : Nat → Nat × Nat) v, upK K q v (q + 1) = K (q + 1) := fun K v => upK_o (by omega)
  have u5 : ∀ (K : Nat → Nat × Nat) v, upK K (q + 1) v q = K q := fun K v => upK_o (by omega)
  have rt : ∀ (R : Nat → Nat → Option Nat), up1 R q none (120 + 2 * b) 3 = R (120 + 2 * b) 3 := fun R => up1_o (by omega)
  have rt2 : ∀ (R : Nat → Nat → Option Nat) v, up2 R q 1 v (120 + 2 * b) 3 = R (120 + 2 * b) 3 := fun R v => up2_o (by omega)
  unfold wp_X0_init wp_X0_init_J27
  simp only [rI, rL, rR, rK, raw_stI, raw_stL, raw_stR, raw_alc, upK_s, forall_eq, true_and, ad_s, okA_s, okO_s, okN_s, i10, i00, if_true, if_false, reduceCtorEq, ut, ur, Kf_bar hb nB16, Kf_barr hb nB16, rt, rt2, Rf_bar hb nB16]
  refine ⟨okP_some (by rw [rK, ut, Kf_bar hb nB16]; decide), okP_some (by rw [rK, upK_s]; exact Nat.succ_ne_zero _), okP_some (by rw [rK, ut, Kf_bar hb nB16]; decide), q + 1, by rw [u6, z2], ?_⟩
  simp only [raw_cl, rI, rL, rR, rK, raw_stI, raw_stL, raw_stR, raw_alc, upK_s, forall_eq, true_and, ad_s, okA_s, okO_s, okN_s, i10, i00, if_true, if_false, reduceCtorEq, ur, Kf_barr hb nB16, u5]
  refine ⟨okP_some (by rw [rK, upK_s]; exact Nat.succ_ne_zero _), ?_⟩
  refine hQ _ (fun l k a1 a2 => ?_) ?_ ?_ ?_ (fun j => ?_)
  · rw [if_neg a2, up2_o (by omega), up2_o (by omega), up2_o (by omega), up1_o a1]
  · rw [if_neg (by omega), up2_o (by omega), up2_o (by omega), up2_s]
  · rw [if_neg (by omega), up2_o (by omega), up2_s, up2_o (by omega), up1_o (by omega)]
  · rw [if_neg (by omega), up2_s]
  · rw [if_pos rfl, up2_o (by omega), up2_o (by omega), up2_o (by omega), up1_o (by omega)]
theorem m_shot_L93 {a : Nat} (ha : a < 40) {x1 x2 : Int32} {K : Hp → Prop} {Q : Int32 → Hp → Prop} : ∀ (N j : Nat) (I : Nat → Nat → Int32), I 400 12 = nI a → j ≤ 32 → 33 ≤ N + j → (∀ I' : Nat → Nat → Int32, (∀ l k, ¬ (l = 414 ∧ 32 * a + j ≤ k ∧ k < 32 * a + 32) → I' l k = I l k) → (∀ i, j ≤ i → i < 32 → I' 414 (32 * a + i) = I 445 i) → K (fm I' L D)) → wp_X12_shot_L93 400 x1 x2 K Q N (nI j) (fm I L D) := by
  intro N
  induction N with
  | zero => intro j I h0 h1 h2; omega
  | succ N ih =>
    intro j I h0 h1 h2 hK
    rw [wp_X12_shot_L93]
    by_cases e : j = 32
    · subst e
      rw [if_pos (show (32 : Int32) ≤ nI 32 from by decide)]
      exact hK I (fun _ _ _ => rfl) (fun i a1 a2 => by omega)
    · rw [if_neg (show ¬ (32 : Int32) ≤ nI j from nI_ge (b := 32) (by omega) (by decide))]
      simp only [gK, gI, gL, gR_, g_stI, g_stL, forall_eq, true_and, ad_s, okA_s, okO_s, okN_s, i10, i00, if_true, if_false, reduceCtorEq, Kf_1, Kf_400, h0, Rf_400_13, Kf_414, Rf_400_44, Kf_445, ix32, vp_in_nI (show 32 * a + j < 1280 by omega) (show 1280 < 2 ^ 31 by decide), vp_in_nI (show j < 32 by omega) (show 32 < 2 ^ 31 by decide), nI_clamp (show 32 * a + j < 2 ^ 31 by omega), nI_clamp (show j < 2 ^ 31 by omega), nI_1]
      refine ih (j + 1) _ ((up2_o (by omega)).trans h0) (by omega) (by omega) (fun I' f1 f2 => hK I' (fun l k z => ?_) (fun i a1 a2 => ?_))
      · rw [f1 l k (by omega), up2_o (by omega)]
      · by_cases ei : i = j
        · subst ei; rw [f1 _ _ (by omega), up2_s]
        · rw [f2 i (by omega) a2, up2_o (by omega)]
theorem m_shot_L140 {b : Nat} (hb : b < 16) {x2 : Int32} {K : Hp → Prop} {Q : Int32 → Hp → Prop} : ∀ (N j : Nat) (I : Nat → Nat → Int32), j ≤ 32 → 33 ≤ N + j → (∀ I' : Nat → Nat → Int32, (∀ l k, ¬ (l = 407 ∧ 32 * b + j ≤ k ∧ k < 32 * b + 32) → I' l k = I l k) → (∀ i, j ≤ i → i < 32 → I' 407 (32 * b + i) = I 445 i) → K (fm I' L D)) → wp_X12_shot_L140 400 (nI b) x2 K Q N (nI j) (fm I L D) := by
  intro N
  induction N with
  | zero => intro j I h1 h2; omega
  | succ N ih =>
    intro j I h1 h2 hK
    rw [wp_X12_shot_L140]
    by_cases e : j = 32
    · subst e
      rw [if_pos (show (32 : Int32) ≤ nI 32 from by decide)]
      exact hK I (fun _ _ _ => rfl) (fun i a1 a2 => by omega)
    · rw [if_neg (show ¬ (32 : Int32) ≤ nI j from nI_ge (b := 32) (by omega) (by decide))]
      simp only [gK, gI, gL, gR_, g_stI, g_stL, forall_eq, true_and, ad_s, okA_s, okO_s, okN_s, i10, i00, if_true, if_false, reduceCtorEq, Kf_1, Kf_400, Rf_400_6, Kf_407, Rf_400_44, Kf_445, ix32, vp_in_nI (show 32 * b + j < 512 by omega) (show 512 < 2 ^ 31 by decide), vp_in_nI (show j < 32 by omega) (show 32 < 2 ^ 31 by decide), nI_clamp (show 32 * b + j < 2 ^ 31 by omega), nI_clamp (show j < 2 ^ 31 by omega), nI_1]
      refine ih (j + 1) _ (by omega) (by omega) (fun I' f1 f2 => hK I' (fun l k z => ?_) (fun i a1 a2 => ?_))
      · rw [f1 l k (by omega), up2_o (by omega)]
      · by_cases ei : i = j
        · subst ei; rw [f1 _ _ (by omega), up2_s]
        · rw [f2 i (by omega) a2, up2_o (by omega)]
/-- what the object does: a new ball, its row by take, the barrel's by wear -/
def shA (I : Nat → Nat → Int32) (b n0 : Nat) (so : Int32) : Nat → Int32 := nhF I (fun j => I 407 (32 * b + j)) (I 411 b) (I 412 b) so (nI 2) (I 408 b) n0
def shB (I : Nat → Nat → Int32) (b n0 : Nat) (so : Int32) : Nat → Int32 := nhF I (fun j => I 407 (32 * b + j)) (I 411 b) (I 412 b) so (nI 1) (drN (I 408 b) 32) n0
end SH
set_option maxHeartbeats 4000000 in
theorem x_shot {n : Nat} {I : Nat → Nat → Int32} {L : Nat → Nat → Int64} {D : DD} (h : InvI n I L D) {b n0 : Nat} (hb : b < D.nB) (hA : D.nA < 40) (hn0 : n0 ≤ 16) (e26 : I 426 0 = nI n0) {so : Int32} (s0 : ¬ so < 0) (s9 : ¬ (9 : Int32) < so) {Q : Int32 → Hp → Prop} (hQ : ∀ (J : Nat → Nat → Int32) (L' : Nat → Nat → Int64), (∀ s k, s = 7 ∨ s = 459 → L' s k = L s k) → (∀ l k, ¬ Scr D l k → ¬ (l = 1 ∧ k = 5) → ¬ (l = 160 + 2 * D.nA ∨ l = 160 + 2 * D.nA + 1) → ¬ (l = 120 + 2 * b ∧ (k = 4 ∨ k = 5)) → l ≠ 120 + 2 * b + 1 → J l k = I l k) → (∀ l k, 400 ≤ l → J l k = I l k) → J 1 5 = nI (D.nA + 1) → J (160 + 2 * D.nA) 0 = nI D.nA → J (160 + 2 * D.nA) 2 = I 411 b → J (160 + 2 * D.nA) 3 = so → (∀ j, j < 32 → J (160 + 2 * D.nA + 1) j = shA I b n0 so j) → J (120 + 2 * b) 4 = drN (drN (I 408 b) 32) 32 → J (120 + 2 * b) 5 = I 411 b + 1 → (∀ j, j < 32 → J (120 + 2 * b + 1) j = shB I b n0 so j) → Q (nI D.nA) (fm J L' (D.addA (some b)))) : wp_X11_shot 1 (nI b) so (fm I L D) Q := by
  have hD := h.1
  have nB16 := hD.2.1
  have nL6 := h.nL6
  have htx := hD.2.2.2.2.2.2.2.1 1 (by omega)
  have t8 := tx_lt hD (show 1 < 2 + D.nL by omega)
  have hTR := h.2.2.2.2.2.2.2.2.2.2.1.1
  obtain ⟨wb1, wb2, wb3, wb4, wb5, wb6, wb7, wb8⟩ := h.2.2.2.2.1 b hb
  have w1 : inN (nI b) D.nB := (inN_nI (by omega) (by omega)).mpr hb
  unfold wp_X11_shot
  simp only [gK, gI, gL, gR_, g_stI, g_stL, forall_eq, true_and, ad_s, okA_s, okO_s, okN_s, i10, i00, if_true, if_false, reduceCtorEq, Kf_1, Kf_400, x_barrelAt nB16, if_pos w1, nI_clamp (show b < 2 ^ 31 by omega), h.xA]
  rw [if_neg s0, if_neg s9, if_pos (show nI D.nA < (40 : Int32) from nI_lt (b := 40) hA (by decide))]
  obtain ⟨z1, z2⟩ := Kf_noball hA
  refine ⟨okP_some (by rw [gK, Kf_bar hb nB16]; decide), okP_some (by rw [gK, Kf_1]; decide), 160 + 2 * D.nA, by rw [z1], ?_⟩
  have rnb := Rf_noball hA
  generalize hq : 160 + 2 * D.nA = q at z1 z2 rnb hQ ⊢
  have u1 : ∀ (K : Nat → Nat × Nat) v, upK K q v 1 = K 1 := fun K v => upK_o (by omega)
  have ut : ∀ (K : Nat → Nat × Nat) v, upK K q v (120 + 2 * b) = K (120 + 2 * b) := fun K v => upK_o (by omega)
  have u5 : ∀ (K : Nat → Nat × Nat) v, upK K (q + 1) v q = K q := fun K v => upK_o (by omega)
  have i5 : up1 I q 0 1 5 = nI D.nA := (up1_o (by omega)).trans h.xA
  rw [fm_raw]
  simp only [rI, rL, rR, rK, raw_stI, raw_stL, raw_stR, raw_alc, upK_s, forall_eq, true_and, ad_s, okA_s, okO_s, okN_s, i10, i00, if_true, if_false, reduceCtorEq, u1, Kf_1, i5]
  refine ⟨okP_some (by rw [rK, ut, Kf_bar hb nB16]; decide), okP_some (by rw [rK, u1, Kf_1]; decide), okP_some (by rw [rK, upK_s]; exact Nat.succ_ne_zero _), ?_⟩
  refine x_newBall hq.symm hA z2 hb nB16 (fun A a0 a1 a2 a3 a4 => ?_)
  generalize hR' : up2 (up1 (up2 (up1 (Rf D) q none) q 1 (some (120 + 2 * b))) (q + 1) none) q 4 (some (q + 1)) = R'
  generalize hK' : upK (upK (Kf D) q (20, 0)) (q + 1) (1, 32) = K'
  generalize hL' : up1 (up1 L q 0) (q + 1) 0 = L'
  have Rx : ∀ l k, l ≠ q → l ≠ q + 1 → R' l k = Rf D l k := by
    intro l k b1 b2
    rw [← hR', up2_o (by omega), up1_o b2, up2_o (by omega), up1_o b1]
  have Rq : R' q 4 = some (q + 1) := by rw [← hR', up2_s]
  have Kx : ∀ l, l ≠ q → l ≠ q + 1 → K' l = Kf D l := by
    intro l b1 b2
    rw [← hK', upK_o b2, upK_o b1]
  have Kq : K' q = (20, 0) := by rw [← hK', u5, upK_s]
  have Kq1 : K' (q + 1) = (1, 32) := by rw [← hK', upK_s]
  have K1 : K' 1 = (29, 0) := (Kx 1 (by omega) (by omega)).trans Kf_1
  have K4 : K' 4 = (3, 40) := (Kx 4 (by omega) (by omega)).trans Kf_4
  have K13 : K' 13 = (28, 0) := (Kx 13 (by omega) (by omega)).trans Kf_13
  have Kb : K' (120 + 2 * b) = (21, 0) := (Kx _ (by omega) (by omega)).trans (Kf_bar hb nB16)
  have Kbr : K' (120 + 2 * b + 1) = (1, 32) := (Kx _ (by omega) (by omega)).trans (Kf_barr hb nB16)
  have Kt : K' (20 + 8 * D.tx 1) = (25, 0) := (Kx _ (by omega) (by omega)).trans (Kf_text (r := 0) htx nL6 (by decide))
  have R15 : R' 1 15 = some 13 := Rx 1 15 (by omega) (by omega)
  have R14 : R' 1 14 = some (20 + 8 * D.tx 1) := Rx 1 14 (by omega) (by omega)
  have R4 : R' 1 4 = some 4 := Rx 1 4 (by omega) (by omega)
  have Rb : R' (120 + 2 * b) 3 = some (120 + 2 * b + 1) := (Rx _ _ (by omega) (by omega)).trans (Rf_bar hb nB16)
  have hS : TxS R' K' (D.tx 1) := ⟨fun r hr => (Kx _ (by omega) (by omega)).trans (Kf_text htx nL6 (by omega)), fun k hk => (Rx _ _ (by omega) (by omega)).trans (Rf_text htx nL6 hk), K13, (Kx 14 (by omega) (by omega)).trans Kf_14, (Kx 15 (by omega) (by omega)).trans Kf_15, Rx 13 0 (by omega) (by omega), Rx 13 1 (by omega) (by omega)⟩
  have ea5 : A (120 + 2 * b) 5 = I 411 b := (a0 _ _ (by omega) (by omega)).trans wb7
  have ea6 : A (120 + 2 * b) 6 = I 412 b := (a0 _ _ (by omega) (by omega)).trans wb8
  simp only [rI, rL, rR, rK, raw_stI, raw_stL, raw_stR, raw_alc, upK_s, forall_eq, true_and, ad_s, okA_s, okO_s, okN_s, i10, i00, if_true, if_false, reduceCtorEq, K1, Kb, R15, K13, ea5, ea6]
  refine xw_tellShot hS (fun J1 f1 g5 g6 g7 => ?_)
  have fr1 : ∀ l k, l ≠ q → l ≠ q + 1 → l ≠ 14 → J1 l k = I l k := fun l k b1 b2 b3 => (f1 l k (by omega)).trans (a0 l k b1 b2)
  have T1 : TR J1 (D.tx 1) 0 0 8 0 3 := TR_cg hTR ⟨fr1 _ _ (by omega) (by omega) (by omega), fun i hi => ⟨fr1 _ _ (by omega) (by omega) (by omega), fr1 _ _ (by omega) (by omega) (by omega), fr1 _ _ (by omega) (by omega) (by omega), fr1 _ _ (by omega) (by omega) (by omega)⟩, fun k hk => ⟨fr1 _ _ (by omega) (by omega) (by omega), fr1 _ _ (by omega) (by omega) (by omega)⟩⟩ (fun k => fr1 _ _ (by omega) (by omega) (by omega)) (fun j k _ _ => fr1 _ _ (by omega) (by omega) (by omega))
  have es : J1 (120 + 2 * b) 4 = I 408 b := (fr1 _ _ (by omega) (by omega) (by omega)).trans wb6
  simp only [rI, rL, rR, rK, raw_stI, raw_stL, raw_stR, raw_alc, upK_s, forall_eq, true_and, ad_s, okA_s, okO_s, okN_s, i10, i00, if_true, if_false, reduceCtorEq, K1, Kq, Kb, R14, R15, Kt, Rq, es]
  refine xw_change (law := 2) (p := fun j => I 407 (32 * b + j)) (n0 := n0) hS t8 T1 ((fr1 _ _ (by omega) (by omega) (by omega)).trans e26) hn0 (by decide) Kq1 (by omega) (fun j hj => ?_) g5 g6 g7 (fun J2 f2 r2 p5 p6 p7 => ?_)
  · rw [f1 _ _ (by omega), a4]; exact (wb1 j hj).1
  have r2' : ∀ j, j < 32 → J2 (q + 1) j = shA I b n0 so j := by
    intro j hj
    rw [r2 j hj]
    exact nhF_fun (fun l z1 z2 => funext fun k => fr1 l k (by omega) (by omega) (by omega)) _ _ _ _ _ _ _ _
  simp only [rI, rL, rR, rK, raw_stI, raw_stL, raw_stR, raw_alc, upK_s, forall_eq, true_and, ad_s, okA_s, okO_s, okN_s, i10, i00, if_true, if_false, reduceCtorEq, Kb, K1, R14, R15, Kt, Rb, up2_s]
  have fr2 : ∀ l k, l ≠ q → l ≠ q + 1 → l ≠ 14 → l ≠ 15 → l ≠ 20 + 8 * D.tx 1 + 6 → J2 l k = I l k := fun l k b1 b2 b3 b4 b5 => (f2 l k (by omega)).trans (fr1 l k b1 b2 b3)
  generalize hJ3 : up2 J2 (120 + 2 * b) 4 (drN (I 408 b) 32) = J3
  have fr3 : ∀ l k, l ≠ q → l ≠ q + 1 → l ≠ 14 → l ≠ 15 → l ≠ 20 + 8 * D.tx 1 + 6 → ¬ (l = 120 + 2 * b ∧ k = 4) → J3 l k = I l k := fun l k b1 b2 b3 b4 b5 b6 => by rw [← hJ3, up2_o b6]; exact fr2 l k b1 b2 b3 b4 b5
  have T3 : TR J3 (D.tx 1) 0 0 8 0 3 := TR_cg hTR ⟨fr3 _ _ (by omega) (by omega) (by omega) (by omega) (by omega) (by omega), fun i hi => ⟨fr3 _ _ (by omega) (by omega) (by omega) (by omega) (by omega) (by omega), fr3 _ _ (by omega) (by omega) (by omega) (by omega) (by omega) (by omega), fr3 _ _ (by omega) (by omega) (by omega) (by omega) (by omega) (by omega), fr3 _ _ (by omega) (by omega) (by omega) (by omega) (by omega) (by omega)⟩, fun k hk => ⟨fr3 _ _ (by omega) (by omega) (by omega) (by omega) (by omega) (by omega), fr3 _ _ (by omega) (by omega) (by omega) (by omega) (by omega) (by omega)⟩⟩ (fun k => fr3 _ _ (by omega) (by omega) (by omega) (by omega) (by omega) (by omega)) (fun j k _ _ => fr3 _ _ (by omega) (by omega) (by omega) (by omega) (by omega) (by omega))
  refine xw_change (law := 1) (p := fun j => I 407 (32 * b + j)) (n0 := n0) (sh := I 411 b) (ru := I 412 b) (so := so) hS t8 T3 ((fr3 _ _ (by omega) (by omega) (by omega) (by omega) (by omega) (by omega)).trans e26) hn0 (by decide) Kbr (by omega) (fun j hj => ?_) (by rw [← hJ3, up2_o (by omega)]; exact p5) (by rw [← hJ3, up2_o (by omega)]; exact p6) (by rw [← hJ3, up2_o (by omega)]; exact p7) (fun J4 f4 r4 _ _ _ => ?_)
  · rw [fr3 _ _ (by omega) (by omega) (by omega) (by omega) (by omega) (by omega)]; exact (wb1 j hj).1
  have r4' : ∀ j, j < 32 → J4 (120 + 2 * b + 1) j = shB I b n0 so j := by
    intro j hj
    rw [r4 j hj]
    exact nhF_fun (fun l z1 z2 => funext fun k => fr3 l k (by omega) (by omega) (by omega) (by omega) (by omega) (by omega)) _ _ _ _ _ _ _ _
  have fr4 : ∀ l k, l ≠ q → l ≠ q + 1 → l ≠ 14 → l ≠ 15 → l ≠ 20 + 8 * D.tx 1 + 6 → ¬ (l = 120 + 2 * b ∧ k = 4) → l ≠ 120 + 2 * b + 1 → J4 l k = I l k := fun l k b1 b2 b3 b4 b5 b6 b7 => (f4 l k (by omega)).trans (fr3 l k b1 b2 b3 b4 b5 b6)
  have fq4 : ∀ l k, l = q ∨ l = q + 1 → J4 l k = J2 l k := fun l k z => by rw [f4 l k (by omega), ← hJ3, up2_o (by omega)]
  have n5 : ∀ (v w : Int32), (up2 (up2 J4 (120 + 2 * b) 4 v) (120 + 2 * b) 5 w) 1 5 = nI D.nA := fun v w => by
    rw [up2_o (by omega), up2_o (by omega), fr4 1 5 (by omega) (by omega) (by omega) (by omega) (by omega) (by omega) (by omega)]; exact h.xA
  simp only [rI, rL, rR, rK, raw_stI, raw_stL, raw_stR, raw_alc, upK_s, forall_eq, true_and, ad_s, okA_s, okO_s, okN_s, i10, i00, if_true, if_false, reduceCtorEq, Kb, K1, Kq, R4, K4, n5, nI_clamp (show D.nA < 2 ^ 31 by omega), vp_in_nI (show D.nA < 40 by omega) (show 40 < 2 ^ 31 by decide)]
  generalize hJ : up2 (up2 (up2 J4 (120 + 2 * b) 4 (drN (drN (I 408 b) 32) 32)) (120 + 2 * b) 5 _) 1 5 _ = J
  have jx : ∀ l k, l ≠ q → l ≠ q + 1 → l ≠ 14 → l ≠ 15 → l ≠ 20 + 8 * D.tx 1 + 6 → ¬ (l = 120 + 2 * b ∧ (k = 4 ∨ k = 5)) → l ≠ 120 + 2 * b + 1 → ¬ (l = 1 ∧ k = 5) → J l k = I l k := by
    intro l k b1 b2 b3 b4 b5 b6 b7 b8
    rw [← hJ, up2_o b8, up2_o (by omega), up2_o (by omega)]
    exact fr4 l k b1 b2 b3 b4 b5 (by omega) b7
  have jq : ∀ k, J q k = J2 q k := fun k => by rw [← hJ, up2_o (by omega), up2_o (by omega), up2_o (by omega)]; exact fq4 q k (Or.inl rfl)
  have jqA : ∀ k, J q k = A q k := fun k => (jq k).trans ((f2 _ _ (by omega)).trans (f1 _ _ (by omega)))
  rw [jqA 0, a1]
  rw [raw_fm (D := D.addA (some b))]
  · refine hQ J L' (fun s k z => ?_) (fun l k c0 c1 c2 c3 c4 => ?_) (fun l k z => ?_) ?_ ((jqA 0).trans a1) ((jqA 2).trans (a2.trans wb7)) ((jqA 3).trans a3) (fun j hj => ?_) ?_ ?_ (fun j hj => ?_)
    · rw [← hL', up1_o (by omega), up1_o (by omega)]
    · unfold Scr at c0
      exact jx l k (by omega) (by omega) (by omega) (by omega) (by omega) c3 c4 c1
    · exact jx l k (by omega) (by omega) (by omega) (by omega) (by omega) (by omega) (by omega) (by omega)
    · rw [← hJ, up2_s, nI_1]
    · rw [← hJ, up2_o (by omega), up2_o (by omega), up2_o (by omega), fq4 _ _ (Or.inr rfl)]; exact r2' j hj
    · rw [← hJ, up2_o (by omega), up2_o (by omega), up2_s]
    · rw [← hJ, up2_o (by omega), up2_s, up2_o (by omega), fr4 _ _ (by omega) (by omega) (by omega) (by omega) (by omega) (by omega) (by omega), wb7]
    · rw [← hJ, up2_o (by omega), up2_o (by omega), up2_o (by omega)]; exact r4' j hj
  · funext c j
    rw [Rf_addA hA, hq]
    by_cases e1 : c = 4 ∧ j = D.nA
    · rw [if_pos e1, e1.1, e1.2, up2_s]
    · rw [if_neg e1, up2_o e1]
      by_cases e2 : c = q
      · subst e2
        rw [if_pos rfl]
        by_cases e3 : j = 4
        · subst e3; rw [Rq]; rfl
        · rw [← hR', up2_o (by omega), up1_o (by omega)]
          by_cases e4 : j = 1
          · subst e4; rw [up2_s]; rfl
          · rw [up2_o (by omega), up1_s]
            split
            · exact absurd rfl e4
            · exact absurd rfl e3
            · rfl
      · rw [if_neg e2]
        by_cases e3 : c = q + 1
        · subst e3
          rw [← hR', up2_o (by omega), up1_s, rnb]
        · exact Rx c j e2 e3
  · funext c
    rw [Kf_addA hA, hq]
    by_cases e2 : c = q
    · subst e2; rw [Kq, if_pos rfl]
    · rw [if_neg e2]
      by_cases e3 : c = q + 1
      · subst e3; rw [Kq1, if_pos rfl]
      · rw [if_neg e3]; exact Kx c e2 e3
