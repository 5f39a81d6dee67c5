/-! hair (my own) -/
theorem missF_cg {p p' : Nat → Int32} (hp : ∀ j, j < 32 → p' j = p j) : missF p' = missF p := cnt_cg (fun i hi => by rw [hp i hi])
theorem asksF_cg {p p' q q' : Nat → Int32} (hp : ∀ j, j < 32 → p' j = p j) (hq : ∀ j, j < 32 → q' j = q j) (mg : Int32) (told : Nat) : asksF p' q' mg told = asksF p q mg told := by
  funext w
  unfold asksF
  rw [bestM_cg hp hq, longF_cg hp hq, bestF_cg hp hq, piecesF_cg hp hq, missF_cg hp, missF_cg hq]
theorem sayF_cg2 {I I' : Nat → Nat → Int32} {l t a b told lo hi slo shi : Nat} (h : TR I t (1 + l) lo hi slo shi) (hs : TSame I I' (1 + l)) (ha : ∀ j, j < 32 → row I' a j = row I a j) (hb : ∀ j, j < 32 → row I' b j = row I b j) (h7 : I' 447 l = I 447 l) : sayF I' l a b told = sayF I l a b told := by
  obtain ⟨n1, z, q1, q2, q3, q4, q5, -⟩ := id h
  unfold sayF
  rw [asksF_cg ha hb, h7, hs.1, q5, nI_clamp (by omega)]
  exact sayL_cg h hs q5 q1 n1 0 (by omega)
theorem nI0 : nI 0 = (0 : Int32) := rfl
/-- one ball is told anew: what is kept of it is forgotten, the version grows -/
theorem CKV {n : Nat} {I I' : Nat → Nat → Int32} {L : Nat → Nat → Int64} {D : DD} {a0 : Nat} {gu : Nat → Option Nat} (h : InvI n I L D) (hn : n < 100000) (b : Nat) (h17 : I' 400 17 = I 400 17 + 1) (h49 : I' 400 49 = I 400 49) (hrow : ∀ a, a ≠ b → ∀ j, j < 32 → row I' a j = row I a j) (h447 : ∀ l, I' 447 l = I 447 l) (hts : ∀ r, r < 7 → TSame I I' r) (hk : ∀ l a c, l < D.nL → a < 40 → c < 40 → I' (240 + 2 * l + 1) (40 * a + c) = if a = b ∨ c = b then 0 else I (240 + 2 * l + 1) (40 * a + c)) (hA : D.nA ≤ a0) (hA2 : ∀ a, a < a0 → a < D.nA ∨ a = b) : CK I' ((D.1.1, D.1.2.1, a0, D.1.2.2.2), gu, D.2.2) ∧ CV I' ((D.1.1, D.1.2.1, a0, D.1.2.2.2), gu, D.2.2) ∧ CVv I' (n + 1) := by
  have nL6 := h.nL6
  obtain ⟨v, v1, v2, v3⟩ := h.2.2.2.2.2.2.2.2.2.2.2.2.2.1
  have e17 : I' 400 17 = nI (v + 1) := by rw [h17, v2, nI_1]
  have hK := h.2.2.2.2.2.2.2.2.2.2.2.1
  refine ⟨?_, ?_, ?_⟩
  · intro l a c hl ha hc
    have hl : l < D.nL := hl
    obtain ⟨q1, q2⟩ := hK l a c hl ha hc
    refine ⟨fun z => ?_, fun z1 z2 => ?_⟩
    · have z : a0 ≤ a ∨ a0 ≤ c := z
      rw [hk l a c hl ha hc]
      split
      · rfl
      · exact q1 (by omega)
    · have z1 : a < a0 := z1
      have z2 : c < a0 := z2
      rw [hk l a c hl ha hc]
      by_cases e : a = b ∨ c = b
      · rw [if_pos e]
        exact ⟨0, 0, 0, 0, 0, 0, 0, 0, rfl, Or.inl ⟨rfl, rfl, rfl, rfl⟩, Or.inl ⟨rfl, rfl⟩, Or.inl rfl, Or.inl rfl⟩
      · rw [if_neg e]
        have ea : a ≠ b := fun z => e (Or.inl z)
        have ec : c ≠ b := fun z => e (Or.inr z)
        have a1 := (hA2 a z1).resolve_right ea
        have c1 := (hA2 c z2).resolve_right ec
        rw [bestM_cg (hrow a ea) (hrow c ec), bestF_cg (hrow a ea) (hrow c ec), longF_cg (hrow a ea) (hrow c ec), piecesF_cg (hrow a ea) (hrow c ec), h447, sayF_cg2 (CX_of h hl) (hts (1 + l) (by omega)) (hrow a ea) (hrow c ec) (h447 l), sayF_cg2 (CX_of h hl) (hts (1 + l) (by omega)) (hrow a ea) (hrow c ec) (h447 l)]
        exact q2 a1 c1
  · intro z
    exfalso
    rw [h49, e17] at z
    rcases v3 with q | ⟨w, w1, w2⟩
    · rw [q] at z
      exact nI_m1 (show v + 1 < 2 ^ 31 by omega) z.symm
    · rw [w2] at z
      have := (nI_eq (by omega) (by omega)).mp z
      omega
  · refine ⟨v + 1, by omega, e17, ?_⟩
    rw [h49]
    rcases v3 with q | ⟨w, w1, w2⟩
    · exact Or.inl q
    · exact Or.inr ⟨w, by omega, w2⟩
section HA
variable {L : Nat → Nat → Int64} {D : DD}
theorem x_forgetBall {l b : Nat} (hl : l < D.nL) (hL6 : D.nL ≤ 6) (hb : b < 40) {I : Nat → Nat → Int32} {Q : Hp → Prop} (hQ : ∀ I' : Nat → Nat → Int32, (∀ l' k, l' ≠ 240 + 2 * l + 1 → I' l' k = I l' k) → (∀ a c, a < 40 → c < 40 → I' (240 + 2 * l + 1) (40 * a + c) = if a = b ∨ c = b then 0 else I (240 + 2 * l + 1) (40 * a + c)) → Q (fm I' L D)) : wp_X3_forgetBall (240 + 2 * l) (nI b) (fm I L D) Q := by
  unfold wp_X3_forgetBall
  have key : ∀ (N m : Nat) (J : Nat → Nat → Int32), m ≤ 40 → 41 ≤ N + m → (∀ l' k, l' ≠ 240 + 2 * l + 1 → J l' k = I l' k) → (∀ a c, a < 40 → c < 40 → J (240 + 2 * l + 1) (40 * a + c) = if (a = b ∧ c < m) ∨ (c = b ∧ a < m) then 0 else I (240 + 2 * l + 1) (40 * a + c)) → wp_X3_forgetBall_L2 (240 + 2 * l) (nI b) (fun h9 => Q h9) Q N (nI m) (fm J L D) := by
    intro N
    induction N with
    | zero => intro m J h1 h2; omega
    | succ N ih =>
      intro m J h1 h2 h3 h4
      rw [wp_X3_forgetBall_L2]
      by_cases e : m = 40
      · subst e
        rw [if_pos (show (40 : Int32) ≤ nI 40 from by decide)]
        refine hQ J h3 (fun a c ha hc => ?_)
        rw [h4 a c ha hc]
        by_cases z : a = b ∨ c = b
        · rw [if_pos z, if_pos (by omega)]
        · rw [if_neg z, if_neg (by omega)]
      · rw [if_neg (show ¬ (40 : Int32) ≤ nI m from nI_ge (b := 40) (by omega) (by decide))]
        simp only [gK, gI, gL, gR_, g_stI, g_stL, forall_eq, true_and, ad_s, okA_s, okO_s, okN_s, i10, i00, if_true, if_false, reduceCtorEq, Kf_1, Kf_400, Kf_look hl hL6, Rf_look hl hL6, Kf_lookr hl hL6, ix40, vp_in_nI (show 40 * b + m < 1600 by omega) (show 1600 < 2 ^ 31 by decide), vp_in_nI (show 40 * m + b < 1600 by omega) (show 1600 < 2 ^ 31 by decide), nI_clamp (show 40 * b + m < 2 ^ 31 by omega), nI_clamp (show 40 * m + b < 2 ^ 31 by omega), nI_1]
        refine ih (m + 1) _ (by omega) (by omega) (fun l' k hl' => ?_) (fun a c ha hc => ?_)
        · rw [up2_o (by omega), up2_o (by omega)]; exact h3 l' k hl'
        · by_cases e1 : a = m ∧ c = b
          · rw [e1.1, e1.2, up2_s, if_pos (by omega)]
          · rw [up2_o (by omega)]
            by_cases e2 : a = b ∧ c = m
            · rw [e2.1, e2.2, up2_s, if_pos (by omega)]
            · rw [up2_o (by omega), h4 a c ha hc]
              by_cases z : (a = b ∧ c < m) ∨ (c = b ∧ a < m)
              · rw [if_pos z, if_pos (by omega)]
              · rw [if_neg z, if_neg (by omega)]
  exact key fuel 0 I (by omega) (by have := fuel_ge; omega) (fun _ _ _ => rfl) (fun a c _ _ => by rw [if_neg (by omega)])
theorem x_hair_L44 {b : Nat} (hL6 : D.nL ≤ 6) (hb : b < 40) {I : Nat → Nat → Int32} {K : Hp → Prop} {Q : Int32 → Hp → Prop} (hK : ∀ I' : Nat → Nat → Int32, (∀ l' k, ¬ Xs_K l' k → I' l' k = I l' k) → (∀ l a c, l < D.nL → a < 40 → c < 40 → I' (240 + 2 * l + 1) (40 * a + c) = if a = b ∨ c = b then 0 else I (240 + 2 * l + 1) (40 * a + c)) → K (fm I' L D)) : wp_X11_hair_L44 1 (nI b) K Q fuel 0 (fm I L D) := by
  have key : ∀ (N m : Nat) (J : Nat → Nat → Int32), m ≤ 6 → 7 ≤ N + m → (∀ l' k, ¬ Xs_K l' k → J l' k = I l' k) → (∀ l a c, l < D.nL → a < 40 → c < 40 → J (240 + 2 * l + 1) (40 * a + c) = if l < m ∧ (a = b ∨ c = b) then 0 else I (240 + 2 * l + 1) (40 * a + c)) → wp_X11_hair_L44 1 (nI b) K Q N (nI m) (fm J L D) := by
    intro N
    induction N with
    | zero => intro m J h1 h2; omega
    | succ N ih =>
      intro m J h1 h2 h3 h4
      rw [wp_X11_hair_L44]
      by_cases e : m = 6
      · subst e
        rw [if_pos (show (6 : Int32) ≤ nI 6 from by decide)]
        refine hK J h3 (fun l a c hl ha hc => ?_)
        rw [h4 l a c hl ha hc]
        by_cases z : a = b ∨ c = b
        · rw [if_pos z, if_pos ⟨by omega, z⟩]
        · rw [if_neg z, if_neg (fun q => z q.2)]
      · rw [if_neg (show ¬ (6 : Int32) ≤ nI m from nI_ge (b := 6) (by omega) (by decide))]
        simp only [gK, gI, gL, gR_, g_stI, g_stL, forall_eq, true_and, ad_s, okA_s, okO_s, okN_s, i10, i00, if_true, if_false, reduceCtorEq, Kf_1, Kf_400, x_lookerAt hL6]
        by_cases hm : m < D.nL
        · simp only [gK, gI, gL, gR_, g_stI, g_stL, forall_eq, true_and, ad_s, okA_s, okO_s, okN_s, i10, i00, if_true, if_false, reduceCtorEq, Kf_1, Kf_400, if_pos ((inN_nI (show m < 2 ^ 31 by omega) (show D.nL < 2 ^ 31 by omega)).mpr hm), nI_clamp (show m < 2 ^ 31 by omega), Kf_look hm hL6]
          refine x_forgetBall hm hL6 hb (fun J' f1 f2 => ?_)
          try simp only [forall_eq, nI_1]
          refine ih (m + 1) J' (by omega) (by omega) (fun l' k hx => ?_) (fun l a c hl ha hc => ?_)
          · rw [f1 l' k (fun z => hx (by rw [z]; unfold Xs_K; omega))]; exact h3 l' k hx
          · by_cases el : l = m
            · subst el
              rw [f2 a c ha hc]
              by_cases z : a = b ∨ c = b
              · rw [if_pos z, if_pos ⟨by omega, z⟩]
              · rw [if_neg z, if_neg (fun q => z q.2), h4 l a c hl ha hc, if_neg (fun q => z q.2)]
            · rw [f1 _ _ (by omega), h4 l a c hl ha hc]
              by_cases z : l < m ∧ (a = b ∨ c = b)
              · rw [if_pos z, if_pos ⟨by omega, z.2⟩]
              · rw [if_neg z, if_neg (fun q => z ⟨by omega, q.2⟩)]
        · simp only [gK, gI, gL, gR_, g_stI, g_stL, forall_eq, true_and, ad_s, okA_s, okO_s, okN_s, i10, i00, if_true, if_false, reduceCtorEq, Kf_1, Kf_400, if_neg (fun z => hm ((inN_nI (show m < 2 ^ 31 by omega) (show D.nL < 2 ^ 31 by omega)).mp z)), nI_1]
          refine ih (m + 1) J (by omega) (by omega) h3 (fun l a c hl ha hc => ?_)
          rw [h4 l a c hl ha hc]
          by_cases z : l < m ∧ (a = b ∨ c = b)
          · rw [if_pos z, if_pos ⟨by omega, z.2⟩]
          · rw [if_neg z, if_neg (fun q => z ⟨by omega, q.2⟩)]
  exact key fuel 0 I (by omega) (by have := fuel_ge; omega) (fun _ _ _ => rfl) (fun l a c _ _ _ => by rw [if_neg (by omega)])
end HA
theorem h63 {x : Int32} : (-1 ≤ x ∧ x ≤ 63) ↔ (x = -1 ∨ inN x 64) := by
  have e63 : (0 ≤ x ∧ x ≤ 63 ↔ inN x 64) := inN_le 63 (by decide) (by decide)
  rw [← e63]
  constructor
  · rintro ⟨h1, h2⟩
    by_cases e : x = -1
    · exact Or.inl e
    · refine Or.inr ⟨?_, h2⟩
      have a1 := Int32.le_iff_toInt_le.mp h1
      have a2 : ((-1 : Int32)).toInt = -1 := by decide
      rw [a2] at a1
      refine Int32.le_iff_toInt_le.mpr ?_
      have a3 : ((0 : Int32)).toInt = 0 := by decide
      rw [a3]
      have : x.toInt ≠ -1 := fun q => e (Int32.toInt_inj.mp (q.trans a2.symm))
      omega
  · rintro (e | ⟨h1, h2⟩)
    · subst e; exact ⟨by decide, by decide⟩
    · exact ⟨Int32.le_trans (by decide) h1, h2⟩
theorem pair_hair {n : Nat} {g : Hp} (hI : Inv n g) (hn : n < 100000) (x1 x2 x3 : Int32) : wp_X11_hair 1 x1 x2 x3 g (fun r h1 => wp_X12_hair 400 x1 x2 x3 h1 (fun r' h2 => r' = r ∧ Inv (n + 1) h2)) := by
  obtain ⟨I, L, D, rfl, h⟩ := hI
  have nA40 := h.nA40
  have nL6 := h.nL6
  have cA : ∀ J : Nat → Nat → Int32, J 400 12 = nI D.nA → (up2 J 400 0 0) 400 12 = nI D.nA := fun J q => (up2_o (by omega)).trans q
  have c0 := h.mA
  unfold wp_X11_hair
  simp only [gK, gI, gL, gR_, g_stI, g_stL, forall_eq, true_and, ad_s, okA_s, okO_s, okN_s, i10, i00, if_true, if_false, reduceCtorEq, Kf_1, Kf_400, x_ballAt nA40]
  by_cases w1 : inN x1 D.nA
  · obtain ⟨b, hb, rfl⟩ := inN_of (by omega) w1
    simp only [if_pos w1, gK, gI, gL, gR_, g_stI, g_stL, forall_eq, true_and, ad_s, okA_s, okO_s, okN_s, i10, i00, if_true, if_false, reduceCtorEq, Kf_1, Kf_400, x_isHair, nI_clamp (show b < 2 ^ 31 by omega)]
    by_cases w2 : inN x2 32
    · obtain ⟨j, hj, rfl⟩ := inN_of (by decide) w2
      simp only [if_pos w2, gK, gI, gL, gR_, g_stI, g_stL, forall_eq, true_and, ad_s, okA_s, okO_s, okN_s, i10, i00, if_true, if_false, reduceCtorEq, Kf_1, Kf_400, x_isHeight]
      have main : (-1 ≤ x3 ∧ x3 ≤ 63) → wp_X11_hair_J33 1 (nI b) (nI j) x3 (some (160 + 2 * b)) (fun r h1 => wp_X12_hair 400 (nI b) (nI j) x3 h1 (fun r' h2 => r' = r ∧ Inv (n + 1) h2)) (fm I L D) := by
        intro w3'
        unfold wp_X11_hair_J33
        simp only [gK, gI, gL, gR_, g_stI, g_stL, forall_eq, true_and, ad_s, okA_s, okO_s, okN_s, i10, i00, if_true, if_false, reduceCtorEq, Kf_1, Kf_400, Kf_ball hb nA40, Rf_ball hb nA40, Kf_ballr hb nA40, vp_in_nI hj (show 32 < 2 ^ 31 by decide), nI_clamp (show j < 2 ^ 31 by omega)]
        refine x_hair_L44 nL6 (by omega) (fun J f1 f2 => ?_)
        have jx : ∀ l k, ¬ Xs_K l k → ¬ (l = 160 + 2 * b + 1 ∧ k = j) → J l k = I l k := fun l k a1 a2 => (f1 l k a1).trans (up2_o a2)
        have jb : J (160 + 2 * b + 1) j = x3 := (f1 _ _ (by unfold Xs_K; omega)).trans up2_s
        have k0 : J 400 12 = nI D.nA := (jx 400 12 (by unfold Xs_K; omega) (by omega)).trans c0
        unfold wp_X12_hair
        simp only [gK, gI, gL, gR_, g_stI, g_stL, forall_eq, true_and, ad_s, okA_s, okO_s, okN_s, i10, i00, if_true, if_false, reduceCtorEq, Kf_1, Kf_400, m_isBall (cA _ k0), if_pos w1, m_isHair, if_pos w2, m_isIn, if_pos w3', Rf_400_13, Kf_414, ix32, vp_in_nI (show 32 * b + j < 1280 by omega) (show 1280 < 2 ^ 31 by decide), nI_clamp (show 32 * b + j < 2 ^ 31 by omega)]
        generalize hM : up2 (up2 (up2 J 400 0 0) 414 (32 * b + j) x3) 400 17 _ = M
        have m17 : M 400 17 = I 400 17 + 1 := by
          rw [← hM, up2_s, up2_o (by omega), up2_o (by omega), jx 400 17 (by unfold Xs_K; omega) (by omega)]
        have mx : ∀ l k, ¬ Xs_K l k → ¬ (l = 160 + 2 * b + 1 ∧ k = j) → ¬ (l = 414 ∧ k = 32 * b + j) → ¬ (l = 400 ∧ (k = 0 ∨ k = 17)) → M l k = I l k := by
          intro l k a1 a2 a3 a4
          rw [← hM, up2_o (by omega), up2_o a3, up2_o (by omega)]
          exact jx l k a1 a2
        have m414 : M 414 (32 * b + j) = x3 := by rw [← hM, up2_o (by omega), up2_s]
        have mb : M (160 + 2 * b + 1) j = x3 := by rw [← hM, up2_o (by omega), up2_o (by omega), up2_o (by omega)]; exact jb
        have mk : ∀ l a c, l < D.nL → a < 40 → c < 40 → M (240 + 2 * l + 1) (40 * a + c) = if a = b ∨ c = b then 0 else I (240 + 2 * l + 1) (40 * a + c) := by
          intro l a c hl ha hc
          rw [← hM, up2_o (by omega), up2_o (by omega), up2_o (by omega), f2 l a c hl ha hc, up2_o (by omega)]
        have mT : ∀ r, r < 7 → TSame I M r := fun r hr => ⟨mx _ _ (by unfold Xs_K; omega) (by omega) (by omega) (by omega), fun i hi => ⟨mx _ _ (by unfold Xs_K; omega) (by omega) (by omega) (by omega), mx _ _ (by unfold Xs_K; omega) (by omega) (by omega) (by omega), mx _ _ (by unfold Xs_K; omega) (by omega) (by omega) (by omega), mx _ _ (by unfold Xs_K; omega) (by omega) (by omega) (by omega)⟩, fun k hk => ⟨mx _ _ (by unfold Xs_K; omega) (by omega) (by omega) (by omega), mx _ _ (by unfold Xs_K; omega) (by omega) (by omega) (by omega)⟩⟩
        have V := CKV (I' := M) (gu := D.2.1) (a0 := D.nA) h hn b m17 (mx 400 49 (by unfold Xs_K; omega) (by omega) (by omega) (by omega)) (fun a ha t ht => mx 414 (32 * a + t) (by unfold Xs_K; omega) (by omega) (by omega) (by omega)) (fun l => mx _ _ (by unfold Xs_K; omega) (by omega) (by omega) (by omega)) mT mk (Nat.le_refl _) (fun a ha => Or.inl ha)
        refine ⟨_, _, _, rfl, InvI_D3 (a := D.nA) (gu := D.2.1) (L' := L) h ⟨h.1, ?_, ?_, ?_, V⟩ h.2.2.2.2.2.2.2.2.1 (fun l k h1 h2 => ?_)⟩
        · obtain ⟨c1, c2, c3, c4, c5, c6, c7, c8, c9, c10, c11⟩ := h.2.1
          refine ⟨?_, ?_, ?_, ?_, ?_, ?_, ?_, ?_, ?_, ?_, ?_⟩
          · rw [mx _ _ (by unfold Xs_K; omega) (by omega) (by omega) (by omega)]; exact c1
          · rw [mx _ _ (by unfold Xs_K; omega) (by omega) (by omega) (by omega)]; exact c2
          · rw [mx _ _ (by unfold Xs_K; omega) (by omega) (by omega) (by omega)]; exact c3
          · rw [mx _ _ (by unfold Xs_K; omega) (by omega) (by omega) (by omega)]; exact c4
          · rw [mx _ _ (by unfold Xs_K; omega) (by omega) (by omega) (by omega)]; exact c5
          · rw [mx _ _ (by unfold Xs_K; omega) (by omega) (by omega) (by omega)]; exact c6
          · rw [mx _ _ (by unfold Xs_K; omega) (by omega) (by omega) (by omega)]; exact c7
          · rw [mx _ _ (by unfold Xs_K; omega) (by omega) (by omega) (by omega)]; exact c8
          · rw [mx _ _ (by unfold Xs_K; omega) (by omega) (by omega) (by omega)]; exact c9
          · rw [mx _ _ (by unfold Xs_K; omega) (by omega) (by omega) (by omega)]; exact c10
          · rw [mx _ _ (by unfold Xs_K; omega) (by omega) (by omega) (by omega)]; exact c11
        · intro i hi
          have hi : i < D.nB := hi
          have := h.1.2.1
          obtain ⟨w1, w2, w3, w4, w5, w6, w7, w8⟩ := h.2.2.2.2.1 i hi
          have ha : ∀ l k, 120 ≤ l → l < 152 → M l k = I l k := fun l k a1 a2 => mx l k (by unfold Xs_K; omega) (by omega) (by omega) (by omega)
          have hb : ∀ l k, 407 ≤ l → l < 413 → M l k = I l k := fun l k a1 a2 => mx l k (by unfold Xs_K; omega) (by omega) (by omega) (by omega)
          refine ⟨fun j hj => ?_, ?_, ?_, ?_, ?_, ?_, ?_, ?_⟩
          · rw [ha _ _ (by omega) (by omega), hb _ _ (by omega) (by omega)]; exact w1 j hj
          · rw [ha _ _ (by omega) (by omega)]; exact w2
          · rw [ha _ _ (by omega) (by omega), hb _ _ (by omega) (by omega)]; exact w3
          · rw [hb _ _ (by omega) (by omega)]; exact w4
          · rw [ha _ _ (by omega) (by omega), hb _ _ (by omega) (by omega)]; exact w5
          · rw [ha _ _ (by omega) (by omega), hb _ _ (by omega) (by omega)]; exact w6
          · rw [ha _ _ (by omega) (by omega), hb _ _ (by omega) (by omega)]; exact w7
          · rw [ha _ _ (by omega) (by omega), hb _ _ (by omega) (by omega)]; exact w8
        · intro i hi
          have hi : i < D.nA := hi
          obtain ⟨w1, w2, w3, w4, w5⟩ := h.2.2.2.2.2.1 i hi
          have mx2 : ∀ l k, 160 ≤ l → l < 240 → ¬ (l = 160 + 2 * b + 1 ∧ k = j) → M l k = I l k := fun l k a1 a2 a3 => mx l k (by unfold Xs_K; omega) a3 (by omega) (by omega)
          have mx3 : ∀ l k, 415 ≤ l → l < 418 → M l k = I l k := fun l k a1 a2 => mx l k (by unfold Xs_K; omega) (by omega) (by omega) (by omega)
          refine ⟨fun t ht => ?_, ?_, ?_, ?_, ?_⟩
          · by_cases e : i = b ∧ t = j
            · rw [e.1, e.2, mb, m414]; exact ⟨rfl, w3'⟩
            · rw [mx2 _ _ (by omega) (by omega) (by omega), mx 414 _ (by unfold Xs_K; omega) (by omega) (by omega) (by omega)]
              exact w1 t ht
          · rw [mx2 _ _ (by omega) (by omega) (by omega)]; exact w2
          · rw [mx3 _ _ (by omega) (by omega)]; exact w3
          · rw [mx2 _ _ (by omega) (by omega) (by omega), mx3 _ _ (by omega) (by omega)]; exact w4
          · rw [mx2 _ _ (by omega) (by omega) (by omega), mx3 _ _ (by omega) (by omega)]; exact w5
        · unfold Scr at h1
          unfold Xs_D3 at h2
          exact mx l k (by unfold Xs_K; omega) (by omega) (by omega) (by omega)
      by_cases e1 : x3 = -1
      · rw [if_pos e1]
        exact main (h63.mpr (Or.inl e1))
      · rw [if_neg e1]
        by_cases w3 : inN x3 64
        · simp only [if_pos w3, gK, gI, gL, gR_, g_stI, g_stL, forall_eq, true_and, ad_s, okA_s, okO_s, okN_s, i10, i00, if_true, if_false, reduceCtorEq, Kf_1, Kf_400]
          exact main (h63.mpr (Or.inr w3))
        · simp only [if_neg w3, gK, gI, gL, gR_, g_stI, g_stL, forall_eq, true_and, ad_s, okA_s, okO_s, okN_s, i10, i00, if_true, if_false, reduceCtorEq, Kf_1, Kf_400]
          unfold wp_X12_hair
          simp only [gK, gI, gL, gR_, g_stI, g_stL, forall_eq, true_and, ad_s, okA_s, okO_s, okN_s, i10, i00, if_true, if_false, reduceCtorEq, Kf_1, Kf_400, m_isBall (cA _ c0), if_pos w1, m_isHair, if_pos w2, m_isIn, if_neg (fun z => (h63.mp z).elim e1 w3)]
          exact Inv_told h
    · simp only [if_neg w2, gK, gI, gL, gR_, g_stI, g_stL, forall_eq, true_and, ad_s, okA_s, okO_s, okN_s, i10, i00, if_true, if_false, reduceCtorEq, Kf_1, Kf_400]
      unfold wp_X12_hair
      simp only [gK, gI, gL, gR_, g_stI, g_stL, forall_eq, true_and, ad_s, okA_s, okO_s, okN_s, i10, i00, if_true, if_false, reduceCtorEq, Kf_1, Kf_400, m_isBall (cA _ c0), if_pos w1, m_isHair, if_neg w2]
      exact Inv_told h
  · simp only [if_neg w1, gK, gI, gL, gR_, g_stI, g_stL, forall_eq, true_and, ad_s, okA_s, okO_s, okN_s, i10, i00, if_true, if_false, reduceCtorEq, Kf_1, Kf_400]
    unfold wp_X12_hair
    simp only [gK, gI, gL, gR_, g_stI, g_stL, forall_eq, true_and, ad_s, okA_s, okO_s, okN_s, i10, i00, if_true, if_false, reduceCtorEq, Kf_1, Kf_400, m_isBall (cA _ c0), if_neg w1]
    exact Inv_told h
