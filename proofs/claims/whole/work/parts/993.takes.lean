/-! A TEXT IS READ: the object (my own) -/
def XF (t0 : Nat) (I I' : Nat → Nat → Int32) : Prop := ∀ l k, ¬ ((l = 12 ∧ (k = 0 ∨ k = 1 ∨ k = 4 ∨ k = 5)) ∨ l = 10 ∨ l = 11 ∨ (l = 8 ∧ (k = 1 ∨ k = 4)) ∨ (20 + 8 * t0 ≤ l ∧ l ≤ 20 + 8 * t0 + 5)) → I' l k = I l k
def XTX (I : Nat → Nat → Int32) (t0 : Nat) (C : CD) (Ls : List LR) : Prop := C.length ≤ 600 ∧ I (20 + 8 * t0) 6 = nI C.length ∧ (∀ (j : Nat) (e : Int32 × Int32), C[j]? = some e → I (20 + 8 * t0 + 5) j = stp e.1 e.2) ∧ (I (20 + 8 * t0) 8 = 0 ∨ I (20 + 8 * t0) 8 = 1) ∧ (I (20 + 8 * t0) 8 = 0 → ∀ j : Nat, C[j]? ≠ some ((1 : Int32), (11 : Int32))) ∧ I (20 + 8 * t0) 7 = nI Ls.length ∧ Ls.length ≤ 16 ∧ ∀ (x : Nat) (q : LR), Ls[x]? = some q → I (20 + 8 * t0 + 1) x = nI (260 + q.1) ∧ I (20 + 8 * t0 + 2) x = nI q.2.1 ∧ I (20 + 8 * t0 + 3) x = nI q.2.2.1 ∧ I (20 + 8 * t0 + 4) x = nI q.2.2.2
theorem x_read {L : Nat → Nat → Int64} {D : DD} {I : Nat → Nat → Int32} {n t0 : Nat} {b : Nat → Nat} (hB : XB I n b) (ht : D.tx 0 = t0) (ht2 : t0 < 2 + D.nL) (hnL : D.nL ≤ 6) {lw : Bool} {v : Int32} (hv : v = if lw = true then 1 else 0) {Q : Int32 → Hp → Prop} (hok : ∀ c KS C Ls I', TKs b n c KS → pText lw KS 18 0 [] [] = .inr (C, Ls) → XF t0 I I' → I' 8 1 = 0 → I' 12 0 = 0 → I' 12 1 = -1 → XTX I' t0 C Ls → Q 1 (fm I' L D)) (hbad : ∀ c KS k j I', TKs b n c KS → pText lw KS 18 0 [] [] = .inl (k, j) → XF t0 I I' → I' 8 1 = 0 → I' 12 0 = nI k → I' 12 1 = nI (PSf b n j) → 0 < k → k < 4 → Q 0 (fm I' L D)) : wp_X5_read 12 v (fm I L D) Q := by
  have hn := hB.1
  have t8 : t0 < 8 := by omega
  have zv : okZ v := by
    rw [hv]
    cases lw
    · exact ⟨rfl, rfl⟩
    · exact ⟨rfl, rfl⟩
  unfold wp_X5_read
  simp only [gK, gI, gL, gR_, g_stI, g_stL, forall_eq, true_and, ad_s, okA_s, okO_s, okN_s, i10, i00, if_true, if_false, reduceCtorEq, Kf_1, Kf_400, Kf_12, zv, Rf_12_2, Kf_8]
  obtain ⟨G, hG⟩ : ∃ G, up2 (up2 (up2 (up2 I 12 4 v) 12 5 0) 12 0 0) 12 1 (-1) = G := ⟨_, rfl⟩
  have g4 : G 12 4 = v := by rw [← hG, up2_o (by omega), up2_o (by omega), up2_o (by omega), up2_s]
  have g5 : G 12 5 = 0 := by rw [← hG, up2_o (by omega), up2_o (by omega), up2_s]
  have g0 : G 12 0 = 0 := by rw [← hG, up2_o (by omega), up2_s]
  have g1 : G 12 1 = -1 := by rw [← hG, up2_s]
  have gf : ∀ l k, ¬ (l = 12 ∧ (k = 0 ∨ k = 1 ∨ k = 4 ∨ k = 5)) → G l k = I l k := fun l k z => by rw [← hG, up2_o (by omega), up2_o (by omega), up2_o (by omega), up2_o (by omega)]
  rw [hG]
  clear hG
  have hBG : XB G n b := ⟨hB.1, (gf 8 1 (by omega)).trans hB.2.1, fun j hj => by rw [gf 9 j (by omega)]; exact hB.2.2 j hj⟩
  refine x_scan hBG (fun c J hc hf hk h0 hpc hpl => ?_)
  have hT : TKs b n c (J 10) := ⟨hc, h0, hpc, hk⟩
  have j4 : J 12 4 = v := (hf 12 4 (by omega)).trans g4
  have hX : XC D J t0 c (J 10) (PSf b n) lw := ⟨ht, ht2, hnL, by omega, h0, fun i hi => ⟨rfl, hpl i hi⟩, j4.trans hv⟩
  simp only [gK, gI, gL, gR_, g_stI, g_stL, forall_eq, true_and, ad_s, okA_s, okO_s, okN_s, i10, i00, if_true, if_false, reduceCtorEq, Kf_1, Kf_400, Kf_12, ad12 hX, kTx hX]
  unfold wp_X7_clear
  simp only [gK, gI, gL, gR_, g_stI, g_stL, forall_eq, true_and, ad_s, okA_s, okO_s, okN_s, i10, i00, if_true, if_false, reduceCtorEq, Kf_1, Kf_400, kTx hX]
  obtain ⟨M, hM⟩ : ∃ M, up2 (up2 (up2 J (20 + 8 * t0) 6 0) (20 + 8 * t0) 7 0) (20 + 8 * t0) 8 0 = M := ⟨_, rfl⟩
  have m6 : M (20 + 8 * t0) 6 = 0 := by rw [← hM, up2_o (by omega), up2_o (by omega), up2_s]
  have m7 : M (20 + 8 * t0) 7 = 0 := by rw [← hM, up2_o (by omega), up2_s]
  have m8 : M (20 + 8 * t0) 8 = 0 := by rw [← hM, up2_s]
  have mf : ∀ l k, l ≠ 20 + 8 * t0 → M l k = J l k := fun l k z => by rw [← hM, up2_o (by omega), up2_o (by omega), up2_o (by omega)]
  rw [hM]
  clear hM
  have hXM : XC D M t0 c (J 10) (PSf b n) lw := XC_of hX (fun l k z => mf l k (by omega))
  have a0 : M 12 0 = 0 := (mf _ _ (by omega)).trans ((hf _ _ (by omega)).trans g0)
  have a1 : M 12 1 = -1 := (mf _ _ (by omega)).trans ((hf _ _ (by omega)).trans g1)
  have a5 : M 12 5 = 0 := (mf _ _ (by omega)).trans ((hf _ _ (by omega)).trans g5)
  have fr : ∀ I', FT t0 M I' → XF t0 I (up2 I' 8 1 0) := fun I' h l k z => by
    rw [up2_o (by omega), h l k (by omega), mf l k (by omega), hf l k (by omega), gf l k (by omega)]
  refine x_textL hXM (F := 18) 0 [] [] M fuel ?_ (by omega) (by exact Nat.zero_le _) (by exact Nat.zero_le _) (by decide) (by have := fuel_ge; simp only [List.length_nil]; omega) (fun C' Ls' I' j e hx hj hC => ?_) (fun k j I' e hx => ?_)
  · refine ⟨fun _ _ _ => rfl, ⟨a0, a1, a5, m6, fun j e he => by simp at he, Or.inl m8, fun _ j he => by simp at he⟩, m7, by exact Nat.zero_le _, fun x q hq => by simp at hq⟩
  · obtain ⟨hft, ⟨b1, b2, b3, b4, b5, b6, b7⟩, c1, c2, c3⟩ := hx
    have u0 : up2 I' 8 1 0 12 0 = 0 := (up2_o (by omega)).trans b1
    simp only [gK, gI, gL, gR_, g_stI, g_stL, forall_eq, true_and, ad_s, okA_s, okO_s, okN_s, i10, i00, if_true, if_false, reduceCtorEq, Kf_1, Kf_400, Kf_12, Rf_12_2, Kf_8, u0]
    refine hok c _ C' Ls' _ hT e (fr I' hft) up2_s u0 ((up2_o (by omega)).trans b2) ⟨by omega, (up2_o (by omega)).trans b4, fun j e he => (up2_o (by omega)).trans (b5 j e he), ?_, fun z => b7 ((up2_o (by omega)).symm.trans z), (up2_o (by omega)).trans c1, c2, fun x q hq => ?_⟩
    · rw [up2_o (by omega)]; exact b6
    · rw [up2_o (by omega), up2_o (by omega), up2_o (by omega), up2_o (by omega)]; exact c3 x q hq
  · obtain ⟨hft, b1, b2, b3, b4⟩ := hx
    have u0 : up2 I' 8 1 0 12 0 = nI k := (up2_o (by omega)).trans b1
    simp only [gK, gI, gL, gR_, g_stI, g_stL, forall_eq, true_and, ad_s, okA_s, okO_s, okN_s, i10, i00, if_true, if_false, reduceCtorEq, Kf_1, Kf_400, Kf_12, Rf_12_2, Kf_8, u0]
    rw [if_neg (nI_ne0 b3 (by omega))]
    exact hbad c _ k j _ hT e (fr I' hft) up2_s u0 ((up2_o (by omega)).trans b2) b3 b4
/-! A TEXT IS READ: the reference (my own) -/
section MT
variable {L : Nat → Nat → Int64} {D : DD}
def FL (row : Nat) (I0 I : Nat → Nat → Int32) (x : Nat) : Prop := (∀ l k, ¬ (427 ≤ l ∧ l ≤ 430 ∧ 16 * row ≤ k ∧ k < 16 * row + 16) → I l k = I0 l k) ∧ ∀ y, y < x → ∀ l, 427 ≤ l → l ≤ 430 → I l (16 * row + y) = I0 l (112 + y)
theorem m_copyL {I0 : Nat → Nat → Int32} {row m : Nat} (hr : row ≤ 6) (hm : m ≤ 16) {K : Hp → Prop} {Q : Int32 → Hp → Prop} (hK : ∀ I, FL row I0 I m → K (fm I L D)) : ∀ (N x : Nat) (I : Nat → Nat → Int32), x ≤ m → m < N + x → FL row I0 I x → wp_X12_takesText_L77 400 (nI row) (nI m) K Q N (nI x) (fm I L D) := by
  intro N
  induction N with
  | zero => intro x I h1 h2; omega
  | succ N ih =>
    intro x I h1 h2 hf
    rw [wp_X12_takesText_L77]
    by_cases e : x = m
    · rw [if_pos (nI_le (by omega) (by omega))]
      exact hK I (e ▸ hf)
    · rw [if_neg (nI_ge (by omega) (by omega))]
      have e112 : (112 : Int32) + nI x = nI (112 + x) := by rw [show (112 : Int32) = nI 112 from rfl, nI_add]
      have s : ∀ l, I l (112 + x) = I0 l (112 + x) := fun l => hf.1 l _ (by omega)
      obtain ⟨d, hd⟩ : ∃ d, 16 * row + x = d := ⟨_, rfl⟩
      have d1 : d < 128 := by omega
      have s1 : ∀ v, up2 I 427 d v 428 (112 + x) = I0 428 (112 + x) := fun v => (up2_o (by omega)).trans (s _)
      have s2 : ∀ v w, up2 (up2 I 427 d v) 428 d w 429 (112 + x) = I0 429 (112 + x) := fun v w => (up2_o (by omega)).trans ((up2_o (by omega)).trans (s _))
      have s3 : ∀ v w u, up2 (up2 (up2 I 427 d v) 428 d w) 429 d u 430 (112 + x) = I0 430 (112 + x) := fun v w u => (up2_o (by omega)).trans ((up2_o (by omega)).trans ((up2_o (by omega)).trans (s _)))
      simp only [e112, ix16, hd]
      simp only [gK, gI, gL, gR_, g_stI, g_stL, forall_eq, true_and, ad_s, okA_s, okO_s, okN_s, i10, i00, if_true, if_false, reduceCtorEq, Kf_1, Kf_400, Rf_400_26, Rf_400_27, Rf_400_28, Rf_400_29, Kf_427, Kf_428, Kf_429, Kf_430, vp_in_nI (show 112 + x < 128 by omega) (show 128 < 2 ^ 31 by decide), vp_in_nI (show d < 128 by omega) (show 128 < 2 ^ 31 by decide), nI_clamp (show 112 + x < 2 ^ 31 by omega), nI_clamp (show d < 2 ^ 31 by omega), s 427, s1, s2, s3, nI_1]
      refine ih (x + 1) _ (by omega) (by omega) ⟨fun l k z => ?_, fun y hy l l1 l2 => ?_⟩
      · rw [up2_o (by omega), up2_o (by omega), up2_o (by omega), up2_o (by omega)]; exact hf.1 l k z
      · by_cases ey : y = x
        · rw [ey, hd]
          by_cases q1 : l = 430
          · rw [q1, up2_s]
          · rw [up2_o (by omega)]
            by_cases q2 : l = 429
            · rw [q2, up2_s]
            · rw [up2_o (by omega)]
              by_cases q3 : l = 428
              · rw [q3, up2_s]
              · have q4 : l = 427 := by omega
                rw [up2_o (by omega), q4, up2_s]
        · rw [up2_o (by omega), up2_o (by omega), up2_o (by omega), up2_o (by omega)]; exact hf.2 y (by omega) l l1 l2
def FC (row : Nat) (I0 I : Nat → Nat → Int32) (x : Nat) : Prop := (∀ l k, ¬ ((l = 431 ∨ l = 432) ∧ 600 * row ≤ k ∧ k < 600 * row + 600) → I l k = I0 l k) ∧ ∀ y, y < x → ∀ l, l = 431 ∨ l = 432 → I l (600 * row + y) = I0 l (4200 + y)
theorem m_copyC {I0 : Nat → Nat → Int32} {row m : Nat} {x2 : Int32} (hr : row ≤ 6) (hm : m ≤ 600) (h33 : I0 400 33 = nI m) {K : Hp → Prop} {Q : Int32 → Hp → Prop} (hK : ∀ I, FC row I0 I m → K (fm I L D)) : ∀ (N x : Nat) (I : Nat → Nat → Int32), x ≤ m → m < N + x → FC row I0 I x → wp_X12_takesText_L170 400 (nI row) x2 K Q N (nI x) (fm I L D) := by
  intro N
  induction N with
  | zero => intro x I h1 h2; omega
  | succ N ih =>
    intro x I h1 h2 hf
    have i33 : I 400 33 = nI m := (hf.1 _ _ (by omega)).trans h33
    rw [wp_X12_takesText_L170]
    simp only [gK, gI, gL, gR_, g_stI, g_stL, forall_eq, true_and, ad_s, okA_s, okO_s, okN_s, i10, i00, if_true, if_false, reduceCtorEq, Kf_1, Kf_400, i33]
    by_cases e : x = m
    · rw [if_pos (nI_le (by omega) (by omega))]
      exact hK I (e ▸ hf)
    · rw [if_neg (nI_ge (by omega) (by omega))]
      have e42 : (4200 : Int32) + nI x = nI (4200 + x) := by rw [show (4200 : Int32) = nI 4200 from rfl, nI_add]
      have s : ∀ l, I l (4200 + x) = I0 l (4200 + x) := fun l => hf.1 l _ (by omega)
      obtain ⟨d, hd⟩ : ∃ d, 600 * row + x = d := ⟨_, rfl⟩
      have d1 : d < 4800 := by omega
      have s1 : ∀ v, up2 I 431 d v 432 (4200 + x) = I0 432 (4200 + x) := fun v => (up2_o (by omega)).trans (s _)
      simp only [e42, ix600, hd]
      simp only [gK, gI, gL, gR_, g_stI, g_stL, forall_eq, true_and, ad_s, okA_s, okO_s, okN_s, i10, i00, if_true, if_false, reduceCtorEq, Kf_1, Kf_400, Rf_400_30, Rf_400_31, Kf_431, Kf_432, vp_in_nI (show 4200 + x < 4800 by omega) (show 4800 < 2 ^ 31 by decide), vp_in_nI (show d < 4800 by omega) (show 4800 < 2 ^ 31 by decide), nI_clamp (show 4200 + x < 2 ^ 31 by omega), nI_clamp (show d < 2 ^ 31 by omega), s 431, s1, nI_1]
      refine ih (x + 1) _ (by omega) (by omega) ⟨fun l k z => ?_, fun y hy l l1 => ?_⟩
      · rw [up2_o (by omega), up2_o (by omega)]; exact hf.1 l k z
      · by_cases ey : y = x
        · rw [ey, hd]
          by_cases q1 : l = 432
          · rw [q1, up2_s]
          · have q4 : l = 431 := by omega
            rw [up2_o (by omega), q4, up2_s]
        · rw [up2_o (by omega), up2_o (by omega)]; exact hf.2 y (by omega) l l1
end MT
