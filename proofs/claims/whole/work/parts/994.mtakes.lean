/-! A TEXT IS TAKEN: the reference (my own) -/
def MF (row : Nat) (I I' : Nat → Nat → Int32) : Prop := ∀ l k, ¬ ((l = 400 ∧ (k = 17 ∨ (19 ≤ k ∧ k ≤ 23) ∨ (32 ≤ k ∧ k ≤ 34) ∨ (36 ≤ k ∧ k ≤ 40))) ∨ ((l = 431 ∨ l = 432) ∧ (4200 ≤ k ∨ (600 * row ≤ k ∧ k < 600 * row + 600))) ∨ l = 436 ∨ (427 ≤ l ∧ l ≤ 430 ∧ (112 ≤ k ∨ (16 * row ≤ k ∧ k < 16 * row + 16))) ∨ (l = 426 ∧ k = row)) → I' l k = I l k
def MF0 (I I' : Nat → Nat → Int32) : Prop := ∀ l k, ¬ ((l = 400 ∧ ((19 ≤ k ∧ k ≤ 23) ∨ (32 ≤ k ∧ k ≤ 34) ∨ (36 ≤ k ∧ k ≤ 40))) ∨ ((l = 431 ∨ l = 432) ∧ 4200 ≤ k) ∨ l = 436 ∨ (427 ≤ l ∧ l ≤ 430 ∧ 112 ≤ k)) → I' l k = I l k
theorem m_takes {L : Nat → Nat → Int64} {D : DD} {I : Nat → Nat → Int32} {n c row : Nat} {b : Nat → Nat} {KS : Nat → Int32} {lw : Bool} (hB : MB I n b) (hT : TKs b n c KS) (hr : row ≤ 6) (hl : lw = true ↔ row = 0) {Q : Int32 → Hp → Prop} (hok : ∀ C Ls I', pText lw KS 18 0 [] [] = .inr (C, Ls) → MF row I I' → I' 400 19 = 0 → I' 400 39 = 0 → I' 400 40 = -1 → I' 400 17 = I 400 17 + 1 → I' 426 row = nI Ls.length → (∀ (x : Nat) (q : LR), Ls[x]? = some q → I' 427 (16 * row + x) = nI q.1 ∧ I' 428 (16 * row + x) = nI q.2.1 ∧ I' 429 (16 * row + x) = nI q.2.2.1 ∧ I' 430 (16 * row + x) = nI q.2.2.2) → (∀ (j : Nat) (e : Int32 × Int32), C[j]? = some e → I' 431 (600 * row + j) = e.1 ∧ I' 432 (600 * row + j) = e.2) → Q (nI Ls.length) (fm I' L D)) (hbad : ∀ k j I', pText lw KS 18 0 [] [] = .inl (k, j) → MF0 I I' → I' 400 19 = 0 → I' 400 39 = nI k → I' 400 40 = nI (PSf b n j) → Q (-1) (fm I' L D)) : wp_X12_takesText 400 (nI row) (fm I L D) Q := by
  have hn := hB.1
  have tc := hT.1
  unfold wp_X12_takesText
  have main : ∀ v : Int32, (v = if lw = true then 1 else 0) → wp_X12_takesText_J20 400 (nI row) v (some 400) Q (fm (up2 (up2 I 400 39 0) 400 40 (-1)) L D) := by
    intro v hv
    have zv : okZ v := by
      rw [hv]
      cases lw
      · exact ⟨rfl, rfl⟩
      · exact ⟨rfl, rfl⟩
    unfold wp_X12_takesText_J20
    simp only [gK, gI, gL, gR_, g_stI, g_stL, forall_eq, true_and, ad_s, okA_s, okO_s, okN_s, i10, i00, if_true, if_false, reduceCtorEq, Kf_1, Kf_400, zv, if_neg (nI_nm1 (show row < 2 ^ 31 by omega))]
    unfold wp_X12_readText
    simp only [gK, gI, gL, gR_, g_stI, g_stL, forall_eq, true_and, ad_s, okA_s, okO_s, okN_s, i10, i00, if_true, if_false, reduceCtorEq, Kf_1, Kf_400]
    obtain ⟨G, hG⟩ : ∃ G, up2 (up2 (up2 (up2 (up2 (up2 I 400 39 0) 400 40 (-1)) 400 32 v) 400 20 0) 400 33 0) 400 34 0 = G := ⟨_, rfl⟩
    have g39 : G 400 39 = 0 := by rw [← hG, up2_o (by omega), up2_o (by omega), up2_o (by omega), up2_o (by omega), up2_o (by omega), up2_s]
    have g40 : G 400 40 = -1 := by rw [← hG, up2_o (by omega), up2_o (by omega), up2_o (by omega), up2_o (by omega), up2_s]
    have g32 : G 400 32 = v := by rw [← hG, up2_o (by omega), up2_o (by omega), up2_o (by omega), up2_s]
    have g20 : G 400 20 = 0 := by rw [← hG, up2_o (by omega), up2_o (by omega), up2_s]
    have g33 : G 400 33 = 0 := by rw [← hG, up2_o (by omega), up2_s]
    have g34 : G 400 34 = 0 := by rw [← hG, up2_s]
    have gf : ∀ l k, ¬ (l = 400 ∧ (k = 39 ∨ k = 40 ∨ k = 32 ∨ k = 20 ∨ k = 33 ∨ k = 34)) → G l k = I l k := fun l k z => by
      rw [← hG, up2_o (by omega), up2_o (by omega), up2_o (by omega), up2_o (by omega), up2_o (by omega), up2_o (by omega)]
    rw [hG]
    clear hG
    have hBG : MB G n b := ⟨hB.1, (gf _ _ (by omega)).trans hB.2.1, fun j hj => by rw [gf 419 j (by omega)]; exact hB.2.2.1 j hj, fun j hj => (gf 425 j (by omega)).trans (hB.2.2.2 j hj)⟩
    refine m_first hBG hT g20 (fun J hf h21 ht he => ?_)
    have hM : MX L D G c KS (PSf b n) (fun i => EPp b n (PSf b n i)) lw := ⟨by omega, hT.2.1, m_RDs hBG hT, g32.trans hv⟩
    have hz : TPZ G J := fun l k z => hf l k (by omega)
    have j39 : J 400 39 = 0 := (hf _ _ (by omega)).trans g39
    have j40 : J 400 40 = -1 := (hf _ _ (by omega)).trans g40
    refine m_textL hM (F := 18) 0 [] [] J fuel hz ⟨⟨h21, ht, he, (hf _ _ (by omega)).trans g33, fun j e he => by simp at he⟩, (hf _ _ (by omega)).trans g34, fun x q hq => by simp at hq⟩ (by omega) (Nat.zero_le _) (Nat.zero_le _) (by decide) (by have := fuel_ge; simp only [List.length_nil]; omega) (fun C Ls M e hx hm h16 => ?_) (fun k j M e hx hm => ?_)
    · obtain ⟨j, ⟨⟨p1, p2, p3, p4, p5⟩, p6, p7⟩, hj, hC⟩ := hm
      unfold wp_X12_takesText_J36
      simp only [gK, gI, gL, gR_, g_stI, g_stL, forall_eq, true_and, ad_s, okA_s, okO_s, okN_s, i10, i00, if_true, if_false, reduceCtorEq, Kf_1, Kf_400, if_neg (nI_nm1 (show row < 2 ^ 31 by omega)), if_neg (nI_nm1 (show Ls.length < 2 ^ 31 by omega))]
      unfold wp_X12_takesText_J68
      rw [if_neg (nI_nm1 (show Ls.length < 2 ^ 31 by omega))]
      have h0 : ∀ l k, ¬ (l = 400 ∧ k = 19) → up2 M 400 19 0 l k = M l k := fun l k z => up2_o (by omega)
      refine m_copyL hr h16 (fun A hA => ?_) fuel 0 _ (Nat.zero_le _) (by have := fuel_ge; omega) ⟨fun _ _ _ => rfl, fun y hy => by omega⟩
      have a33 : A 400 33 = nI C.length := (hA.1 _ _ (by omega)).trans ((h0 _ _ (by omega)).trans p4)
      refine m_copyC hr (show C.length ≤ 600 by omega) a33 (fun B hB' => ?_) fuel 0 A (Nat.zero_le _) (by have := fuel_ge; omega) ⟨fun _ _ _ => rfl, fun y hy => by omega⟩
      have b17 : up2 B 426 row (nI Ls.length) 400 17 = I 400 17 := by
        rw [up2_o (by omega), hB'.1 _ _ (by omega), hA.1 _ _ (by omega), h0 _ _ (by omega), hx _ _ (by omega), hf _ _ (by omega), gf _ _ (by omega)]
      simp only [gK, gI, gL, gR_, g_stI, g_stL, forall_eq, true_and, ad_s, okA_s, okO_s, okN_s, i10, i00, if_true, if_false, reduceCtorEq, Kf_1, Kf_400, Rf_400_25, Kf_426, vp_in_nI (show row < 8 by omega) (show 8 < 2 ^ 31 by decide), nI_clamp (show row < 2 ^ 31 by omega), b17]
      refine hok C Ls _ e (fun l k z => ?_) ?_ ?_ ?_ up2_s ?_ (fun x q hq => ?_) (fun i ee hi => ?_)
      · rw [up2_o (by omega), up2_o (by omega), hB'.1 l k (by omega), hA.1 l k (by omega), h0 l k (by omega), hx l k (by omega), hf l k (by omega), gf l k (by omega)]
      · rw [up2_o (by omega), up2_o (by omega), hB'.1 _ _ (by omega), hA.1 _ _ (by omega), up2_s]
      · rw [up2_o (by omega), up2_o (by omega), hB'.1 _ _ (by omega), hA.1 _ _ (by omega), h0 _ _ (by omega), hx _ _ (by omega)]; exact j39
      · rw [up2_o (by omega), up2_o (by omega), hB'.1 _ _ (by omega), hA.1 _ _ (by omega), h0 _ _ (by omega), hx _ _ (by omega)]; exact j40
      · rw [up2_o (by omega), up2_s]
      · have xl : x < Ls.length := (List.getElem?_eq_some_iff.mp hq).1
        have w := p7 x q hq
        have z : ∀ l, 427 ≤ l → l ≤ 430 → up2 (up2 B 426 row (nI Ls.length)) 400 17 (I 400 17 + 1) l (16 * row + x) = M l (112 + x) := fun l l1 l2 => by
          rw [up2_o (by omega), up2_o (by omega), hB'.1 l _ (by omega), hA.2 x xl l l1 l2, h0 _ _ (by omega)]
        rw [z 427 (by omega) (by omega), z 428 (by omega) (by omega), z 429 (by omega) (by omega), z 430 (by omega) (by omega)]
        exact w
      · have xl : i < C.length := (List.getElem?_eq_some_iff.mp hi).1
        have w := p5 i ee hi
        have z : ∀ l, l = 431 ∨ l = 432 → up2 (up2 B 426 row (nI Ls.length)) 400 17 (I 400 17 + 1) l (600 * row + i) = M l (4200 + i) := fun l l1 => by
          rw [up2_o (by omega), up2_o (by omega), hB'.2 i xl l l1, hA.1 l _ (by omega), h0 _ _ (by omega)]
        rw [z 431 (by omega), z 432 (by omega)]
        exact w
    · obtain ⟨p1, p2⟩ := hm
      unfold wp_X12_takesText_J36
      have m37 : up2 M 400 19 0 400 37 = nI k := (up2_o (by omega)).trans p1
      have m38 : ∀ v, up2 (up2 M 400 19 0) 400 39 v 400 38 = nI (PSf b n j) := fun v => (up2_o (by omega)).trans ((up2_o (by omega)).trans p2)
      simp only [gK, gI, gL, gR_, g_stI, g_stL, forall_eq, true_and, ad_s, okA_s, okO_s, okN_s, i10, i00, if_true, if_false, reduceCtorEq, Kf_1, Kf_400, if_neg (nI_nm1 (show row < 2 ^ 31 by omega)), m37, m38]
      unfold wp_X12_takesText_J68
      rw [if_pos rfl]
      refine hbad k j _ e (fun l k z => ?_) ?_ ?_ up2_s
      · rw [up2_o (by omega), up2_o (by omega), up2_o (by omega), hx l k (by omega), hf l k (by omega), gf l k (by omega)]
      · rw [up2_o (by omega), up2_o (by omega), up2_s]
      · rw [up2_o (by omega), up2_s]
  simp only [gK, gI, gL, gR_, g_stI, g_stL, forall_eq, true_and, ad_s, okA_s, okO_s, okN_s, i10, i00, if_true, if_false, reduceCtorEq, Kf_1, Kf_400]
  by_cases e : row = 0
  · have : lw = true := hl.mpr e
    rw [if_pos (by rw [e]; rfl)]
    exact main 1 (by rw [if_pos this])
  · have : ¬ lw = true := fun z => e (hl.mp z)
    rw [if_neg (nI_ne0 (by omega) (by omega))]
    exact main 0 (by rw [if_neg this])
/-- no looker: the tape is only emptied -/
theorem m_takesN {L : Nat → Nat → Int64} {D : DD} {I : Nat → Nat → Int32} {Q : Int32 → Hp → Prop} (hQ : ∀ I', (∀ l k, ¬ (l = 400 ∧ (k = 19 ∨ k = 32 ∨ k = 39 ∨ k = 40)) → I' l k = I l k) → I' 400 19 = 0 → I' 400 39 = 0 → I' 400 40 = -1 → Q (-1) (fm I' L D)) : wp_X12_takesText 400 (-1) (fm I L D) Q := by
  have zv : okZ (0 : Int32) := ⟨rfl, rfl⟩
  unfold wp_X12_takesText
  simp only [gK, gI, gL, gR_, g_stI, g_stL, forall_eq, true_and, ad_s, okA_s, okO_s, okN_s, i10, i00, if_true, if_false, reduceCtorEq, Kf_1, Kf_400, show ¬ (-1 : Int32) = 0 by decide]
  unfold wp_X12_takesText_J20
  simp only [gK, gI, gL, gR_, g_stI, g_stL, forall_eq, true_and, ad_s, okA_s, okO_s, okN_s, i10, i00, if_true, if_false, reduceCtorEq, Kf_1, Kf_400, zv]
  unfold wp_X12_takesText_J36
  simp only [gK, gI, gL, gR_, g_stI, g_stL, forall_eq, true_and, ad_s, okA_s, okO_s, okN_s, i10, i00, if_true, if_false, reduceCtorEq, Kf_1, Kf_400]
  unfold wp_X12_takesText_J68
  rw [if_pos rfl]
  refine hQ _ (fun l k z => ?_) up2_s ?_ ?_
  · rw [up2_o (by omega), up2_o (by omega), up2_o (by omega), up2_o (by omega)]
  · rw [up2_o (by omega), up2_o (by omega), up2_o (by omega), up2_s]
  · rw [up2_o (by omega), up2_o (by omega), up2_s]
