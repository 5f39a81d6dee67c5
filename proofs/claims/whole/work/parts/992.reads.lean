/-! TOKENS: both read the same ones (my own) -/
theorem nI_nm1 {v : Nat} (hv : v < 2 ^ 31) : ¬ nI v = (-1 : Int32) := fun z => nI_pos hv (by rw [z]; decide)
theorem tok_letter {b : Nat → Nat} {n P w : Nat} {k : Int32} (c1 : srt (b P) = 1) (hw : w < 23) (hi : wIs b P (runN b n P) (piW w)) (hk : kindR b n P k) : tokR k 2 (nI w) := by
  rcases hk with ⟨-, hk⟩ | ⟨q, -⟩ | ⟨q, -⟩
  · rcases hk with ⟨w', hw', hi', rfl⟩ | ⟨hno, -⟩
    · have := wIs_uniq (piW_lt w hw).1 hw' hi hi'
      exact Or.inr (Or.inr (Or.inl ⟨w, hw, rfl, rfl, by rw [this]⟩))
    · exact absurd hi (hno _ (piW_lt w hw).1)
  · omega
  · omega
theorem tok_noword {b : Nat → Nat} {n P : Nat} {k v : Int32} (c1 : srt (b P) = 1) (hno : ∀ w, w < 23 → ¬ wIs b P (runN b n P) (piW w)) (hk : kindR b n P k) : tokR k 1 v := by
  rcases hk with ⟨-, hk⟩ | ⟨q, -⟩ | ⟨q, -⟩
  · rcases hk with ⟨w', hw', hi', rfl⟩ | ⟨-, e⟩
    · obtain ⟨w, hw, e⟩ := piW_sur w' hw'
      rw [← e] at hi'
      exact absurd hi' (hno w hw)
    · exact Or.inr (Or.inl ⟨e, rfl⟩)
  · omega
  · omega
theorem m_reads {L : Nat → Nat → Int64} {D : DD} {n : Nat} {b : Nat → Nat} {I : Nat → Nat → Int32} (hB : MB I n b) {q : Nat} (hq : q ≤ n) (hb : Bdy b n q) (h20 : I 400 20 = nI q) {P : Nat} (hP : nx b (n - q) q = P) {Q : Hp → Prop} (hQ : ∀ I', (∀ l k, ¬ (l = 400 ∧ 20 ≤ k ∧ k ≤ 23) → I' l k = I l k) → I' 400 21 = nI P → (∀ k, (P < n → kindR b n P k) → (P = n → k = 0) → tokR k (I' 400 22) (I' 400 23)) → I' 400 20 = nI (EPp b n P) → Q (fm I' L D)) : wp_X12_reads 400 (fm I L D) Q := by
  have hn := hB.1
  have hPn : P ≤ n := by have := (nx_le b (n - q) q).2; omega
  have hPs : P < n → isSt b P := fun z => by
    have := nx_st b (n - q) q (by omega)
    rw [hP] at this; exact this
  unfold wp_X12_reads
  refine m_skip hB (fun J hf h20' => ?_) fuel q I hq (by have := fuel_ge; omega) (fun _ _ _ => rfl) h20 hb hP
  simp only [gK, gI, gL, gR_, g_stI, g_stL, forall_eq, true_and, ad_s, okA_s, okO_s, okN_s, i10, i00, if_true, if_false, reduceCtorEq, Kf_1, Kf_400, h20']
  obtain ⟨G, hG⟩ : ∃ G, up2 (up2 J 400 21 (nI P)) 400 22 1 = G := ⟨_, rfl⟩
  have g20 : G 400 20 = nI P := by rw [← hG, up2_o (by omega), up2_o (by omega)]; exact h20'
  have g21 : G 400 21 = nI P := by rw [← hG, up2_o (by omega), up2_s]
  have g22 : G 400 22 = 1 := by rw [← hG, up2_s]
  have gf : ∀ l k, ¬ (l = 400 ∧ 20 ≤ k ∧ k ≤ 23) → G l k = I l k := fun l k z => by rw [← hG, up2_o (by omega), up2_o (by omega)]; exact hf l k (by omega)
  have hBG : MB G n b := hB.fr gf
  rw [hG]
  clear hG
  rw [g20, m_raw hBG (show P < 2 ^ 31 by omega)]
  by_cases c : P < n
  · have l2 := (hBG.2.2.1 P c).2
    have hst := hPs c
    have n0 : srt (b P) ≠ 0 := by
      rcases hst with z | z
      · omega
      · exact z.1
    have s4 := srt_lt (b P)
    have er : rawV b n P = nI (b P) := if_pos c
    rw [er, if_neg (nI_nm1 (show b P < 2 ^ 31 by omega))]
    simp only [gK, gI, gL, gR_, g_stI, g_stL, forall_eq, true_and, ad_s, okA_s, okO_s, okN_s, i10, i00, if_true, if_false, reduceCtorEq, Kf_1, Kf_400, g20, nI_1]
    obtain ⟨H, hH⟩ : ∃ H, up2 (up2 G 400 20 (nI (P + 1))) 400 23 (nI (b P)) = H := ⟨_, rfl⟩
    have e20 : H 400 20 = nI (P + 1) := by rw [← hH, up2_o (by omega), up2_s]
    have e21 : H 400 21 = nI P := by rw [← hH, up2_o (by omega), up2_o (by omega)]; exact g21
    have e22 : H 400 22 = 1 := by rw [← hH, up2_o (by omega), up2_o (by omega)]; exact g22
    have e23 : H 400 23 = nI (b P) := by rw [← hH, up2_s]
    have ef : ∀ l k, ¬ (l = 400 ∧ 20 ≤ k ∧ k ≤ 23) → H l k = I l k := fun l k z => by rw [← hH, up2_o (by omega), up2_o (by omega)]; exact gf l k z
    have hBH : MB H n b := hB.fr ef
    rw [hH]
    clear hH
    obtain ⟨r0, r1⟩ := runN_le (b := b) c
    rw [m_isLetter l2]
    by_cases c1 : srt (b P) = 1
    · rw [if_pos c1, if_neg (by decide)]
      have hE : EPp b n P = P + runN b n P := by unfold EPp; rw [if_pos c, if_neg (by omega)]
      refine m_letters hBH c c1 (fun M hM m20 => ?_) fuel (P + 1) H (by omega) (by have := fuel_ge; omega) (fun _ _ _ => rfl) e20 (by unfold runN; rw [c1]; omega)
      have m21 : M 400 21 = nI P := (hM _ _ (by omega)).trans e21
      have m22 : M 400 22 = 1 := (hM _ _ (by omega)).trans e22
      simp only [gK, gI, gL, gR_, g_stI, g_stL, forall_eq, true_and, ad_s, okA_s, okO_s, okN_s, i10, i00, if_true, if_false, reduceCtorEq, Kf_1, Kf_400, m20, m21]
      refine m_wordAt (hM.mb hBH) r1 (fun j hj => (runN_all hj).trans c1) (fun k hk => ?_)
      simp only [gK, gI, gL, gR_, g_stI, g_stL, forall_eq, true_and, ad_s, okA_s, okO_s, okN_s, i10, i00, if_true, if_false, reduceCtorEq, Kf_1, Kf_400, up2_s]
      rcases hk with ⟨w, hw, hi, rfl⟩ | ⟨hno, rfl⟩
      · rw [if_neg (nI_nm1 (show w < 2 ^ 31 by omega))]
        refine hQ _ (fun l k z => ?_) ?_ (fun k hk _ => ?_) ?_
        · rw [up2_o (by omega), up2_o (by omega), hM l k (by omega)]; exact ef l k z
        · rw [up2_o (by omega), up2_o (by omega)]; exact m21
        · rw [up2_s, up2_o (by omega), up2_s]
          exact tok_letter c1 hw hi (hk c)
        · rw [up2_o (by omega), up2_o (by omega), hE]; exact m20
      · rw [if_pos rfl]
        refine hQ _ (fun l k z => ?_) ?_ (fun k hk _ => ?_) ?_
        · rw [up2_o (by omega), hM l k (by omega)]; exact ef l k z
        · rw [up2_o (by omega)]; exact m21
        · rw [up2_o (by omega), m22]
          exact tok_noword c1 hno (hk c)
        · rw [up2_o (by omega), hE]; exact m20
    · rw [if_neg c1, if_pos rfl]
      simp only [gK, gI, gL, gR_, g_stI, g_stL, forall_eq, true_and, ad_s, okA_s, okO_s, okN_s, i10, i00, if_true, if_false, reduceCtorEq, Kf_1, Kf_400, m_isDigit l2]
      by_cases c2 : srt (b P) = 2
      · simp only [if_pos c2, i10, if_false]
        have hE : EPp b n P = P + runN b n P := by unfold EPp; rw [if_pos c, if_neg (by omega)]
        obtain ⟨d1, d2⟩ := dig _ c2
        obtain ⟨H2, hH2⟩ : ∃ H2, up2 H 400 23 (nI (b P) - 48) = H2 := ⟨_, rfl⟩
        have f20 : H2 400 20 = nI (P + 1) := by rw [← hH2, up2_o (by omega)]; exact e20
        have f21 : H2 400 21 = nI P := by rw [← hH2, up2_o (by omega)]; exact e21
        have f22 : H2 400 22 = 1 := by rw [← hH2, up2_o (by omega)]; exact e22
        have f23 : H2 400 23 = nI (numV b P 1) := by
          rw [← hH2, up2_s]
          show _ = nI (0 * 10 + (b (P + 0) - 48))
          rw [show (48 : Int32) = nI 48 from rfl, nI_sb d1, Nat.zero_mul, Nat.zero_add, Nat.add_zero]
        have ff : ∀ l k, ¬ (l = 400 ∧ 20 ≤ k ∧ k ≤ 23) → H2 l k = I l k := fun l k z => by rw [← hH2, up2_o (by omega)]; exact ef l k z
        rw [hH2]
        clear hH2
        refine m_digits (hB.fr ff) c c2 (fun M hM m20 m23 => ?_) fuel (P + 1) H2 (by omega) (by omega) (by have := fuel_ge; omega) (fun _ _ _ => rfl) f20 (by unfold runN; rw [c2]; omega) (fun _ => by rw [Nat.add_sub_cancel_left]; exact f23)
        have m21 : M 400 21 = nI P := (hM _ _ (by omega)).trans f21
        have m22 : M 400 22 = 1 := (hM _ _ (by omega)).trans f22
        have es : nI (P + runN b n P) - nI P = nI (runN b n P) := by rw [nI_sb (by omega), Nat.add_sub_cancel_left]
        simp only [gK, gI, gL, gR_, g_stI, g_stL, forall_eq, true_and, ad_s, okA_s, okO_s, okN_s, i10, i00, if_true, if_false, reduceCtorEq, Kf_1, Kf_400, m20, m21, es]
        by_cases c5 : 5 ≤ runN b n P
        · rw [if_pos (show (5 : Int32) ≤ nI (runN b n P) from nI_le (a := 5) c5 (by omega))]
          refine hQ M (fun l k z => (hM l k (by omega)).trans (ff l k z)) m21 (fun k hk _ => ?_) (by rw [hE]; exact m20)
          rw [m22]
          rcases hk c with ⟨z, -⟩ | ⟨-, z⟩ | ⟨z, -⟩
          · omega
          · rcases z with ⟨z, -⟩ | ⟨-, z⟩
            · omega
            · exact Or.inr (Or.inl ⟨z, rfl⟩)
          · omega
        · rw [if_neg (show ¬ (5 : Int32) ≤ nI (runN b n P) from nI_ge (b := 5) (by omega) (by decide))]
          refine hQ _ (fun l k z => ?_) ?_ (fun k hk _ => ?_) ?_
          · rw [up2_o (by omega), hM l k (by omega)]; exact ff l k z
          · rw [up2_o (by omega)]; exact m21
          · rw [up2_s, up2_o (by omega), m23 (by omega)]
            have lv := numV_lt (b := b) (p := P) (runN b n P) (fun j hj => (runN_all hj).trans c2)
            have l4 : 10 ^ runN b n P ≤ 10 ^ 4 := Nat.pow_le_pow_right (by decide) (by omega)
            rcases hk c with ⟨z, -⟩ | ⟨-, z⟩ | ⟨z, -⟩
            · omega
            · rcases z with ⟨-, z⟩ | ⟨z, -⟩
              · exact Or.inr (Or.inr (Or.inr (Or.inl ⟨_, by omega, rfl, rfl, z⟩)))
              · omega
            · omega
          · rw [up2_o (by omega), hE]; exact m20
      · have c3 : srt (b P) = 3 := by omega
        simp only [if_neg c2, if_true]
        have hE : EPp b n P = P + 1 := by unfold EPp; rw [if_pos c, if_pos c3]
        refine m_isMark l2 (fun hs => ?_) (fun hs => ?_)
        · rw [if_neg (by decide)]
          simp only [gK, gI, gL, gR_, g_stI, g_stL, forall_eq, true_and, ad_s, okA_s, okO_s, okN_s, i10, i00, if_true, if_false, reduceCtorEq, Kf_1, Kf_400]
          refine hQ _ (fun l k z => ?_) ?_ (fun k hk _ => ?_) ?_
          · rw [up2_o (by omega)]; exact ef l k z
          · rw [up2_o (by omega)]; exact e21
          · rw [up2_s, up2_o (by omega), e23]
            rcases hk c with ⟨z, -⟩ | ⟨z, -⟩ | ⟨-, z⟩
            · omega
            · omega
            · rcases z with ⟨-, z⟩ | ⟨z, -⟩
              · exact Or.inr (Or.inr (Or.inr (Or.inr ⟨b P, hs, rfl, rfl, z⟩)))
              · exact absurd hs z
          · rw [up2_o (by omega), hE]; exact e20
        · rw [if_pos rfl]
          refine hQ H ef e21 (fun k hk _ => ?_) (by rw [hE]; exact e20)
          rw [e22]
          rcases hk c with ⟨z, -⟩ | ⟨z, -⟩ | ⟨-, z⟩
          · omega
          · omega
          · rcases z with ⟨z, -⟩ | ⟨-, z⟩
            · exact absurd z hs
            · exact Or.inr (Or.inl ⟨z, rfl⟩)
  · have er : rawV b n P = -1 := if_neg c
    rw [er, if_pos rfl]
    simp only [gK, gI, gL, gR_, g_stI, g_stL, forall_eq, true_and, ad_s, okA_s, okO_s, okN_s, i10, i00, if_true, if_false, reduceCtorEq, Kf_1, Kf_400]
    have hE : EPp b n P = n := by unfold EPp; rw [if_neg c]
    have eP : P = n := by omega
    refine hQ _ (fun l k z => ?_) ?_ (fun k _ hk => ?_) ?_
    · rw [up2_o (by omega)]; exact gf l k z
    · rw [up2_o (by omega)]; exact g21
    · rw [up2_s]; exact Or.inl ⟨hk eP, rfl⟩
    · rw [up2_o (by omega), hE, g20, eP]
/-- tokens of a tape -/
def TKs (b : Nat → Nat) (n c : Nat) (KS : Nat → Int32) : Prop := c ≤ n ∧ KS c = 0 ∧ PSf b n c = n ∧ ∀ i, i < c → kindR b n (PSf b n i) (KS i) ∧ PSf b n i < n ∧ isSt b (PSf b n i)
theorem TPZ.mb {Z I : Nat → Nat → Int32} {n : Nat} {b : Nat → Nat} (h : TPZ Z I) (hB : MB Z n b) : MB I n b := by
  obtain ⟨h1, h2, h3, h4⟩ := hB
  exact ⟨h1, (h 400 19 (by omega)).trans h2, fun j hj => by rw [h 419 j (by omega)]; exact h3 j hj, fun j hj => (h 425 j (by omega)).trans (h4 j hj)⟩
theorem m_RDs {L : Nat → Nat → Int64} {D : DD} {Z : Nat → Nat → Int32} {n c : Nat} {b : Nat → Nat} {KS : Nat → Int32} (hB : MB Z n b) (hT : TKs b n c KS) : RDs L D Z c KS (PSf b n) (fun i => EPp b n (PSf b n i)) := by
  obtain ⟨t1, t2, t3, t4⟩ := hT
  intro i hi I Q hz h20 hQ
  obtain ⟨-, p1, p2⟩ := t4 i hi
  obtain ⟨a1, a2, a3⟩ := EP_ok p1 p2
  have eP : nx b (n - EPp b n (PSf b n i)) (EPp b n (PSf b n i)) = PSf b n (i + 1) := by
    rw [← a3, PSf, if_pos p1]
  refine m_reads (hz.mb hB) a1 a2 h20 eP (fun I' hf h21 ht he => hQ I' hf h21 (ht _ (fun z => ?_) (fun z => ?_)) he)
  · have : i + 1 ≠ c := fun e => by rw [e, t3] at z; omega
    exact (t4 (i + 1) (by omega)).1
  · by_cases e : i + 1 = c
    · rw [e]; exact t2
    · have := (t4 (i + 1) (by omega)).2.1
      omega
theorem m_first {L : Nat → Nat → Int64} {D : DD} {n c : Nat} {b : Nat → Nat} {KS : Nat → Int32} {I : Nat → Nat → Int32} (hB : MB I n b) (hT : TKs b n c KS) (h20 : I 400 20 = 0) {Q : Hp → Prop} (hQ : ∀ I', (∀ l k, ¬ (l = 400 ∧ 20 ≤ k ∧ k ≤ 23) → I' l k = I l k) → I' 400 21 = nI (PSf b n 0) → tokR (KS 0) (I' 400 22) (I' 400 23) → I' 400 20 = nI (EPp b n (PSf b n 0)) → Q (fm I' L D)) : wp_X12_reads 400 (fm I L D) Q := by
  obtain ⟨t1, t2, t3, t4⟩ := hT
  refine m_reads hB (q := 0) (by omega) (Bdy_0 b n) h20 (P := PSf b n 0) rfl (fun I' hf h21 ht he => hQ I' hf h21 (ht _ (fun z => ?_) (fun z => ?_)) he)
  · have : 0 ≠ c := fun e => by rw [e, t3] at z; omega
    exact (t4 0 (by omega)).1
  · by_cases e : 0 = c
    · rw [e]; exact t2
    · have := (t4 0 (by omega)).2.1
      omega
