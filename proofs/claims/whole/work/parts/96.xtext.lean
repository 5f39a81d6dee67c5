/-! READING A TEXT: all lines, by the object (my own) -/
section XU
variable {L : Nat → Nat → Int64} {D : DD} {I0 : Nat → Nat → Int32} {t0 c : Nat} {KS : Nat → Int32} {PS : Nat → Nat} {lw : Bool}
theorem pLine0_inr {m i j s : Nat} {C C2 : CD} (h : pLine0 lw KS m i C = .inr (j, C2, s)) : hdk lw (KS i) ∧ m ≠ 16 ∧ pLine lw KS i C = .inr (j, C2, s) := by
  unfold pLine0 at h
  by_cases hh : hdk lw (KS i)
  · rw [if_pos hh] at h
    by_cases hm : m = 16
    · rw [if_pos hm] at h; cases h
    · rw [if_neg hm] at h; exact ⟨hh, hm, h⟩
  · rw [if_neg hh] at h; cases h
theorem x_textL (hX : XC D I0 t0 c KS PS lw) {K : Hp → Prop} {Q : Int32 → Hp → Prop} : ∀ (F i : Nat) (C : CD) (Ls : List LR) (I : Nat → Nat → Int32) (N : Nat), XT I0 t0 i C Ls I → i ≤ c → C.length ≤ i → Ls.length ≤ 16 → 17 < F + Ls.length → 18 < N + Ls.length → (∀ C' Ls' I' j, pText lw KS F i C Ls = .inr (C', Ls') → XT I0 t0 j C' Ls' I' → j ≤ c → C'.length ≤ j → K (fm I' L D)) → (∀ k j I', pText lw KS F i C Ls = .inl (k, j) → XTB I0 t0 PS k j I' → K (fm I' L D)) → wp_X5_read_L36 12 K Q N (nI Ls.length) (fm I L D) := by
  intro F
  induction F with
  | zero => intro i C Ls I N _ _ _ h1 h2; omega
  | succ F ih =>
    intro i C Ls I N h hi hC h16 hF hN hok hbad
    obtain ⟨N, rfl⟩ : ∃ N', N = N' + 1 := ⟨N - 1, by omega⟩
    unfold pText at hok hbad
    have b1 : I 12 0 = 0 := h.2.1.1
    rw [wp_X5_read_L36]
    rw [if_neg (show ¬ (16 : Int32) < nI Ls.length from nI_nlt (a := 16) h16 (by decide))]
    simp only [gK, gI, gL, gR_, g_stI, g_stL, forall_eq, true_and, ad_s, okA_s, okO_s, okN_s, i10, i00, if_true, if_false, reduceCtorEq, Kf_1, Kf_400, Kf_12, b1, x_kind0 hX hi h.2.1 (h.1 10 i (by have := hX.t8; omega))]
    by_cases k0 : KS i = 0
    · rw [if_pos k0] at hok hbad
      rw [if_pos k0]
      exact hok C Ls I i rfl h hi hC
    · rw [if_neg k0] at hok hbad
      rw [if_neg k0]
      have hic : i < c := by
        rcases Nat.lt_or_ge i c with q | q
        · exact q
        · have : i = c := by omega
          rw [this] at k0; exact absurd hX.kc k0
      refine x_readLine hX h hi hC (fun k j J e hJ => ?_) (fun j C2 s J e hJ => ?_)
      · rw [e] at hok hbad
        have hK := hbad k j J rfl hJ
        obtain ⟨v, hv⟩ : ∃ v, nI Ls.length + 1 = v := ⟨_, rfl⟩
        rw [hv]
        obtain ⟨N, rfl⟩ : ∃ N', N = N' + 1 := ⟨N - 1, by omega⟩
        rw [wp_X5_read_L36]
        obtain ⟨z1, z2, z3, z4, z5⟩ := hJ
        have n0 : ¬ J 12 0 = 0 := by rw [z2]; exact nI_ne0 z4 (by omega)
        by_cases c1 : (16 : Int32) < v
        · rw [if_pos c1]; exact hK
        · rw [if_neg c1]
          simp only [gK, gI, gL, gR_, g_stI, g_stL, forall_eq, true_and, ad_s, okA_s, okO_s, okN_s, i10, i00, if_true, if_false, reduceCtorEq, Kf_1, Kf_400, Kf_12, if_neg n0]
          exact hK
      · rw [e] at hok hbad
        obtain ⟨q1, q2, q3⟩ := pLine0_inr e
        obtain ⟨a1, a2, a3⟩ := Inc_line hX.kc hic q3
        have hl : (Ls ++ [((KS i).toNatClampNeg - 260, C.length, s, C2.length)]).length = Ls.length + 1 := by simp
        have := ih j C2 (Ls ++ [((KS i).toNatClampNeg - 260, C.length, s, C2.length)]) J N hJ a2 (by omega) (by omega) (by omega) (by omega) hok hbad
        rw [hl] at this
        rw [nI_1]
        exact this
end XU
