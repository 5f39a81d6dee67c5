/-! READING A TEXT: the reference reads claims (my own) -/
section MB
variable {L : Nat → Nat → Int64} {D : DD} {Z : Nat → Nat → Int32} {c : Nat} {KS : Nat → Int32} {PS EP : Nat → Nat} {lw : Bool}
def GoC (L : Nat → Nat → Int64) (D : DD) (Z : Nat → Nat → Int32) (c : Nat) (KS : Nat → Int32) (PS EP : Nat → Nat) (lw : Bool) (rr : Nat) : Prop := ∀ (Q : Int32 → Hp → Prop) (k : Nat) (S0 : List Int32) (i : Nat) (C : CD) (I : Nat → Nat → Int32) (N br : Nat), S0.getLast? ≠ some 9 → k ≤ 8 - rr → MS KS PS EP I i C (S0 ++ List.replicate k 9) (8 - rr) → TPZ Z I → i ≤ c → C.length + (S0.length + k) + 1 ≤ i → S0.length + k ≤ 3 * (8 - rr) + 2 → c + 2 < N + i → br ≤ 8 - rr → (∀ j C' I' N', pClaim lw KS rr i C = .inr (j, C') → FA I I' → MS KS PS EP I' j (C' ++ List.replicate k (9, 0)) S0 (8 - rr - k) → c + 2 < N' + j → LA Q N' (nI br) 0 (fm I' L D)) → (∀ kf j I', pClaim lw KS rr i C = .inl (kf, j) → FA I I' → MBAD PS I' kf j → Q (-1) (fm I' L D)) → LA Q N (nI br) 1 (fm I L D)
def GoB (L : Nat → Nat → Int64) (D : DD) (Z : Nat → Nat → Int32) (c : Nat) (KS : Nat → Int32) (PS EP : Nat → Nat) (rr : Nat) (b : Nat) (p : Nat → CD → PR) (ends : Int32 → Prop) (tops : Int32 → Prop) : Prop := ∀ (Q : Int32 → Hp → Prop) (S : List Int32) (i : Nat) (C : CD) (I : Nat → Nat → Int32) (N br : Nat), (∀ x, tops x → S.getLast? ≠ some x) → MS KS PS EP I i C S (8 - rr) → TPZ Z I → i ≤ c → C.length + S.length + 1 ≤ i → S.length ≤ 3 * (8 - rr) + b → c + 2 < N + i → br ≤ 8 - rr → (∀ j C' I' N', p i C = .inr (j, C') → FA I I' → MS KS PS EP I' j C' S (8 - rr) → (∀ x, ends x → ¬ KS j = x) → c + 2 < N' + j → LA Q N' (nI br) 0 (fm I' L D)) → (∀ kf j I', p i C = .inl (kf, j) → FA I I' → MBAD PS I' kf j → Q (-1) (fm I' L D)) → LA Q N (nI br) 1 (fm I L D)
theorem m_bothL (hM : MX L D Z c KS PS EP lw) {rr : Nat} (hrr : rr ≤ 8) (hG : GoC L D Z c KS PS EP lw rr) {Q : Int32 → Hp → Prop} {S : List Int32} (h9 : S.getLast? ≠ some 9) (h10 : S.getLast? ≠ some 10) (hS : S.length ≤ 3 * (8 - rr) + 1) {br : Nat} (hbr : br ≤ 8 - rr) : ∀ (F i : Nat) (C : CD) (I : Nat → Nat → Int32) (N : Nat), MS KS PS EP I i C S (8 - rr) → TPZ Z I → i ≤ c → C.length + S.length + 1 ≤ i → c + 2 < N + i → c < F + i → (∀ j C' I' N', pBothL KS (pClaim lw KS rr) F i C = .inr (j, C') → FA I I' → MS KS PS EP I' j C' S (8 - rr) → ¬ KS j = 257 → c + 2 < N' + j → LA Q N' (nI br) 0 (fm I' L D)) → (∀ kf j I', pBothL KS (pClaim lw KS rr) F i C = .inl (kf, j) → FA I I' → MBAD PS I' kf j → Q (-1) (fm I' L D)) → LA Q N (nI br) 0 (fm I L D) := by
  have hin := Inc_claim hM.2.1 (lw := lw) rr
  intro F
  induction F with
  | zero => intro i C I N _ _ h1 _ _ h2; omega
  | succ F ih =>
    intro i C I N h hz hi hC hN hF hok hbad
    have c6 := hM.1
    unfold pBothL at hok hbad
    by_cases e1 : KS i = 257
    · rw [if_pos e1] at hok hbad
      have hic := k_lt hM.2.1 hi e1 (by decide)
      obtain ⟨N, rfl⟩ : ∃ N', N = N' + 1 := ⟨N - 1, by omega⟩
      have hT := h.1.2.1
      unfold LA
      rw [wp_X12_readAny_L9]
      simp only [gK, gI, gL, gR_, g_stI, g_stL, forall_eq, true_and, ad_s, okA_s, okO_s, okN_s, i10, i00, if_true, if_false, reduceCtorEq, Kf_1, Kf_400, m_wd hT (w := 7) (x := 7) (y := 257) rfl (by decide) rfl, if_pos e1]
      rw [m_stay h (by omega) h10]
      refine ⟨rfl, ?_⟩
      refine m_waits h (by omega) (fun J f1 h1 => ⟨rfl, ?_⟩)
      refine m_next hM (f1.tp hz) h1.1 hic (fun J2 f2 h2 _ => ?_)
      have h2' := MS_fm h1 f2 h2
      have F12 := f1.trans f2.fa
      have hl : (S ++ [(10 : Int32)]).length = S.length + 1 := by simp
      refine hG Q 0 (S ++ [10]) (i + 1) C J2 N br (last_app (by decide)) (by omega) (by simpa using h2') (F12.tp hz) hic (by omega) (by omega) (by omega) hbr (fun j C' J3 N' e f3 h3 hN' => ?_) (fun kf j J3 e f3 b3 => hbad kf j J3 (by rw [e]; rfl) (F12.trans f3) b3)
      obtain ⟨a1, a2, a3⟩ := (hin (i + 1) C hic).1 j C' e
      have h3 : MS KS PS EP J3 j C' (S ++ [10]) (8 - rr) := by simpa using h3
      obtain ⟨N', rfl⟩ : ∃ N'', N' = N'' + 1 := ⟨N' - 1, by omega⟩
      refine m_late10 h3 (by omega) (by omega) h10 ?_
      have F14 := (F12.trans f3).trans (FA_pop (I := J3) (p := S.length) (n := C'.length) (x := 10))
      refine ih j (C' ++ [(10, 0)]) _ (N' + 1) (MS_pop h3) (F14.tp hz) a2 (by rw [List.length_append]; show C'.length + 1 + S.length + 1 ≤ j; omega) hN' (by omega) (fun j2 C2 I' N2 e2 f4 h4 q4 n4 => hok j2 C2 I' N2 (by rw [e]; exact e2) (F14.trans f4) h4 q4 n4) (fun kf j2 I' e2 f4 b4 => hbad kf j2 I' (by rw [e]; exact e2) (F14.trans f4) b4)
    · rw [if_neg e1] at hok hbad
      exact hok i C I N rfl FA.refl h e1 hN
theorem m_both (hM : MX L D Z c KS PS EP lw) {rr : Nat} (hrr : rr ≤ 8) (hG : GoC L D Z c KS PS EP lw rr) : GoB L D Z c KS PS EP rr 1 (pBoth KS (pClaim lw KS rr)) (fun x => x = 257) (fun x => x = 9 ∨ x = 10) := by
  intro Q S i C I N br ht h hz hi hC hS hN hbr hok hbad
  have c6 := hM.1
  have hin := Inc_claim hM.2.1 (lw := lw) rr
  refine hG Q 0 S i C I N br (ht 9 (Or.inl rfl)) (by omega) (by simpa using h) hz hi (by omega) (by omega) hN hbr (fun j C' J N' e f1 h1 hN' => ?_) (fun kf j J e f1 b1 => hbad kf j J (by unfold pBoth; rw [e]; rfl) f1 b1)
  obtain ⟨a1, a2, a3⟩ := (hin i C hi).1 j C' e
  have h1 : MS KS PS EP J j C' S (8 - rr) := by simpa using h1
  exact m_bothL hM hrr hG (ht 9 (Or.inl rfl)) (ht 10 (Or.inr rfl)) (by omega) hbr 601 j C' J N' h1 (f1.tp hz) a2 (by omega) hN' (by omega) (fun j2 C2 I' N2 e2 f4 h4 q4 n4 => hok j2 C2 I' N2 (by unfold pBoth; rw [e]; exact e2) (f1.trans f4) h4 (fun x hx => by subst hx; exact q4) n4) (fun kf j2 I' e2 f4 b4 => hbad kf j2 I' (by unfold pBoth; rw [e]; exact e2) (f1.trans f4) b4)
theorem m_eithL (hM : MX L D Z c KS PS EP lw) {rr : Nat} (hrr : rr ≤ 8) (hG : GoC L D Z c KS PS EP lw rr) {Q : Int32 → Hp → Prop} {S : List Int32} (h9 : S.getLast? ≠ some 9) (h10 : S.getLast? ≠ some 10) (h11 : S.getLast? ≠ some 11) (hS : S.length ≤ 3 * (8 - rr)) {br : Nat} (hbr : br ≤ 8 - rr) : ∀ (F i : Nat) (C : CD) (I : Nat → Nat → Int32) (N : Nat), MS KS PS EP I i C S (8 - rr) → TPZ Z I → i ≤ c → C.length + S.length + 1 ≤ i → c + 2 < N + i → c < F + i → ¬ KS i = 257 → (∀ j C' I' N', pEithL KS (pClaim lw KS rr) F i C = .inr (j, C') → FA I I' → MS KS PS EP I' j C' S (8 - rr) → ¬ KS j = 257 → ¬ KS j = 256 → c + 2 < N' + j → LA Q N' (nI br) 0 (fm I' L D)) → (∀ kf j I', pEithL KS (pClaim lw KS rr) F i C = .inl (kf, j) → FA I I' → MBAD PS I' kf j → Q (-1) (fm I' L D)) → LA Q N (nI br) 0 (fm I L D) := by
  have hin := Inc_both hM.2.1 (Inc_claim hM.2.1 (lw := lw) rr)
  intro F
  induction F with
  | zero => intro i C I N _ _ h1 _ _ h2; omega
  | succ F ih =>
    intro i C I N h hz hi hC hN hF hk7 hok hbad
    have c6 := hM.1
    unfold pEithL at hok hbad
    by_cases e1 : KS i = 256
    · rw [if_pos e1] at hok hbad
      have hic := k_lt hM.2.1 hi e1 (by decide)
      obtain ⟨N, rfl⟩ : ∃ N', N = N' + 1 := ⟨N - 1, by omega⟩
      have hT := h.1.2.1
      unfold LA
      rw [wp_X12_readAny_L9]
      simp only [gK, gI, gL, gR_, g_stI, g_stL, forall_eq, true_and, ad_s, okA_s, okO_s, okN_s, i10, i00, if_true, if_false, reduceCtorEq, Kf_1, Kf_400, m_wd hT (w := 7) (x := 7) (y := 257) rfl (by decide) rfl, m_wd hT (w := 6) (x := 6) (y := 256) rfl (by decide) rfl, if_neg hk7, if_pos e1]
      rw [m_stay h (by omega) h10]
      refine ⟨rfl, ?_⟩
      rw [m_stay h (by omega) h11]
      refine ⟨rfl, ?_⟩
      refine m_waits h (by omega) (fun J f1 h1 => ⟨rfl, ?_⟩)
      refine m_next hM (f1.tp hz) h1.1 hic (fun J2 f2 h2 _ => ?_)
      have h2' := MS_fm h1 f2 h2
      have F12 := f1.trans f2.fa
      have hl : (S ++ [(11 : Int32)]).length = S.length + 1 := by simp
      refine m_both hM hrr hG Q (S ++ [11]) (i + 1) C J2 N br (fun x hx => last_app (by rcases hx with e | e <;> subst e <;> decide)) h2' (F12.tp hz) hic (by omega) (by omega) (by omega) hbr (fun j C' J3 N' e f3 h3 q3 hN' => ?_) (fun kf j J3 e f3 b3 => hbad kf j J3 (by rw [e]; rfl) (F12.trans f3) b3)
      obtain ⟨a1, a2, a3⟩ := (hin (i + 1) C hic).1 j C' e
      obtain ⟨N', rfl⟩ : ∃ N'', N' = N'' + 1 := ⟨N' - 1, by omega⟩
      refine m_late11 h3 (by omega) (by omega) h11 h10 (q3 257 rfl) ?_
      have F14 := (F12.trans f3).trans (FA_pop (I := J3) (p := S.length) (n := C'.length) (x := 11))
      refine ih j (C' ++ [(11, 0)]) _ (N' + 1) (MS_pop h3) (F14.tp hz) a2 (by rw [List.length_append]; show C'.length + 1 + S.length + 1 ≤ j; omega) hN' (by omega) (q3 257 rfl) (fun j2 C2 I' N2 e2 f4 h4 q4 q5 n4 => hok j2 C2 I' N2 (by rw [e]; exact e2) (F14.trans f4) h4 q4 q5 n4) (fun kf j2 I' e2 f4 b4 => hbad kf j2 I' (by rw [e]; exact e2) (F14.trans f4) b4)
    · rw [if_neg e1] at hok hbad
      exact hok i C I N rfl FA.refl h hk7 e1 hN
theorem m_eith (hM : MX L D Z c KS PS EP lw) {rr : Nat} (hrr : rr ≤ 8) (hG : GoC L D Z c KS PS EP lw rr) : GoB L D Z c KS PS EP rr 0 (pEith KS (pClaim lw KS rr)) (fun x => x = 257 ∨ x = 256) (fun x => x = 9 ∨ x = 10 ∨ x = 11) := by
  intro Q S i C I N br ht h hz hi hC hS hN hbr hok hbad
  have c6 := hM.1
  have hin := Inc_both hM.2.1 (Inc_claim hM.2.1 (lw := lw) rr)
  refine m_both hM hrr hG Q S i C I N br (fun x hx => ht x (by rcases hx with e | e; exact Or.inl e; exact Or.inr (Or.inl e))) h hz hi hC (by omega) hN hbr (fun j C' J N' e f1 h1 q1 hN' => ?_) (fun kf j J e f1 b1 => hbad kf j J (by unfold pEith; rw [e]; rfl) f1 b1)
  obtain ⟨a1, a2, a3⟩ := (hin i C hi).1 j C' e
  exact m_eithL hM hrr hG (ht 9 (Or.inl rfl)) (ht 10 (Or.inr (Or.inl rfl))) (ht 11 (Or.inr (Or.inr rfl))) (by omega) hbr 601 j C' J N' h1 (f1.tp hz) a2 (by omega) hN' (by omega) (q1 257 rfl) (fun j2 C2 I' N2 e2 f4 h4 q4 q5 n4 => hok j2 C2 I' N2 (by unfold pEith; rw [e]; exact e2) (f1.trans f4) h4 (fun x hx => by rcases hx with z | z <;> subst z; exact q4; exact q5) n4) (fun kf j2 I' e2 f4 b4 => hbad kf j2 I' (by unfold pEith; rw [e]; exact e2) (f1.trans f4) b4)
theorem MS_open {I : Nat → Nat → Int32} {i : Nat} {C : CD} {S : List Int32} {o o' : Nat} (h : MS KS PS EP I i C S o) : MS KS PS EP (up2 I 400 34 (nI o')) i C S o' := by
  obtain ⟨⟨q1, q2, q3, q4, q5⟩, q6, q7, q8⟩ := h
  refine ⟨⟨?_, ?_, ?_, ?_, fun j e he => ?_⟩, ?_, fun j y hy => ?_, up2_s⟩
  · rw [up2_o (by omega)]; exact q1
  · rw [up2_o (by omega), up2_o (by omega)]; exact q2
  · rw [up2_o (by omega)]; exact q3
  · rw [up2_o (by omega)]; exact q4
  · rw [up2_o (by omega), up2_o (by omega)]; exact q5 j e he
  · rw [up2_o (by omega)]; exact q6
  · rw [up2_o (by omega)]; exact q7 j y hy
theorem FA_open {I : Nat → Nat → Int32} {v : Int32} : FA I (up2 I 400 34 v) := fun l k z => up2_o (by omega)
theorem rep_last {S0 : List Int32} {k : Nat} : (S0 ++ List.replicate k (9 : Int32)) ++ [(9 : Int32)] = S0 ++ List.replicate (k + 1) 9 := by rw [List.replicate_succ', List.append_assoc]
set_option maxHeartbeats 1000000 in
theorem m_claim (hM : MX L D Z c KS PS EP lw) : ∀ rr, rr ≤ 8 → GoC L D Z c KS PS EP lw rr := by
  intro rr
  induction rr with
  | zero =>
    intro _ Q k S0 i C I N br h9 hk h hz hi hC hS hN hbr hok hbad
    have c6 := hM.1
    have hT := h.1.2.1
    have s40 : sgn 40 := by unfold sgn; omega
    obtain ⟨N, rfl⟩ : ∃ N', N = N' + 1 := ⟨N - 1, by omega⟩
    have h34 : I 400 34 = (8 : Int32) := h.2.2.2
    unfold pClaim at hok hbad
    unfold LA
    rw [wp_X12_readAny_L9]
    unfold wp_X12_readAny_J33
    simp only [gK, gI, gL, gR_, g_stI, g_stL, forall_eq, true_and, ad_s, okA_s, okO_s, okN_s, i10, i00, if_true, if_false, reduceCtorEq, Kf_1, Kf_400, m_wd hT (w := 8) (x := 8) (y := 258) rfl (by decide) rfl, h34]
    by_cases e1 : KS i = 258
    · rw [if_pos e1] at hok hbad
      simp only [if_pos e1, i10, if_false]
      exact m_fails (k := 3) h.1.1 (fun I' g1 g2 => hbad 3 i I' rfl g1.fa g2)
    · rw [if_neg e1] at hok hbad
      simp only [if_neg e1, i00, if_true, m_sg hT (x := 40) rfl s40]
      by_cases e2 : KS i = 40
      · rw [if_pos e2] at hok hbad
        simp only [if_pos e2, i10, if_false, gK, gI, gL, gR_, g_stI, g_stL, forall_eq, true_and, ad_s, okA_s, okO_s, okN_s, i10, i00, if_true, if_false, reduceCtorEq, Kf_1, Kf_400, h34]
        exact m_fails (k := 3) h.1.1 (fun I' g1 g2 => hbad 3 i I' rfl g1.fa g2)
      · rw [if_neg e2] at hok hbad
        simp only [if_neg e2, i00, if_true, gK, gI, gL, gR_, g_stI, g_stL, forall_eq, true_and, ad_s, okA_s, okO_s, okN_s, i10, i00, if_true, if_false, reduceCtorEq, Kf_1, Kf_400]
        refine m_readCompared hM i C I _ hz h.1 hi (by omega) (fun j C' J e f1 hJ => ?_) (fun kf j J e f1 bJ => ?_)
        · obtain ⟨a1, a2, a3⟩ := (Inc_cmp hM.2.1 (lw := lw) i C hi).1 j C' e
          simp only [show ¬ (0 : Int32) = -1 by decide, gK, gI, gL, gR_, g_stI, g_stL, forall_eq, true_and, ad_s, okA_s, okO_s, okN_s, i10, i00, if_true, if_false, reduceCtorEq, Kf_1, Kf_400]
          unfold wp_X12_settles
          refine m_popNo h9 k fuel (8 - 0) C' J (by have := fuel_ge; omega) hk (MS_fm h f1 hJ) (by omega) (by omega) (fun J2 f2 h2 => ?_)
          exact hok j C' J2 N e (f1.fa.trans f2) h2 (by omega)
        · simp only [if_true]
          exact hbad kf j J e f1.fa bJ
  | succ rr ih =>
    intro h8 Q k S0 i C I N br h9 hk h hz hi hC hS hN hbr hok hbad
    have c6 := hM.1
    have hG := ih (by omega)
    have hT := h.1.2.1
    have s40 : sgn 40 := by unfold sgn; omega
    have s41 : sgn 41 := by unfold sgn; omega
    obtain ⟨N, rfl⟩ : ∃ N', N = N' + 1 := ⟨N - 1, by omega⟩
    have h34 : I 400 34 = nI (8 - (rr + 1)) := h.2.2.2
    have n8 : ¬ nI (8 - (rr + 1)) = (8 : Int32) := fun z => by have := (nI_eq (b := 8) (by omega) (by decide)).mp z; omega
    have o1 : nI (8 - (rr + 1)) + 1 = nI (8 - rr) := by rw [nI_1]; congr 1; omega
    have hlk : (S0 ++ List.replicate k (9 : Int32)).length = S0.length + k := by simp
    unfold pClaim at hok hbad
    unfold LA
    rw [wp_X12_readAny_L9]
    unfold wp_X12_readAny_J33
    simp only [gK, gI, gL, gR_, g_stI, g_stL, forall_eq, true_and, ad_s, okA_s, okO_s, okN_s, i10, i00, if_true, if_false, reduceCtorEq, Kf_1, Kf_400, m_wd hT (w := 8) (x := 8) (y := 258) rfl (by decide) rfl, h34, if_neg n8, o1]
    by_cases e1 : KS i = 258
    · rw [if_pos e1] at hok hbad
      have hic := k_lt hM.2.1 hi e1 (by decide)
      simp only [if_pos e1, i10, if_false]
      unfold wp_X12_readAny_J66
      simp only [i10, if_false, gK, gI, gL, gR_, g_stI, g_stL, forall_eq, true_and, ad_s, okA_s, okO_s, okN_s, i10, i00, if_true, if_false, reduceCtorEq, Kf_1, Kf_400]
      have h1 := MS_open (o' := 8 - rr) h
      refine m_waits h1 (by omega) (fun J f2 h2 => ⟨rfl, ?_⟩)
      have F2 := FA_open.trans f2
      refine m_next hM (F2.tp hz) h2.1 hic (fun J2 f3 h3 _ => ?_)
      have h3' := MS_fm h2 f3 h3
      rw [rep_last] at h3'
      have F3 := F2.trans f3.fa
      refine hG Q (k + 1) S0 (i + 1) C J2 N br h9 (by omega) h3' (F3.tp hz) hic (by omega) (by omega) (by omega) (by omega) (fun j C' I' N' e f4 h4 n4 => hok j (C' ++ [(9, 0)]) I' N' (by rw [e]; rfl) (F3.trans f4) ?_ n4) (fun kf j I' e f4 b4 => hbad kf j I' (by rw [e]; rfl) (F3.trans f4) b4)
      have e2 : C' ++ [((9, 0) : Int32 × Int32)] ++ List.replicate k (9, 0) = C' ++ List.replicate (k + 1) (9, 0) := by
        rw [List.append_assoc]; rfl
      rw [e2, show 8 - (rr + 1) - k = 8 - rr - (k + 1) by omega]
      exact h4
    · rw [if_neg e1] at hok hbad
      simp only [if_neg e1, i00, if_true, m_sg hT (x := 40) rfl s40]
      by_cases e2 : KS i = 40
      · rw [if_pos e2] at hok hbad
        have hic := k_lt hM.2.1 hi e2 (by decide)
        simp only [if_pos e2, i10, if_false, gK, gI, gL, gR_, g_stI, g_stL, forall_eq, true_and, ad_s, okA_s, okO_s, okN_s, i10, i00, if_true, if_false, reduceCtorEq, Kf_1, Kf_400]
        unfold wp_X12_readAny_J66
        simp only [i00, if_true, gK, gI, gL, gR_, g_stI, g_stL, forall_eq, true_and, ad_s, okA_s, okO_s, okN_s, i10, i00, if_true, if_false, reduceCtorEq, Kf_1, Kf_400, h34, if_neg n8, o1, nI_1]
        have h1 := MS_open (o' := 8 - rr) h
        refine m_waits h1 (by omega) (fun J f2 h2 => ⟨rfl, ?_⟩)
        have F2 := FA_open.trans f2
        refine m_next hM (F2.tp hz) h2.1 hic (fun J2 f3 h3 _ => ?_)
        have h3' := MS_fm h2 f3 h3
        have F3 := F2.trans f3.fa
        have hl : ((S0 ++ List.replicate k (9 : Int32)) ++ [(12 : Int32)]).length = S0.length + k + 1 := by rw [List.length_append, hlk]; rfl
        refine m_eith hM (by omega) hG Q ((S0 ++ List.replicate k 9) ++ [12]) (i + 1) C J2 N (br + 1) (fun x hx => last_app (by rcases hx with e | e | e <;> subst e <;> decide)) h3' (F3.tp hz) hic (by omega) (by omega) (by omega) (by omega) (fun j C' J4 N' e f4 h4 q4 n4 => ?_) (fun kf j I' e f4 b4 => hbad kf j I' (by rw [e]; rfl) (F3.trans f4) b4)
        obtain ⟨a1, a2, a3⟩ := (Inc_eith hM.2.1 (Inc_claim hM.2.1 (lw := lw) rr) (i + 1) C hic).1 j C' e
        obtain ⟨N', rfl⟩ : ∃ N'', N' = N'' + 1 := ⟨N' - 1, by omega⟩
        have hT4 := h4.1.2.1
        have F4 := F3.trans f4
        have hok : ∀ j2 C2 I' N2, pEnd KS 41 j C' = .inr (j2, C2) → FA I I' → MS KS PS EP I' j2 (C2 ++ List.replicate k (9, 0)) S0 (8 - (rr + 1) - k) → c + 2 < N2 + j2 → LA Q N2 (nI br) 0 (fm I' L D) := fun j2 C2 I' N2 e2 => hok j2 C2 I' N2 (by rw [e]; exact e2)
        have hbad : ∀ kf j2 I', pEnd KS 41 j C' = .inl (kf, j2) → FA I I' → MBAD PS I' kf j2 → Q (-1) (fm I' L D) := fun kf j2 I' e2 => hbad kf j2 I' (by rw [e]; exact e2)
        unfold pEnd at hok hbad
        unfold LA
        rw [wp_X12_readAny_L9]
        simp only [gK, gI, gL, gR_, g_stI, g_stL, forall_eq, true_and, ad_s, okA_s, okO_s, okN_s, i10, i00, if_true, if_false, reduceCtorEq, Kf_1, Kf_400, m_wd hT4 (w := 7) (x := 7) (y := 257) rfl (by decide) rfl, m_wd hT4 (w := 6) (x := 6) (y := 256) rfl (by decide) rfl, if_neg (q4 257 (Or.inl rfl)), if_neg (q4 256 (Or.inr rfl))]
        rw [m_stay h4 (by omega) (last_app (by decide))]
        refine ⟨rfl, ?_⟩
        rw [m_stay h4 (by omega) (last_app (by decide)), if_neg (nI_ne0 (by omega) (by omega))]
        simp only [gK, gI, gL, gR_, g_stI, g_stL, forall_eq, true_and, ad_s, okA_s, okO_s, okN_s, i10, i00, if_true, if_false, reduceCtorEq, Kf_1, Kf_400, m_sg hT4 (x := 41) rfl s41]
        by_cases e3 : KS j = 41
        · rw [if_pos e3] at hok hbad
          have hjc := k_lt hM.2.1 a2 e3 (by decide)
          have p36 : J4 400 36 = nI (S0.length + k + 1) := by rw [h4.2.1, hl]
          have p34 : ∀ v, up2 J4 400 36 v 400 34 = nI (8 - rr) := fun v => (up2_o (by omega)).trans h4.2.2.2
          have o2 : nI (8 - rr) - 1 = nI (8 - (rr + 1)) := by rw [show (1 : Int32) = nI 1 from rfl, nI_sb (by omega)]; congr 1
          simp only [if_pos e3, i10, if_false, gK, gI, gL, gR_, g_stI, g_stL, forall_eq, true_and, ad_s, okA_s, okO_s, okN_s, i10, i00, if_true, if_false, reduceCtorEq, Kf_1, Kf_400, p36, nI_pred, p34, o2]
          generalize hJ5 : up2 (up2 J4 400 36 (nI (S0.length + k))) 400 34 (nI (8 - (rr + 1))) = J5
          have F5 : FA J4 J5 := fun l k' z => by rw [← hJ5, up2_o (by omega), up2_o (by omega)]
          have h5 : MS KS PS EP J5 j C' (S0 ++ List.replicate k 9) (8 - (rr + 1)) := by
            obtain ⟨⟨w1, w2, w3, w4, w5⟩, w6, w7, w8⟩ := h4
            have oo : ∀ k', k' ≠ 36 → k' ≠ 34 → J5 400 k' = J4 400 k' := fun k' z1 z2 => by rw [← hJ5, up2_o (by omega), up2_o (by omega)]
            refine ⟨⟨?_, ?_, ?_, ?_, fun j e he => ?_⟩, ?_, fun j y hy => ?_, ?_⟩
            · rw [oo 21 (by omega) (by omega)]; exact w1
            · rw [oo 22 (by omega) (by omega), oo 23 (by omega) (by omega)]; exact w2
            · rw [oo 20 (by omega) (by omega)]; exact w3
            · rw [oo 33 (by omega) (by omega)]; exact w4
            · rw [← hJ5, up2_o (by omega), up2_o (by omega), up2_o (by omega), up2_o (by omega)]; exact w5 j e he
            · rw [← hJ5, up2_o (by omega), up2_s, hlk]
            · rw [← hJ5, up2_o (by omega), up2_o (by omega)]; exact w7 j y (get_pre hy)
            · rw [← hJ5, up2_s]
          unfold wp_X12_settles
          refine m_popNo h9 k fuel (8 - (rr + 1)) C' J5 (by have := fuel_ge; omega) hk h5 (by omega) (by omega) (fun J6 f6 h6 => ⟨rfl, ?_⟩)
          have F6 := (F4.trans F5).trans f6
          refine m_next hM (F6.tp hz) h6.1 hjc (fun J7 f7 h7 _ => ?_)
          exact hok (j + 1) C' J7 N' rfl (F6.trans f7.fa) (MS_fm h6 f7 h7) (by omega)
        · rw [if_neg e3] at hok hbad
          simp only [if_neg e3, i00, if_true, gK, gI, gL, gR_, g_stI, g_stL, forall_eq, true_and, ad_s, okA_s, okO_s, okN_s, i10, i00, if_true, if_false, reduceCtorEq, Kf_1, Kf_400]
          exact m_fails (k := 1) h4.1.1 (fun I' g1 g2 => hbad 1 j I' rfl (F4.trans g1.fa) g2)
      · rw [if_neg e2] at hok hbad
        simp only [if_neg e2, i00, if_true, gK, gI, gL, gR_, g_stI, g_stL, forall_eq, true_and, ad_s, okA_s, okO_s, okN_s, i10, i00, if_true, if_false, reduceCtorEq, Kf_1, Kf_400]
        refine m_readCompared hM i C I _ hz h.1 hi (by omega) (fun j C' J e f1 hJ => ?_) (fun kf j J e f1 bJ => ?_)
        · obtain ⟨a1, a2, a3⟩ := (Inc_cmp hM.2.1 (lw := lw) i C hi).1 j C' e
          simp only [show ¬ (0 : Int32) = -1 by decide, gK, gI, gL, gR_, g_stI, g_stL, forall_eq, true_and, ad_s, okA_s, okO_s, okN_s, i10, i00, if_true, if_false, reduceCtorEq, Kf_1, Kf_400]
          unfold wp_X12_settles
          refine m_popNo h9 k fuel (8 - (rr + 1)) C' J (by have := fuel_ge; omega) hk (MS_fm h f1 hJ) (by omega) (by omega) (fun J2 f2 h2 => ?_)
          exact hok j C' J2 N e (f1.fa.trans f2) h2 (by omega)
        · simp only [if_true]
          exact hbad kf j J e f1.fa bJ
theorem m_readAny (hM : MX L D Z c KS PS EP lw) {i : Nat} {C : CD} {I : Nat → Nat → Int32} {Q : Int32 → Hp → Prop} (hz : TPZ Z I) (h : MOK KS PS EP I i C) (h34 : I 400 34 = 0) (hi : i ≤ c) (hC : C.length + 1 ≤ i) (hok : ∀ j C' I', pEith KS (pClaim lw KS 8) i C = .inr (j, C') → FA I I' → MOK KS PS EP I' j C' → I' 400 34 = 0 → Q 0 (fm I' L D)) (hbad : ∀ k j I', pEith KS (pClaim lw KS 8) i C = .inl (k, j) → FA I I' → MBAD PS I' k j → Q (-1) (fm I' L D)) : wp_X12_readAny 400 (fm I L D) Q := by
  have c6 := hM.1
  unfold wp_X12_readAny
  simp only [gK, gI, gL, gR_, g_stI, g_stL, forall_eq, true_and, ad_s, okA_s, okO_s, okN_s, i10, i00, if_true, if_false, reduceCtorEq, Kf_1, Kf_400]
  have h0 : MS KS PS EP (up2 I 400 36 0) i C [] (8 - 8) := by
    obtain ⟨q1, q2, q3, q4, q5⟩ := h
    refine ⟨⟨?_, ?_, ?_, ?_, fun j e he => ?_⟩, up2_s, fun j y hy => by simp at hy, ?_⟩
    · rw [up2_o (by omega)]; exact q1
    · rw [up2_o (by omega), up2_o (by omega)]; exact q2
    · rw [up2_o (by omega)]; exact q3
    · rw [up2_o (by omega)]; exact q4
    · rw [up2_o (by omega), up2_o (by omega)]; exact q5 j e he
    · rw [up2_o (by omega)]; exact h34
  have F0 : FA I (up2 I 400 36 0) := fun l k z => up2_o (by omega)
  have := m_eith hM (Nat.le_refl 8) (m_claim hM 8 (Nat.le_refl 8)) Q [] i C _ fuel 0 (fun x _ => by simp) h0 (F0.tp hz) hi (by simpa using hC) (by simp) (by have := fuel_ge; omega) (by omega) (fun j C' I' N' e f1 h1 q1 n1 => ?_) (fun kf j I' e f1 b1 => hbad kf j I' e (F0.trans f1) b1)
  · exact this
  · obtain ⟨a1, a2, a3⟩ := (Inc_eith hM.2.1 (Inc_claim hM.2.1 (lw := lw) 8) i C hi).1 j C' e
    obtain ⟨N', rfl⟩ : ∃ N'', N' = N'' + 1 := ⟨N' - 1, by omega⟩
    have hT := h1.1.2.1
    unfold LA
    rw [wp_X12_readAny_L9]
    simp only [gK, gI, gL, gR_, g_stI, g_stL, forall_eq, true_and, ad_s, okA_s, okO_s, okN_s, i10, i00, if_true, if_false, reduceCtorEq, Kf_1, Kf_400, m_wd hT (w := 7) (x := 7) (y := 257) rfl (by decide) rfl, m_wd hT (w := 6) (x := 6) (y := 256) rfl (by decide) rfl, if_neg (q1 257 (Or.inl rfl)), if_neg (q1 256 (Or.inr rfl))]
    rw [m_stay h1 (by simp) (by simp)]
    refine ⟨rfl, ?_⟩
    rw [m_stay h1 (by simp) (by simp), if_pos (show nI 0 = (0 : Int32) from rfl)]
    exact hok j C' I' e (F0.trans f1) h1.1 h1.2.2.2
end MB
