/-! READING A TEXT: the reference's stack (my own) -/
def FA (I I' : Nat → Nat → Int32) : Prop := ∀ l k, ¬ ((l = 400 ∧ ((20 ≤ k ∧ k ≤ 23) ∨ k = 33 ∨ k = 34 ∨ k = 36 ∨ k = 37 ∨ k = 38)) ∨ ((l = 431 ∨ l = 432) ∧ 4200 ≤ k) ∨ l = 436) → I' l k = I l k
theorem FA.refl {I : Nat → Nat → Int32} : FA I I := fun _ _ _ => rfl
theorem FA.trans {I J K : Nat → Nat → Int32} (h : FA I J) (h2 : FA J K) : FA I K := fun l k z => (h2 l k z).trans (h l k z)
theorem FA.tp {Z I J : Nat → Nat → Int32} (h : FA I J) (hz : TPZ Z I) : TPZ Z J := fun l k z => (h l k (by omega)).trans (hz l k z)
theorem FM.fa {I J : Nat → Nat → Int32} (h : FM I J) : FA I J := fun l k z => h l k (by omega)
def MS (KS : Nat → Int32) (PS EP : Nat → Nat) (I : Nat → Nat → Int32) (i : Nat) (C : CD) (S : List Int32) (o : Nat) : Prop := MOK KS PS EP I i C ∧ I 400 36 = nI S.length ∧ (∀ (j : Nat) (x : Int32), S[j]? = some x → I 436 j = x) ∧ I 400 34 = nI o
def popI (I : Nat → Nat → Int32) (p n : Nat) (x : Int32) : Nat → Nat → Int32 := up2 (up2 (up2 (up2 I 400 36 (nI p)) 431 (4200 + n) x) 432 (4200 + n) 0) 400 33 (nI (n + 1))
def LA (Q : Int32 → Hp → Prop) (N : Nat) (br due : Int32) (h : Hp) : Prop := wp_X12_readAny_L9 400 (fun (h88 : Hp) => ((hpK h88 400).1 = 20 + 10) ∧ (wp_X12_fails 400 (3 : Int32) h88 (fun (z91 : Int32) (h90 : Hp) => Q z91 h90))) (fun (h92 : Hp) => Q (-1 : Int32) h92) (fun (h93 : Hp) => Q (0 : Int32) h93) (fun (h94 : Hp) => ((hpK h94 400).1 = 20 + 10) ∧ (wp_X12_fails 400 (1 : Int32) h94 (fun (z97 : Int32) (h96 : Hp) => Q z97 h96))) Q N br due h
theorem get_app1 {S : List Int32} {e : Int32} {j : Nat} {x : Int32} (h : (S ++ [e])[j]? = some x) : (j < S.length ∧ S[j]? = some x) ∨ (j = S.length ∧ x = e) := by
  rcases Nat.lt_or_ge j S.length with q | q
  · rw [List.getElem?_append_left q] at h
    exact Or.inl ⟨q, h⟩
  · rw [List.getElem?_append_right q] at h
    have : j - S.length = 0 := by
      rcases Nat.eq_zero_or_pos (j - S.length) with z | z
      · exact z
      · rw [List.getElem?_eq_none (by simp; omega)] at h; cases h
    rw [this] at h
    exact Or.inr ⟨by omega, by simpa using h.symm⟩
theorem get_pre {S : List Int32} {e : Int32} {j : Nat} {x : Int32} (h : S[j]? = some x) : (S ++ [e])[j]? = some x := by
  rw [List.getElem?_append_left (List.getElem?_eq_some_iff.mp h).1]; exact h
theorem get_lastS {S : List Int32} {e : Int32} : (S ++ [e])[S.length]? = some e := by simp
section MA
variable {L : Nat → Nat → Int64} {D : DD} {Z : Nat → Nat → Int32} {c : Nat} {KS : Nat → Int32} {PS EP : Nat → Nat} {lw : Bool}
theorem MS_fm {I J : Nat → Nat → Int32} {i j : Nat} {C C' : CD} {S : List Int32} {o : Nat} (h : MS KS PS EP I i C S o) (f : FM I J) (hJ : MOK KS PS EP J j C') : MS KS PS EP J j C' S o := ⟨hJ, (f _ _ (by omega)).trans h.2.1, fun j x z => (f _ _ (by omega)).trans (h.2.2.1 j x z), (f _ _ (by omega)).trans h.2.2.2⟩
theorem m_stayL {I : Nat → Nat → Int32} {i : Nat} {C : CD} {S : List Int32} {o : Nat} (h : MS KS PS EP I i C S o) (h40 : S.length ≤ 40) {x : Int32} (hx : S.getLast? ≠ some x) {K Q : Hp → Prop} {N : Nat} : wp_X12_settles_L0 400 x K Q (N + 1) (fm I L D) ↔ K (fm I L D) := by
  obtain ⟨-, h36, hs, -⟩ := h
  rw [wp_X12_settles_L0]
  rcases List.eq_nil_or_concat S with rfl | ⟨S', y, rfl⟩
  · have h36 : I 400 36 = 0 := h36
    simp only [gK, gI, gL, gR_, g_stI, g_stL, forall_eq, true_and, ad_s, okA_s, okO_s, okN_s, i10, i00, if_true, if_false, reduceCtorEq, Kf_1, Kf_400, h36, show (0 : Int32) ≤ 0 by decide]
  · have e : (S'.concat y) = S' ++ [y] := List.concat_eq_append
    rw [e] at h36 hs hx h40
    rw [List.length_append] at h36 h40
    have h36 : I 400 36 = nI (S'.length + 1) := h36
    have h40 : S'.length + 1 ≤ 40 := h40
    have hy : I 436 S'.length = y := hs _ _ get_lastS
    have hxy : ¬ y = x := fun z => hx (by rw [z]; simp)
    simp only [gK, gI, gL, gR_, g_stI, g_stL, forall_eq, true_and, ad_s, okA_s, okO_s, okN_s, i10, i00, if_true, if_false, reduceCtorEq, Kf_1, Kf_400, h36, if_neg (nI_nle (show 0 < S'.length + 1 by omega) (show S'.length + 1 < 2 ^ 31 by omega)), nI_pred, Rf_400_35, Kf_436, vp_in_nI (show S'.length < 40 by omega) (show 40 < 2 ^ 31 by decide), nI_clamp (show S'.length < 2 ^ 31 by omega), hy, if_neg hxy]
theorem m_stay {I : Nat → Nat → Int32} {i : Nat} {C : CD} {S : List Int32} {o : Nat} (h : MS KS PS EP I i C S o) (h40 : S.length ≤ 40) {x : Int32} (hx : S.getLast? ≠ some x) {Q : Hp → Prop} : wp_X12_settles 400 x (fm I L D) Q ↔ Q (fm I L D) := by
  unfold wp_X12_settles
  obtain ⟨f, hf⟩ : ∃ f, fuel = f + 1 := ⟨fuel - 1, by decide⟩
  rw [hf]
  exact m_stayL h h40 hx
theorem MS_pop {I : Nat → Nat → Int32} {i : Nat} {C : CD} {S : List Int32} {o : Nat} {x : Int32} (h : MS KS PS EP I i C (S ++ [x]) o) : MS KS PS EP (popI I S.length C.length x) i (C ++ [(x, 0)]) S o := by
  obtain ⟨⟨h1, h2, h3, h4, h5⟩, h36, hs, h34⟩ := h
  have oo : ∀ k, k ≠ 33 → k ≠ 36 → popI I S.length C.length x 400 k = I 400 k := fun k z1 z2 => by unfold popI; rw [up2_o (by omega), up2_o (by omega), up2_o (by omega), up2_o (by omega)]
  refine ⟨⟨?_, ?_, ?_, ?_, fun j e he => ?_⟩, ?_, fun j y hy => ?_, ?_⟩
  · rw [oo 21 (by omega) (by omega)]; exact h1
  · rw [oo 22 (by omega) (by omega), oo 23 (by omega) (by omega)]; exact h2
  · rw [oo 20 (by omega) (by omega)]; exact h3
  · unfold popI; rw [up2_s, List.length_append]; rfl
  · rcases get_app he with ⟨q1, q2⟩ | ⟨q1, q2⟩
    · unfold popI
      rw [up2_o (by omega), up2_o (by omega), up2_o (by omega), up2_o (by omega), up2_o (by omega), up2_o (by omega), up2_o (by omega), up2_o (by omega)]
      exact h5 j e q2
    · subst q1
      unfold popI
      rw [up2_o (by omega), up2_o (by omega), up2_s, up2_o (by omega), up2_s, q2]
      exact ⟨rfl, rfl⟩
  · unfold popI; rw [up2_o (by omega), up2_o (by omega), up2_o (by omega), up2_s]
  · unfold popI
    rw [up2_o (by omega), up2_o (by omega), up2_o (by omega), up2_o (by omega)]
    exact hs j y (get_pre hy)
  · rw [oo 34 (by omega) (by omega)]; exact h34
theorem FA_pop {I : Nat → Nat → Int32} {p n : Nat} {x : Int32} : FA I (popI I p n x) := fun l k z => by unfold popI; rw [up2_o (by omega), up2_o (by omega), up2_o (by omega), up2_o (by omega)]
/-- one is taken off, its code comes -/
theorem m_popL {I : Nat → Nat → Int32} {i : Nat} {C : CD} {S : List Int32} {o : Nat} {x : Int32} (h : MS KS PS EP I i C (S ++ [x]) o) (h40 : S.length < 40) (hC : C.length < 600) {K Q : Hp → Prop} {N : Nat} : wp_X12_settles_L0 400 x K Q (N + 1) (fm I L D) ↔ (if x = 9 then wp_X12_settles_L0 400 x K Q N (fm (up2 (popI I S.length C.length x) 400 34 (I 400 34 - 1)) L D) else wp_X12_settles_L0 400 x K Q N (fm (popI I S.length C.length x) L D)) := by
  obtain ⟨⟨h1, h2, h3, h4, h5⟩, h36, hs, h34⟩ := h
  rw [List.length_append] at h36
  have h36 : I 400 36 = nI (S.length + 1) := h36
  have hy : I 436 S.length = x := hs _ _ get_lastS
  have a : (4200 : Int32) + nI C.length = nI (4200 + C.length) := by rw [show (4200 : Int32) = nI 4200 from rfl, nI_add]
  have o33 : ∀ v, up2 I 400 36 v 400 33 = nI C.length := fun v => (up2_o (by omega)).trans h4
  have o33b : ∀ l k v, l = 431 ∨ l = 432 → ∀ J : Nat → Nat → Int32, up2 J l k v 400 33 = J 400 33 := fun l k v z J => up2_o (by omega)
  have o34 : ∀ (J : Nat → Nat → Int32) k v, k ≠ 34 → up2 J 400 k v 400 34 = J 400 34 := fun J k v z => up2_o (by omega)
  have o34b : ∀ l k v, l = 431 ∨ l = 432 → ∀ J : Nat → Nat → Int32, up2 J l k v 400 34 = J 400 34 := fun l k v z J => up2_o (by omega)
  rw [wp_X12_settles_L0]
  unfold wp_X12_emits
  simp only [gK, gI, gL, gR_, g_stI, g_stL, forall_eq, true_and, ad_s, okA_s, okO_s, okN_s, i10, i00, if_true, if_false, reduceCtorEq, Kf_1, Kf_400, h36, if_neg (nI_nle (show 0 < S.length + 1 by omega) (show S.length + 1 < 2 ^ 31 by omega)), nI_pred, Rf_400_35, Kf_436, vp_in_nI (show S.length < 40 by omega) (show 40 < 2 ^ 31 by decide), nI_clamp (show S.length < 2 ^ 31 by omega), hy, o33, o33b 431 _ _ (Or.inl rfl), o33b 432 _ _ (Or.inr rfl), Rf_400_30, Rf_400_31, Kf_431, Kf_432, a, vp_in_nI (show 4200 + C.length < 4800 by omega) (show 4800 < 2 ^ 31 by decide), nI_clamp (show 4200 + C.length < 2 ^ 31 by omega), nI_1, o34 _ 33 _ (by decide), o34 _ 36 _ (by decide), o34b 431 _ _ (Or.inl rfl), o34b 432 _ _ (Or.inr rfl)]
  rfl
theorem m_pop1 {I : Nat → Nat → Int32} {i : Nat} {C : CD} {S : List Int32} {o : Nat} {x : Int32} (h : MS KS PS EP I i C (S ++ [x]) o) (h40 : S.length < 40) (hC : C.length < 600) (hx9 : ¬ x = 9) (hx : S.getLast? ≠ some x) {Q : Hp → Prop} : wp_X12_settles 400 x (fm I L D) Q ↔ Q (fm (popI I S.length C.length x) L D) := by
  unfold wp_X12_settles
  obtain ⟨f, hf⟩ : ∃ f, fuel = f + 1 + 1 := ⟨fuel - 2, by decide⟩
  rw [hf, m_popL h h40 hC, if_neg hx9]
  exact m_stayL (MS_pop h) (by omega) hx
/-- all 'no' on the top are taken off -/
theorem m_popNo {K Q : Hp → Prop} {i : Nat} {S0 : List Int32} (hx : S0.getLast? ≠ some 9) : ∀ (k N o : Nat) (C : CD) (I : Nat → Nat → Int32), k < N → k ≤ o → MS KS PS EP I i C (S0 ++ List.replicate k 9) o → S0.length + k ≤ 40 → C.length + k ≤ 600 → (∀ I', FA I I' → MS KS PS EP I' i (C ++ List.replicate k (9, 0)) S0 (o - k) → K (fm I' L D)) → wp_X12_settles_L0 400 9 K Q N (fm I L D) := by
  intro k
  induction k with
  | zero =>
    intro N o C I hN ho h h40 hC hK
    obtain ⟨N, rfl⟩ : ∃ N', N = N' + 1 := ⟨N - 1, by omega⟩
    have h : MS KS PS EP I i C S0 o := by simpa using h
    rw [m_stayL h (by omega) hx]
    refine hK I FA.refl ?_
    simpa using h
  | succ k ih =>
    intro N o C I hN ho h h40 hC hK
    obtain ⟨N, rfl⟩ : ∃ N', N = N' + 1 := ⟨N - 1, by omega⟩
    have e : S0 ++ List.replicate (k + 1) (9 : Int32) = (S0 ++ List.replicate k 9) ++ [9] := by rw [List.replicate_succ', List.append_assoc]
    rw [e] at h
    have hl : (S0 ++ List.replicate k (9 : Int32)).length = S0.length + k := by simp
    rw [m_popL h (by omega) (by omega), if_pos rfl]
    have hp := MS_pop h
    obtain ⟨o', rfl⟩ : ∃ o', o = o' + 1 := ⟨o - 1, by omega⟩
    have h34 : I 400 34 = nI (o' + 1) := h.2.2.2
    refine ih N o' (C ++ [(9, 0)]) _ (by omega) (by omega) ?_ (by omega) (by rw [List.length_append]; show C.length + 1 + k ≤ 600; omega) (fun I' f1 h1 => hK I' ?_ ?_)
    · obtain ⟨⟨q1, q2, q3, q4, q5⟩, q6, q7, q8⟩ := hp
      refine ⟨⟨?_, ?_, ?_, ?_, fun j e he => ?_⟩, ?_, fun j y hy => ?_, ?_⟩
      · rw [up2_o (by omega)]; exact q1
      · rw [up2_o (by omega), up2_o (by omega)]; exact q2
      · rw [up2_o (by omega)]; exact q3
      · rw [up2_o (by omega)]; exact q4
      · rw [up2_o (by omega), up2_o (by omega)]; exact q5 j e he
      · rw [up2_o (by omega)]; exact q6
      · rw [up2_o (by omega)]; exact q7 j y hy
      · rw [up2_s, h34, nI_pred]
    · intro l k' z
      rw [f1 l k' z, up2_o (by omega)]
      exact FA_pop l k' z
    · have e2 : C ++ [((9, 0) : Int32 × Int32)] ++ List.replicate k (9, 0) = C ++ List.replicate (k + 1) (9, 0) := by
        rw [List.append_assoc]; rfl
      rw [e2] at h1
      rw [show o' + 1 - (k + 1) = o' - k by omega]
      exact h1
theorem m_waits {I : Nat → Nat → Int32} {i : Nat} {C : CD} {S : List Int32} {o : Nat} (h : MS KS PS EP I i C S o) (h40 : S.length < 40) {x : Int32} {Q : Hp → Prop} (hQ : ∀ I', FA I I' → MS KS PS EP I' i C (S ++ [x]) o → Q (fm I' L D)) : wp_X12_waits 400 x (fm I L D) Q := by
  obtain ⟨⟨h1, h2, h3, h4, h5⟩, h36, hs, h34⟩ := h
  unfold wp_X12_waits
  have o36 : ∀ v, up2 I 436 S.length v 400 36 = nI S.length := fun v => (up2_o (by omega)).trans h36
  simp only [gK, gI, gL, gR_, g_stI, g_stL, forall_eq, true_and, ad_s, okA_s, okO_s, okN_s, i10, i00, if_true, if_false, reduceCtorEq, Kf_1, Kf_400, h36, Rf_400_35, Kf_436, vp_in_nI h40 (show 40 < 2 ^ 31 by decide), nI_clamp (show S.length < 2 ^ 31 by omega), o36, nI_1]
  refine hQ _ (fun l k z => ?_) ⟨⟨?_, ?_, ?_, ?_, fun j e he => ?_⟩, ?_, fun j y hy => ?_, ?_⟩
  · rw [up2_o (by omega), up2_o (by omega)]
  · rw [up2_o (by omega), up2_o (by omega)]; exact h1
  · rw [up2_o (by omega), up2_o (by omega), up2_o (by omega), up2_o (by omega)]; exact h2
  · rw [up2_o (by omega), up2_o (by omega)]; exact h3
  · rw [up2_o (by omega), up2_o (by omega)]; exact h4
  · rw [up2_o (by omega), up2_o (by omega), up2_o (by omega), up2_o (by omega)]; exact h5 j e he
  · rw [up2_s, List.length_append]; rfl
  · rw [up2_o (by omega)]
    rcases get_app1 hy with ⟨q1, q2⟩ | ⟨q1, q2⟩
    · rw [up2_o (by omega)]; exact hs j y q2
    · rw [q1, q2, up2_s]
  · rw [up2_o (by omega), up2_o (by omega)]; exact h34
/-- an 'and' that waits may as well be told at once -/
theorem m_late10 {I : Nat → Nat → Int32} {i : Nat} {C : CD} {S : List Int32} {o : Nat} (h : MS KS PS EP I i C (S ++ [10]) o) (h40 : S.length < 40) (hC : C.length < 600) (hx : S.getLast? ≠ some 10) {Q : Int32 → Hp → Prop} {N : Nat} {br : Int32} (hL : LA Q (N + 1) br 0 (fm (popI I S.length C.length 10) L D)) : LA Q (N + 1) br 0 (fm I L D) := by
  have hp := MS_pop h
  have hT := h.1.2.1
  have hT2 := hp.1.2.1
  unfold LA at hL ⊢
  rw [wp_X12_readAny_L9] at hL ⊢
  simp only [gK, gI, gL, gR_, g_stI, g_stL, forall_eq, true_and, ad_s, okA_s, okO_s, okN_s, i10, i00, if_true, if_false, reduceCtorEq, Kf_1, Kf_400, m_wd hT (w := 7) (x := 7) (y := 257) rfl (by decide) rfl, m_wd hT (w := 6) (x := 6) (y := 256) rfl (by decide) rfl] at ⊢
  simp only [gK, gI, gL, gR_, g_stI, g_stL, forall_eq, true_and, ad_s, okA_s, okO_s, okN_s, i10, i00, if_true, if_false, reduceCtorEq, Kf_1, Kf_400, m_wd hT2 (w := 7) (x := 7) (y := 257) rfl (by decide) rfl, m_wd hT2 (w := 6) (x := 6) (y := 256) rfl (by decide) rfl] at hL
  by_cases e1 : KS i = 257
  · simp only [if_pos e1, i10, if_false] at hL ⊢
    rw [m_pop1 h h40 hC (by decide) hx]
    rw [m_stay hp (by omega) hx] at hL
    exact hL
  · simp only [if_neg e1, i00, if_true] at hL ⊢
    by_cases e2 : KS i = 256
    · simp only [if_pos e2, i10, if_false] at hL ⊢
      rw [m_pop1 h h40 hC (by decide) hx]
      rw [m_stay hp (by omega) hx] at hL
      exact hL
    · simp only [if_neg e2, i00, if_true] at hL ⊢
      rw [m_pop1 h h40 hC (by decide) hx]
      rw [m_stay hp (by omega) hx] at hL
      exact hL
theorem last_app {S : List Int32} {y x : Int32} (h : ¬ y = x) : (S ++ [y]).getLast? ≠ some x := by simp [h]
/-- so may an 'or', where no 'and' stands -/
theorem m_late11 {I : Nat → Nat → Int32} {i : Nat} {C : CD} {S : List Int32} {o : Nat} (h : MS KS PS EP I i C (S ++ [11]) o) (h40 : S.length < 40) (hC : C.length < 600) (hx : S.getLast? ≠ some 11) (hx2 : S.getLast? ≠ some 10) (hk : ¬ KS i = 257) {Q : Int32 → Hp → Prop} {N : Nat} {br : Int32} (hL : LA Q (N + 1) br 0 (fm (popI I S.length C.length 11) L D)) : LA Q (N + 1) br 0 (fm I L D) := by
  have hp := MS_pop h
  have hT := h.1.2.1
  have hT2 := hp.1.2.1
  have hl : (S ++ [(11 : Int32)]).length ≤ 40 := by rw [List.length_append]; exact h40
  unfold LA at hL ⊢
  rw [wp_X12_readAny_L9] at hL ⊢
  simp only [gK, gI, gL, gR_, g_stI, g_stL, forall_eq, true_and, ad_s, okA_s, okO_s, okN_s, i10, i00, if_true, if_false, reduceCtorEq, Kf_1, Kf_400, m_wd hT (w := 7) (x := 7) (y := 257) rfl (by decide) rfl, m_wd hT (w := 6) (x := 6) (y := 256) rfl (by decide) rfl, if_neg hk] at ⊢
  simp only [gK, gI, gL, gR_, g_stI, g_stL, forall_eq, true_and, ad_s, okA_s, okO_s, okN_s, i10, i00, if_true, if_false, reduceCtorEq, Kf_1, Kf_400, m_wd hT2 (w := 7) (x := 7) (y := 257) rfl (by decide) rfl, m_wd hT2 (w := 6) (x := 6) (y := 256) rfl (by decide) rfl, if_neg hk] at hL
  by_cases e2 : KS i = 256
  · simp only [if_pos e2, i10, if_false] at hL ⊢
    rw [m_stay h hl (last_app (by decide))]
    rw [m_stay hp (by omega) hx2] at hL
    refine ⟨hL.1, ?_⟩
    rw [m_pop1 h h40 hC (by decide) hx]
    have := hL.2
    rw [m_stay hp (by omega) hx] at this
    exact this
  · simp only [if_neg e2, i00, if_true] at hL ⊢
    rw [m_stay h hl (last_app (by decide))]
    rw [m_stay hp (by omega) hx2] at hL
    refine ⟨hL.1, ?_⟩
    rw [m_pop1 h h40 hC (by decide) hx]
    have := hL.2
    rw [m_stay hp (by omega) hx] at this
    exact this
end MA
