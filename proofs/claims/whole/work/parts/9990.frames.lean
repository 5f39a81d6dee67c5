/-! laws and judgement: which cells stay (my own) -/
theorem XF_D5 {D : DD} {l k : Nat} (z1 : ¬ Scr D l k) (z2 : ¬ Xs_D5 D l k) : ¬ ((l = 12 ∧ (k = 0 ∨ k = 1 ∨ k = 4 ∨ k = 5)) ∨ l = 10 ∨ l = 11 ∨ (l = 8 ∧ (k = 1 ∨ k = 4)) ∨ (20 + 8 * D.tx 0 ≤ l ∧ l ≤ 20 + 8 * D.tx 0 + 5)) := by
  rintro (⟨a, c⟩ | a | a | ⟨a, c⟩ | ⟨a, c⟩)
  · subst a
    rcases c with c | c | c | c
    · exact z2 (by unfold Xs_D5; omega)
    · exact z2 (by unfold Xs_D5; omega)
    · exact z1 (by unfold Scr; omega)
    · exact z1 (by unfold Scr; omega)
  · exact z1 (by unfold Scr; omega)
  · exact z1 (by unfold Scr; omega)
  · subst a
    rcases c with c | c
    · exact z2 (by unfold Xs_D5; omega)
    · exact z1 (by unfold Scr; omega)
  · exact z1 (by unfold Scr; omega)
theorem MF_D5 {D : DD} {row l k : Nat} (hr : row < 1 + D.nL) (z1 : ¬ Scr D l k) (z2 : ¬ Xs_D5 D l k) : ¬ ((l = 400 ∧ (k = 17 ∨ (19 ≤ k ∧ k ≤ 23) ∨ (32 ≤ k ∧ k ≤ 34) ∨ (36 ≤ k ∧ k ≤ 40))) ∨ ((l = 431 ∨ l = 432) ∧ (4200 ≤ k ∨ (600 * row ≤ k ∧ k < 600 * row + 600))) ∨ l = 436 ∨ (427 ≤ l ∧ l ≤ 430 ∧ (112 ≤ k ∨ (16 * row ≤ k ∧ k < 16 * row + 16))) ∨ (l = 426 ∧ k = row)) := by
  rintro (⟨a, c⟩ | ⟨a, -⟩ | a | ⟨a, a2, -⟩ | ⟨a, c⟩)
  · subst a
    by_cases w : k = 17 ∨ k = 19 ∨ k = 39 ∨ k = 40
    · exact z2 (by unfold Xs_D5; omega)
    · exact z1 (by clear z1 z2 hr; unfold Scr; omega)
  · exact z2 (by clear z1 z2; unfold Xs_D5; omega)
  · exact z1 (by clear z1 z2; unfold Scr; omega)
  · exact z2 (by clear z1 z2; unfold Xs_D5; omega)
  · exact z2 (by clear z1 z2; unfold Xs_D5; omega)
theorem told_ne {D : DD} {l k : Nat} (z1 : ¬ Scr D l k) : ¬ (l = 400 ∧ k = 0) := fun z => z1 (by clear z1; unfold Scr; omega)
theorem text_fr {I J M : Nat → Nat → Int32} {D : DD} {row : Nat} (hr : row < 1 + D.nL) (hf : XF (D.tx 0) I J) (mf : MF row (up2 J 400 0 0) M) (l k : Nat) (z1 : ¬ Scr D l k) (z2 : ¬ Xs_D5 D l k) : M l k = I l k := by
  rw [mf l k (MF_D5 hr z1 z2), up2_o (told_ne z1), hf l k (XF_D5 z1 z2)]
theorem text_lo {J M : Nat → Nat → Int32} {row : Nat} (mf : MF row (up2 J 400 0 0) M) (l k : Nat) (hl : l < 400) : M l k = J l k := by
  rw [mf l k (by rintro (⟨a, -⟩ | ⟨a, -⟩ | a | ⟨a, -⟩ | ⟨a, -⟩) <;> omega), up2_o (fun z => by have := z.1; omega)]
theorem XF_hi {I J : Nat → Nat → Int32} {t0 : Nat} (t8 : t0 < 8) (hf : XF t0 I J) (l k : Nat) (hl : 84 ≤ l) : J l k = I l k := hf l k (by rintro (⟨a, -⟩ | a | a | ⟨a, -⟩ | ⟨-, a⟩) <;> omega)
theorem text_tl {I J M : Nat → Nat → Int32} {t0 row : Nat} (t8 : t0 < 8) (hf : XF t0 I J) (mf : MF row (up2 J 400 0 0) M) (l k : Nat) (h1 : 426 ≤ l) (h2 : l ≤ 432) (z1 : l = 426 → k ≠ row) (z2 : 427 ≤ l → l ≤ 430 → k < 112 ∧ (k < 16 * row ∨ 16 * row + 16 ≤ k)) (z3 : 431 ≤ l → k < 4200 ∧ (k < 600 * row ∨ 600 * row + 600 ≤ k)) : M l k = I l k := by
  rw [mf l k (by
    rintro (⟨a, -⟩ | ⟨a, c⟩ | a | ⟨a, a2, c⟩ | ⟨a, c⟩)
    · omega
    · have := z3 (by omega); omega
    · omega
    · have := z2 a a2; omega
    · exact z1 a c), up2_o (fun z => by have := z.1; omega), XF_hi t8 hf l k (by omega)]
theorem text_TS {I J M : Nat → Nat → Int32} {t0 row : Nat} (t8 : t0 < 8) (hf : XF t0 I J) (mf : MF row (up2 J 400 0 0) M) (r : Nat) (hr : r < 7) (hne : r ≠ row) : TSame I M r := by
  have a : ∀ l i, 427 ≤ l → l ≤ 430 → i < 16 → M l (16 * r + i) = I l (16 * r + i) := fun l i l1 l2 hi => text_tl t8 hf mf l _ (by omega) (by omega) (fun z => by omega) (fun _ _ => by omega) (fun z => by omega)
  have c : ∀ l i, 431 ≤ l → l ≤ 432 → i < 600 → M l (600 * r + i) = I l (600 * r + i) := fun l i l1 l2 hi => text_tl t8 hf mf l _ (by omega) (by omega) (fun z => by omega) (fun _ z => by omega) (fun _ => by omega)
  exact ⟨text_tl t8 hf mf 426 r (by decide) (by decide) (fun _ => hne) (fun z => by omega) (fun z => by omega), fun i hi => ⟨a 427 i (by decide) (by decide) hi, a 428 i (by decide) (by decide) hi, a 429 i (by decide) (by decide) hi, a 430 i (by decide) (by decide) hi⟩, fun k hk => ⟨c 431 k (by decide) (by decide) hk, c 432 k (by decide) (by decide) hk⟩⟩
theorem XF_F {D : DD} {l k : Nat} (z1 : ¬ Scr D l k) (z2 : ¬ Xs_F l k) : ¬ ((l = 12 ∧ (k = 0 ∨ k = 1 ∨ k = 4 ∨ k = 5)) ∨ l = 10 ∨ l = 11 ∨ (l = 8 ∧ (k = 1 ∨ k = 4)) ∨ (20 + 8 * D.tx 0 ≤ l ∧ l ≤ 20 + 8 * D.tx 0 + 5)) := by
  rintro (⟨a, c⟩ | a | a | ⟨a, c⟩ | ⟨a, c⟩)
  · subst a
    rcases c with c | c | c | c
    · exact z2 (by unfold Xs_F; omega)
    · exact z2 (by unfold Xs_F; omega)
    · exact z1 (by unfold Scr; omega)
    · exact z1 (by unfold Scr; omega)
  · exact z1 (by unfold Scr; omega)
  · exact z1 (by unfold Scr; omega)
  · subst a
    rcases c with c | c
    · exact z2 (by unfold Xs_F; omega)
    · exact z1 (by unfold Scr; omega)
  · exact z1 (by unfold Scr; omega)
theorem MF0_F {D : DD} {l k : Nat} (z1 : ¬ Scr D l k) (z2 : ¬ Xs_F l k) : ¬ ((l = 400 ∧ ((19 ≤ k ∧ k ≤ 23) ∨ (32 ≤ k ∧ k ≤ 34) ∨ (36 ≤ k ∧ k ≤ 40))) ∨ ((l = 431 ∨ l = 432) ∧ 4200 ≤ k) ∨ l = 436 ∨ (427 ≤ l ∧ l ≤ 430 ∧ 112 ≤ k)) := by
  rintro (⟨a, c⟩ | ⟨a, c⟩ | a | ⟨a, a2, c⟩)
  · subst a
    by_cases w : k = 19 ∨ k = 39 ∨ k = 40
    · exact z2 (by clear z1 z2; unfold Xs_F; omega)
    · exact z1 (by clear z1 z2; unfold Scr; omega)
  · exact z1 (by clear z1 z2; unfold Scr; omega)
  · exact z1 (by clear z1 z2; unfold Scr; omega)
  · exact z1 (by clear z1 z2; unfold Scr; omega)
