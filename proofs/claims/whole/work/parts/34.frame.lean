/-! WHAT NOBODY LOOKS AT BETWEEN THE CALLS (my own) -/
def Scr (D : DD) (l k : Nat) : Prop := (l = 8 ∧ k = 4) ∨ l = 10 ∨ l = 11 ∨ (l = 12 ∧ (k = 4 ∨ k = 5)) ∨ (14 ≤ l ∧ l ≤ 19) ∨ (20 ≤ l ∧ l < 84 ∧ (l - 20) % 8 = 6) ∨ (20 + 8 * D.tx 0 ≤ l ∧ l < 27 + 8 * D.tx 0) ∨ (l = 400 ∧ (k = 0 ∨ (20 ≤ k ∧ k ≤ 23) ∨ (32 ≤ k ∧ k ≤ 34) ∨ (36 ≤ k ∧ k ≤ 38) ∨ k = 43 ∨ k = 60 ∨ k = 61)) ∨ l = 436 ∨ l = 442 ∨ l = 443 ∨ l = 445 ∨ l = 448 ∨ l = 449 ∨ l = 453 ∨ l = 458 ∨ l = 460 ∨ (427 ≤ l ∧ l ≤ 430 ∧ 112 ≤ k) ∨ ((l = 431 ∨ l = 432) ∧ 4200 ≤ k)
theorem ck_cg {lo hi : Nat} {op ar op' ar' : Nat → Int32} : ∀ (n k : Nat) (st : List Nat), (∀ j, k ≤ j → j < k + n → op' j = op j ∧ ar' j = ar j) → ck lo hi op' ar' k n st = ck lo hi op ar k n st := by
  intro n
  induction n with
  | zero => intro k st h; rfl
  | succ n ih =>
    intro k st h
    obtain ⟨e1, e2⟩ := h k (Nat.le_refl _) (by omega)
    show (ckS lo hi (op' k) (ar' k) st).bind _ = (ckS lo hi (op k) (ar k) st).bind _
    rw [e1, e2]
    congr 1
    funext st'
    exact ih (k + 1) st' (fun j h1 h2 => h j (by omega) (by omega))
theorem ev_cg {fx : Nat → Int32} {op ar op' ar' : Nat → Int32} : ∀ (n k : Nat) (st : List Int32), (∀ j, k ≤ j → j < k + n → op' j = op j ∧ ar' j = ar j) → ev op' ar' fx k n st = ev op ar fx k n st := by
  intro n
  induction n with
  | zero => intro k st h; rfl
  | succ n ih =>
    intro k st h
    obtain ⟨e1, e2⟩ := h k (Nat.le_refl _) (by omega)
    show ev op' ar' fx (k + 1) n (evS (op' k) (ar' k) fx st) = ev op ar fx (k + 1) n (evS (op k) (ar k) fx st)
    rw [e1, e2]
    exact ih (k + 1) _ (fun j h1 h2 => h j (by omega) (by omega))
theorem wrt_cg {fx : Nat → Int32} {op ar op' ar' : Nat → Int32} {k e : Nat} (h : ∀ j, k ≤ j → j < e → op' j = op j ∧ ar' j = ar j) : wrt op' ar' fx k e = wrt op ar fx k e := by
  unfold wrt
  rw [ev_cg (e - k) k [] (fun j h1 h2 => h j h1 (by omega))]
/-- the cells of the texts that stand are as they were -/
def TSame (I I' : Nat → Nat → Int32) (r : Nat) : Prop := I' 426 r = I 426 r ∧ (∀ i, i < 16 → I' 427 (16 * r + i) = I 427 (16 * r + i) ∧ I' 428 (16 * r + i) = I 428 (16 * r + i) ∧ I' 429 (16 * r + i) = I 429 (16 * r + i) ∧ I' 430 (16 * r + i) = I 430 (16 * r + i)) ∧ ∀ k, k < 600 → I' 431 (600 * r + k) = I 431 (600 * r + k) ∧ I' 432 (600 * r + k) = I 432 (600 * r + k)
theorem TR_cg {I I' : Nat → Nat → Int32} {t r lo hi slo shi : Nat} (h : TR I t r lo hi slo shi) (hs : TSame I I' r) (ht : ∀ k, I' (20 + 8 * t) k = I (20 + 8 * t) k) (ha : ∀ j k, 1 ≤ j → j ≤ 5 → I' (20 + 8 * t + j) k = I (20 + 8 * t + j) k) : TR I' t r lo hi slo shi := by
  obtain ⟨n, z, h1, h2, h3, h4, h5, h6, h7, h8, h9⟩ := h
  obtain ⟨s1, s2, s3⟩ := hs
  refine ⟨n, z, h1, h2, by rw [ht]; exact h3, by rw [ht]; exact h4, by rw [s1]; exact h5, ?_, by rw [ht]; exact h7, ?_, ?_⟩
  · intro k hk
    rw [ha 5 k (by omega) (by omega), (s3 k (by omega)).1, (s3 k (by omega)).2]
    exact h6 k hk
  · intro q k hk
    rw [(s3 k (by omega)).1, (s3 k (by omega)).2]
    exact h8 (by rw [ht] at q; exact q) k hk
  · intro i hi
    obtain ⟨f, s, e, so, q1, q2, q3, q4, q5, q6, q7, q8, q9, q10, q11, q12, q13, q14, q15⟩ := h9 i hi
    obtain ⟨t1, t2, t3, t4⟩ := s2 i (by omega)
    refine ⟨f, s, e, so, q1, q2, q3, q4, q5, by rw [t1]; exact q6, by rw [ha 1 i (by omega) (by omega)]; exact q7, by rw [t2]; exact q8, by rw [ha 2 i (by omega) (by omega)]; exact q9, by rw [t3]; exact q10, by rw [ha 3 i (by omega) (by omega)]; exact q11, by rw [t4]; exact q12, by rw [ha 4 i (by omega) (by omega)]; exact q13, ?_, ?_⟩
    · rcases q14 with ⟨a1, y, a2, a3⟩ | a
      · refine Or.inl ⟨a1, y, a2, ?_⟩
        rw [ck_cg (op := I 431) (ar := I 432) (s - f) (600 * r + f) [] (fun j b1 b2 => ?_)]
        · exact a3
        · have := s3 (j - 600 * r) (by omega)
          rw [show 600 * r + (j - 600 * r) = j by omega] at this
          exact this
      · exact Or.inr a
    · intro b
      rw [ck_cg (op := I 431) (ar := I 432) (e - s) (600 * r + s) [] (fun j b1 b2 => ?_)]
      · exact q15 b
      · have := s3 (j - 600 * r) (by omega)
        rw [show 600 * r + (j - 600 * r) = j by omega] at this
        exact this
theorem sayL_cg {I I' : Nat → Nat → Int32} {fx : Nat → Int32} {t r lo hi slo shi : Nat} (h : TR I t r lo hi slo shi) (hs : TSame I I' r) {n0 : Nat} (hn0 : I 426 r = nI n0) (hn : n0 ≤ 16) : ∀ (n i : Nat), i + n = n0 → sayL I' fx r i n = sayL I fx r i n := by
  obtain ⟨n1, z, h1, h2, h3, h4, h5, h6, h7, h8, h9⟩ := h
  have e0 : n1 = n0 := (nI_eq (by omega) (by omega)).mp (h5.symm.trans hn0)
  subst e0
  intro n
  induction n with
  | zero => intro i hi; rfl
  | succ n ih =>
    intro i hi
    obtain ⟨f, s, e, so, q1, q2, q3, q4, q5, q6, q7, q8, q9, q10, q11, q12, q13, q14, q15⟩ := h9 i (by omega)
    obtain ⟨t1, t2, t3, t4⟩ := hs.2.1 i (by omega)
    have w : wrt (I' 431) (I' 432) fx (600 * r + s) (600 * r + e) = wrt (I 431) (I 432) fx (600 * r + s) (600 * r + e) := by
      apply wrt_cg
      intro j b1 b2
      have := hs.2.2 (j - 600 * r) (by omega)
      rw [show 600 * r + (j - 600 * r) = j by omega] at this
      exact this
    unfold sayL
    rw [t1, t3, t4, q10, q12, nI_clamp (by omega), nI_clamp (by omega), w, ih (i + 1) (by omega)]
theorem sayF_cg {I I' : Nat → Nat → Int32} {l t a b told lo hi slo shi : Nat} (h : TR I t (1 + l) lo hi slo shi) (hs : TSame I I' (1 + l)) (h4 : I' 414 = I 414) (h7 : I' 447 l = I 447 l) : sayF I' l a b told = sayF I l a b told := by
  have hr : ∀ a, row I' a = row I a := fun a => by unfold row; rw [h4]
  obtain ⟨n1, z, q1, q2, q3, q4, q5, -⟩ := id h
  unfold sayF
  rw [hr, hr, h7, hs.1, q5, nI_clamp (by omega)]
  exact sayL_cg h hs q5 q1 n1 0 (by omega)
