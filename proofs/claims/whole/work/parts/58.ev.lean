/-! WORTH: the two machines of a text (my own) -/
def stk (m : Nat → Int32) : List Int32 → Prop
  | [] => True
  | x :: r => m r.length = x ∧ stk m r
theorem stk_cg {m m' : Nat → Int32} : ∀ {st : List Int32}, (∀ k, k < st.length → m' k = m k) → stk m st → stk m' st := by
  intro st
  induction st with
  | nil => intro _ _; trivial
  | cons x r ih => intro h hs; exact ⟨(h r.length (by simp)).trans hs.1, ih (fun k hk => h k (by simp; omega)) hs.2⟩
def tv (k : Nat) (v : Int32) : Prop := (k = 1 → v = 0 ∨ v = 1) ∧ (k = 2 → ¬ v = 0)
def ty : List Nat → List Int32 → Prop
  | [], [] => True
  | k :: r, v :: s => tv k v ∧ ty r s
  | _, _ => False
theorem ty_len : ∀ {t : List Nat} {s : List Int32}, ty t s → t.length = s.length := by
  intro t
  induction t with
  | nil => intro s h; cases s with
    | nil => rfl
    | cons x r => exact h.elim
  | cons k r ih => intro s h; cases s with
    | nil => exact h.elim
    | cons x r' => simp only [List.length_cons]; rw [ih h.2]
theorem ty_cons {k : Nat} {r : List Nat} {s : List Int32} (h : ty (k :: r) s) : ∃ v s', s = v :: s' ∧ tv k v ∧ ty r s' := by
  cases s with
  | nil => exact h.elim
  | cons v s' => exact ⟨v, s', rfl, h.1, h.2⟩
theorem ckS_cases {lo hi : Nat} {o a : Int32} {t t' : List Nat} (h : ckS lo hi o a t = some t') : (o = 0 ∧ t.length < 32 ∧ 0 ≤ a ∧ t' = (if a = 0 then 0 else 2) :: t) ∨ (o = 1 ∧ t.length < 32 ∧ 0 ≤ a ∧ nI lo ≤ a ∧ a < nI hi ∧ t' = 0 :: t) ∨ (o = 9 ∧ ∃ r, t = 1 :: r ∧ t' = 1 :: r) ∨ (∃ y x z r, t = y :: x :: r ∧ t' = z :: r ∧ ((o = 5 ∧ y = 2 ∧ z = 0) ∨ ((o = 2 ∨ o = 3 ∨ o = 4) ∧ z = 0) ∨ ((o = 6 ∨ o = 7 ∨ o = 8) ∧ z = 1) ∨ ((o = 10 ∨ o = 11) ∧ x = 1 ∧ y = 1 ∧ z = 1))) := by
  unfold ckS at h
  by_cases o0 : o = 0
  · rw [if_pos o0] at h
    split at h
    · rename_i q
      exact Or.inl ⟨o0, q.1, q.2, (Option.some.inj h).symm⟩
    · cases h
  · rw [if_neg o0] at h
    by_cases o1 : o = 1
    · rw [if_pos o1] at h
      split at h
      · rename_i q
        exact Or.inr (Or.inl ⟨o1, q.1, q.2.1, q.2.2.1, q.2.2.2, (Option.some.inj h).symm⟩)
      · cases h
    · rw [if_neg o1] at h
      by_cases o9 : o = 9
      · rw [if_pos o9] at h
        split at h
        · exact Or.inr (Or.inr (Or.inl ⟨o9, _, rfl, (Option.some.inj h).symm⟩))
        · cases h
      · rw [if_neg o9] at h
        refine Or.inr (Or.inr (Or.inr ?_))
        by_cases o5 : o = 5
        · rw [if_pos o5] at h
          split at h
          · split at h
            · exact ⟨_, _, _, _, rfl, (Option.some.inj h).symm, Or.inl ⟨o5, rfl, rfl⟩⟩
            · cases h
          · cases h
        · rw [if_neg o5] at h
          by_cases o2 : o = 2 ∨ o = 3 ∨ o = 4
          · rw [if_pos o2] at h
            split at h
            · split at h
              · exact ⟨_, _, _, _, rfl, (Option.some.inj h).symm, Or.inr (Or.inl ⟨o2, rfl⟩)⟩
              · cases h
            · cases h
          · rw [if_neg o2] at h
            by_cases o6 : o = 6 ∨ o = 7 ∨ o = 8
            · rw [if_pos o6] at h
              split at h
              · split at h
                · exact ⟨_, _, _, _, rfl, (Option.some.inj h).symm, Or.inr (Or.inr (Or.inl ⟨o6, rfl⟩))⟩
                · cases h
              · cases h
            · rw [if_neg o6] at h
              by_cases oA : o = 10 ∨ o = 11
              · rw [if_pos oA] at h
                split at h
                · exact ⟨_, _, _, _, rfl, (Option.some.inj h).symm, Or.inr (Or.inr (Or.inr ⟨oA, rfl, rfl, rfl⟩))⟩
                · cases h
              · rw [if_neg oA] at h; cases h
theorem evS_0 {a : Int32} {fx : Nat → Int32} {st : List Int32} : evS 0 a fx st = a :: st := rfl
theorem evS_1 {a : Int32} {fx : Nat → Int32} {st : List Int32} : evS 1 a fx st = fx a.toNatClampNeg :: st := rfl
theorem evS_9 {a x : Int32} {fx : Nat → Int32} {r : List Int32} : evS 9 a fx (x :: r) = (1 - x) :: r := rfl
/-- the signs between two values -/
def isTwo (o : Int32) : Prop := o = 2 ∨ o = 3 ∨ o = 4 ∨ o = 5 ∨ o = 6 ∨ o = 7 ∨ o = 8 ∨ o = 10 ∨ o = 11
theorem evS_2 {o a x y : Int32} {fx : Nat → Int32} {r : List Int32} (ho : isTwo o) : evS o a fx (y :: x :: r) = two o x y :: r := by
  rcases ho with h | h | h | h | h | h | h | h | h <;> (subst h; rfl)
theorem isTwo_ne {o : Int32} (h : isTwo o) : ¬ o = 0 ∧ ¬ o = 1 ∧ ¬ o = 9 := by
  rcases h with h | h | h | h | h | h | h | h | h <;> (subst h; decide)
/-- what the kinds say of a step between two values -/
theorem two_ty {o : Int32} {x y : Nat} {z : Nat} (h : (o = 5 ∧ y = 2 ∧ z = 0) ∨ ((o = 2 ∨ o = 3 ∨ o = 4) ∧ z = 0) ∨ ((o = 6 ∨ o = 7 ∨ o = 8) ∧ z = 1) ∨ ((o = 10 ∨ o = 11) ∧ x = 1 ∧ y = 1 ∧ z = 1)) {vx vy : Int32} (hx : tv x vx) (hy : tv y vy) : isTwo o ∧ (o = 5 → ¬ vy = 0) ∧ (o = 10 ∨ o = 11 → (vx = 0 ∨ vx = 1) ∧ (vy = 0 ∨ vy = 1)) ∧ tv z (two o vx vy) := by
  have b01 : ∀ (c : Prop) [Decidable c], tv 1 (if c then 1 else 0) := fun c _ => by
    refine ⟨fun _ => ?_, fun e => by omega⟩
    by_cases q : c
    · rw [if_pos q]; exact Or.inr rfl
    · rw [if_neg q]; exact Or.inl rfl
  have z0 : ∀ v, tv 0 v := fun v => ⟨fun e => by omega, fun e => by omega⟩
  rcases h with ⟨h1, h2, h3⟩ | ⟨h1, h3⟩ | ⟨h1, h3⟩ | ⟨h1, h2, h4, h3⟩
  · subst h1; subst h2; subst h3
    exact ⟨by unfold isTwo; decide, fun _ => hy.2 rfl, fun e => absurd e (by decide), z0 _⟩
  · subst h3
    refine ⟨?_, ?_, ?_, z0 _⟩
    · unfold isTwo; rcases h1 with h | h | h <;> (subst h; decide)
    · rcases h1 with h | h | h <;> (subst h; exact fun e => absurd e (by decide))
    · rcases h1 with h | h | h <;> (subst h; exact fun e => absurd e (by decide))
  · subst h3
    refine ⟨?_, ?_, ?_, ?_⟩
    · unfold isTwo; rcases h1 with h | h | h <;> (subst h; decide)
    · rcases h1 with h | h | h <;> (subst h; exact fun e => absurd e (by decide))
    · rcases h1 with h | h | h <;> (subst h; exact fun e => absurd e (by decide))
    · rcases h1 with h | h | h <;> (subst h; exact b01 _)
  · subst h2; subst h4; subst h3
    have hx := hx.1 rfl
    have hy := hy.1 rfl
    refine ⟨?_, ?_, fun _ => ⟨hx, hy⟩, ?_⟩
    · unfold isTwo; rcases h1 with h | h <;> (subst h; decide)
    · rcases h1 with h | h <;> (subst h; exact fun e => absurd e (by decide))
    · rcases h1 with h | h
      · subst h
        show tv 1 (vx * vy)
        refine ⟨fun _ => ?_, fun e => by omega⟩
        rcases hx with h | h <;> rcases hy with h' | h' <;> (subst h; subst h'; decide)
      · subst h; exact b01 _
theorem m_twoOf {o vx vy : Int32} (ho : isTwo o) (h5 : o = 5 → ¬ vy = 0) {h : Hp} {c : Nat} {Q : Int32 → Hp → Prop} (hQ : Q (two o vx vy) h) : wp_X12_twoOf c o vx vy h Q := by
  unfold wp_X12_twoOf
  unfold two at hQ
  have fl : ∀ (p q : Int32) (A B : Prop), (if p < q then B else A) → (if q ≤ p then A else B) := fun p q A B z => by
    by_cases e : q ≤ p
    · rw [if_pos e]; rw [if_neg (Int32.not_lt.mpr e)] at z; exact z
    · rw [if_neg e]; rw [if_pos (Int32.not_le.mp e)] at z; exact z
  rcases ho with e | e | e | e | e | e | e | e | e <;> subst e
  · exact hQ
  · exact hQ
  · exact hQ
  · exact ⟨h5 rfl, hQ⟩
  · show if vy ≤ vx then _ else _
    by_cases e : vy ≤ vx
    · rw [if_pos e]; have hQ : Q (if vx < vy then 1 else 0) h := hQ; rw [if_neg (Int32.not_lt.mpr e)] at hQ; exact hQ
    · rw [if_neg e]; have hQ : Q (if vx < vy then 1 else 0) h := hQ; rw [if_pos (Int32.not_le.mp e)] at hQ; exact hQ
  · show if vx = vy then _ else _
    have hQ : Q (if vx = vy then 1 else 0) h := hQ
    by_cases e : vx = vy
    · rw [if_pos e]; rw [if_pos e] at hQ; exact hQ
    · rw [if_neg e]; rw [if_neg e] at hQ; exact hQ
  · show if vx ≤ vy then _ else _
    have hQ : Q (if vy < vx then 1 else 0) h := hQ
    by_cases e : vx ≤ vy
    · rw [if_pos e]; rw [if_neg (Int32.not_lt.mpr e)] at hQ; exact hQ
    · rw [if_neg e]; rw [if_pos (Int32.not_le.mp e)] at hQ; exact hQ
  · exact hQ
  · show if vx + vy ≤ 0 then _ else _
    have hQ : Q (if 0 < vx + vy then 1 else 0) h := hQ
    by_cases e : vx + vy ≤ 0
    · rw [if_pos e]; rw [if_neg (Int32.not_lt.mpr e)] at hQ; exact hQ
    · rw [if_neg e]; rw [if_pos (Int32.not_le.mp e)] at hQ; exact hQ
theorem x_combined {o vx vy : Int32} (ho : isTwo o) (h5 : o = 5 → ¬ vy = 0) (hb : o = 10 ∨ o = 11 → (vx = 0 ∨ vx = 1) ∧ (vy = 0 ∨ vy = 1)) {h : Hp} {Q : Int32 → Hp → Prop} (hQ : Q (two o vx vy) h) : wp_X7_combined (stp o 0) vx vy h Q := by
  unfold wp_X7_combined
  rcases ho with e | e | e | e | e | e | e | e | e <;> subst e
  · exact hQ
  · exact hQ
  · exact hQ
  · show if vy = 0 then _ else _
    rw [if_neg (h5 rfl)]
    exact ⟨h5 rfl, hQ⟩
  · show if vy ≤ vx then _ else _
    by_cases e : vy ≤ vx
    · rw [if_pos e]; have hQ : Q (if vx < vy then 1 else 0) h := hQ; rw [if_neg (Int32.not_lt.mpr e)] at hQ; exact hQ
    · rw [if_neg e]; have hQ : Q (if vx < vy then 1 else 0) h := hQ; rw [if_pos (Int32.not_le.mp e)] at hQ; exact hQ
  · show if vx = vy then _ else _
    have hQ : Q (if vx = vy then 1 else 0) h := hQ
    by_cases e : vx = vy
    · rw [if_pos e]; rw [if_pos e] at hQ; exact hQ
    · rw [if_neg e]; rw [if_neg e] at hQ; exact hQ
  · show if vx ≤ vy then _ else _
    have hQ : Q (if vy < vx then 1 else 0) h := hQ
    by_cases e : vx ≤ vy
    · rw [if_pos e]; rw [if_neg (Int32.not_lt.mpr e)] at hQ; exact hQ
    · rw [if_neg e]; rw [if_pos (Int32.not_le.mp e)] at hQ; exact hQ
  · have hQ : Q (vx * vy) h := hQ
    show Q (vx &&& vy) h
    obtain ⟨h1, h2⟩ := hb (Or.inl rfl)
    rcases h1 with e1 | e1 <;> rcases h2 with e2 | e2 <;> (subst e1; subst e2; exact hQ)
  · have hQ : Q (if 0 < vx + vy then 1 else 0) h := hQ
    show Q (vx ||| vy) h
    obtain ⟨h1, h2⟩ := hb (Or.inr rfl)
    rcases h1 with e1 | e1 <;> rcases h2 with e2 | e2 <;> (subst e1; subst e2; exact hQ)
/-- a step, and what its kind says -/
theorem step_cases {lo hi : Nat} {o a : Int32} {t t' : List Nat} {st : List Int32} (h : ckS lo hi o a t = some t') (hlo : lo < 100) (hi14 : hi < 100) (hty : ty t st) {fx : Nat → Int32} : ty t' (evS o a fx st) ∧ ((o = 0 ∧ st.length < 32 ∧ (∃ w, w < 2 ^ 31 ∧ a = nI w) ∧ evS o a fx st = a :: st) ∨ (o = 1 ∧ st.length < 32 ∧ (∃ w, lo ≤ w ∧ w < hi ∧ a = nI w) ∧ evS o a fx st = fx a.toNatClampNeg :: st) ∨ (o = 9 ∧ ∃ x r, st = x :: r ∧ evS o a fx st = (1 - x) :: r) ∨ (isTwo o ∧ ∃ y x r, st = y :: x :: r ∧ evS o a fx st = two o x y :: r ∧ (o = 5 → ¬ y = 0) ∧ (o = 10 ∨ o = 11 → (x = 0 ∨ x = 1) ∧ (y = 0 ∨ y = 1)))) := by
  have hl := ty_len hty
  rcases ckS_cases h with ⟨e, h1, h2, h3⟩ | ⟨e, h1, h2, h3, h4, h5⟩ | ⟨e, r, h1, h2⟩ | ⟨y, x, z, r, h1, h2, h3⟩
  · subst e; subst h3
    obtain ⟨w, hw, ew⟩ := nI_of (Int32.not_lt.mpr h2)
    refine ⟨⟨?_, hty⟩, Or.inl ⟨rfl, by omega, ⟨w, hw, ew⟩, rfl⟩⟩
    by_cases q : a = 0
    · rw [if_pos q]; exact ⟨fun e => by omega, fun e => by omega⟩
    · rw [if_neg q]; exact ⟨fun e => by omega, fun _ => q⟩
  · subst e; subst h5
    obtain ⟨w, hw, ew⟩ := nI_of (Int32.not_lt.mpr h2)
    refine ⟨⟨⟨fun e => by omega, fun e => by omega⟩, hty⟩, Or.inr (Or.inl ⟨rfl, by omega, ⟨w, ?_, ?_, ew⟩, rfl⟩)⟩
    · rw [ew] at h3
      by_cases q : lo ≤ w
      · exact q
      · exact absurd h3 (nI_ge (by omega) (by omega))
    · rw [ew] at h4
      exact (nI_ltI hw (by omega)).mp h4
  · subst e; subst h1; subst h2
    obtain ⟨v, s', e1, e2, e3⟩ := ty_cons hty
    subst e1
    refine ⟨⟨⟨fun _ => ?_, fun e => by omega⟩, e3⟩, Or.inr (Or.inr (Or.inl ⟨rfl, v, s', rfl, rfl⟩))⟩
    rcases e2.1 rfl with q | q <;> (subst q; decide)
  · subst h1; subst h2
    obtain ⟨vy, s', e1, e2, e3⟩ := ty_cons hty
    subst e1
    obtain ⟨vx, s'', e4, e5, e6⟩ := ty_cons e3
    subst e4
    obtain ⟨w1, w2, w3, w4⟩ := two_ty h3 e5 e2
    refine ⟨?_, Or.inr (Or.inr (Or.inr ⟨w1, vy, vx, s'', rfl, evS_2 w1, w2, w3⟩))⟩
    rw [evS_2 w1]
    exact ⟨w4, e6⟩
theorem ck_succ {lo hi : Nat} {op ar : Nat → Int32} {k n : Nat} {t rt : List Nat} (h : ck lo hi op ar k (n + 1) t = some rt) : ∃ t', ckS lo hi (op k) (ar k) t = some t' ∧ ck lo hi op ar (k + 1) n t' = some rt := by
  have h : (ckS lo hi (op k) (ar k) t).bind (ck lo hi op ar (k + 1) n) = some rt := h
  cases hc : ckS lo hi (op k) (ar k) t with
  | none => rw [hc] at h; cases h
  | some t' => rw [hc] at h; exact ⟨t', rfl, h⟩
theorem ev_fx {op ar fx fx' : Nat → Int32} : ∀ (n k : Nat) (st : List Int32), (∀ j, k ≤ j → j < k + n → op j = 1 → fx' (ar j).toNatClampNeg = fx (ar j).toNatClampNeg) → ev op ar fx' k n st = ev op ar fx k n st := by
  intro n
  induction n with
  | zero => intro k st h; rfl
  | succ n ih =>
    intro k st h
    show ev op ar fx' (k + 1) n (evS (op k) (ar k) fx' st) = ev op ar fx (k + 1) n (evS (op k) (ar k) fx st)
    have e : evS (op k) (ar k) fx' st = evS (op k) (ar k) fx st := by
      by_cases o1 : op k = 1
      · rw [o1, evS_1, evS_1, h k (by omega) (by omega) o1]
      · unfold evS
        by_cases o0 : op k = 0
        · rw [if_pos o0, if_pos o0]
        · rw [if_neg o0, if_neg o0, if_neg o1, if_neg o1]
    rw [e]
    exact ih (k + 1) _ (fun j h1 h2 => h j (by omega) (by omega))
