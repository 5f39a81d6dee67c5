/-! READING A TEXT: the reference (my own) -/
/-- the number of a word by the object, out of that by the reference -/
def piW (w : Nat) : Nat := if w < 3 then w + 4 else if w < 5 then w + 4 else if w = 5 then 3 else if w = 6 then 0 else if w = 7 then 1 else if w = 8 then 2 else w
theorem piW_inj : ∀ a, a < 23 → ∀ b, b < 23 → piW a = piW b → a = b := by decide
theorem piW_lt : ∀ a, a < 23 → piW a < 23 ∧ (9 ≤ a → piW a = a) ∧ (a < 9 → piW a < 9) := by decide
def sgn (s : Nat) : Prop := s = 59 ∨ s = 43 ∨ s = 45 ∨ s = 42 ∨ s = 47 ∨ s = 40 ∨ s = 41 ∨ s = 60 ∨ s = 61 ∨ s = 62
theorem sgn_b {s : Nat} (h : sgn s) : 40 ≤ s ∧ s ≤ 62 := by unfold sgn at h; omega
def tokR (k t v : Int32) : Prop := (k = 0 ∧ t = 0) ∨ (k = 1 ∧ t = 1) ∨ (∃ w, w < 23 ∧ t = 2 ∧ v = nI w ∧ k = nI (256 + piW w)) ∨ (∃ n, n < 10000 ∧ t = 3 ∧ v = nI n ∧ k = -1 - nI n) ∨ (∃ s, sgn s ∧ t = 4 ∧ v = nI s ∧ k = nI s)
theorem num_neg {n : Nat} (hn : n < 10000) : (-1 - nI n : Int32) < 0 := (not_num (show n < 2 ^ 31 by omega)).1
theorem tok_sign {k t v : Int32} (h : tokR k t v) {s : Nat} (hs : sgn s) : (t = 4 ∧ v = nI s) ↔ k = nI s := by
  have b := sgn_b hs
  rcases h with ⟨rfl, rfl⟩ | ⟨rfl, rfl⟩ | ⟨w, hw, rfl, rfl, rfl⟩ | ⟨n, hn, rfl, rfl, rfl⟩ | ⟨s', hs', rfl, rfl, rfl⟩
  · exact ⟨fun z => absurd z.1 (by decide), fun z => absurd z (fun z => nI_ne0 (show 0 < s by omega) (by omega) z.symm)⟩
  · refine ⟨fun z => absurd z.1 (by decide), fun z => ?_⟩
    have := (nI_eq (a := 1) (by decide) (show s < 2 ^ 31 by omega)).mp z
    omega
  · have := piW_lt w hw
    refine ⟨fun z => absurd z.1 (by decide), fun z => ?_⟩
    have := (nI_eq (by omega) (by omega)).mp z
    omega
  · refine ⟨fun z => absurd z.1 (by decide), fun z => ?_⟩
    have := num_neg hn
    rw [z] at this
    exact absurd this (nI_pos (by omega))
  · exact ⟨fun z => z.2, fun z => ⟨rfl, z⟩⟩
theorem tok_word {k t v : Int32} (h : tokR k t v) {w0 : Nat} (hw0 : w0 < 23) : (t = 2 ∧ v = nI w0) ↔ k = nI (256 + piW w0) := by
  have b := piW_lt w0 hw0
  rcases h with ⟨rfl, rfl⟩ | ⟨rfl, rfl⟩ | ⟨w, hw, rfl, rfl, rfl⟩ | ⟨n, hn, rfl, rfl, rfl⟩ | ⟨s', hs', rfl, rfl, rfl⟩
  · exact ⟨fun z => absurd z.1 (by decide), fun z => absurd z (fun z => nI_ne0 (show 0 < 256 + piW w0 by omega) (by omega) z.symm)⟩
  · refine ⟨fun z => absurd z.1 (by decide), fun z => ?_⟩
    have := (nI_eq (a := 1) (by decide) (show 256 + piW w0 < 2 ^ 31 by omega)).mp z
    omega
  · have b2 := piW_lt w hw
    constructor
    · rintro ⟨-, z⟩
      have := (nI_eq (by omega) (by omega)).mp z
      rw [this]
    · intro z
      have := (nI_eq (by omega) (by omega)).mp z
      have := piW_inj w hw w0 hw0 (by omega)
      exact ⟨rfl, by rw [this]⟩
  · refine ⟨fun z => absurd z.1 (by decide), fun z => ?_⟩
    have := num_neg hn
    rw [z] at this
    exact absurd this (nI_pos (by omega))
  · have := sgn_b hs'
    refine ⟨fun z => absurd z.1 (by decide), fun z => ?_⟩
    have := (nI_eq (by omega) (by omega)).mp z
    omega
theorem tok_num {k t v : Int32} (h : tokR k t v) : (t = 3 ↔ k < 0) ∧ (t = 3 → v = -1 - k ∧ (v = 0 ↔ k = -1)) := by
  rcases h with ⟨rfl, rfl⟩ | ⟨rfl, rfl⟩ | ⟨w, hw, rfl, rfl, rfl⟩ | ⟨n, hn, rfl, rfl, rfl⟩ | ⟨s', hs', rfl, rfl, rfl⟩
  · exact ⟨⟨fun z => absurd z (by decide), fun z => absurd z (by decide)⟩, fun z => absurd z (by decide)⟩
  · exact ⟨⟨fun z => absurd z (by decide), fun z => absurd z (by decide)⟩, fun z => absurd z (by decide)⟩
  · have := piW_lt w hw
    exact ⟨⟨fun z => absurd z (by decide), fun z => absurd z (nI_pos (by omega))⟩, fun z => absurd z (by decide)⟩
  · refine ⟨⟨fun _ => num_neg hn, fun _ => rfl⟩, fun _ => ⟨?_, ?_⟩⟩
    · have := stp_0 (nI n)
      exact this.symm
    · constructor
      · intro z; rw [z]; decide
      · intro z
        have e := stp_0 (nI n)
        have e : (-1 : Int32) - (-1 - nI n) = nI n := e
        rw [z] at e
        rw [← e]; decide
  · have := sgn_b hs'
    exact ⟨⟨fun z => absurd z (by decide), fun z => absurd z (nI_pos (by omega))⟩, fun z => absurd z (by decide)⟩
/-- what may be asked, told by both -/
theorem tok_fact {k t v : Int32} (h : tokR k t v) (lw : Bool) : (fct lw k ↔ t = 2 ∧ ((lw = true ∧ 9 ≤ v ∧ v ≤ 16) ∨ (lw = false ∧ ¬ v < 17))) ∧ (fct lw k → v - 9 = k - 265) := by
  unfold fct
  rcases h with ⟨rfl, rfl⟩ | ⟨rfl, rfl⟩ | ⟨w, hw, rfl, rfl, rfl⟩ | ⟨n, hn, rfl, rfl, rfl⟩ | ⟨s', hs', rfl, rfl, rfl⟩
  · have : ¬ ((lw = true ∧ (265 : Int32) ≤ 0 ∧ (0 : Int32) < 273) ∨ (lw = false ∧ (273 : Int32) ≤ 0 ∧ (0 : Int32) < 279)) := by
      rintro (⟨-, z, -⟩ | ⟨-, z, -⟩) <;> exact absurd z (by decide)
    exact ⟨⟨fun z => absurd z this, fun z => absurd z.1 (by decide)⟩, fun z => absurd z this⟩
  · have : ¬ ((lw = true ∧ (265 : Int32) ≤ 1 ∧ (1 : Int32) < 273) ∨ (lw = false ∧ (273 : Int32) ≤ 1 ∧ (1 : Int32) < 279)) := by
      rintro (⟨-, z, -⟩ | ⟨-, z, -⟩) <;> exact absurd z (by decide)
    exact ⟨⟨fun z => absurd z this, fun z => absurd z.1 (by decide)⟩, fun z => absurd z this⟩
  · obtain ⟨p1, p2, p3⟩ := piW_lt w hw
    have a1 : (265 : Int32) ≤ nI (256 + piW w) ↔ 265 ≤ 256 + piW w := nI_leI (a := 265) (by decide) (by omega)
    have a2 : nI (256 + piW w) < (273 : Int32) ↔ 256 + piW w < 273 := nI_ltI (b := 273) (by omega) (by decide)
    have a3 : (273 : Int32) ≤ nI (256 + piW w) ↔ 273 ≤ 256 + piW w := nI_leI (a := 273) (by decide) (by omega)
    have a4 : nI (256 + piW w) < (279 : Int32) ↔ 256 + piW w < 279 := nI_ltI (b := 279) (by omega) (by decide)
    have a5 : (9 : Int32) ≤ nI w ↔ 9 ≤ w := nI_leI (a := 9) (by decide) (by omega)
    have a6 : nI w ≤ (16 : Int32) ↔ w ≤ 16 := nI_leI (b := 16) (by omega) (by decide)
    have a7 : nI w < (17 : Int32) ↔ w < 17 := nI_ltI (b := 17) (by omega) (by decide)
    rw [a1, a2, a3, a4, a5, a6, a7]
    have key : ((lw = true ∧ 265 ≤ 256 + piW w ∧ 256 + piW w < 273) ∨ (lw = false ∧ 273 ≤ 256 + piW w ∧ 256 + piW w < 279)) ↔ ((lw = true ∧ 9 ≤ w ∧ w ≤ 16) ∨ (lw = false ∧ ¬ w < 17)) := by
      rcases Nat.lt_or_ge w 9 with q | q
      · have := p3 q
        cases lw <;> simp <;> omega
      · have := p2 q
        cases lw <;> simp <;> omega
    refine ⟨⟨fun z => ⟨rfl, key.mp z⟩, fun z => key.mpr z.2⟩, fun z => ?_⟩
    have q : 9 ≤ w := by
      rcases key.mp z with ⟨-, q, -⟩ | ⟨-, q⟩
      · exact q
      · omega
    rw [p2 q, show (9 : Int32) = nI 9 from rfl, show (265 : Int32) = nI 265 from rfl, nI_sb q, nI_sb (show 265 ≤ 256 + w by omega)]
    rw [show 256 + w - 265 = w - 9 by omega]
  · have hn' := num_neg hn
    have : ¬ ((lw = true ∧ (265 : Int32) ≤ -1 - nI n ∧ (-1 - nI n : Int32) < 273) ∨ (lw = false ∧ (273 : Int32) ≤ -1 - nI n ∧ (-1 - nI n : Int32) < 279)) := by
      rintro (⟨-, z, -⟩ | ⟨-, z, -⟩) <;> exact absurd (Int32.lt_of_le_of_lt z hn') (by decide)
    exact ⟨⟨fun z => absurd z this, fun z => absurd z.1 (by decide)⟩, fun z => absurd z this⟩
  · have b := sgn_b hs'
    have : ¬ ((lw = true ∧ (265 : Int32) ≤ nI s' ∧ nI s' < (273 : Int32)) ∨ (lw = false ∧ (273 : Int32) ≤ nI s' ∧ nI s' < (279 : Int32))) := by
      rintro (⟨-, z, -⟩ | ⟨-, z, -⟩)
      · have := (nI_leI (a := 265) (by decide) (show s' < 2 ^ 31 by omega)).mp z; omega
      · have := (nI_leI (a := 273) (by decide) (show s' < 2 ^ 31 by omega)).mp z; omega
    exact ⟨⟨fun z => absurd z this, fun z => absurd z.1 (by decide)⟩, fun z => absurd z this⟩
def TPZ (Z I : Nat → Nat → Int32) : Prop := ∀ l k, (l = 400 ∧ (k = 19 ∨ k = 32)) ∨ l = 419 ∨ l = 425 → I l k = Z l k
def FM (I I' : Nat → Nat → Int32) : Prop := ∀ l k, ¬ ((l = 400 ∧ ((20 ≤ k ∧ k ≤ 23) ∨ k = 33 ∨ k = 37 ∨ k = 38)) ∨ ((l = 431 ∨ l = 432) ∧ 4200 ≤ k)) → I' l k = I l k
theorem FM.refl {I : Nat → Nat → Int32} : FM I I := fun _ _ _ => rfl
theorem FM.trans {I J K : Nat → Nat → Int32} (h : FM I J) (h2 : FM J K) : FM I K := fun l k z => (h2 l k z).trans (h l k z)
theorem FM.tp {Z I J : Nat → Nat → Int32} (h : FM I J) (hz : TPZ Z I) : TPZ Z J := fun l k z => (h l k (by omega)).trans (hz l k z)
def MOK (KS : Nat → Int32) (PS EP : Nat → Nat) (I : Nat → Nat → Int32) (i : Nat) (C : CD) : Prop := I 400 21 = nI (PS i) ∧ tokR (KS i) (I 400 22) (I 400 23) ∧ I 400 20 = nI (EP i) ∧ I 400 33 = nI C.length ∧ ∀ (j : Nat) (e : Int32 × Int32), C[j]? = some e → I 431 (4200 + j) = e.1 ∧ I 432 (4200 + j) = e.2
def MBAD (PS : Nat → Nat) (I : Nat → Nat → Int32) (k j : Nat) : Prop := I 400 37 = nI k ∧ I 400 38 = nI (PS j)
/-- the next token comes -/
def RDs (L : Nat → Nat → Int64) (D : DD) (Z : Nat → Nat → Int32) (c : Nat) (KS : Nat → Int32) (PS EP : Nat → Nat) : Prop := ∀ i, i < c → ∀ (I : Nat → Nat → Int32) (Q : Hp → Prop), TPZ Z I → I 400 20 = nI (EP i) → (∀ I' : Nat → Nat → Int32, (∀ l k, ¬ (l = 400 ∧ 20 ≤ k ∧ k ≤ 23) → I' l k = I l k) → I' 400 21 = nI (PS (i + 1)) → tokR (KS (i + 1)) (I' 400 22) (I' 400 23) → I' 400 20 = nI (EP (i + 1)) → Q (fm I' L D)) → wp_X12_reads 400 (fm I L D) Q
def MX (L : Nat → Nat → Int64) (D : DD) (Z : Nat → Nat → Int32) (c : Nat) (KS : Nat → Int32) (PS EP : Nat → Nat) (lw : Bool) : Prop := c ≤ 600 ∧ KS c = 0 ∧ RDs L D Z c KS PS EP ∧ Z 400 32 = (if lw = true then 1 else 0)
/-- what a reader of the reference does -/
def RM (L : Nat → Nat → Int64) (D : DD) (Z : Nat → Nat → Int32) (c : Nat) (KS : Nat → Int32) (PS EP : Nat → Nat) (meth : Nat → Hp → (Int32 → Hp → Prop) → Prop) (p : Nat → CD → PR) : Prop := ∀ (i : Nat) (C : CD) (I : Nat → Nat → Int32) (Q : Int32 → Hp → Prop), TPZ Z I → MOK KS PS EP I i C → i ≤ c → C.length + 1 ≤ i → (∀ j C' I', p i C = .inr (j, C') → FM I I' → MOK KS PS EP I' j C' → Q 0 (fm I' L D)) → (∀ k j I', p i C = .inl (k, j) → FM I I' → MBAD PS I' k j → Q (-1) (fm I' L D)) → meth 400 (fm I L D) Q
section MP
variable {L : Nat → Nat → Int64} {D : DD} {Z : Nat → Nat → Int32} {c : Nat} {KS : Nat → Int32} {PS EP : Nat → Nat} {lw : Bool}
theorem m_isSign {I : Nat → Nat → Int32} {i : Nat} (h : tokR (KS i) (I 400 22) (I 400 23)) {s : Nat} (hs : sgn s) {Q : Int32 → Hp → Prop} : wp_X12_isSign 400 (nI s) (fm I L D) Q ↔ Q (if KS i = nI s then 1 else 0) (fm I L D) := by
  obtain ⟨tk, htk⟩ : ∃ tk, I 400 22 = tk := ⟨_, rfl⟩
  obtain ⟨vv, hvv⟩ : ∃ vv, I 400 23 = vv := ⟨_, rfl⟩
  rw [htk, hvv] at h
  unfold wp_X12_isSign
  simp only [gK, gI, gL, gR_, g_stI, g_stL, forall_eq, true_and, ad_s, okA_s, okO_s, okN_s, i10, i00, if_true, if_false, reduceCtorEq, Kf_1, Kf_400, htk, hvv]
  have := tok_sign h hs
  by_cases e : KS i = nI s
  · obtain ⟨e1, e2⟩ := this.mpr e
    rw [if_pos e1, if_pos e2, if_pos e]
  · rw [if_neg e]
    by_cases e1 : tk = 4
    · rw [if_pos e1, if_neg (fun z => e (this.mp ⟨e1, z⟩))]
    · rw [if_neg e1]
theorem m_isWord {I : Nat → Nat → Int32} {i : Nat} (h : tokR (KS i) (I 400 22) (I 400 23)) {w : Nat} (hw : w < 23) {Q : Int32 → Hp → Prop} : wp_X12_isWord 400 (nI w) (fm I L D) Q ↔ Q (if KS i = nI (256 + piW w) then 1 else 0) (fm I L D) := by
  obtain ⟨tk, htk⟩ : ∃ tk, I 400 22 = tk := ⟨_, rfl⟩
  obtain ⟨vv, hvv⟩ : ∃ vv, I 400 23 = vv := ⟨_, rfl⟩
  rw [htk, hvv] at h
  unfold wp_X12_isWord
  simp only [gK, gI, gL, gR_, g_stI, g_stL, forall_eq, true_and, ad_s, okA_s, okO_s, okN_s, i10, i00, if_true, if_false, reduceCtorEq, Kf_1, Kf_400, htk, hvv]
  have := tok_word h hw
  by_cases e : KS i = nI (256 + piW w)
  · obtain ⟨e1, e2⟩ := this.mpr e
    rw [if_pos e1, if_pos e2, if_pos e]
  · rw [if_neg e]
    by_cases e1 : tk = 2
    · rw [if_pos e1, if_neg (fun z => e (this.mp ⟨e1, z⟩))]
    · rw [if_neg e1]
theorem m_fails {I : Nat → Nat → Int32} {i k : Nat} (h : I 400 21 = nI (PS i)) {Q : Int32 → Hp → Prop} (hQ : ∀ I', FM I I' → MBAD PS I' k i → Q (-1) (fm I' L D)) : wp_X12_fails 400 (nI k) (fm I L D) Q := by
  unfold wp_X12_fails
  have o : ∀ v, up2 I 400 37 v 400 21 = nI (PS i) := fun v => (up2_o (by omega)).trans h
  simp only [gK, gI, gL, gR_, g_stI, g_stL, forall_eq, true_and, ad_s, okA_s, okO_s, okN_s, i10, i00, if_true, if_false, reduceCtorEq, Kf_1, Kf_400, o]
  refine hQ _ (fun l k' z => ?_) ⟨?_, up2_s⟩
  · rw [up2_o (by omega), up2_o (by omega)]
  · rw [up2_o (by omega), up2_s]
theorem m_emits {I : Nat → Nat → Int32} {i : Nat} {C : CD} (h : MOK KS PS EP I i C) (hC : C.length < 600) (e : Int32 × Int32) {Q : Hp → Prop} (hQ : ∀ I', FM I I' → MOK KS PS EP I' i (C ++ [e]) → (∀ k, k ≠ 33 → I' 400 k = I 400 k) → Q (fm I' L D)) : wp_X12_emits 400 e.1 e.2 (fm I L D) Q := by
  obtain ⟨h1, h2, h3, h4, h5⟩ := h
  unfold wp_X12_emits
  have a : (4200 : Int32) + nI C.length = nI (4200 + C.length) := by rw [show (4200 : Int32) = nI 4200 from rfl, nI_add]
  have o : ∀ l k v, l = 431 ∨ l = 432 → ∀ J : Nat → Nat → Int32, up2 J l k v 400 33 = J 400 33 := fun l k v z J => up2_o (by omega)
  simp only [gK, gI, gL, gR_, g_stI, g_stL, forall_eq, true_and, ad_s, okA_s, okO_s, okN_s, i10, i00, if_true, if_false, reduceCtorEq, Kf_1, Kf_400, h4, Rf_400_30, Rf_400_31, Kf_431, Kf_432, a, o 431 _ _ (Or.inl rfl), o 432 _ _ (Or.inr rfl), vp_in_nI (show 4200 + C.length < 4800 by omega) (show 4800 < 2 ^ 31 by decide), nI_clamp (show 4200 + C.length < 2 ^ 31 by omega), nI_1]
  have oo : ∀ k, k ≠ 33 → up2 (up2 (up2 I 431 (4200 + C.length) e.1) 432 (4200 + C.length) e.2) 400 33 (nI (C.length + 1)) 400 k = I 400 k := fun k z => by rw [up2_o (by omega), up2_o (by omega), up2_o (by omega)]
  refine hQ _ (fun l k z => ?_) ⟨?_, ?_, ?_, ?_, fun j x hx => ?_⟩ oo
  · rw [up2_o (by omega), up2_o (by omega), up2_o (by omega)]
  · rw [oo 21 (by omega)]; exact h1
  · rw [oo 22 (by omega), oo 23 (by omega)]; exact h2
  · rw [oo 20 (by omega)]; exact h3
  · rw [up2_s, List.length_append]; rfl
  · rcases get_app hx with ⟨q1, q2⟩ | ⟨q1, q2⟩
    · rw [up2_o (by omega), up2_o (by omega), up2_o (by omega), up2_o (by omega), up2_o (by omega), up2_o (by omega)]
      exact h5 j x q2
    · subst q1
      rw [up2_o (by omega), up2_o (by omega), up2_s, up2_o (by omega), up2_s, q2]
      exact ⟨rfl, rfl⟩
theorem m_next (hM : MX L D Z c KS PS EP lw) {I : Nat → Nat → Int32} {i : Nat} {C : CD} (hz : TPZ Z I) (h : MOK KS PS EP I i C) (hi : i < c) {Q : Hp → Prop} (hQ : ∀ I', FM I I' → MOK KS PS EP I' (i + 1) C → (∀ l k, ¬ (l = 400 ∧ 20 ≤ k ∧ k ≤ 23) → I' l k = I l k) → Q (fm I' L D)) : wp_X12_reads 400 (fm I L D) Q := by
  obtain ⟨h1, h2, h3, h4, h5⟩ := h
  refine hM.2.2.1 i hi I Q hz h3 (fun I' f a1 a2 a3 => hQ I' (fun l k z => f l k (by omega)) ⟨a1, a2, a3, (f _ _ (by omega)).trans h4, fun j e he => ?_⟩ f)
  rw [f _ _ (by omega), f _ _ (by omega)]; exact h5 j e he
theorem m_readUnit (hM : MX L D Z c KS PS EP lw) : RM L D Z c KS PS EP wp_X12_readUnit (pUnit lw KS) := by
  intro i C I Q hz h hi hC hok hbad
  have c6 := hM.1
  have e32 : I 400 32 = if lw = true then 1 else 0 := (hz 400 32 (by omega)).trans hM.2.2.2
  have hT := h.2.1
  obtain ⟨tk, htk⟩ : ∃ tk, I 400 22 = tk := ⟨_, rfl⟩
  obtain ⟨vv, hvv⟩ : ∃ vv, I 400 23 = vv := ⟨_, rfl⟩
  rw [htk, hvv] at hT
  obtain ⟨n1, n2⟩ := tok_num hT
  obtain ⟨f1, f2⟩ := tok_fact hT lw
  have inc := Inc_unit hM.2.1 (lw := lw) i C hi
  -- a number, or what may be asked
  have take : ∀ e : Int32 × Int32, uF lw (KS i) = some e → wp_X12_emits 400 e.1 e.2 (fm I L D) (fun (h8 : Hp) => ((hpK h8 400).1 = 20 + 10) ∧ (wp_X12_reads 400 h8 (fun (h11 : Hp) => Q (0 : Int32) h11))) := by
    intro e he
    have hp : pUnit lw KS i C = .inr (i + 1, C ++ [e]) := by unfold pUnit; rw [he]
    have hi' := (inc.1 _ _ hp)
    refine m_emits h (by omega) e (fun I' g1 g2 g3 => ⟨rfl, ?_⟩)
    refine m_next hM (g1.tp hz) g2 (by omega) (fun I2 g4 g5 _ => hok _ _ I2 hp (g1.trans g4) g5)
  have none' : uF lw (KS i) = none → wp_X12_fails 400 (1 : Int32) (fm I L D) (fun (z23 : Int32) (h22 : Hp) => Q z23 h22) := by
    intro he
    have hp : pUnit lw KS i C = .inl (1, i) := by unfold pUnit; rw [he]
    exact m_fails (k := 1) h.1 (fun I' g1 g2 => hbad 1 i I' hp g1 g2)
  have isF : fct lw (KS i) → wp_X12_readUnit_J42 400 Q (fm I L D) := by
    intro z
    unfold wp_X12_readUnit_J42 wp_X12_readUnit_J47 wp_X12_readUnit_J66 wp_X12_readUnit_J76
    simp only [gK, gI, gL, gR_, g_stI, g_stL, forall_eq, true_and, ad_s, okA_s, okO_s, okN_s, i10, i00, if_true, if_false, reduceCtorEq, Kf_1, Kf_400, htk, hvv]
    have hn : ¬ KS i < 0 := by
      intro q
      rcases z with ⟨-, z, -⟩ | ⟨-, z, -⟩ <;> exact absurd (Int32.lt_of_le_of_lt z q) (by decide)
    have := take (1, KS i - 265) (by unfold uF; rw [if_neg hn, if_pos z])
    rw [f2 z]
    simpa only [gK, gI, gL, gR_, g_stI, g_stL, forall_eq, true_and, ad_s, okA_s, okO_s, okN_s, i10, i00, if_true, if_false, reduceCtorEq, Kf_1, Kf_400] using this
  have notF : ¬ fct lw (KS i) → wp_X12_readUnit_J46 400 Q (fm I L D) := by
    intro z
    unfold wp_X12_readUnit_J46 wp_X12_readUnit_J47 wp_X12_readUnit_J66 wp_X12_readUnit_J76
    simp only [gK, gI, gL, gR_, g_stI, g_stL, forall_eq, true_and, ad_s, okA_s, okO_s, okN_s, i10, i00, if_true, if_false, reduceCtorEq, Kf_1, Kf_400, htk, hvv]
    by_cases e3 : tk = 3
    · rw [if_pos e3]
      have hn := n1.mp e3
      have := take (0, -1 - KS i) (by unfold uF; rw [if_pos hn])
      rw [(n2 e3).1]
      simpa only [gK, gI, gL, gR_, g_stI, g_stL, forall_eq, true_and, ad_s, okA_s, okO_s, okN_s, i10, i00, if_true, if_false, reduceCtorEq, Kf_1, Kf_400] using this
    · rw [if_neg e3]
      exact none' (by unfold uF; rw [if_neg (fun q => e3 (n1.mpr q)), if_neg z])
  unfold wp_X12_readUnit
  simp only [gK, gI, gL, gR_, g_stI, g_stL, forall_eq, true_and, ad_s, okA_s, okO_s, okN_s, i10, i00, if_true, if_false, reduceCtorEq, Kf_1, Kf_400, e32, htk, hvv]
  by_cases e2 : tk = 2
  · rw [if_pos e2]
    cases lw with
    | false =>
      simp only [Bool.false_eq_true, if_false, i00, if_true]
      by_cases q : vv < 17
      · rw [if_pos q]
        exact notF (fun z => ((f1.mp z).2.elim (fun z => by cases z.1) (fun z => z.2 q)))
      · rw [if_neg q]
        exact isF (f1.mpr ⟨e2, Or.inr ⟨rfl, q⟩⟩)
    | true =>
      simp only [if_true, i10, if_false, m_isIn]
      by_cases q : (9 : Int32) ≤ vv ∧ vv ≤ 16
      · simp only [if_pos q, i10, if_false]
        exact isF (f1.mpr ⟨e2, Or.inl ⟨rfl, q⟩⟩)
      · simp only [if_neg q, i00, if_true]
        exact notF (fun z => ((f1.mp z).2.elim (fun z => q z.2) (fun z => by cases z.1)))
  · rw [if_neg e2]
    exact notF (fun z => e2 (f1.mp z).1)
end MP
