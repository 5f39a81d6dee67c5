/-! list (my own) -/
theorem cnt_one {f g : Nat → Bool} {c : Nat} (h : ∀ b, b ≠ c → f b = g b) (hf : f c = false) (hg : g c = true) : ∀ n, cnt g n = cnt f n + (if c < n then 1 else 0) := by
  intro n
  induction n with
  | zero => rw [if_neg (by omega)]; rfl
  | succ n ih =>
    unfold cnt
    rw [ih]
    by_cases e : n = c
    · subst e
      rw [hf, hg, if_neg (by omega), if_pos rfl, if_neg (by decide), if_pos (by omega)]
    · rw [h n e]
      by_cases e2 : c < n
      · rw [if_pos e2, if_pos (show c < n + 1 by omega)]; omega
      · rw [if_neg e2, if_neg (show ¬ c < n + 1 by omega)]; omega
theorem cnt_all (n : Nat) : cnt (fun _ => true) n = n := by
  induction n with
  | zero => rfl
  | succ n ih => unfold cnt; rw [ih, if_pos rfl]
theorem cnt_but {c n : Nat} (hc : c < n) : cnt (fun b => decide (b ≠ c)) n + 1 = n := by
  have := cnt_one (f := fun b => decide (b ≠ c)) (g := fun _ => true) (c := c) (fun b hb => by simp [hb]) (by simp) rfl n
  rw [cnt_all, if_pos hc] at this
  omega
/-- the greatest key below k, and one more; 0 if there is none -/
def nxt (ky : Nat → Nat) (c k n : Nat) : Nat := maxTo (fun b => if b ≠ c ∧ ky b < k then ky b + 1 else 0) n
def kap (ky : Nat → Nat) (c n : Nat) : Nat → Nat
  | 0 => 262144
  | m + 1 => nxt ky c (kap ky c n m) n - 1
theorem maxTo_at (f : Nat → Nat) : ∀ n, 0 < maxTo f n → ∃ b, b < n ∧ f b = maxTo f n := by
  intro n
  induction n with
  | zero => intro h; exact absurd h (by unfold maxTo; omega)
  | succ n ih =>
    intro h
    by_cases e : maxTo f n < f n
    · refine ⟨n, by omega, ?_⟩
      show f n = max (maxTo f n) (f n)
      omega
    · have e1 : maxTo f (n + 1) = maxTo f n := by
        show max (maxTo f n) (f n) = maxTo f n
        omega
      rw [e1] at h ⊢
      obtain ⟨b, hb, eb⟩ := ih h
      exact ⟨b, by omega, eb⟩
section LI
variable {lk : Nat → Nat} {c n : Nat}
/-- keys: likeness first, then the lesser number -/
def kyOf (lk : Nat → Nat) (b : Nat) : Nat := 64 * lk b + (63 - b)
theorem ky_inj {a b : Nat} (ha : a < 40) (hb : b < 40) (h : kyOf lk a = kyOf lk b) : a = b := by
  unfold kyOf at h; omega
theorem nxt_at {k : Nat} (h : 0 < nxt (kyOf lk) c k n) : ∃ b, b < n ∧ b ≠ c ∧ kyOf lk b < k ∧ nxt (kyOf lk) c k n = kyOf lk b + 1 := by
  obtain ⟨b, hb, e⟩ := maxTo_at _ n h
  by_cases q : b ≠ c ∧ kyOf lk b < k
  · rw [if_pos q] at e
    exact ⟨b, hb, q.1, q.2, e.symm⟩
  · rw [if_neg q] at e
    unfold nxt at h; omega
theorem nxt_ge {k b : Nat} (hb : b < n) (h1 : b ≠ c) (h2 : kyOf lk b < k) : kyOf lk b + 1 ≤ nxt (kyOf lk) c k n := by
  have := le_maxTo (f := fun b => if b ≠ c ∧ kyOf lk b < k then kyOf lk b + 1 else 0) hb
  rw [if_pos ⟨h1, h2⟩] at this
  exact this
/-- m have gone after m steps, and one is left as long as m is small -/
theorem kap_cnt (hn : n ≤ 40) (hc : c < n) (hlk : ∀ b, lk b < 4000) : ∀ m, m + 1 ≤ n → cnt (fun b => decide (b ≠ c ∧ kap (kyOf lk) c n m ≤ kyOf lk b)) n = m ∧ (m + 1 < n → 0 < nxt (kyOf lk) c (kap (kyOf lk) c n m) n) := by
  have left : ∀ m, cnt (fun b => decide (b ≠ c ∧ kap (kyOf lk) c n m ≤ kyOf lk b)) n = m → m + 1 < n → 0 < nxt (kyOf lk) c (kap (kyOf lk) c n m) n := by
    intro m hm hmn
    apply Classical.byContradiction
    intro h0
    have e : cnt (fun b => decide (b ≠ c ∧ kap (kyOf lk) c n m ≤ kyOf lk b)) n = cnt (fun b => decide (b ≠ c)) n := by
      refine cnt_cg (fun b hb => ?_)
      by_cases q : b = c
      · simp [q]
      · have : ¬ kyOf lk b < kap (kyOf lk) c n m := fun z => by have := nxt_ge (n := n) hb q z; omega
        simp [q, show kap (kyOf lk) c n m ≤ kyOf lk b by omega]
    have := cnt_but hc
    omega
  intro m
  induction m with
  | zero =>
    intro h1
    have : cnt (fun b => decide (b ≠ c ∧ kap (kyOf lk) c n 0 ≤ kyOf lk b)) n = 0 := by
      have e : cnt (fun b => decide (b ≠ c ∧ kap (kyOf lk) c n 0 ≤ kyOf lk b)) n = cnt (fun _ => false) n := by
        refine cnt_cg (fun b hb => ?_)
        have h3 := hlk b
        have : ¬ kap (kyOf lk) c n 0 ≤ kyOf lk b := by show ¬ 262144 ≤ 64 * lk b + (63 - b); omega
        simp [this]
      rw [e]
      have z : ∀ n, cnt (fun _ => false) n = 0 := fun n => by
        induction n with
        | zero => rfl
        | succ n ih => unfold cnt; rw [ih, if_neg (by decide)]
      exact z n
    exact ⟨this, left 0 this⟩
  | succ m ih =>
    intro h1
    obtain ⟨i1, i2⟩ := ih (by omega)
    have hpos := i2 (by omega)
    obtain ⟨b0, hb0, q1, q2, q3⟩ := nxt_at hpos
    have ek : kap (kyOf lk) c n (m + 1) = kyOf lk b0 := by
      show nxt (kyOf lk) c (kap (kyOf lk) c n m) n - 1 = _
      rw [q3]; omega
    have : cnt (fun b => decide (b ≠ c ∧ kap (kyOf lk) c n (m + 1) ≤ kyOf lk b)) n = m + 1 := by
      rw [ek]
      have e1 : cnt (fun b => decide (b ≠ c ∧ kyOf lk b0 ≤ kyOf lk b)) n = cnt (fun b => decide (b ≠ c ∧ (b = b0 ∨ kap (kyOf lk) c n m ≤ kyOf lk b))) n := by
        refine cnt_cg (fun b hb => ?_)
        congr 1
        apply propext
        constructor
        · rintro ⟨z1, z2⟩
          refine ⟨z1, ?_⟩
          by_cases z3 : kap (kyOf lk) c n m ≤ kyOf lk b
          · exact Or.inr z3
          · have := nxt_ge (n := n) hb z1 (show kyOf lk b < kap (kyOf lk) c n m by omega)
            exact Or.inl (ky_inj (lk := lk) (by omega) (by omega) (by omega))
        · rintro ⟨z1, z2⟩
          refine ⟨z1, ?_⟩
          rcases z2 with z2 | z2
          · rw [z2]; exact Nat.le_refl _
          · omega
      rw [e1]
      have := cnt_one (f := fun b => decide (b ≠ c ∧ kap (kyOf lk) c n m ≤ kyOf lk b)) (g := fun b => decide (b ≠ c ∧ (b = b0 ∨ kap (kyOf lk) c n m ≤ kyOf lk b))) (c := b0) (fun b hb => by simp [hb]) (by simp; intro _; omega) (by simp [q1]) n
      rw [i1, if_pos hb0] at this
      exact this
    exact ⟨this, left (m + 1) this⟩
/-- the first of the greatest -/
def am (lv : Nat → Nat) : Nat → Nat
  | 0 => 0
  | j + 1 => if lv (am lv j) < lv j then j else am lv j
theorem am_is (lv : Nat → Nat) : ∀ j, 0 < j → am lv j < j ∧ (∀ b, b < j → lv b ≤ lv (am lv j)) ∧ (∀ b, b < am lv j → lv b < lv (am lv j)) := by
  intro j
  induction j with
  | zero => intro h; omega
  | succ j ih =>
    intro _
    by_cases hj : j = 0
    · subst hj
      have e : am lv (0 + 1) = 0 := by
        unfold am
        rw [if_neg (show ¬ lv (am lv 0) < lv 0 from Nat.lt_irrefl _)]
        rfl
      rw [e]
      exact ⟨by omega, fun b hb => by rw [show b = 0 by omega]; exact Nat.le_refl _, fun b hb => by omega⟩
    · obtain ⟨i1, i2, i3⟩ := ih (by omega)
      unfold am
      by_cases q : lv (am lv j) < lv j
      · rw [if_pos q]
        refine ⟨by omega, fun b hb => ?_, fun b hb => ?_⟩
        · by_cases e : b = j
          · rw [e]; exact Nat.le_refl _
          · have := i2 b (by omega); omega
        · have := i2 b (by omega); omega
      · rw [if_neg q]
        refine ⟨by omega, fun b hb => ?_, i3⟩
        by_cases e : b = j
        · rw [e]; omega
        · exact i2 b (by omega)
/-- what is left of the likeness, one more, when all from k on have gone -/
def lvOf (lk : Nat → Nat) (c k : Nat) (b : Nat) : Nat := if b = c ∨ k ≤ kyOf lk b then 0 else lk b + 1
theorem am_nxt {k : Nat} (hn : n ≤ 40) (h : 0 < nxt (kyOf lk) c k n) : am (lvOf lk c k) n < n ∧ am (lvOf lk c k) n ≠ c ∧ kyOf lk (am (lvOf lk c k) n) < k ∧ nxt (kyOf lk) c k n = kyOf lk (am (lvOf lk c k) n) + 1 := by
  obtain ⟨b0, hb0, q1, q2, q3⟩ := nxt_at h
  obtain ⟨i1, i2, i3⟩ := am_is (lvOf lk c k) n (by omega)
  generalize am (lvOf lk c k) n = m at i1 i2 i3 ⊢
  have l0 : lvOf lk c k b0 = lk b0 + 1 := if_neg (by omega)
  have hm : ¬ (m = c ∨ k ≤ kyOf lk m) := by
    intro z
    have : lvOf lk c k m = 0 := if_pos z
    have := i2 b0 hb0
    omega
  have lm : lvOf lk c k m = lk m + 1 := if_neg hm
  refine ⟨i1, by omega, by omega, ?_⟩
  have g1 := nxt_ge (lk := lk) (n := n) (c := c) (k := k) i1 (by omega) (by omega)
  have g2 := i2 b0 hb0
  have e : m = b0 := by
    apply Classical.byContradiction
    intro hne
    have a1 : kyOf lk m ≤ kyOf lk b0 := by omega
    by_cases e2 : b0 < m
    · have := i3 b0 e2
      unfold kyOf at a1; omega
    · unfold kyOf at a1; omega
  rw [e]; exact q3
end LI
section LX
variable {n : Nat} {I0 : Nat → Nat → Int32} {L : Nat → Nat → Int64} {D : DD} {l c : Nat}
def lkF (I0 : Nat → Nat → Int32) (l c b : Nat) : Nat := 64 * bestM (row I0 c) (row I0 b) (I0 447 l) + longF (row I0 c) (row I0 b) (I0 447 l)
theorem lkF_lt (b : Nat) : lkF I0 l c b < 4000 := by
  have g1 : bestM (row I0 c) (row I0 b) (I0 447 l) ≤ 32 := manyF_le _ _ _ _
  have g3 : longF (row I0 c) (row I0 b) (I0 447 l) ≤ 32 := longS_le _ _ _ _
  unfold lkF; omega
theorem x_next_L (hl : l < D.nL) (hc : c < D.nA) {k : Nat} (hk : k ≤ 262144) {K : Int32 → Hp → Prop} {Q : Int32 → Hp → Prop} : ∀ (N b : Nat) (x : Int32) (I : Nat → Nat → Int32), St n L D I0 I → b ≤ D.nA → D.nA < N + b → x + 1 = nI (nxt (kyOf (lkF I0 l c)) c k b) → (∀ y I', St n L D I0 I' → y + 1 = nI (nxt (kyOf (lkF I0 l c)) c k D.nA) → K y (fm I' L D)) → wp_X11_nextLikeness_L6 1 (some (240 + 2 * l)) (some (160 + 2 * c)) (nI k) K Q N x (nI b) (fm I L D) := by
  intro N
  induction N with
  | zero => intro b x I _ h1 h2; omega
  | succ N ih =>
    intro b x I h h1 h2 hx hK
    have n3 := h.1.nA40
    have nL6 := h.1.nL6
    rw [wp_X11_nextLikeness_L6]
    simp only [gK, gI, gL, gR_, g_stI, g_stL, forall_eq, true_and, ad_s, okA_s, okO_s, okN_s, i10, i00, if_true, if_false, reduceCtorEq, Kf_1, Kf_400, h.1.xA, Rf_1_4, Kf_4]
    by_cases hb : b = D.nA
    · subst hb
      rw [if_pos (nI_le (Nat.le_refl _) (by omega))]
      exact hK x I h hx
    · rw [if_neg (nI_ge (by omega) (by omega))]
      have hb' : b < D.nA := by omega
      have eC := (h.1.2.2.2.2.2.1 c hc).2.1
      simp only [gK, gI, gL, gR_, g_stI, g_stL, forall_eq, true_and, ad_s, okA_s, okO_s, okN_s, i10, i00, if_true, if_false, reduceCtorEq, Kf_1, Kf_400, vp_in_nI (show b < 40 by omega) (show 40 < 2 ^ 31 by decide), nI_clamp (show b < 2 ^ 31 by omega), Rf_4, if_pos hb', Kf_ball hc n3, eC, nI_eq (show b < 2 ^ 31 by omega) (show c < 2 ^ 31 by omega), nI_1]
      have es : nxt (kyOf (lkF I0 l c)) c k (b + 1) = max (nxt (kyOf (lkF I0 l c)) c k b) (if b ≠ c ∧ kyOf (lkF I0 l c) b < k then kyOf (lkF I0 l c) b + 1 else 0) := rfl
      by_cases e1 : b = c
      · rw [if_pos e1]
        refine ih (b + 1) x I h (by omega) (by omega) ?_ hK
        rw [es, if_neg (fun z => z.1 e1), Nat.max_eq_left (Nat.zero_le _)]; exact hx
      · rw [if_neg e1]
        simp only [gK, gI, gL, gR_, g_stI, g_stL, forall_eq, true_and, ad_s, okA_s, okO_s, okN_s, i10, i00, if_true, if_false, reduceCtorEq, Kf_1, Kf_400, Kf_look hl nL6]
        refine x_measured h hl hc hb' (fun W J hJ hW u1 u2 u3 => ?_)
        unfold wp_X2_likeness
        rw [x_many (by omega) u1, x_longest (by omega) u3]
        have g1 : bestM (row I0 c) (row I0 b) (I0 447 l) ≤ 32 := manyF_le _ _ _ _
        have g3 : longF (row I0 c) (row I0 b) (I0 447 l) ≤ 32 := longS_le _ _ _ _
        have ek : ((nI (bestM (row I0 c) (row I0 b) (I0 447 l)) * (64 : Int32)) + nI (longF (row I0 c) (row I0 b) (I0 447 l))) * (64 : Int32) + ((63 : Int32) - nI b) = nI (kyOf (lkF I0 l c) b) := by
          rw [show (64 : Int32) = nI 64 from rfl, show (63 : Int32) = nI 63 from rfl, pk_mul, nI_add, pk_mul, nI_sb (by omega), nI_add]
          congr 1
          unfold kyOf lkF; omega
        rw [ek]
        show if nI k ≤ nI (kyOf (lkF I0 l c) b) then _ else _
        have kl : kyOf (lkF I0 l c) b < 262144 := by unfold kyOf lkF; omega
        have nl : nxt (kyOf (lkF I0 l c)) c k b ≤ 262144 := maxTo_le2 (fun b _ => by
          by_cases q : b ≠ c ∧ kyOf (lkF I0 l c) b < k
          · rw [if_pos q]; omega
          · rw [if_neg q]; omega)
        have tx : x.toInt = (nxt (kyOf (lkF I0 l c)) c k b : Int) - 1 := by
          have : x = nI (nxt (kyOf (lkF I0 l c)) c k b) - 1 := by rw [← hx, Int32.add_sub_cancel]
          rw [this, show (1 : Int32) = nI 1 from rfl, pk_sub_toInt (by omega) (by omega)]; rfl
        have tk := nI_toInt (n := kyOf (lkF I0 l c) b) (by omega)
        by_cases e2 : k ≤ kyOf (lkF I0 l c) b
        · rw [if_pos (nI_le e2 (by omega))]
          refine ih (b + 1) x J hJ (by omega) (by omega) ?_ hK
          rw [es, if_neg (fun z => by omega), Nat.max_eq_left (Nat.zero_le _)]; exact hx
        · rw [if_neg (nI_ge (by omega) (by omega))]
          have ei : b ≠ c ∧ kyOf (lkF I0 l c) b < k := ⟨e1, by omega⟩
          rw [if_pos ei] at es
          by_cases e3 : kyOf (lkF I0 l c) b + 1 ≤ nxt (kyOf (lkF I0 l c)) c k b
          · rw [if_pos (Int32.le_iff_toInt_le.mpr (by rw [tx, tk]; omega))]
            refine ih (b + 1) x J hJ (by omega) (by omega) ?_ hK
            rw [es, Nat.max_eq_left e3]; exact hx
          · rw [if_neg (fun z => by have := Int32.le_iff_toInt_le.mp z; rw [tx, tk] at this; omega)]
            refine ih (b + 1) _ J hJ (by omega) (by omega) ?_ hK
            rw [es, Nat.max_eq_right (by omega), nI_1]
theorem x_list_L (hl : l < D.nL) (hc : c < D.nA) {k : Nat} (hk : k + 1 < D.nA) {K : Int32 → Hp → Prop} {Q : Int32 → Hp → Prop} : ∀ (N m : Nat) (I : Nat → Nat → Int32), St n L D I0 I → m ≤ k + 1 → k + 1 < N + m → (∀ I', St n L D I0 I' → K (nI (kap (kyOf (lkF I0 l c)) c D.nA (k + 1))) (fm I' L D)) → wp_X11_list_L47 1 (nI k) (some (240 + 2 * l)) (some (160 + 2 * c)) K Q N (nI (kap (kyOf (lkF I0 l c)) c D.nA m)) (nI m) (fm I L D) := by
  intro N
  induction N with
  | zero => intro m I _ h1 h2; omega
  | succ N ih =>
    intro m I h h1 h2 hK
    have n3 := h.1.nA40
    rw [wp_X11_list_L47]
    by_cases hm : m = k + 1
    · subst hm
      rw [if_pos (nI_lt (by omega) (by omega))]
      exact hK I h
    · rw [if_neg (nI_nlt (by omega) (by omega))]
      obtain ⟨q1, q2⟩ := kap_cnt (lk := lkF I0 l c) n3 hc lkF_lt m (by omega)
      have q2 := q2 (by omega)
      have kl : kap (kyOf (lkF I0 l c)) c D.nA m ≤ 262144 := by
        cases m with
        | zero => exact Nat.le_refl _
        | succ m =>
          obtain ⟨-, q4⟩ := kap_cnt (lk := lkF I0 l c) n3 hc lkF_lt m (by omega)
          obtain ⟨b0, hb0, -, -, e⟩ := nxt_at (q4 (by omega))
          show nxt (kyOf (lkF I0 l c)) c (kap (kyOf (lkF I0 l c)) c D.nA m) D.nA - 1 ≤ _
          rw [e]
          have := lkF_lt (I0 := I0) (l := l) (c := c) b0
          unfold kyOf; omega
      simp only [gK, gI, gL, gR_, g_stI, g_stL, forall_eq, true_and, ad_s, okA_s, okO_s, okN_s, i10, i00, if_true, if_false, reduceCtorEq, Kf_1, Kf_400]
      unfold wp_X11_nextLikeness
      refine x_next_L hl hc kl fuel 0 (-1) I h (by omega) (by have := fuel_ge; omega) (by show (-1 : Int32) + 1 = nI 0; decide) (fun y J hJ hy => ?_)
      simp only [gK, gI, gL, gR_, g_stI, g_stL, forall_eq, true_and, ad_s, okA_s, okO_s, okN_s, i10, i00, if_true, if_false, reduceCtorEq, Kf_1, Kf_400, nI_1]
      have ey : y = nI (kap (kyOf (lkF I0 l c)) c D.nA (m + 1)) := by
        have e : nxt (kyOf (lkF I0 l c)) c (kap (kyOf (lkF I0 l c)) c D.nA m) D.nA = kap (kyOf (lkF I0 l c)) c D.nA (m + 1) + 1 := by
          show _ = nxt (kyOf (lkF I0 l c)) c (kap (kyOf (lkF I0 l c)) c D.nA m) D.nA - 1 + 1
          omega
        rw [e, nI_succ] at hy
        have := congrArg (· - 1) hy
        simp only [Int32.add_sub_cancel] at this
        exact this
      rw [ey]
      exact ih (m + 1) J hJ (by omega) (by omega) hK
/-! the reference -/
theorem m_list_L41 (hl : l < D.nL) (hc : c < D.nA) {x3 : Int32} {K : Hp → Prop} {Q : Int32 → Hp → Prop} : ∀ (N b : Nat) (I : Nat → Nat → Int32), St n L D I0 I → b ≤ D.nA → D.nA < N + b → (∀ j, j < b → I 453 j = nI (lkF I0 l c j)) → (∀ I', St n L D I0 I' → (∀ j, j < D.nA → I' 453 j = nI (lkF I0 l c j)) → K (fm I' L D)) → wp_X12_list_L41 400 (nI l) (nI c) x3 K Q N (nI b) (fm I L D) := by
  intro N
  induction N with
  | zero => intro b I _ h1 h2; omega
  | succ N ih =>
    intro b I h h1 h2 hx hK
    have n3 := h.1.nA40
    have nL6 := h.1.nL6
    rw [wp_X12_list_L41]
    simp only [gK, gI, gL, gR_, g_stI, g_stL, forall_eq, true_and, ad_s, okA_s, okO_s, okN_s, i10, i00, if_true, if_false, reduceCtorEq, Kf_1, Kf_400, h.1.mA]
    by_cases hb : b = D.nA
    · subst hb
      rw [if_pos (nI_le (Nat.le_refl _) (by omega))]
      exact hK I h hx
    · rw [if_neg (nI_ge (by omega) (by omega))]
      have hb' : b < D.nA := by omega
      have g1 := rg_row h.1 hc
      have g2 := rg_row h.1 hb'
      have g4 := (h.1.mg hl).2
      refine m_bestSlide (by omega) (by omega) (by omega) g1 g2 g4 ?_
      simp only [gK, gI, gL, gR_, g_stI, g_stL, forall_eq, true_and, ad_s, okA_s, okO_s, okN_s, i10, i00, if_true, if_false, reduceCtorEq, Kf_1, Kf_400]
      refine m_manyOf (by omega) (by omega) (by omega) (bestF_lt _ _ _) g1 g2 g4 ?_
      simp only [gK, gI, gL, gR_, g_stI, g_stL, forall_eq, true_and, ad_s, okA_s, okO_s, okN_s, i10, i00, if_true, if_false, reduceCtorEq, Kf_1, Kf_400]
      refine m_longestF h hl hc hb' (fun J hJ fJ => ?_)
      have e453 : ∀ j, J 453 j = I 453 j := fun j => fJ 453 j (by unfold Xs_V; omega)
      have ev : ((64 : Int32) * nI (manyF (row I c) (row I b) (I 447 l) (bestF (row I c) (row I b) (I 447 l)))) + nI (longF (row I0 c) (row I0 b) (I0 447 l)) = nI (lkF I0 l c b) := by
        rw [h.2.row, h.2.row, h.2.mg, show (64 : Int32) = nI 64 from rfl, pk_mul, nI_add]; rfl
      simp only [gK, gI, gL, gR_, g_stI, g_stL, forall_eq, true_and, ad_s, okA_s, okO_s, okN_s, i10, i00, if_true, if_false, reduceCtorEq, Kf_1, Kf_400, Rf_400_52, Kf_453, vp_in_nI (show b < 40 by omega) (show 40 < 2 ^ 31 by decide), nI_clamp (show b < 2 ^ 31 by omega), ev, nI_1]
      refine ih (b + 1) _ (St_up hJ (by first | (unfold Scr2 Scr; omega) | (unfold Scr; omega))) (by omega) (by omega) (fun j hj => ?_) hK
      by_cases e : j = b
      · subst e; rw [up2_s]
      · rw [up2_o (by omega), e453]; exact hx j (by omega)
theorem m_list_L116 {x3 x5 : Int32} {I : Nat → Nat → Int32} (h : St n L D I0 I) {lv : Nat → Nat} (hlv : ∀ j, j < D.nA → I 453 j + 1 = nI (lv j)) (hb : ∀ j, lv j < 100000) {K : Int32 → Hp → Prop} {Q : Int32 → Hp → Prop} (hK : K (nI (am lv D.nA)) (fm I L D)) : ∀ (N b : Nat), 0 < b → b ≤ D.nA → D.nA < N + b → wp_X12_list_L116 400 x3 x5 K Q N (nI (am lv b)) (nI b) (fm I L D) := by
  intro N
  induction N with
  | zero => intro b _ h1 h2; omega
  | succ N ih =>
    intro b h0 h1 h2
    have n3 := h.1.nA40
    rw [wp_X12_list_L116]
    simp only [gK, gI, gL, gR_, g_stI, g_stL, forall_eq, true_and, ad_s, okA_s, okO_s, okN_s, i10, i00, if_true, if_false, reduceCtorEq, Kf_1, Kf_400, h.1.mA]
    by_cases hbe : b = D.nA
    · subst hbe
      rw [if_pos (nI_le (Nat.le_refl _) (by omega))]
      exact hK
    · rw [if_neg (nI_ge (by omega) (by omega))]
      have hb' : b < D.nA := by omega
      have al := (am_is lv b h0).1
      have tt : ∀ j, j < D.nA → (I 453 j).toInt = (lv j : Int) - 1 := fun j hj => by
        have e : I 453 j = nI (lv j) - 1 := by rw [← hlv j hj, Int32.add_sub_cancel]
        have := hb j
        rw [e, show (1 : Int32) = nI 1 from rfl, pk_sub_toInt (by omega) (by omega)]; rfl
      simp only [gK, gI, gL, gR_, g_stI, g_stL, forall_eq, true_and, ad_s, okA_s, okO_s, okN_s, i10, i00, if_true, if_false, reduceCtorEq, Kf_1, Kf_400, Rf_400_52, Kf_453, vp_in_nI (show b < 40 by omega) (show 40 < 2 ^ 31 by decide), nI_clamp (show b < 2 ^ 31 by omega), vp_in_nI (show am lv b < 40 by omega) (show 40 < 2 ^ 31 by decide), nI_clamp (show am lv b < 2 ^ 31 by omega), nI_1]
      have hn := ih (b + 1) (by omega) (by omega) (by omega)
      unfold am at hn
      by_cases e : lv (am lv b) < lv b
      · rw [if_neg (fun z => by have := Int32.le_iff_toInt_le.mp z; rw [tt b hb', tt _ (by omega)] at this; omega)]
        rw [if_pos e] at hn; exact hn
      · rw [if_pos (Int32.le_iff_toInt_le.mpr (by rw [tt b hb', tt _ (by omega)]; omega))]
        rw [if_neg e] at hn; exact hn
theorem am_1 (lv : Nat → Nat) : am lv 1 = 0 := by
  unfold am
  rw [if_neg (show ¬ lv (am lv 0) < lv 0 from Nat.lt_irrefl _)]
  rfl
theorem m_list_L104 (hc : c < D.nA) {k : Nat} (hk : k + 1 < D.nA) {K : Int32 → Hp → Prop} {Q : Int32 → Hp → Prop} : ∀ (N m : Nat) (x4 : Int32) (I : Nat → Nat → Int32), St n L D I0 I → m ≤ k + 1 → k + 1 < N + m → (∀ j, j < D.nA → I 453 j + 1 = nI (lvOf (lkF I0 l c) c (kap (kyOf (lkF I0 l c)) c D.nA m) j)) → (m = k + 1 → ∃ b, b < D.nA ∧ x4 = nI b ∧ kap (kyOf (lkF I0 l c)) c D.nA (k + 1) = kyOf (lkF I0 l c) b) → (∀ I' b, St n L D I0 I' → b < D.nA → kap (kyOf (lkF I0 l c)) c D.nA (k + 1) = kyOf (lkF I0 l c) b → K (nI b) (fm I' L D)) → wp_X12_list_L104 400 (nI k) K Q N x4 (nI m) (fm I L D) := by
  intro N
  induction N with
  | zero => intro m x4 I _ h1 h2; omega
  | succ N ih =>
    intro m x4 I h h1 h2 hlv hx hK
    have n3 := h.1.nA40
    rw [wp_X12_list_L104]
    by_cases hm : m = k + 1
    · rw [if_pos (nI_lt (by omega) (by omega))]
      obtain ⟨b, hb, e1, e2⟩ := hx hm
      rw [e1]
      exact hK I b h hb e2
    · rw [if_neg (nI_nlt (by omega) (by omega))]
      obtain ⟨q1, q2⟩ := kap_cnt (lk := lkF I0 l c) n3 hc lkF_lt m (by omega)
      have q2 := q2 (by omega)
      obtain ⟨w1, w2, w3, w4⟩ := am_nxt (lk := lkF I0 l c) (c := c) (n := D.nA) n3 q2
      have wk : kap (kyOf (lkF I0 l c)) c D.nA (m + 1) = kyOf (lkF I0 l c) (am (lvOf (lkF I0 l c) c (kap (kyOf (lkF I0 l c)) c D.nA m)) D.nA) := by
        show nxt (kyOf (lkF I0 l c)) c (kap (kyOf (lkF I0 l c)) c D.nA m) D.nA - 1 = _
        rw [w4]; omega
      have hl2 : ∀ j, lvOf (lkF I0 l c) c (kap (kyOf (lkF I0 l c)) c D.nA m) j < 100000 := fun j => by
        have := lkF_lt (I0 := I0) (l := l) (c := c) j
        unfold lvOf; split <;> omega
      have hl1 := m_list_L116 (x3 := nI k) (x5 := nI m) h hlv hl2 (Q := Q) (K := fun (y43 : Int32) (h42 : Hp) => ((hpK h42 400).1 = 20 + 10) ∧ (okA h42 (hpR h42 400 52) 1 y43 ∧ (∀ h46 : Hp, h46 = stI h42 (ad (hpR h42 400 52)) (y43).toNatClampNeg (-1 : Int32) → (∀ v47 : Int32, v47 = nI m + (1 : Int32) → (wp_X12_list_L104 400 (nI k) K Q N y43 v47 h46))))) ?_ fuel 1 (by omega) (by omega) (by have := fuel_ge; omega)
      · rw [am_1] at hl1
        exact hl1
      · generalize am (lvOf (lkF I0 l c) c (kap (kyOf (lkF I0 l c)) c D.nA m)) D.nA = b0 at w1 w2 w3 w4 wk
        simp only [gK, gI, gL, gR_, g_stI, g_stL, forall_eq, true_and, ad_s, okA_s, okO_s, okN_s, i10, i00, if_true, if_false, reduceCtorEq, Kf_1, Kf_400, Rf_400_52, Kf_453, vp_in_nI (show b0 < 40 by omega) (show 40 < 2 ^ 31 by decide), nI_clamp (show b0 < 2 ^ 31 by omega), nI_1]
        refine ih (m + 1) _ _ (St_up h (by first | (unfold Scr2 Scr; omega) | (unfold Scr; omega))) (by omega) (by omega) (fun j hj => ?_) (fun hm2 => ⟨b0, w1, rfl, by rw [← hm2]; exact wk⟩) hK
        rw [wk]
        by_cases e : j = b0
        · subst e
          rw [up2_s]
          unfold lvOf
          rw [if_pos (Or.inr (Nat.le_refl _))]
          decide
        · rw [up2_o (by omega), hlv j hj]
          congr 1
          unfold lvOf
          by_cases z : j = c
          · rw [if_pos (Or.inl z), if_pos (Or.inl z)]
          · by_cases z2 : kap (kyOf (lkF I0 l c)) c D.nA m ≤ kyOf (lkF I0 l c) j
            · rw [if_pos (Or.inr z2), if_pos (Or.inr (by omega))]
            · rw [if_neg (by omega), if_neg]
              rintro (z3 | z3)
              · exact z z3
              · have g := nxt_ge (lk := lkF I0 l c) (n := D.nA) (c := c) (k := kap (kyOf (lkF I0 l c)) c D.nA m) hj z (by omega)
                exact e (ky_inj (lk := lkF I0 l c) (by omega) (by omega) (by omega))
end LX
theorem pair_list {n : Nat} {g : Hp} (hI : Inv n g) (x1 x2 x3 : Int32) : wp_X11_list 1 x1 x2 x3 g (fun r h1 => wp_X12_list 400 x1 x2 x3 h1 (fun r' h2 => r' = r ∧ Inv (n + 1) h2)) := by
  obtain ⟨I, L, D, rfl, h⟩ := hI
  have n3 := h.nA40
  have nL6 := h.nL6
  have hT0 := St_told (St.refl h)
  unfold wp_X11_list
  simp only [gK, gI, gL, gR_, g_stI, g_stL, forall_eq, true_and, ad_s, okA_s, okO_s, okN_s, i10, i00, if_true, if_false, reduceCtorEq, Kf_1, Kf_400, x_lookerAt nL6, x_ballAt n3]
  by_cases w1 : inN x1 D.nL
  · obtain ⟨l, hl, rfl⟩ := inN_of (by omega) w1
    by_cases w2 : inN x2 D.nA
    · obtain ⟨c, hc, rfl⟩ := inN_of (by omega) w2
      have tn : (nI D.nA - (2 : Int32)).toInt = (D.nA : Int) - 2 := by rw [show (2 : Int32) = nI 2 from rfl, pk_sub_toInt (by omega) (by omega)]; rfl
      have t1 : (nI D.nA - (1 : Int32)).toInt = (D.nA : Int) - 1 := by rw [show (1 : Int32) = nI 1 from rfl, pk_sub_toInt (by omega) (by omega)]; rfl
      simp only [gK, gI, gL, gR_, g_stI, g_stL, forall_eq, true_and, ad_s, okA_s, okO_s, okN_s, i10, i00, if_true, if_false, reduceCtorEq, Kf_1, Kf_400, if_pos w1, if_pos w2, nI_clamp (show l < 2 ^ 31 by omega), nI_clamp (show c < 2 ^ 31 by omega), h.xA]
      by_cases c1 : x3 < 0
      · rw [if_pos c1]
        unfold wp_X12_list
        simp only [gK, gI, gL, gR_, g_stI, g_stL, forall_eq, true_and, ad_s, okA_s, okO_s, okN_s, i10, i00, if_true, if_false, reduceCtorEq, Kf_1, Kf_400, m_isLooker hT0.1.mL, m_isBall hT0.1.mA, m_isIn, if_pos w1, if_pos w2, hT0.1.mA]
        rw [if_neg (show ¬ ((0 : Int32) ≤ x3 ∧ x3 ≤ nI D.nA - 2) from fun z => absurd z.1 (Int32.not_le.mpr c1)), if_pos rfl]
        exact hT0.inv
      · rw [if_neg c1]
        by_cases c2 : x3 < nI D.nA - 1
        · rw [if_pos c2]
          obtain ⟨k, hk0, rfl⟩ := nI_of c1
          have tk := nI_toInt hk0
          have hk : k + 1 < D.nA := by
            have := Int32.lt_iff_toInt_lt.mp c2
            rw [t1, tk] at this; omega
          refine x_list_L hl hc hk fuel 0 I (St.refl h) (by omega) (by have := fuel_ge; omega) (fun J hJ => ?_)
          unfold wp_X2_likenessBall
          have hT := St_told hJ
          unfold wp_X12_list
          simp only [gK, gI, gL, gR_, g_stI, g_stL, forall_eq, true_and, ad_s, okA_s, okO_s, okN_s, i10, i00, if_true, if_false, reduceCtorEq, Kf_1, Kf_400, m_isLooker hT.1.mL, m_isBall hT.1.mA, m_isIn, if_pos w1, if_pos w2, hT.1.mA]
          rw [if_pos (show (0 : Int32) ≤ nI k ∧ nI k ≤ nI D.nA - 2 from ⟨nI_pos' (by omega), Int32.le_iff_toInt_le.mpr (by rw [tn, tk]; omega)⟩), if_neg (by decide)]
          refine m_list_L41 hl hc fuel 0 _ hT (by omega) (by have := fuel_ge; omega) (fun j hj => by omega) (fun J2 hJ2 e2 => ?_)
          simp only [gK, gI, gL, gR_, g_stI, g_stL, forall_eq, true_and, ad_s, okA_s, okO_s, okN_s, i10, i00, if_true, if_false, reduceCtorEq, Kf_1, Kf_400, Rf_400_52, Kf_453, vp_in_nI (show c < 40 by omega) (show 40 < 2 ^ 31 by decide), nI_clamp (show c < 2 ^ 31 by omega)]
          refine m_list_L104 (l := l) hc hk fuel 0 _ _ (St_up hJ2 (by first | (unfold Scr2 Scr; omega) | (unfold Scr; omega))) (by omega) (by have := fuel_ge; omega) (fun j hj => ?_) (fun e => by omega) (fun J3 b hJ3 hb eb => ?_)
          · by_cases e : j = c
            · subst e
              rw [up2_s]
              unfold lvOf
              rw [if_pos (Or.inl rfl)]
              decide
            · rw [up2_o (by omega), e2 j hj, nI_1]
              unfold lvOf
              have := lkF_lt (I0 := I) (l := l) (c := c) j
              rw [if_neg (show ¬ (j = c ∨ kap (kyOf (lkF I l c)) c D.nA 0 ≤ kyOf (lkF I l c) j) from fun z => z.elim e (fun z => by
                have z : 262144 ≤ kyOf (lkF I l c) j := z
                unfold kyOf at z; omega))]
          · refine ⟨?_, hJ3.inv⟩
            rw [eb]
            have := lkF_lt (I0 := I) (l := l) (c := c) b
            have e64 : nI (kyOf (lkF I l c) b) - nI (kyOf (lkF I l c) b) / (64 : Int32) * (64 : Int32) = nI (kyOf (lkF I l c) b % 64) := pk_rem (d := 64) (by unfold kyOf; omega) (by decide) (by decide)
            rw [e64, show (63 : Int32) = nI 63 from rfl, nI_sb (by omega)]
            congr 1
            unfold kyOf; omega
        · rw [if_neg c2]
          unfold wp_X12_list
          simp only [gK, gI, gL, gR_, g_stI, g_stL, forall_eq, true_and, ad_s, okA_s, okO_s, okN_s, i10, i00, if_true, if_false, reduceCtorEq, Kf_1, Kf_400, m_isLooker hT0.1.mL, m_isBall hT0.1.mA, m_isIn, if_pos w1, if_pos w2, hT0.1.mA]
          rw [if_neg (show ¬ ((0 : Int32) ≤ x3 ∧ x3 ≤ nI D.nA - 2) from fun z => c2 (Int32.lt_iff_toInt_lt.mpr (by have := Int32.le_iff_toInt_le.mp z.2; rw [tn] at this; rw [t1]; omega))), if_pos rfl]
          exact hT0.inv
    · simp only [gK, gI, gL, gR_, g_stI, g_stL, forall_eq, true_and, ad_s, okA_s, okO_s, okN_s, i10, i00, if_true, if_false, reduceCtorEq, Kf_1, Kf_400, if_pos w1, if_neg w2]
      unfold wp_X12_list
      simp only [gK, gI, gL, gR_, g_stI, g_stL, forall_eq, true_and, ad_s, okA_s, okO_s, okN_s, i10, i00, if_true, if_false, reduceCtorEq, Kf_1, Kf_400, m_isLooker hT0.1.mL, m_isBall hT0.1.mA, if_pos w1, if_neg w2]
      exact hT0.inv
  · simp only [gK, gI, gL, gR_, g_stI, g_stL, forall_eq, true_and, ad_s, okA_s, okO_s, okN_s, i10, i00, if_true, if_false, reduceCtorEq, Kf_1, Kf_400, if_neg w1]
    unfold wp_X12_list
    simp only [gK, gI, gL, gR_, g_stI, g_stL, forall_eq, true_and, ad_s, okA_s, okO_s, okN_s, i10, i00, if_true, if_false, reduceCtorEq, Kf_1, Kf_400, m_isLooker hT0.1.mL, if_neg w1]
    exact hT0.inv
