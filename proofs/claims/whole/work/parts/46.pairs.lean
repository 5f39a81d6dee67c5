/-! feed (my own) -/
/-- byte k (0 the highest) of a number -/
def by8 (x : Int32) (k : Nat) : Int32 := ((x.toUInt32 >>> ((nI (24 - 8 * k)).toUInt32 &&& Int32.toUInt32 31)).toInt32) &&& 255
theorem by8_s (x : Int32) {k : Nat} (hk : k < 4) : (x >>> (nI (24 - 8 * k) &&& 31)) &&& 255 = by8 x k := by
  unfold by8
  apply b_ext
  intro i hi
  rw [b_and, b_and, b_255, b_sshr _ (by omega) x hi, b_ushr _ (by omega)]
  by_cases h8 : i < 8
  · rw [if_pos (by omega)]
  · simp [h8]
theorem by8_in (x : Int32) (k : Nat) : inN (by8 x k) 256 := by
  unfold by8
  rw [pk_and _ (m := 255) 8 (by decide)]
  exact (inN_nI (by omega) (by decide)).mpr (Nat.mod_lt _ (by decide))
/-- n bytes stood at the row lab, m bytes bs have come; the count is the cell (c, s) -/
def PutR (I I' : Nat → Nat → Int32) (lab c s n m : Nat) (bs : Nat → Int32) : Prop := (∀ l k, l ≠ lab → ¬ (l = c ∧ k = s) → I' l k = I l k) ∧ I' c s = nI (n + m) ∧ (∀ j, j < n → I' lab j = I lab j) ∧ ∀ k, k < m → I' lab (n + k) = bs k
theorem PutR.rf {I : Nat → Nat → Int32} {lab c s n : Nat} {bs : Nat → Int32} (h : I c s = nI n) : PutR I I lab c s n 0 bs := ⟨fun _ _ _ _ => rfl, by rw [h, Nat.add_zero], fun _ _ => rfl, fun k hk => by omega⟩
theorem PutR.one {I I' : Nat → Nat → Int32} {lab c s n m : Nat} {bs : Nat → Int32} (hc : c ≠ lab) (h : PutR I I' lab c s n m bs) : PutR I (up2 (up2 I' lab (n + m) (bs m)) c s (nI (n + m + 1))) lab c s n (m + 1) bs := by
  obtain ⟨h1, h2, h3, h4⟩ := h
  refine ⟨fun l k q1 q2 => ?_, ?_, fun j hj => ?_, fun k hk => ?_⟩
  · rw [up2_o q2, up2_o (fun z => q1 z.1)]; exact h1 l k q1 q2
  · rw [up2_s]; rfl
  · rw [up2_o (fun z => hc z.1.symm), up2_o (by omega)]; exact h3 j hj
  · rw [up2_o (fun z => hc z.1.symm)]
    by_cases e : k = m
    · subst e; rw [up2_s]
    · rw [up2_o (by omega)]; exact h4 k (by omega)
theorem PutR.cg {I I' : Nat → Nat → Int32} {lab c s n m : Nat} {bs bs' : Nat → Int32} (h : PutR I I' lab c s n m bs) (e : ∀ k, k < m → bs k = bs' k) : PutR I I' lab c s n m bs' := ⟨h.1, h.2.1, h.2.2.1, fun k hk => by rw [← e k hk]; exact h.2.2.2 k hk⟩
theorem PutR.tr {I I1 I2 : Nat → Nat → Int32} {lab c s n m m2 : Nat} {bs bs2 : Nat → Int32} (h : PutR I I1 lab c s n m bs) (h2 : PutR I1 I2 lab c s (n + m) m2 bs2) : PutR I I2 lab c s n (m + m2) (fun k => if k < m then bs k else bs2 (k - m)) := by
  obtain ⟨a1, a2, a3, a4⟩ := h
  obtain ⟨b1, b2, b3, b4⟩ := h2
  refine ⟨fun l k q1 q2 => (b1 l k q1 q2).trans (a1 l k q1 q2), by rw [b2]; congr 1; omega, fun j hj => (b3 j (by omega)).trans (a3 j hj), fun k hk => ?_⟩
  by_cases e : k < m
  · show _ = if k < m then bs k else bs2 (k - m)
    rw [b3 (n + k) (by omega), if_pos e]; exact a4 k e
  · show _ = if k < m then bs k else bs2 (k - m)
    rw [if_neg e]
    have := b4 (k - m) (by omega)
    rw [show n + m + (k - m) = n + k by omega] at this
    exact this
section FD
variable {I : Nat → Nat → Int32} {L : Nat → Nat → Int64} {D : DD}
theorem x_put_1 {I0 : Nat → Nat → Int32} {x : Int32} {n k : Nat} {K Q : Hp → Prop} {f : Nat} (hk : k < 4) (hn : n + 4 ≤ 600) (h : PutR I0 I 9 8 1 n k (by8 x)) (hw : ∀ I' : Nat → Nat → Int32, PutR I0 I' 9 8 1 n (k + 1) (by8 x) → wp_X8_put_L3 8 x K Q f (nI (24 - 8 * k) + (-8)) (fm I' L D)) : wp_X8_put_L3 8 x K Q (f + 1) (nI (24 - 8 * k)) (fm I L D) := by
  rw [wp_X8_put_L3]
  have h2 : I 8 1 = nI (n + k) := h.2.1
  have e8 : ∀ v, (up2 I 9 (n + k) v) 8 1 = nI (n + k) := fun v => (up2_o (by omega)).trans h2
  simp only [if_neg (nI_pos (show 24 - 8 * k < 2 ^ 31 by omega)), gK, gI, gL, gR_, g_stI, g_stL, forall_eq, true_and, ad_s, okA_s, okO_s, okN_s, i10, i00, if_true, if_false, reduceCtorEq, Kf_1, Kf_400, Kf_8, Rf_8_0, Kf_9, h2, vp_in_nI (show n + k < 600 by omega) (by decide), nI_clamp (show n + k < 2 ^ 31 by omega), e8, nI_1]
  rw [if_neg (show ¬ (600 : Int32) ≤ nI (n + k) from nI_ge (b := 600) (by omega) (by decide))]
  exact hw _ (h.one (by decide))
theorem x_put {x : Int32} {n : Nat} {Q : Hp → Prop} (hn : n + 4 ≤ 600) (h1 : I 8 1 = nI n) (hQ : ∀ I' : Nat → Nat → Int32, PutR I I' 9 8 1 n 4 (by8 x) → Q (fm I' L D)) : wp_X8_put 8 x (fm I L D) Q := by
  unfold wp_X8_put
  obtain ⟨k, hk⟩ : ∃ k, fuel = k + 5 := ⟨fuel - 5, by decide⟩
  rw [hk]
  refine x_put_1 (k := 0) (by omega) hn (PutR.rf h1) (fun I1 p1 => ?_)
  refine x_put_1 (k := 1) (by omega) hn p1 (fun I2 p2 => ?_)
  refine x_put_1 (k := 2) (by omega) hn p2 (fun I3 p3 => ?_)
  refine x_put_1 (k := 3) (by omega) hn p3 (fun I4 p4 => ?_)
  rw [wp_X8_put_L3, if_pos (by decide)]
  exact hQ I4 p4
theorem m_put_1 {I0 : Nat → Nat → Int32} {x : Int32} {n k : Nat} {K Q : Hp → Prop} {f : Nat} (hk : k < 4) (hn : n + 4 ≤ 600) (h : PutR I0 I 419 400 19 n k (by8 x)) (hw : ∀ I' : Nat → Nat → Int32, PutR I0 I' 419 400 19 n (k + 1) (by8 x) → wp_X12_puts_L3 400 x K Q f (nI (24 - 8 * k) + (-8)) (fm I' L D)) : wp_X12_puts_L3 400 x K Q (f + 1) (nI (24 - 8 * k)) (fm I L D) := by
  rw [wp_X12_puts_L3]
  have h2 : I 400 19 = nI (n + k) := h.2.1
  have e8 : ∀ v, (up2 I 419 (n + k) v) 400 19 = nI (n + k) := fun v => (up2_o (by omega)).trans h2
  simp only [if_neg (nI_pos (show 24 - 8 * k < 2 ^ 31 by omega)), gK, gI, gL, gR_, g_stI, g_stL, forall_eq, true_and, ad_s, okA_s, okO_s, okN_s, i10, i00, if_true, if_false, reduceCtorEq, Kf_1, Kf_400, Rf_400_18, Kf_419, h2, vp_in_nI (show n + k < 600 by omega) (by decide), nI_clamp (show n + k < 2 ^ 31 by omega), e8, nI_1, by8_s x hk]
  exact hw _ (h.one (by decide))
theorem m_put {x : Int32} {n : Nat} {Q : Hp → Prop} (hn : n + 4 ≤ 600) (h1 : I 400 19 = nI n) (hQ : ∀ I' : Nat → Nat → Int32, PutR I I' 419 400 19 n 4 (by8 x) → Q (fm I' L D)) : wp_X12_puts 400 x (fm I L D) Q := by
  unfold wp_X12_puts
  obtain ⟨k, hk⟩ : ∃ k, fuel = k + 5 := ⟨fuel - 5, by decide⟩
  rw [hk]
  refine m_put_1 (k := 0) (by omega) hn (PutR.rf h1) (fun I1 p1 => ?_)
  refine m_put_1 (k := 1) (by omega) hn p1 (fun I2 p2 => ?_)
  refine m_put_1 (k := 2) (by omega) hn p2 (fun I3 p3 => ?_)
  refine m_put_1 (k := 3) (by omega) hn p3 (fun I4 p4 => ?_)
  rw [wp_X12_puts_L3, if_pos (by decide)]
  exact hQ I4 p4
end FD
theorem pair_feed {n : Nat} {g : Hp} (hI : Inv n g) (x1 x2 x3 x4 x5 : Int32) : wp_X11_feed 1 x1 x2 x3 x4 x5 g (fun r h1 => wp_X12_feed 400 x1 x2 x3 x4 x5 h1 (fun r' h2 => r' = r ∧ Inv (n + 1) h2)) := by
  obtain ⟨I, L, D, rfl, h⟩ := hI
  obtain ⟨⟨t, q1, q2, q3, q4⟩, q5, q6⟩ := h.2.2.2.2.2.2.2.2.2.1
  unfold wp_X11_feed
  simp only [gK, gI, gL, gR_, g_stI, g_stL, forall_eq, true_and, ad_s, okA_s, okO_s, okN_s, i10, i00, if_true, if_false, reduceCtorEq, Kf_1, Kf_400, Rf_1_12, Kf_8, q2]
  rw [show (20 : Int32) = nI 20 from rfl, nI_add, show (600 : Int32) = nI 600 from rfl]
  by_cases ht : t + 20 ≤ 600
  · rw [if_pos (nI_le ht (by decide))]
    refine x_put (by omega) q2 (fun J1 p1 => ?_)
    simp only [gK, gI, gL, gR_, g_stI, g_stL, forall_eq, true_and, ad_s, okA_s, okO_s, okN_s, i10, i00, if_true, if_false, reduceCtorEq, Kf_1, Kf_400, Rf_1_12, Kf_8]
    refine x_put (n := t + 4) (by omega) p1.2.1 (fun J2 p2 => ?_)
    simp only [gK, gI, gL, gR_, g_stI, g_stL, forall_eq, true_and, ad_s, okA_s, okO_s, okN_s, i10, i00, if_true, if_false, reduceCtorEq, Kf_1, Kf_400, Rf_1_12, Kf_8]
    refine x_put (n := t + 4 + 4) (by omega) p2.2.1 (fun J3 p3 => ?_)
    simp only [gK, gI, gL, gR_, g_stI, g_stL, forall_eq, true_and, ad_s, okA_s, okO_s, okN_s, i10, i00, if_true, if_false, reduceCtorEq, Kf_1, Kf_400, Rf_1_12, Kf_8]
    refine x_put (n := t + 4 + 4 + 4) (by omega) p3.2.1 (fun J4 p4 => ?_)
    simp only [gK, gI, gL, gR_, g_stI, g_stL, forall_eq, true_and, ad_s, okA_s, okO_s, okN_s, i10, i00, if_true, if_false, reduceCtorEq, Kf_1, Kf_400, Rf_1_12, Kf_8]
    refine x_put (n := t + 4 + 4 + 4 + 4) (by omega) p4.2.1 (fun J p5 => ?_)
    simp only [gK, gI, gL, gR_, g_stI, g_stL, forall_eq, true_and, ad_s, okA_s, okO_s, okN_s, i10, i00, if_true, if_false, reduceCtorEq, Kf_1, Kf_400, Rf_1_12, Kf_8]
    have P := (((p1.tr p2).tr p3).tr p4).tr p5
    have jx : ∀ l k, l ≠ 9 → ¬ (l = 8 ∧ k = 1) → J l k = I l k := P.1
    have k0 : (up2 J 400 0 0) 400 19 = nI t := by rw [up2_o (by omega), jx 400 19 (by omega) (by omega)]; exact q3
    unfold wp_X12_feed
    simp only [gK, gI, gL, gR_, g_stI, g_stL, forall_eq, true_and, ad_s, okA_s, okO_s, okN_s, i10, i00, if_true, if_false, reduceCtorEq, Kf_1, Kf_400, k0]
    rw [if_pos (show nI t ≤ (580 : Int32) from nI_le (b := 580) (by omega) (by decide))]
    refine m_put (by omega) k0 (fun M1 r1 => ?_)
    simp only [gK, gI, gL, gR_, g_stI, g_stL, forall_eq, true_and, ad_s, okA_s, okO_s, okN_s, i10, i00, if_true, if_false, reduceCtorEq, Kf_1, Kf_400]
    refine m_put (n := t + 4) (by omega) r1.2.1 (fun M2 r2 => ?_)
    simp only [gK, gI, gL, gR_, g_stI, g_stL, forall_eq, true_and, ad_s, okA_s, okO_s, okN_s, i10, i00, if_true, if_false, reduceCtorEq, Kf_1, Kf_400]
    refine m_put (n := t + 4 + 4) (by omega) r2.2.1 (fun M3 r3 => ?_)
    simp only [gK, gI, gL, gR_, g_stI, g_stL, forall_eq, true_and, ad_s, okA_s, okO_s, okN_s, i10, i00, if_true, if_false, reduceCtorEq, Kf_1, Kf_400]
    refine m_put (n := t + 4 + 4 + 4) (by omega) r3.2.1 (fun M4 r4 => ?_)
    simp only [gK, gI, gL, gR_, g_stI, g_stL, forall_eq, true_and, ad_s, okA_s, okO_s, okN_s, i10, i00, if_true, if_false, reduceCtorEq, Kf_1, Kf_400]
    refine m_put (n := t + 4 + 4 + 4 + 4) (by omega) r4.2.1 (fun M r5 => ?_)
    simp only [gK, gI, gL, gR_, g_stI, g_stL, forall_eq, true_and, ad_s, okA_s, okO_s, okN_s, i10, i00, if_true, if_false, reduceCtorEq, Kf_1, Kf_400]
    have RR := (((r1.tr r2).tr r3).tr r4).tr r5
    have mx : ∀ l k, l ≠ 419 → ¬ (l = 400 ∧ k = 19) → M l k = (up2 J 400 0 0) l k := RR.1
    have e1 : M 400 19 = nI (t + (4 + 4 + 4 + 4 + 4)) := RR.2.1
    have e2 : J 8 1 = nI (t + (4 + 4 + 4 + 4 + 4)) := P.2.1
    refine ⟨e1.trans e2.symm, Inv_of (InvI_F h ⟨⟨t + 20, by omega, ?_, e1, fun j hj => ?_⟩, ?_, ?_⟩ (fun l k h1 h2 => ?_))⟩
    · rw [mx 8 1 (by omega) (by omega), up2_o (by omega)]; exact e2
    · rw [mx 9 j (by omega) (by omega), up2_o (by omega)]
      by_cases e : j < t
      · rw [P.2.2.1 j e, RR.2.2.1 j e, up2_o (by omega), jx 419 j (by omega) (by omega)]
        exact q4 j e
      · have a := P.2.2.2 (j - t) (by omega)
        have b := RR.2.2.2 (j - t) (by omega)
        rw [show t + (j - t) = j by omega] at a b
        rw [a, b]
        refine ⟨rfl, ?_⟩
        dsimp only
        repeat' split
        all_goals exact by8_in _ _
    · rw [mx 12 0 (by omega) (by omega), mx 400 39 (by omega) (by omega), up2_o (by omega), up2_o (by omega), jx 12 0 (by omega) (by omega), jx 400 39 (by omega) (by omega)]; exact q5
    · rw [mx 12 1 (by omega) (by omega), mx 400 40 (by omega) (by omega), up2_o (by omega), up2_o (by omega), jx 12 1 (by omega) (by omega), jx 400 40 (by omega) (by omega)]; exact q6
    · unfold Scr at h1
      unfold Xs_F at h2
      rw [mx l k (by omega) (by omega), up2_o (by omega), jx l k (by omega) (by omega)]
  · rw [if_neg (nI_ge (by omega) (by omega))]
    unfold wp_X12_feed
    have k0 : (up2 I 400 0 0) 400 19 = nI t := (up2_o (by omega)).trans q3
    simp only [gK, gI, gL, gR_, g_stI, g_stL, forall_eq, true_and, ad_s, okA_s, okO_s, okN_s, i10, i00, if_true, if_false, reduceCtorEq, Kf_1, Kf_400, k0]
    rw [if_neg (show ¬ nI t ≤ (580 : Int32) from nI_ge (a := 580) (by omega) (by omega))]
    exact Inv_told h
