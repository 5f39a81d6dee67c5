/-! JUDGING, AND WHAT IS KEPT OF IT (my own) -/
theorem or_put {a c d d' k j W X R : Nat} (ha : a < 2 ^ k) (hd : d < 2 ^ j) (hd' : d' = 0 ∨ d' = d) (hW : W = a + 2 ^ k * d' + 2 ^ (k + j) * c) (hX : X = 2 ^ k * d) (hR : R = a + 2 ^ k * d + 2 ^ (k + j) * c) : nI W ||| nI X = nI R := by
  have e := or_add (a := a) (c := c) (d := d) (k := k) (j := j) ha hd rfl hX hR
  rcases hd' with q | q
  · subst q
    rw [hW, Nat.mul_zero, Nat.add_zero]
    exact e
  · subst q
    rw [hW, ← hR, ← e, Int32.or_assoc, Int32.or_self]
theorem Same.symm {D : DD} {I J : Nat → Nat → Int32} (h : Same D I J) : Same D J I := ⟨h.1, fun l k a b c => (h.2 l k a b c).symm⟩
theorem St.say {n : Nat} {L : Nat → Nat → Int64} {D : DD} {I0 I : Nat → Nat → Int32} (h : St n L D I0 I) {l : Nat} (hl : l < D.nL) (a b t : Nat) : sayF I l a b t = sayF I0 l a b t := (h.2.symm.say h.1 hl a b t).symm
section JU
variable {n : Nat} {I0 I : Nat → Nat → Int32} {L : Nat → Nat → Int64} {D : DD} {l a b : Nat}
theorem CX_of (h : InvI n I L D) (hl : l < D.nL) : TR I (D.tx (2 + l)) (1 + l) 8 14 3 5 := h.2.2.2.2.2.2.2.2.2.2.1.2 l hl
theorem sayF_eq (h : InvI n I L D) (hl : l < D.nL) {n0 tl : Nat} (hn0 : I 426 (1 + l) = nI n0) (hn : n0 ≤ 16) {fx : Nat → Int32} (hf : ∀ w, 8 ≤ w → w < 14 → (w = 11 → ¬ I (20 + 8 * D.tx (2 + l)) 8 = 0) → fx w = asksF (row I a) (row I b) (I 447 l) tl w) : sayL I fx (1 + l) 0 n0 = sayF I l a b tl := by
  unfold sayF
  rw [hn0, nI_clamp (by omega)]
  exact sayL_fx (CX_of h hl) (by decide) hn0 hn hf n0 0 (by omega)
/-- the lines, when the facts are told -/
theorem x_lines (h : St n L D I0 I) (hl : l < D.nL) {tl : Nat} (hf : ∀ w, 8 ≤ w → w < 14 → (w = 11 → ¬ I (20 + 8 * D.tx (2 + l)) 8 = 0) → I 14 w = asksF (row I0 a) (row I0 b) (I0 447 l) tl w) {K143 : Int32 → Hp → Prop} {K171 : Hp → Prop} {Q : Int32 → Hp → Prop} (h143 : ∀ (i so : Nat) (J : Nat → Nat → Int32), St n L D I0 J → i < 16 → so < 5 → J (20 + 8 * D.tx (2 + l) + 1) i = nI (260 + so) → sayF I0 l a b tl = (if so = 3 then 1 else 0) → K143 (nI i) (fm J L D)) (h171 : ∀ J : Nat → Nat → Int32, St n L D I0 J → sayF I0 l a b tl = 2 → K171 (fm J L D)) : wp_X3_judge_L114 (240 + 2 * l) (some 13) K143 K171 Q fuel (0 : Int32) (fm I L D) := by
  have hD := h.1.1
  have nL6 := hD.2.2.2.1
  have ht := hD.2.2.2.2.2.2.2.1 (2 + l) (by omega)
  have ht8 := tx_lt hD (show 2 + l < 2 + D.nL by omega)
  have kT : Kf D (20 + 8 * D.tx (2 + l)) = (25, 0) := Kf_text (r := 0) ht nL6 (by decide)
  have k1 : Kf D (20 + 8 * D.tx (2 + l) + 1) = (1, 16) := Kf_text (r := 1) ht nL6 (by decide)
  have r0 : Rf D (20 + 8 * D.tx (2 + l)) 0 = some (20 + 8 * D.tx (2 + l) + 1) := Rf_text (k := 0) ht nL6 (by decide)
  have hT := CX_of h.1 hl
  obtain ⟨n1, z, h1, h2, h3, h4, h5, h6, h7, h8, h9⟩ := id hT
  have ev : sayL I (I 14) (1 + l) 0 n1 = sayF I0 l a b tl := by
    have r1 := h.2.row a
    have r2 := h.2.row b
    have r3 := h.2.mg l
    rw [sayF_eq (a := a) (b := b) (tl := tl) h.1 hl h5 h1 (fun w w1 w2 w3 => by rw [r1, r2, r3]; exact hf w w1 w2 w3)]
    exact h.say hl a b tl
  have fr : ∀ J : Nat → Nat → Int32, (∀ l' k, l' ≠ 20 + 8 * D.tx (2 + l) + 6 → J l' k = I l' k) → St n L D I0 J := fun J hJ => St_scr h (fun l' k' hn => hJ l' k' (fun z => hn (by first | (unfold Scr2 Scr; omega) | (unfold Scr; omega))))
  refine x_judge_L ht hl nL6 rfl hT h5 h1 (fun i J hJ hi hv => ?_) (fun J hJ hv => ?_) fuel 0 I (fun _ _ _ => rfl) (by omega) (by have := fuel_ge; omega) ev
  · obtain ⟨f, s, e, so, q1, q2, q3, q4, q5, q6, q7, q8, q9, q10, q11, q12, q13, q14, q15⟩ := h9 i hi
    refine h143 i so J (fr J hJ) (by omega) q5 (by rw [hJ _ _ (by omega)]; exact q7) ?_
    rw [q6] at hv
    rw [hv]
    have e3 : nI so = (3 : Int32) ↔ so = 3 := nI_eq (b := 3) (by omega) (by decide)
    by_cases e : so = 3
    · rw [if_pos (e3.mpr e), if_pos e]
    · rw [if_neg (fun z => e (e3.mp z)), if_neg e]
  · exact h171 J (fr J hJ) hv
theorem x_J76 (h : St n L D I0 I) (hl : l < D.nL) (ha : a < D.nA) (hb : b < D.nA) {tl : Nat} (htl : tl < 2) (f8 : I 14 8 = nI (bestM (row I0 a) (row I0 b) (I0 447 l))) (f9 : I 14 9 = nI (longF (row I0 a) (row I0 b) (I0 447 l))) (f10 : I 14 10 = nI (bestF (row I0 a) (row I0 b) (I0 447 l))) {v : Int32} (hv : ¬ I (20 + 8 * D.tx (2 + l)) 8 = 0 → v = nI (piecesF (row I0 a) (row I0 b) (I0 447 l))) {Q : Int32 → Hp → Prop} (hQ : ∀ I' : Nat → Nat → Int32, St n L D I0 I' → Q (nI (sayF I0 l a b tl)) (fm I' L D)) : wp_X3_judge_J76 (240 + 2 * l) (some (160 + 2 * a)) (some (160 + 2 * b)) (nI tl) (some 13) v (11 : Int32) (some 14) Q (fm I L D) := by
  have hD := h.1.1
  have n3 := hD.2.2.1
  have ht8 := tx_lt hD (show 2 + l < 2 + D.nL by omega)
  have v11 : vp_in (11 : Int32) 14 := vp_in_nI (n := 11) (by decide) (by decide)
  have v12 : vp_in (12 : Int32) 14 := vp_in_nI (n := 12) (by decide) (by decide)
  have v13 : vp_in (13 : Int32) 14 := vp_in_nI (n := 13) (by decide) (by decide)
  have c11 : (11 : Int32).toNatClampNeg = 11 := rfl
  have c12 : (12 : Int32).toNatClampNeg = 12 := rfl
  have c13 : (13 : Int32).toNatClampNeg = 13 := rfl
  have s14 : ∀ k, Scr2 D 14 k := fun k => by unfold Scr2 Scr; omega
  have h1 : St n L D I0 (up2 I 14 11 v) := St_up h (s14 _)
  unfold wp_X3_judge_J76
  simp only [gK, gI, gL, gR_, g_stI, g_stL, forall_eq, true_and, ad_s, okA_s, okO_s, okN_s, i10, i00, if_true, if_false, reduceCtorEq, Kf_1, Kf_400, Kf_14, v11, c11, Kf_13, Kf_ball ha n3, Rf_13_0]
  refine x_missing h1.1.2.2.2.2.2.1 ha n3 ?_
  simp only [gK, gI, gL, gR_, g_stI, g_stL, forall_eq, true_and, ad_s, okA_s, okO_s, okN_s, i10, i00, if_true, if_false, reduceCtorEq, Kf_1, Kf_400, Kf_ball hb n3]
  refine x_missing h1.1.2.2.2.2.2.1 hb n3 ?_
  simp only [gK, gI, gL, gR_, g_stI, g_stL, forall_eq, true_and, ad_s, okA_s, okO_s, okN_s, i10, i00, if_true, if_false, reduceCtorEq, Kf_1, Kf_400, Kf_14, v12, c12, v13, c13, Kf_13, Rf_13_0]
  rw [h1.2.row, h1.2.row, nI_add]
  have h2 : St n L D I0 (up2 (up2 I 14 11 v) 14 12 (nI (missF (row I0 a) + missF (row I0 b)))) := St_up h1 (s14 _)
  have key : ∀ w : Int32, w = nI tl → ∀ u, 8 ≤ u → u < 14 → (u = 11 → ¬ up2 (up2 (up2 I 14 11 v) 14 12 (nI (missF (row I0 a) + missF (row I0 b)))) 14 13 w (20 + 8 * D.tx (2 + l)) 8 = 0) → up2 (up2 (up2 I 14 11 v) 14 12 (nI (missF (row I0 a) + missF (row I0 b)))) 14 13 w 14 u = asksF (row I0 a) (row I0 b) (I0 447 l) tl u := by
    intro w hw u u1 u2 u3
    rw [up2_o (by omega), up2_o (by omega), up2_o (by omega)] at u3
    unfold asksF
    by_cases e8 : u = 8
    · rw [if_pos e8, e8, up2_o (by omega), up2_o (by omega), up2_o (by omega)]; exact f8
    · rw [if_neg e8]
      by_cases e9 : u = 9
      · rw [if_pos e9, e9, up2_o (by omega), up2_o (by omega), up2_o (by omega)]; exact f9
      · rw [if_neg e9]
        by_cases e10 : u = 10
        · rw [if_pos e10, e10, up2_o (by omega), up2_o (by omega), up2_o (by omega)]; exact f10
        · rw [if_neg e10]
          by_cases e11 : u = 11
          · rw [if_pos e11, e11, up2_o (by omega), up2_o (by omega), up2_s]; exact hv (u3 e11)
          · rw [if_neg e11]
            by_cases e12 : u = 12
            · rw [if_pos e12, e12, up2_o (by omega), up2_s]
            · rw [if_neg e12, if_pos (show u = 13 by omega), show u = 13 by omega, up2_s]; exact hw
  have nL6 := hD.2.2.2.1
  have ht := hD.2.2.2.2.2.2.2.1 (2 + l) (by omega)
  have kT : Kf D (20 + 8 * D.tx (2 + l)) = (25, 0) := Kf_text (r := 0) ht nL6 (by decide)
  have k1 : Kf D (20 + 8 * D.tx (2 + l) + 1) = (1, 16) := Kf_text (r := 1) ht nL6 (by decide)
  have r0 : Rf D (20 + 8 * D.tx (2 + l)) 0 = some (20 + 8 * D.tx (2 + l) + 1) := Rf_text (k := 0) ht nL6 (by decide)
  have k171 : ∀ J : Nat → Nat → Int32, St n L D I0 J → sayF I0 l a b tl = 2 → Q (2 : Int32) (fm J L D) := fun J hJ e => by
    have := hQ J hJ
    rw [e] at this
    exact this
  have k143 : ∀ (i so : Nat) (J : Nat → Nat → Int32), St n L D I0 J → i < 16 → so < 5 → J (20 + 8 * D.tx (2 + l) + 1) i = nI (260 + so) → sayF I0 l a b tl = (if so = 3 then 1 else 0) → (hpK (fm J L D) (240 + 2 * l)).1 = 20 + 2 ∧ okO (fm J L D) (hpR (fm J L D) (240 + 2 * l) 1) 5 ∧ okA (fm J L D) (hpR (fm J L D) (ad (hpR (fm J L D) (240 + 2 * l) 1)) 0) 1 (nI i) ∧ (if hpI (fm J L D) (ad (hpR (fm J L D) (ad (hpR (fm J L D) (240 + 2 * l) 1)) 0)) (nI i).toNatClampNeg = (263 : Int32) then Q (1 : Int32) (fm J L D) else Q (0 : Int32) (fm J L D)) := by
    intro i so J hJ hi hso eh es
    simp only [gK, gI, gL, gR_, g_stI, g_stL, forall_eq, true_and, ad_s, okA_s, okO_s, okN_s, i10, i00, if_true, if_false, reduceCtorEq, Kf_1, Kf_400, Kf_look hl nL6, Rf_judg hl nL6, kT, r0, k1, vp_in_nI hi (show 16 < 2 ^ 31 by decide), nI_clamp (show i < 2 ^ 31 by omega), eh]
    have := hQ J hJ
    rw [es] at this
    have e4 : nI (260 + so) = (263 : Int32) ↔ 260 + so = 263 := nI_eq (b := 263) (by omega) (by decide)
    by_cases e : so = 3
    · rw [if_pos (e4.mpr (by omega))]
      rw [if_pos e] at this; exact this
    · rw [if_neg (fun z => e (by have := e4.mp z; omega))]
      rw [if_neg e] at this; exact this
  by_cases e : tl = 0
  · subst e
    rw [if_pos (show nI 0 = (0 : Int32) from rfl)]
    exact x_lines (St_up h2 (s14 _)) hl (key 0 rfl) k143 k171
  · have e1 : tl = 1 := by omega
    subst e1
    rw [if_neg (show ¬ nI 1 = (0 : Int32) by decide)]
    exact x_lines (St_up h2 (s14 _)) hl (key 1 rfl) k143 k171
theorem x_judge (h : St n L D I0 I) (hl : l < D.nL) (ha : a < D.nA) (hb : b < D.nA) {tl : Nat} (htl : tl < 2) {Q : Int32 → Hp → Prop} (hQ : ∀ I' : Nat → Nat → Int32, St n L D I0 I' → Q (nI (sayF I0 l a b tl)) (fm I' L D)) : wp_X3_judge (240 + 2 * l) (some (160 + 2 * a)) (some (160 + 2 * b)) (nI tl) (some 13) (fm I L D) Q := by
  have hD := h.1.1
  have nL6 := hD.2.2.2.1
  have ht := hD.2.2.2.2.2.2.2.1 (2 + l) (by omega)
  have ht8 := tx_lt hD (show 2 + l < 2 + D.nL by omega)
  have kT : Kf D (20 + 8 * D.tx (2 + l)) = (25, 0) := Kf_text (r := 0) ht nL6 (by decide)
  have v8 : vp_in (8 : Int32) 14 := vp_in_nI (n := 8) (by decide) (by decide)
  have v9 : vp_in (9 : Int32) 14 := vp_in_nI (n := 9) (by decide) (by decide)
  have v10 : vp_in (10 : Int32) 14 := vp_in_nI (n := 10) (by decide) (by decide)
  have c8 : (8 : Int32).toNatClampNeg = 8 := rfl
  have c9 : (9 : Int32).toNatClampNeg = 9 := rfl
  have c10 : (10 : Int32).toNatClampNeg = 10 := rfl
  have s14 : ∀ k, Scr2 D 14 k := fun k => by unfold Scr2 Scr; omega
  unfold wp_X3_judge
  simp only [gK, gI, gL, gR_, g_stI, g_stL, forall_eq, true_and, ad_s, okA_s, okO_s, okN_s, i10, i00, if_true, if_false, reduceCtorEq, Kf_1, Kf_400, Kf_look hl nL6]
  refine x_measured h hl ha hb (fun W J hJ hW w1 w2 w3 => ?_)
  simp only [gK, gI, gL, gR_, g_stI, g_stL, forall_eq, true_and, ad_s, okA_s, okO_s, okN_s, i10, i00, if_true, if_false, reduceCtorEq, Kf_1, Kf_400, Kf_13, Rf_13_0, Kf_14, x_many (show W < 2 ^ 32 by omega) w1, x_longest (show W < 2 ^ 32 by omega) w3, x_slide (show W < 2 ^ 32 by omega) w2, v8, v9, v10, c8, c9, c10, Kf_look hl nL6, Rf_judg hl nL6, kT]
  have h3 : St n L D I0 (up2 (up2 (up2 J 14 8 (nI (bestM (row I0 a) (row I0 b) (I0 447 l)))) 14 9 (nI (longF (row I0 a) (row I0 b) (I0 447 l)))) 14 10 (nI (bestF (row I0 a) (row I0 b) (I0 447 l)))) := St_up (St_up (St_up hJ (s14 _)) (s14 _)) (s14 _)
  by_cases e : up2 (up2 (up2 J 14 8 (nI (bestM (row I0 a) (row I0 b) (I0 447 l)))) 14 9 (nI (longF (row I0 a) (row I0 b) (I0 447 l)))) 14 10 (nI (bestF (row I0 a) (row I0 b) (I0 447 l))) (20 + 8 * D.tx (2 + l)) 8 = 0
  · rw [if_pos e]
    refine x_J76 h3 hl ha hb htl ?_ ?_ up2_s (fun z => absurd e z) hQ
    · rw [up2_o (by omega), up2_o (by omega), up2_s]
    · rw [up2_o (by omega), up2_s]
  · rw [if_neg e]
    refine x_piecesOf14 h3 hl ha hb (fun J' hJ' f14 => ?_)
    refine x_J76 hJ' hl ha hb htl ?_ ?_ ?_ (fun _ => rfl) hQ
    · rw [f14, up2_o (by omega), up2_o (by omega), up2_s]
    · rw [f14, up2_o (by omega), up2_s]
    · rw [f14, up2_s]
end JU
