/-! WHAT A QUESTION LEAVES AS IT IS, AND WHAT IS KEPT (my own) -/
/-- what nobody looks at, but the sets and groups of a call -/
def Scr2 (D : DD) (l k : Nat) : Prop := Scr D l k ∧ ¬ (l = 18 ∨ l = 19 ∨ l = 458 ∨ l = 460 ∨ (l = 400 ∧ (k = 60 ∨ k = 61)))
def Same (D : DD) (I I' : Nat → Nat → Int32) : Prop := D.tx 0 < 8 ∧ ∀ l k, ¬ Scr2 D l k → ¬ Xs_K l k → ¬ Xs_V l k → I' l k = I l k
theorem Same.refl {D : DD} {I : Nat → Nat → Int32} (h : D.tx 0 < 8) : Same D I I := ⟨h, fun _ _ _ _ _ => rfl⟩
theorem Same.trans {D : DD} {I J K : Nat → Nat → Int32} (h1 : Same D I J) (h2 : Same D J K) : Same D I K := ⟨h1.1, fun l k a b c => (h2.2 l k a b c).trans (h1.2 l k a b c)⟩
theorem Same.row {D : DD} {I J : Nat → Nat → Int32} (h : Same D I J) (a : Nat) : row J a = row I a := by
  unfold Jvm.Pilot.COneBarrelLaw_law_r7749_c425b7.row
  funext j
  have t0 := h.1
  exact h.2 414 _ (by first | (unfold Scr2 Scr; omega) | (unfold Scr; omega)) (by unfold Xs_K; omega) (by unfold Xs_V; omega)
theorem Same.mg {D : DD} {I J : Nat → Nat → Int32} (h : Same D I J) (l : Nat) : J 447 l = I 447 l := by
  have t0 := h.1
  exact h.2 447 _ (by first | (unfold Scr2 Scr; omega) | (unfold Scr; omega)) (by unfold Xs_K; omega) (by unfold Xs_V; omega)
theorem Same.ts {D : DD} {I J : Nat → Nat → Int32} (h : Same D I J) {r : Nat} (hr : r < 7) : TSame I J r := by
  have t0 := h.1
  exact ⟨h.2 _ _ (by first | (unfold Scr2 Scr; omega) | (unfold Scr; omega)) (by unfold Xs_K; omega) (by unfold Xs_V; omega), fun i hi => ⟨h.2 _ _ (by first | (unfold Scr2 Scr; omega) | (unfold Scr; omega)) (by unfold Xs_K; omega) (by unfold Xs_V; omega), h.2 _ _ (by first | (unfold Scr2 Scr; omega) | (unfold Scr; omega)) (by unfold Xs_K; omega) (by unfold Xs_V; omega), h.2 _ _ (by first | (unfold Scr2 Scr; omega) | (unfold Scr; omega)) (by unfold Xs_K; omega) (by unfold Xs_V; omega), h.2 _ _ (by first | (unfold Scr2 Scr; omega) | (unfold Scr; omega)) (by unfold Xs_K; omega) (by unfold Xs_V; omega)⟩, fun k hk => ⟨h.2 _ _ (by first | (unfold Scr2 Scr; omega) | (unfold Scr; omega)) (by unfold Xs_K; omega) (by unfold Xs_V; omega), h.2 _ _ (by first | (unfold Scr2 Scr; omega) | (unfold Scr; omega)) (by unfold Xs_K; omega) (by unfold Xs_V; omega)⟩⟩
theorem Same.say {n : Nat} {L : Nat → Nat → Int64} {D : DD} {I J : Nat → Nat → Int32} (h : Same D I J) (hI : InvI n I L D) {l : Nat} (hl : l < D.nL) (a b t : Nat) : sayF J l a b t = sayF I l a b t := by
  have nL6 := hI.1.2.2.2.1
  have t0 := h.1
  exact sayF_cg (hI.2.2.2.2.2.2.2.2.2.2.1.2 l hl) (h.ts (by omega)) (funext fun j => h.2 414 _ (by first | (unfold Scr2 Scr; omega) | (unfold Scr; omega)) (by unfold Xs_K; omega) (by unfold Xs_V; omega)) (h.mg l)
def St (n : Nat) (L : Nat → Nat → Int64) (D : DD) (I0 I : Nat → Nat → Int32) : Prop := InvI n I L D ∧ Same D I0 I
theorem St.refl {n : Nat} {L : Nat → Nat → Int64} {D : DD} {I : Nat → Nat → Int32} (h : InvI n I L D) : St n L D I I := ⟨h, Same.refl (tx_lt h.1 (by omega))⟩
theorem St_scr {n : Nat} {L : Nat → Nat → Int64} {D : DD} {I0 I I' : Nat → Nat → Int32} (h : St n L D I0 I) (hs : ∀ l k, ¬ Scr2 D l k → I' l k = I l k) : St n L D I0 I' := ⟨InvI_scr h.1 (fun l k z => hs l k (fun q => z q.1)), h.2.1, fun l k a b c => (hs l k a).trans (h.2.2 l k a b c)⟩
theorem St_up {n : Nat} {L : Nat → Nat → Int64} {D : DD} {I0 I : Nat → Nat → Int32} {a k : Nat} {v : Int32} (h : St n L D I0 I) (hs : Scr2 D a k) : St n L D I0 (up2 I a k v) := St_scr h (fun l j hn => up2_o (fun ⟨e1, e2⟩ => by subst e1; subst e2; exact hn hs))
theorem St_told {n : Nat} {L : Nat → Nat → Int64} {D : DD} {I0 I : Nat → Nat → Int32} (h : St n L D I0 I) : St n L D I0 (up2 I 400 0 0) := St_up h ⟨Scr_told, by omega⟩
theorem St.inv {n : Nat} {L : Nat → Nat → Int64} {D : DD} {I0 I : Nat → Nat → Int32} (h : St n L D I0 I) : Inv (n + 1) (fm I L D) := Inv_of h.1
def KE (I : Nat → Nat → Int32) (l a b : Nat) (v : Int32) : Prop := ∃ m s g mf pc pf s0 s1 : Nat, v = nI (enc m s g mf pc pf s0 s1) ∧ ((mf = 0 ∧ m = 0 ∧ s = 0 ∧ g = 0) ∨ (mf = 1 ∧ m = bestM (row I a) (row I b) (I 447 l) ∧ s = bestF (row I a) (row I b) (I 447 l) ∧ g = longF (row I a) (row I b) (I 447 l))) ∧ ((pf = 0 ∧ pc = 0) ∨ (pf = 1 ∧ pc = piecesF (row I a) (row I b) (I 447 l))) ∧ (s0 = 0 ∨ s0 = sayF I l a b 0 + 1) ∧ (s1 = 0 ∨ s1 = sayF I l a b 1 + 1)
theorem Xs_K_of {l : Nat} (hl : l < 6) (k : Nat) : Xs_K (240 + 2 * l + 1) k := by unfold Xs_K; omega
theorem Same_K {D : DD} {I : Nat → Nat → Int32} {l k : Nat} {v : Int32} (hl : l < 6) (ht : D.tx 0 < 8) : Same D I (up2 I (240 + 2 * l + 1) k v) := ⟨ht, fun l' k' h1 h2 h3 => up2_o (fun ⟨e1, e2⟩ => h2 (by rw [e1]; exact Xs_K_of hl _))⟩
theorem KE_cg {n : Nat} {L : Nat → Nat → Int64} {D : DD} {I J : Nat → Nat → Int32} (hs : Same D I J) (hI : InvI n I L D) {l a b : Nat} (hl : l < D.nL) {v : Int32} : KE J l a b v ↔ KE I l a b v := by
  unfold KE
  rw [hs.row, hs.row, hs.mg, hs.say hI hl, hs.say hI hl]
theorem CK_set {n : Nat} {I : Nat → Nat → Int32} {L : Nat → Nat → Int64} {D : DD} {l a b : Nat} {v : Int32} (h : InvI n I L D) (hl : l < D.nL) (ha : a < D.nA) (hb : b < D.nA) (hv : KE I l a b v) : InvI n (up2 I (240 + 2 * l + 1) (40 * a + b) v) L D := by
  have nL6 := h.1.2.2.2.1
  have nA40 := h.1.2.2.1
  have hs : Same D I (up2 I (240 + 2 * l + 1) (40 * a + b) v) := Same_K (by omega) (tx_lt h.1 (by omega))
  refine InvI_K h ?_ (fun l' k' h1 h2 => up2_o (fun ⟨e1, e2⟩ => h2 (by rw [e1]; exact Xs_K_of (by omega) _)))
  intro l' a' b' hl' ha' hb'
  obtain ⟨q1, q2⟩ := h.2.2.2.2.2.2.2.2.2.2.2.1 l' a' b' hl' ha' hb'
  by_cases e : l' = l ∧ a' = a ∧ b' = b
  · obtain ⟨rfl, rfl, rfl⟩ := e
    refine ⟨fun z => by omega, fun _ _ => ?_⟩
    rw [up2_s]
    exact (KE_cg hs h hl').mpr hv
  · rw [up2_o (show ¬ (240 + 2 * l' + 1 = 240 + 2 * l + 1 ∧ 40 * a' + b' = 40 * a + b) by omega)]
    exact ⟨q1, fun z1 z2 => (KE_cg hs h hl').mpr (q2 z1 z2)⟩
theorem St_K {n : Nat} {I0 I : Nat → Nat → Int32} {L : Nat → Nat → Int64} {D : DD} {l a b : Nat} {v : Int32} (h : St n L D I0 I) (hl : l < D.nL) (ha : a < D.nA) (hb : b < D.nA) (hv : KE I l a b v) : St n L D I0 (up2 I (240 + 2 * l + 1) (40 * a + b) v) := ⟨CK_set h.1 hl ha hb hv, h.2.trans (Same_K (by have := h.1.1.2.2.2.1; omega) h.2.1)⟩
/-! only the 32 hairs count -/
theorem rn_cg {p p' q q' : Nat → Int32} (hp : ∀ j, j < 32 → p' j = p j) (hq : ∀ j, j < 32 → q' j = q j) {mg : Int32} {s i : Nat} (hi : i < 32) : rn p' q' mg s i = rn p q mg s i := by
  unfold rn
  rw [hp i hi, hq _ (Nat.mod_lt _ (by decide))]
theorem manyF_cg {p p' q q' : Nat → Int32} (hp : ∀ j, j < 32 → p' j = p j) (hq : ∀ j, j < 32 → q' j = q j) {mg : Int32} : manyF p' q' mg = manyF p q mg := by
  funext s
  exact cnt_cg (fun i hi => rn_cg hp hq hi)
theorem bestF_cg {p p' q q' : Nat → Int32} (hp : ∀ j, j < 32 → p' j = p j) (hq : ∀ j, j < 32 → q' j = q j) {mg : Int32} : bestF p' q' mg = bestF p q mg := by unfold bestF; rw [manyF_cg hp hq]
theorem bestM_cg {p p' q q' : Nat → Int32} (hp : ∀ j, j < 32 → p' j = p j) (hq : ∀ j, j < 32 → q' j = q j) {mg : Int32} : bestM p' q' mg = bestM p q mg := by unfold bestM; rw [manyF_cg hp hq, bestF_cg hp hq]
theorem longS_cg {p p' q q' : Nat → Int32} (hp : ∀ j, j < 32 → p' j = p j) (hq : ∀ j, j < 32 → q' j = q j) {mg : Int32} {s : Nat} : longS p' q' mg s = longS p q mg s := by
  unfold longS
  rw [lng_cg (fun i hi => rn_cg hp hq hi)]
theorem longF_cg {p p' q q' : Nat → Int32} (hp : ∀ j, j < 32 → p' j = p j) (hq : ∀ j, j < 32 → q' j = q j) {mg : Int32} : longF p' q' mg = longF p q mg := by unfold longF; rw [bestF_cg hp hq, longS_cg hp hq]
/-! bits of what is kept -/
theorem nat_bit (W k : Nat) : W &&& 2 ^ k = 2 ^ k * (W / 2 ^ k % 2) := by
  apply Nat.eq_of_testBit_eq
  intro i
  rw [Nat.testBit_and, Nat.testBit_two_pow, Nat.testBit_two_pow_mul, Nat.testBit_eq_decide_div_mod_eq (x := W)]
  by_cases e : k = i
  · subst e
    have hlt : W / 2 ^ k % 2 < 2 := Nat.mod_lt _ (by decide)
    simp only [decide_true, Bool.and_true, Nat.le_refl, ge_iff_le, Nat.sub_self, Nat.testBit_zero, Bool.true_and]
    congr 1
    apply propext
    omega
  · simp only [e, decide_false, Bool.and_false]
    symm
    rw [Bool.and_eq_false_iff]
    by_cases h2 : k ≤ i
    · right
      apply Nat.testBit_lt_two_pow
      exact Nat.lt_of_lt_of_le (Nat.mod_lt _ (by decide)) (Nat.pow_le_pow_right (n := 2) (by decide) (show 1 ≤ i - k by omega))
    · left; simp [h2]
theorem bit_is {W k d : Nat} (hd : W / 2 ^ k % 2 = d) : nI W &&& nI (2 ^ k) = nI (2 ^ k * d) := by rw [nx_and, nat_bit, hd]
theorem or_add {a c d k j W X R : Nat} (ha : a < 2 ^ k) (hd : d < 2 ^ j) (hW : W = a + 2 ^ (k + j) * c) (hX : X = 2 ^ k * d) (hR : R = a + 2 ^ k * d + 2 ^ (k + j) * c) : nI W ||| nI X = nI R := by
  have e2 : a + 2 ^ k * d < 2 ^ (k + j) := by
    have : 2 ^ k * d + 2 ^ k ≤ 2 ^ k * 2 ^ j := by
      rw [← Nat.mul_succ]; exact Nat.mul_le_mul_left _ hd
    rw [Nat.pow_add]; omega
  have e1 : a < 2 ^ (k + j) := Nat.lt_of_lt_of_le ha (Nat.pow_le_pow_right (by decide) (by omega))
  rw [hW, hX, hR, ← or_sum e1, Int32.or_assoc, Int32.or_comm (nI (2 ^ (k + j) * c)), ← Int32.or_assoc, or_sum ha, or_sum e2]
theorem ix40 (i j : Nat) : nI i * (40 : Int32) + nI j = nI (40 * i + j) := by rw [show (40 : Int32) = nI 40 from rfl, pk_mul, nI_add, Nat.mul_comm]
theorem rg_row {n : Nat} {I : Nat → Nat → Int32} {L : Nat → Nat → Int64} {D : DD} (h : InvI n I L D) {a : Nat} (ha : a < D.nA) : rg (row I a) := fun j hj => ((h.2.2.2.2.2.1 a ha).1 j hj).2
theorem row_x {n : Nat} {I : Nat → Nat → Int32} {L : Nat → Nat → Int64} {D : DD} (h : InvI n I L D) {a : Nat} (ha : a < D.nA) : ∀ j, j < 32 → I (160 + 2 * a + 1) j = row I a j := fun j hj => ((h.2.2.2.2.2.1 a ha).1 j hj).1
theorem rg_x {n : Nat} {I : Nat → Nat → Int32} {L : Nat → Nat → Int64} {D : DD} (h : InvI n I L D) {a : Nat} (ha : a < D.nA) : rg (I (160 + 2 * a + 1)) := fun j hj => by rw [row_x h ha j hj]; exact rg_row h ha j hj
theorem sayL_le (I : Nat → Nat → Int32) (fx : Nat → Int32) (r : Nat) : ∀ n i, sayL I fx r i n ≤ 2 := by
  intro n
  induction n with
  | zero => intro i; exact Nat.le_refl _
  | succ n ih =>
    intro i
    unfold sayL
    split
    · split <;> omega
    · exact ih _
theorem sayF_le (I : Nat → Nat → Int32) (l a b t : Nat) : sayF I l a b t ≤ 2 := sayL_le _ _ _ _ _
theorem pcs_le (f : Nat → Nat → Bool) : ∀ i c s, pcs f i c s ≤ i := by
  intro i
  induction i with
  | zero => intro c s; cases c <;> exact Nat.le_refl _
  | succ i ih =>
    intro c s
    cases c with
    | zero =>
      have := ih 0 s
      unfold pcs; split <;> omega
    | succ c =>
      have h1 := ih (c + 1) s
      have h2 := ih c ((s + 31) % 32)
      have h3 := ih c ((s + 1) % 32)
      unfold pcs; split <;> omega
theorem maxTo_le (f : Nat → Nat) {B : Nat} (h : ∀ s, f s ≤ B) (n : Nat) : maxTo f n ≤ B := by
  induction n with
  | zero => exact Nat.zero_le _
  | succ n ih => have := h n; unfold maxTo; omega
theorem piecesF_le (p q : Nat → Int32) (mg : Int32) : piecesF p q mg ≤ 32 := maxTo_le _ (fun s => pcs_le _ 32 3 s) 32
/-- what is kept, with its bounds -/
theorem CK_get {n : Nat} {I : Nat → Nat → Int32} {L : Nat → Nat → Int64} {D : DD} {l a b : Nat} (h : InvI n I L D) (hl : l < D.nL) (ha : a < D.nA) (hb : b < D.nA) : ∃ m s g mf pc pf s0 s1 : Nat, I (240 + 2 * l + 1) (40 * a + b) = nI (enc m s g mf pc pf s0 s1) ∧ m ≤ 32 ∧ s < 32 ∧ g ≤ 32 ∧ pc ≤ 32 ∧ s0 ≤ 3 ∧ s1 ≤ 3 ∧ ((mf = 0 ∧ m = 0 ∧ s = 0 ∧ g = 0) ∨ (mf = 1 ∧ m = bestM (row I a) (row I b) (I 447 l) ∧ s = bestF (row I a) (row I b) (I 447 l) ∧ g = longF (row I a) (row I b) (I 447 l))) ∧ ((pf = 0 ∧ pc = 0) ∨ (pf = 1 ∧ pc = piecesF (row I a) (row I b) (I 447 l))) ∧ (s0 = 0 ∨ s0 = sayF I l a b 0 + 1) ∧ (s1 = 0 ∨ s1 = sayF I l a b 1 + 1) := by
  have nA40 := h.1.2.2.1
  obtain ⟨m, s, g, mf, pc, pf, s0, s1, e, c1, c2, c3, c4⟩ := (h.2.2.2.2.2.2.2.2.2.2.2.1 l a b hl (by omega) (by omega)).2 ha hb
  have b1 : bestM (row I a) (row I b) (I 447 l) ≤ 32 := manyF_le _ _ _ _
  have b2 : bestF (row I a) (row I b) (I 447 l) < 32 := bestF_lt _ _ _
  have b3 : longF (row I a) (row I b) (I 447 l) ≤ 32 := longS_le _ _ _ _
  have b4 := piecesF_le (row I a) (row I b) (I 447 l)
  have b5 := sayF_le I l a b 0
  have b6 := sayF_le I l a b 1
  exact ⟨m, s, g, mf, pc, pf, s0, s1, e, by omega, by omega, by omega, by omega, by omega, by omega, c1, c2, c3, c4⟩
section X
variable {n : Nat} {I0 I : Nat → Nat → Int32} {L : Nat → Nat → Int64} {D : DD} {l a b : Nat}
theorem x_measured (h : St n L D I0 I) (hl : l < D.nL) (ha : a < D.nA) (hb : b < D.nA) {Q : Int32 → Hp → Prop} (hQ : ∀ (W : Nat) (I' : Nat → Nat → Int32), St n L D I0 I' → W < 2 ^ 31 → W % 64 = bestM (row I0 a) (row I0 b) (I0 447 l) → W / 64 % 32 = bestF (row I0 a) (row I0 b) (I0 447 l) → W / 2048 % 64 = longF (row I0 a) (row I0 b) (I0 447 l) → Q (nI W) (fm I' L D)) : wp_X3_measured (240 + 2 * l) (some (160 + 2 * a)) (some (160 + 2 * b)) (fm I L D) Q := by
  have n3 := h.1.1.2.2.1
  have nL6 := h.1.1.2.2.2.1
  obtain ⟨m, s, g, mf, pc, pf, s0, s1, e, d1, d2, d3, d4, d5, d6, c1, c2, c3, c4⟩ := CK_get h.1 hl ha hb
  have hmg := ((h.1.2.2.2.2.2.2.1 l).1 hl)
  obtain ⟨mg, hmg16, emg⟩ := inN_of (by decide) hmg.2
  have eA := (h.1.2.2.2.2.2.1 a ha).2.1
  have eB := (h.1.2.2.2.2.2.1 b hb).2.1
  have hpf : pf ≤ 1 := by omega
  have hmf : mf ≤ 1 := by omega
  unfold wp_X3_measured
  simp only [gK, gI, gL, gR_, g_stI, g_stL, forall_eq, true_and, ad_s, okA_s, okO_s, okN_s, i10, i00, if_true, if_false, reduceCtorEq, Kf_1, Kf_400, Kf_ball ha n3, Kf_ball hb n3, eA, eB, ix40, Kf_look hl nL6, Rf_look hl nL6, Kf_lookr hl nL6, vp_in_nI (show 40 * a + b < 1600 by omega) (by decide), nI_clamp (show 40 * a + b < 2 ^ 31 by omega), e, Rf_ball ha n3, Rf_ball hb n3]
  have bb : nI (enc m s g mf pc pf s0 s1) &&& (131072 : Int32) = nI (131072 * mf) := by
    have := bit_is (W := enc m s g mf pc pf s0 s1) (k := 17) (d := mf) (by unfold enc; omega)
    exact this
  rw [bb]
  rcases c1 with ⟨e1, e2, e3, e4⟩ | ⟨e1, e2, e3, e4⟩
  · subst e1; subst e2; subst e3; subst e4
    rw [if_pos (show nI (131072 * 0) = (0 : Int32) from rfl)]
    rw [hmg.1, emg]
    refine x_measure (Kf_ballr ha n3) (Kf_ballr hb n3) hmg16 (rg_x h.1 ha) (rg_x h.1 hb) ?_
    rw [bestM_cg (row_x h.1 ha) (row_x h.1 hb), bestF_cg (row_x h.1 ha) (row_x h.1 hb), longF_cg (row_x h.1 ha) (row_x h.1 hb), ← emg]
    have b1 : bestM (row I a) (row I b) (I 447 l) ≤ 32 := manyF_le _ _ _ _
    have b2 : bestF (row I a) (row I b) (I 447 l) < 32 := bestF_lt _ _ _
    have b3 : longF (row I a) (row I b) (I 447 l) ≤ 32 := longS_le _ _ _ _
    have w1 : (131072 : Int32) ||| nI (bestM (row I a) (row I b) (I 447 l) + 64 * bestF (row I a) (row I b) (I 447 l) + 2048 * longF (row I a) (row I b) (I 447 l)) = nI (bestM (row I a) (row I b) (I 447 l) + 64 * bestF (row I a) (row I b) (I 447 l) + 2048 * longF (row I a) (row I b) (I 447 l) + 131072) := by
      rw [Int32.or_comm]
      exact or_sum (k := 17) (b := 1) (by omega)
    have w2 : nI (enc 0 0 0 0 pc pf s0 s1) ||| nI (bestM (row I a) (row I b) (I 447 l) + 64 * bestF (row I a) (row I b) (I 447 l) + 2048 * longF (row I a) (row I b) (I 447 l) + 131072) = nI (enc (bestM (row I a) (row I b) (I 447 l)) (bestF (row I a) (row I b) (I 447 l)) (longF (row I a) (row I b) (I 447 l)) 1 pc pf s0 s1) := by
      refine or_add (a := 0) (k := 0) (j := 18) (c := pc + 64 * pf + 128 * s0 + 512 * s1) (d := bestM (row I a) (row I b) (I 447 l) + 64 * bestF (row I a) (row I b) (I 447 l) + 2048 * longF (row I a) (row I b) (I 447 l) + 131072) (by decide) (by omega) ?_ (by omega) ?_
      · unfold enc; omega
      · unfold enc; omega
    rw [w1, w2]
    simp only [gK, gI, gL, gR_, g_stI, g_stL, forall_eq, true_and, ad_s, okA_s, okO_s, okN_s, i10, i00, if_true, if_false, reduceCtorEq, Kf_1, Kf_400, Kf_look hl nL6, Rf_look hl nL6, Kf_lookr hl nL6, vp_in_nI (show 40 * a + b < 1600 by omega) (by decide), nI_clamp (show 40 * a + b < 2 ^ 31 by omega), up2_s]
    refine hQ _ _ (St_K h hl ha hb ⟨_, _, _, _, _, _, _, _, rfl, Or.inr ⟨rfl, rfl, rfl, rfl⟩, c2, c3, c4⟩) ?_ ?_ ?_ ?_
    · unfold enc; omega
    · rw [← h.2.row, ← h.2.row, ← h.2.mg]; unfold enc; omega
    · rw [← h.2.row, ← h.2.row, ← h.2.mg]; unfold enc; omega
    · rw [← h.2.row, ← h.2.row, ← h.2.mg]; unfold enc; omega
  · subst e1
    rw [if_neg (show ¬ nI (131072 * 1) = (0 : Int32) by decide)]
    refine hQ _ _ h ?_ ?_ ?_ ?_
    · unfold enc; omega
    · rw [← h.2.row, ← h.2.row, ← h.2.mg]; unfold enc; omega
    · rw [← h.2.row, ← h.2.row, ← h.2.mg]; unfold enc; omega
    · rw [← h.2.row, ← h.2.row, ← h.2.mg]; unfold enc; omega
end X
