/-! LAWS at work: a row changes (my own) -/
def dr (s : Int32) : Int32 := (1664525 : Int32) * s + (1013904223 : Int32)
def drN (s : Int32) : Nat → Int32
  | 0 => s
  | i + 1 => dr (drN s i)
def d28 (s : Int32) : Int32 := (s.toUInt32 >>> ((28 : Int32).toUInt32 &&& Int32.toUInt32 31)).toInt32
def fxF (p : Nat → Int32) (sh ru so : Int32) (i : Nat) (d : Int32) (w : Nat) : Int32 := if w = 0 then nI i else if w = 1 then p i else if w = 2 then p ((i + 31) % 32) else if w = 3 then p ((i + 1) % 32) else if w = 4 then d28 d else if w = 5 then sh else if w = 6 then ru else so
def nhF (I : Nat → Nat → Int32) (p : Nat → Int32) (sh ru so law s : Int32) (n0 j : Nat) : Int32 := hgL I (fxF p sh ru so j (drN s (j + 1))) law (p j) 0 n0
theorem nhF_fun {I J : Nat → Nat → Int32} (h : ∀ l, 427 ≤ l → l ≤ 432 → J l = I l) (p : Nat → Int32) (sh ru so law s : Int32) (n0 j : Nat) : nhF J p sh ru so law s n0 j = nhF I p sh ru so law s n0 j := hgL_fun (h 427 (by omega) (by omega)) (h 428 (by omega) (by omega)) (h 429 (by omega) (by omega)) (h 430 (by omega) (by omega)) (h 431 (by omega) (by omega)) (h 432 (by omega) (by omega)) _ _ _ _ _
theorem fx_of {G p : Nat → Int32} {sh ru so d : Int32} {i : Nat} (h0 : G 0 = nI i) (h1 : G 1 = p i) (h2 : G 2 = p ((i + 31) % 32)) (h3 : G 3 = p ((i + 1) % 32)) (h4 : G 4 = d28 d) (h5 : G 5 = sh) (h6 : G 6 = ru) (h7 : G 7 = so) : ∀ w, w < 8 → G w = fxF p sh ru so i d w := by
  intro w hw
  have : w = 0 ∨ w = 1 ∨ w = 2 ∨ w = 3 ∨ w = 4 ∨ w = 5 ∨ w = 6 ∨ w = 7 := by omega
  rcases this with e | e | e | e | e | e | e | e <;> subst e
  · exact h0
  · exact h1
  · exact h2
  · exact h3
  · exact h4
  · exact h5
  · exact h6
  · exact h7
section CH
variable {L : Nat → Nat → Int64} {D : DD}
theorem x_tellHair {I : Nat → Nat → Int32} {i : Nat} {v : Int32} (hi : i < 32) {Q : Hp → Prop} (hQ : ∀ I' : Nat → Nat → Int32, (∀ l k, ¬ (l = 14 ∧ k < 5) → I' l k = I l k) → I' 14 0 = nI i → I' 14 1 = I 15 i → I' 14 2 = I 15 ((i + 31) % 32) → I' 14 3 = I 15 ((i + 1) % 32) → I' 14 4 = v → Q (fm I' L D)) : wp_X10_tellHair 13 (nI i) v (fm I L D) Q := by
  have e1 : nI i &&& (31 : Int32) = nI i := by rw [and31 (by omega), Nat.mod_eq_of_lt hi]
  have e2 : (nI i - (1 : Int32)) &&& (31 : Int32) = nI ((i + 31) % 32) := sm1 hi
  have e3 : (nI i + (1 : Int32)) &&& (31 : Int32) = nI ((i + 1) % 32) := by rw [nI_1, and31 (by omega)]
  have b2 : (i + 31) % 32 < 32 := Nat.mod_lt _ (by decide)
  have b3 : (i + 1) % 32 < 32 := Nat.mod_lt _ (by decide)
  have v0 : vp_in (0 : Int32) 14 := vp_in_nI (n := 0) (by decide) (by decide)
  have v1 : vp_in (1 : Int32) 14 := vp_in_nI (n := 1) (by decide) (by decide)
  have v2 : vp_in (2 : Int32) 14 := vp_in_nI (n := 2) (by decide) (by decide)
  have v3 : vp_in (3 : Int32) 14 := vp_in_nI (n := 3) (by decide) (by decide)
  have v4 : vp_in (4 : Int32) 14 := vp_in_nI (n := 4) (by decide) (by decide)
  have n0 : (0 : Int32).toNatClampNeg = 0 := by decide
  have n1 : (1 : Int32).toNatClampNeg = 1 := by decide
  have n2 : (2 : Int32).toNatClampNeg = 2 := by decide
  have n3 : (3 : Int32).toNatClampNeg = 3 := by decide
  have n4 : (4 : Int32).toNatClampNeg = 4 := by decide
  have o15 : ∀ (J : Nat → Nat → Int32) k v j, up2 J 14 k v 15 j = J 15 j := fun J k v j => up2_o (by omega)
  unfold wp_X10_tellHair
  simp only [gK, gI, gL, gR_, g_stI, g_stL, forall_eq, true_and, ad_s, okA_s, okO_s, okN_s, i10, i00, if_true, if_false, reduceCtorEq, Kf_1, Kf_400, Kf_13, Rf_13_0, Rf_13_1, Kf_14, Kf_15, e1, e2, e3, v0, v1, v2, v3, v4, n0, n1, n2, n3, n4, vp_in_nI hi (show 32 < 2 ^ 31 by decide), vp_in_nI b2 (show 32 < 2 ^ 31 by decide), vp_in_nI b3 (show 32 < 2 ^ 31 by decide), nI_clamp (show i < 2 ^ 31 by omega), nI_clamp (show (i + 31) % 32 < 2 ^ 31 by omega), nI_clamp (show (i + 1) % 32 < 2 ^ 31 by omega), o15]
  refine hQ _ (fun l k hn => ?_) ?_ ?_ ?_ ?_ up2_s
  · rw [up2_o (by omega), up2_o (by omega), up2_o (by omega), up2_o (by omega), up2_o (by omega)]
  · rw [up2_o (by omega), up2_o (by omega), up2_o (by omega), up2_o (by omega), up2_s]
  · rw [up2_o (by omega), up2_o (by omega), up2_o (by omega), up2_s]
  · rw [up2_o (by omega), up2_o (by omega), up2_s]
  · rw [up2_o (by omega), up2_s]
theorem x_change {I : Nat → Nat → Int32} {t0 n0 law ra : Nat} {p : Nat → Int32} {sh ru so s : Int32} (ht : t0 < 2 + D.nL) (hL6 : D.nL ≤ 6) (hT : TR I t0 0 0 8 0 3) (hn0 : I 426 0 = nI n0) (hn : n0 ≤ 16) (hlaw : law < 3) (kra : Kf D ra = (1, 32)) (hra : 100 ≤ ra ∧ ra < 400) (hp : ∀ j, j < 32 → I ra j = p j) (h5 : I 14 5 = sh) (h6 : I 14 6 = ru) (h7 : I 14 7 = so) {Q : Int32 → Hp → Prop} (hQ : ∀ I' : Nat → Nat → Int32, (∀ l k, ¬ (l = 14 ∨ l = 15 ∨ l = 20 + 8 * t0 + 6 ∨ (l = ra ∧ k < 32)) → I' l k = I l k) → (∀ j, j < 32 → I' ra j = nhF I p sh ru so (nI law) s n0 j) → I' 14 5 = sh → I' 14 6 = ru → I' 14 7 = so → Q (drN s 32) (fm I' L D)) : wp_X7_change (20 + 8 * t0) (some ra) (nI (260 + law)) s (some 13) (fm I L D) Q := by
  have kT : Kf D (20 + 8 * t0) = (25, 0) := Kf_text (r := 0) ht hL6 (by decide)
  have key : ∀ (N i : Nat) (J : Nat → Nat → Int32), i ≤ 32 → 33 ≤ N + i → (∀ l k, ¬ (l = 14 ∨ l = 15 ∨ l = 20 + 8 * t0 + 6 ∨ (l = ra ∧ k < 32)) → J l k = I l k) → (∀ j, j < 32 → J 15 j = p j) → (∀ j, j < 32 → J ra j = if j < i then nhF I p sh ru so (nI law) s n0 j else p j) → J 14 5 = sh → J 14 6 = ru → J 14 7 = so → wp_X7_change_L19 (20 + 8 * t0) (some ra) (nI (260 + law)) (some 13) (fun y19 h18 => Q y19 h18) Q N (drN s i) (nI i) (fm J L D) := by
    intro N
    induction N with
    | zero => intro i J h1 h2; omega
    | succ N ih =>
      intro i J h1 h2 hJ h15 hrow g5 g6 g7
      rw [wp_X7_change_L19]
      by_cases e : i = 32
      · subst e
        rw [if_pos (show (32 : Int32) ≤ nI 32 from by decide)]
        exact hQ J hJ (fun j hj => by rw [hrow j hj, if_pos hj]) g5 g6 g7
      · rw [if_neg (show ¬ (32 : Int32) ≤ nI i from nI_ge (b := 32) (by omega) (by decide))]
        have hi : i < 32 := by omega
        simp only [gK, gI, gL, gR_, g_stI, g_stL, forall_eq, true_and, ad_s, okA_s, okO_s, okN_s, i10, i00, if_true, if_false, reduceCtorEq, Kf_1, Kf_400, Kf_13]
        refine x_tellHair hi (fun J1 f1 t0' t1 t2 t3 t4 => ?_)
        have e1 : J1 ra i = p i := by rw [f1 ra i (by omega), hrow i hi, if_neg (by omega)]
        simp only [gK, gI, gL, gR_, g_stI, g_stL, forall_eq, true_and, ad_s, okA_s, okO_s, okN_s, i10, i00, if_true, if_false, reduceCtorEq, Kf_1, Kf_400, kra, Kf_13, Rf_13_0, kT, vp_in_nI hi (show 32 < 2 ^ 31 by decide), nI_clamp (show i < 2 ^ 31 by omega), e1]
        have fr : ∀ l k, ¬ (l = 14 ∨ l = 15 ∨ l = 20 + 8 * t0 + 6 ∨ (l = ra ∧ k < 32)) → J1 l k = I l k := fun l k z => (f1 l k (by omega)).trans (hJ l k z)
        have T1 : TR J1 t0 0 0 8 0 3 := TR_cg hT ⟨fr _ _ (by omega), fun i hi => ⟨fr _ _ (by omega), fr _ _ (by omega), fr _ _ (by omega), fr _ _ (by omega)⟩, fun k hk => ⟨fr _ _ (by omega), fr _ _ (by omega)⟩⟩ (fun k => fr _ _ (by omega)) (fun j k j1 j2 => fr _ _ (by omega))
        have FX := fx_of (G := J1 14) (p := p) (sh := sh) (ru := ru) (so := so) (d := drN s (i + 1)) (i := i) t0' (by rw [t1]; exact h15 i hi) (by rw [t2]; exact h15 _ (by omega)) (by rw [t3]; exact h15 _ (by omega)) t4 (by rw [f1 _ _ (by omega)]; exact g5) (by rw [f1 _ _ (by omega)]; exact g6) (by rw [f1 _ _ (by omega)]; exact g7)
        refine x_newHeight (F := fxF p sh ru so i (drN s (i + 1))) ht hL6 T1 ((fr _ _ (by omega)).trans hn0) hn hlaw FX (fun J2 f2 => ?_)
        have hv : hgL J1 (fxF p sh ru so i (drN s (i + 1))) (nI law) (p i) 0 n0 = nhF I p sh ru so (nI law) s n0 i := nhF_fun (J := J1) (I := I) (fun l a1 a2 => funext fun k => fr l k (by omega)) p sh ru so (nI law) s n0 i
        rw [hv]
        simp only [gK, gI, gL, gR_, g_stI, g_stL, forall_eq, true_and, ad_s, okA_s, okO_s, okN_s, i10, i00, if_true, if_false, reduceCtorEq, Kf_1, Kf_400, kra, vp_in_nI hi (show 32 < 2 ^ 31 by decide), nI_clamp (show i < 2 ^ 31 by omega), nI_1]
        refine ih (i + 1) _ (by omega) (by omega) (fun l k z => ?_) (fun j hj => ?_) (fun j hj => ?_) ?_ ?_ ?_
        · rw [up2_o (by omega), f2 l k (by omega)]; exact fr l k z
        · rw [up2_o (by omega), f2 _ _ (by omega), f1 _ _ (by omega)]; exact h15 j hj
        · by_cases ej : j = i
          · subst ej; rw [up2_s, if_pos (by omega)]
          · rw [up2_o (by omega), f2 _ _ (by omega), f1 _ _ (by omega), hrow j hj]
            by_cases e2 : j < i
            · rw [if_pos e2, if_pos (by omega)]
            · rw [if_neg e2, if_neg (by omega)]
        · rw [up2_o (by omega), f2 _ _ (by omega), f1 _ _ (by omega)]; exact g5
        · rw [up2_o (by omega), f2 _ _ (by omega), f1 _ _ (by omega)]; exact g6
        · rw [up2_o (by omega), f2 _ _ (by omega), f1 _ _ (by omega)]; exact g7
  unfold wp_X7_change
  have ok : okC (fm I L D) (some ra) 0 (Rf D 13 1) 0 32 := by
    refine ⟨rfl, ?_, rfl, ?_, by decide, by decide, by decide, ?_, ?_⟩
    · show (Kf D ra).1 = 1; rw [kra]
    · rfl
    · show _ ≤ (Kf D ra).2; rw [kra]; decide
    · show _ ≤ 32; decide
  simp only [gK, gI, gL, gR_, g_stI, g_stL, forall_eq, true_and, ad_s, okA_s, okO_s, okN_s, i10, i00, if_true, if_false, reduceCtorEq, Kf_1, Kf_400, Kf_13, ok, show (0 : Int32).toNatClampNeg = 0 from by decide, show (32 : Int32).toNatClampNeg = 32 from by decide]
  have ecp : cpI (fm I L D) ra 15 0 0 32 = fm (fun b j => if b = 15 then va_cpy (I ra) (I 15) 0 0 32 j else I b j) L D := rfl
  rw [Rf_13_1]
  simp only [ad_s, ecp]
  refine key fuel 0 _ (by omega) (by have := fuel_ge; omega) (fun l k z => ?_) (fun j hj => ?_) (fun j hj => ?_) ?_ ?_ ?_
  · rw [if_neg (by omega)]
  · rw [if_pos rfl, pk_cpy_in (by omega) (by omega), Nat.zero_add, Nat.sub_zero]; exact hp j hj
  · rw [if_neg (by omega), if_neg (by omega)]; exact hp j hj
  · rw [if_neg (by omega)]; exact h5
  · rw [if_neg (by omega)]; exact h6
  · rw [if_neg (by omega)]; exact h7
theorem m_changes {I : Nat → Nat → Int32} {t0 n0 law lab bs m : Nat} {p : Nat → Int32} {sh ru so s : Int32} (hT : TR I t0 0 0 8 0 3) (ht8 : t0 < 8) (hn0 : I 426 0 = nI n0) (hn : n0 ≤ 16) (hlaw : law < 3) (kl : Kf D lab = (1, m)) (hm : bs + 32 ≤ m) (hm2 : m ≤ 1000) (hlab : 402 < lab ∧ lab < 408) (hp : ∀ j, j < 32 → I lab (bs + j) = p j) (h5 : I 442 5 = sh) (h6 : I 442 6 = ru) (h7 : I 442 7 = so) (hs : I 400 43 = s) {Q : Hp → Prop} (hQ : ∀ I' : Nat → Nat → Int32, (∀ l k, ¬ (l = 442 ∨ l = 443 ∨ l = 445 ∨ (l = 400 ∧ k = 43)) → I' l k = I l k) → (∀ j, j < 32 → I' 445 j = nhF I p sh ru so (nI law) s n0 j) → I' 400 43 = drN s 32 → I' 442 5 = sh → I' 442 6 = ru → I' 442 7 = so → Q (fm I' L D)) : wp_X12_changes 400 (some lab) (nI bs) (nI law) (fm I L D) Q := by
  have v0 : vp_in (0 : Int32) 14 := vp_in_nI (n := 0) (by decide) (by decide)
  have v1 : vp_in (1 : Int32) 14 := vp_in_nI (n := 1) (by decide) (by decide)
  have v2 : vp_in (2 : Int32) 14 := vp_in_nI (n := 2) (by decide) (by decide)
  have v3 : vp_in (3 : Int32) 14 := vp_in_nI (n := 3) (by decide) (by decide)
  have v4 : vp_in (4 : Int32) 14 := vp_in_nI (n := 4) (by decide) (by decide)
  have n0' : (0 : Int32).toNatClampNeg = 0 := by decide
  have n1 : (1 : Int32).toNatClampNeg = 1 := by decide
  have n2 : (2 : Int32).toNatClampNeg = 2 := by decide
  have n3 : (3 : Int32).toNatClampNeg = 3 := by decide
  have n4 : (4 : Int32).toNatClampNeg = 4 := by decide
  have p31 : ∀ a, nI a + (31 : Int32) = nI (a + 31) := fun a => nI_add a 31
  unfold wp_X12_changes
  have key : ∀ (N i : Nat) (J : Nat → Nat → Int32), i ≤ 32 → 33 ≤ N + i → (∀ l k, ¬ (l = 442 ∨ l = 443 ∨ l = 445 ∨ (l = 400 ∧ k = 43)) → J l k = I l k) → (∀ j, j < i → J 445 j = nhF I p sh ru so (nI law) s n0 j) → J 400 43 = drN s i → J 442 5 = sh → J 442 6 = ru → J 442 7 = so → wp_X12_changes_L3 400 (some lab) (nI bs) (nI law) (fun h31 => Q h31) Q N (nI i) (fm J L D) := by
    intro N
    induction N with
    | zero => intro i J h1 h2; omega
    | succ N ih =>
      intro i J h1 h2 hJ hnx hst g5 g6 g7
      rw [wp_X12_changes_L3]
      by_cases e : i = 32
      · subst e
        rw [if_pos (show (32 : Int32) ≤ nI 32 from by decide)]
        exact hQ J hJ (fun j hj => hnx j hj) hst g5 g6 g7
      · rw [if_neg (show ¬ (32 : Int32) ≤ nI i from nI_ge (b := 32) (by omega) (by decide))]
        have hi : i < 32 := by omega
        have b2 : (i + 31) % 32 < 32 := Nat.mod_lt _ (by decide)
        have b3 : (i + 1) % 32 < 32 := Nat.mod_lt _ (by decide)
        have lb : ∀ (K : Nat → Nat → Int32) a k v j, a = 442 ∨ a = 400 → up2 K a k v lab j = K lab j := fun K a k v j z => up2_o (by omega)
        have lb1 : ∀ (K : Nat → Nat → Int32) k v j, up2 K 442 k v lab j = K lab j := fun K k v j => lb K 442 k v j (Or.inl rfl)
        have lb2 : ∀ (K : Nat → Nat → Int32) k v j, up2 K 400 k v lab j = K lab j := fun K k v j => lb K 400 k v j (Or.inr rfl)
        have lb3 : ∀ (K : Nat → Nat → Int32) k v j, up2 K 442 k v 400 j = K 400 j := fun K k v j => up2_o (by omega)
        have p1 : J lab (bs + i) = p i := (hJ _ _ (by omega)).trans (hp i hi)
        have p2 : J lab (bs + (i + 31) % 32) = p ((i + 31) % 32) := (hJ _ _ (by omega)).trans (hp _ b2)
        have p3 : J lab (bs + (i + 1) % 32) = p ((i + 1) % 32) := (hJ _ _ (by omega)).trans (hp _ b3)
        simp only [gK, gI, gL, gR_, g_stI, g_stL, forall_eq, true_and, ad_s, okA_s, okO_s, okN_s, i10, i00, if_true, if_false, reduceCtorEq, Kf_1, Kf_400, hst, Rf_400_41, Kf_442, kl, v0, v1, v2, v3, v4, n0', n1, n2, n3, n4, p31, nI_1, rem32 (show i + 31 < 2 ^ 31 by omega), rem32 (show i + 1 < 2 ^ 31 by omega), nI_add, vp_in_nI (show bs + i < m by omega) (show m < 2 ^ 31 by omega), vp_in_nI (show bs + (i + 31) % 32 < m by omega) (show m < 2 ^ 31 by omega), vp_in_nI (show bs + (i + 1) % 32 < m by omega) (show m < 2 ^ 31 by omega), nI_clamp (show bs + i < 2 ^ 31 by omega), nI_clamp (show bs + (i + 31) % 32 < 2 ^ 31 by omega), nI_clamp (show bs + (i + 1) % 32 < 2 ^ 31 by omega), lb1, lb2, lb3, p1, p2, p3, up2_s]
        generalize hJ1 : up2 (up2 (up2 (up2 (up2 (up2 J 400 43 _) 442 0 _) 442 1 _) 442 2 _) 442 3 _) 442 4 _ = J1
        have f1 : ∀ l k, ¬ (l = 442 ∧ k < 5) → ¬ (l = 400 ∧ k = 43) → J1 l k = J l k := by
          intro l k a1 a2
          rw [← hJ1, up2_o (by omega), up2_o (by omega), up2_o (by omega), up2_o (by omega), up2_o (by omega), up2_o (by omega)]
        have s1 : J1 400 43 = drN s (i + 1) := by
          rw [← hJ1, up2_o (by omega), up2_o (by omega), up2_o (by omega), up2_o (by omega), up2_o (by omega), up2_s]; rfl
        have t0' : J1 442 0 = nI i := by
          rw [← hJ1, up2_o (by omega), up2_o (by omega), up2_o (by omega), up2_o (by omega), up2_s]
        have t1 : J1 442 1 = p i := by
          rw [← hJ1, up2_o (by omega), up2_o (by omega), up2_o (by omega), up2_s]
        have t2 : J1 442 2 = p ((i + 31) % 32) := by
          rw [← hJ1, up2_o (by omega), up2_o (by omega), up2_s]
        have t3 : J1 442 3 = p ((i + 1) % 32) := by
          rw [← hJ1, up2_o (by omega), up2_s]
        have t4 : J1 442 4 = d28 (drN s (i + 1)) := by
          rw [← hJ1, up2_s]; rfl
        have fr : ∀ l k, ¬ (l = 442 ∨ l = 443 ∨ l = 445 ∨ (l = 400 ∧ k = 43)) → J1 l k = I l k := fun l k z => (f1 l k (by omega) (by omega)).trans (hJ l k z)
        have T1 : TR J1 t0 0 0 8 0 3 := TR_cg hT ⟨fr _ _ (by omega), fun i hi => ⟨fr _ _ (by omega), fr _ _ (by omega), fr _ _ (by omega), fr _ _ (by omega)⟩, fun k hk => ⟨fr _ _ (by omega), fr _ _ (by omega)⟩⟩ (fun k => fr _ _ (by omega)) (fun j k j1 j2 => fr _ _ (by omega))
        have FX := fx_of (G := J1 442) (p := p) (sh := sh) (ru := ru) (so := so) (d := drN s (i + 1)) (i := i) t0' t1 t2 t3 t4 (by rw [f1 _ _ (by omega) (by omega)]; exact g5) (by rw [f1 _ _ (by omega) (by omega)]; exact g6) (by rw [f1 _ _ (by omega) (by omega)]; exact g7)
        refine m_heightBy (F := fxF p sh ru so i (drN s (i + 1))) T1 ((fr _ _ (by omega)).trans hn0) hn hlaw FX (fun J2 f2 => ?_)
        have hv : hgL J1 (fxF p sh ru so i (drN s (i + 1))) (nI law) (fxF p sh ru so i (drN s (i + 1)) 1) 0 n0 = nhF I p sh ru so (nI law) s n0 i := nhF_fun (J := J1) (I := I) (fun l a1 a2 => funext fun k => fr l k (by omega)) p sh ru so (nI law) s n0 i
        rw [hv]
        simp only [gK, gI, gL, gR_, g_stI, g_stL, forall_eq, true_and, ad_s, okA_s, okO_s, okN_s, i10, i00, if_true, if_false, reduceCtorEq, Kf_1, Kf_400, Rf_400_44, Kf_445, vp_in_nI hi (show 32 < 2 ^ 31 by decide), nI_clamp (show i < 2 ^ 31 by omega), nI_1]
        refine ih (i + 1) _ (by omega) (by omega) (fun l k z => ?_) (fun j hj => ?_) ?_ ?_ ?_ ?_
        · rw [up2_o (by omega), f2 l k (by omega)]; exact fr l k z
        · by_cases ej : j = i
          · subst ej; rw [up2_s]
          · rw [up2_o (by omega), f2 _ _ (by omega), f1 _ _ (by omega) (by omega)]; exact hnx j (by omega)
        · rw [up2_o (by omega), f2 _ _ (by omega)]; exact s1
        · rw [up2_o (by omega), f2 _ _ (by omega), f1 _ _ (by omega) (by omega)]; exact g5
        · rw [up2_o (by omega), f2 _ _ (by omega), f1 _ _ (by omega) (by omega)]; exact g6
        · rw [up2_o (by omega), f2 _ _ (by omega), f1 _ _ (by omega) (by omega)]; exact g7
  exact key fuel 0 I (by omega) (by have := fuel_ge; omega) (fun _ _ _ => rfl) (fun j hj => by omega) hs h5 h6 h7
end CH
