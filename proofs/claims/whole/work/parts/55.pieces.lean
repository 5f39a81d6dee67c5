/-! PIECES (my own) -/
theorem nI_sb {a b : Nat} (h : b ≤ a) : nI a - nI b = nI (a - b) := by
  have e : nI a = nI (a - b) + nI b := by rw [nI_add, Nat.sub_add_cancel h]
  rw [e, Int32.add_sub_cancel]
theorem imax {x y : Nat} (hx : x < 2 ^ 31) (hy : y < 2 ^ 31) : (if nI x < nI y then nI y else nI x) = nI (max x y) := by
  by_cases h : x < y
  · rw [if_pos (nI_lt h hy), Nat.max_eq_right (Nat.le_of_lt h)]
  · rw [if_neg (nI_nlt (by omega) hx), Nat.max_eq_left (by omega)]
theorem bit_of (x : Int32) {i : Nat} (hi : i < 32) : (((x).toUInt32 >>> ((nI i).toUInt32 &&& Int32.toUInt32 31)).toInt32) &&& (1 : Int32) = nI (if bt x i then 1 else 0) := by
  apply b_ext
  intro j hj
  rw [b_and, b_ushr i hi, b_1 j hj]
  by_cases e : j = 0
  · subst e
    rw [Nat.add_zero]
    cases bt x i <;> decide
  · rw [decide_eq_false e, Bool.and_false]
    cases bt x i
    · exact (b_0 j).symm
    · show false = bt 1 j
      rw [b_1 j hj, decide_eq_false e]
theorem sm1 {s : Nat} (hs : s < 32) : (nI s - (1 : Int32)) &&& (31 : Int32) = nI ((s + 31) % 32) := by
  cases s with
  | zero => decide
  | succ s => rw [nI_pred, and31 (by omega), show (s + 1 + 31) % 32 = s % 32 by omega]
def GP (f : Nat → Nat → Bool) (i c s c' t : Nat) : Nat := if c < c' ∨ (c = c' ∧ t < s) then pcs f (i + 1) c' t else pcs f i c' t
theorem GP_le (f : Nat → Nat → Bool) (i c s c' t : Nat) : GP f i c s c' t ≤ i + 1 := by
  have h1 := pcs_le f (i + 1) c' t
  have h2 := pcs_le f i c' t
  unfold GP; split <;> omega
theorem le_maxTo {f : Nat → Nat} {n k : Nat} (h : k < n) : f k ≤ maxTo f n := by
  induction n with
  | zero => omega
  | succ n ih =>
    unfold maxTo
    by_cases e : k = n
    · subst e; omega
    · have := ih (by omega); omega
theorem maxTo_le2 {f : Nat → Nat} {n B : Nat} (h : ∀ k, k < n → f k ≤ B) : maxTo f n ≤ B := by
  induction n with
  | zero => exact Nat.zero_le _
  | succ n ih =>
    have h1 := ih (fun k hk => h k (by omega))
    have h2 := h n (by omega)
    unfold maxTo; omega
theorem maxTo_cg {f g : Nat → Nat} {n : Nat} (h : ∀ k, k < n → f k = g k) : maxTo f n = maxTo g n := by
  induction n with
  | zero => rfl
  | succ n ih => unfold maxTo; rw [ih (fun k hk => h k (by omega)), h n (by omega)]
theorem pcs_cg {f g : Nat → Nat → Bool} : ∀ i c s, (∀ s j, j < i → f s j = g s j) → pcs f i c s = pcs g i c s := by
  intro i
  induction i with
  | zero => intro c s h; cases c <;> rfl
  | succ i ih =>
    intro c s h
    have e := h s i (by omega)
    cases c with
    | zero => unfold pcs; rw [ih 0 s (fun s j hj => h s j (by omega)), e]
    | succ c => unfold pcs; rw [ih _ s (fun s j hj => h s j (by omega)), ih _ _ (fun s j hj => h s j (by omega)), ih _ _ (fun s j hj => h s j (by omega)), e]
theorem piecesF_cg {p p' q q' : Nat → Int32} (hp : ∀ j, j < 32 → p' j = p j) (hq : ∀ j, j < 32 → q' j = q j) {mg : Int32} : piecesF p' q' mg = piecesF p q mg := by
  unfold piecesF
  exact maxTo_cg (fun s hs => pcs_cg _ _ _ (fun s j hj => rn_cg hp hq hj))
section PX
variable {L : Nat → Nat → Int64} {D : DD}
theorem x_addHair_L {f : Nat → Nat → Bool} {i c : Nat} (hi : i < 32) (hc : c < 4) {v1 : Int32} (hv1 : v1 = nI (32 * c) - 32) {K Q : Hp → Prop} : ∀ (n s : Nat) (I : Nat → Nat → Int32), s ≤ 32 → 33 ≤ n + s → (∀ c' t, c' < 4 → t < 32 → I 17 (32 * c' + t) = nI (GP f i c s c' t)) → (∀ t, t < 32 → bt (I 16 t) i = f t i) → (∀ I' : Nat → Nat → Int32, (∀ l k, l ≠ 17 → I' l k = I l k) → (∀ c' t, c' < 4 → t < 32 → I' 17 (32 * c' + t) = nI (GP f i c 32 c' t)) → K (fm I' L D)) → wp_X6_addHair_L9 (nI i) (nI (32 * c)) (some 16) (some 17) v1 K Q n (nI s) (fm I L D) := by
  intro n
  induction n with
  | zero => intro s I h1 h2; omega
  | succ n ih =>
    intro s I h1 h2 hM hS hK
    rw [wp_X6_addHair_L9]
    by_cases hs : s = 32
    · subst hs
      rw [if_pos (show (32 : Int32) ≤ nI 32 from by decide)]
      exact hK I (fun _ _ _ => rfl) hM
    · rw [if_neg (show ¬ (32 : Int32) ≤ nI s from nI_ge (b := 32) (by omega) (by decide))]
      have hs' : s < 32 := by omega
      have e1 : I 17 (32 * c + s) = nI (pcs f i c s) := by rw [hM c s hc hs']; unfold GP; rw [if_neg (by omega)]
      have pl := pcs_le f i c s
      -- what is stored, and then the rest
      have fin : ∀ x : Nat, x = pcs f (i + 1) c s → wp_X6_addHair_L9 (nI i) (nI (32 * c)) (some 16) (some 17) v1 K Q n (nI (s + 1)) (fm (up2 I 17 (32 * c + s) (nI x)) L D) := by
        intro x hx
        refine ih (s + 1) _ (by omega) (by omega) (fun c' t hc' ht => ?_) (fun t ht => ?_) (fun I' hf hM' => hK I' (fun l k hl => ?_) hM')
        · by_cases e : c' = c ∧ t = s
          · obtain ⟨rfl, rfl⟩ := e
            rw [up2_s, hx]
            unfold GP; rw [if_pos (by omega)]
          · rw [up2_o (by omega), hM c' t hc' ht]
            unfold GP
            by_cases e2 : c < c' ∨ c = c' ∧ t < s
            · rw [if_pos e2, if_pos (by omega)]
            · rw [if_neg e2, if_neg (by omega)]
        · rw [up2_o (by omega)]; exact hS t ht
        · rw [hf l k hl, up2_o (by omega)]
      have j67 : ∀ x : Nat, x + (if f s i then 1 else 0) = pcs f (i + 1) c s → wp_X6_addHair_J67 (nI i) (nI (32 * c)) (some 16) (some 17) v1 (nI s) (nI x) (wp_X6_addHair_L9 (nI i) (nI (32 * c)) (some 16) (some 17) v1 K Q n) K Q (fm I L D) := by
        intro x hx
        unfold wp_X6_addHair_J67
        simp only [gK, gI, gL, gR_, g_stI, g_stL, forall_eq, true_and, ad_s, okA_s, okO_s, okN_s, i10, i00, if_true, if_false, reduceCtorEq, Kf_1, Kf_400, Kf_16, Kf_17, vp_in_nI hs' (show 32 < 2 ^ 31 by decide), nI_add, vp_in_nI (show 32 * c + s < 128 by omega) (by decide), nI_clamp (show s < 2 ^ 31 by omega), nI_clamp (show 32 * c + s < 2 ^ 31 by omega), bit_of _ hi, hS s hs', nI_1]
        exact fin _ hx
      simp only [gK, gI, gL, gR_, g_stI, g_stL, forall_eq, true_and, ad_s, okA_s, okO_s, okN_s, i10, i00, if_true, if_false, reduceCtorEq, Kf_1, Kf_400, Kf_16, Kf_17, nI_add, vp_in_nI (show 32 * c + s < 128 by omega) (by decide), nI_clamp (show 32 * c + s < 2 ^ 31 by omega), e1]
      cases c with
      | zero =>
        rw [if_pos (show v1 < 0 by rw [hv1]; decide)]
        exact j67 _ (by rw [pcs])
      | succ d =>
        have ev : v1 = nI (32 * d) := by rw [hv1, show (32 : Int32) = nI 32 from rfl, nI_sb (by omega)]; congr 1
        rw [if_neg (show ¬ v1 < 0 by rw [ev]; exact nI_pos (by omega))]
        rw [ev]
        have m1 : (s + 31) % 32 < 32 := Nat.mod_lt _ (by decide)
        have m2 : (s + 1) % 32 < 32 := Nat.mod_lt _ (by decide)
        have g1 : I 17 (32 * d + (s + 31) % 32) = nI (pcs f i d ((s + 31) % 32)) := by rw [hM d _ (by omega) m1]; unfold GP; rw [if_neg (by omega)]
        have g2 : I 17 (32 * d + (s + 1) % 32) = nI (pcs f i d ((s + 1) % 32)) := by rw [hM d _ (by omega) m2]; unfold GP; rw [if_neg (by omega)]
        have l1 := pcs_le f i d ((s + 31) % 32)
        have l2 := pcs_le f i d ((s + 1) % 32)
        simp only [gK, gI, gL, gR_, g_stI, g_stL, forall_eq, true_and, ad_s, okA_s, okO_s, okN_s, i10, i00, if_true, if_false, reduceCtorEq, Kf_1, Kf_400, Kf_17, sm1 hs', nI_1, and31 (show s + 1 < 2 ^ 32 by omega), nI_add, vp_in_nI (show 32 * d + (s + 31) % 32 < 128 by omega) (by decide), vp_in_nI (show 32 * d + (s + 1) % 32 < 128 by omega) (by decide), nI_clamp (show 32 * d + (s + 31) % 32 < 2 ^ 31 by omega), nI_clamp (show 32 * d + (s + 1) % 32 < 2 ^ 31 by omega), g1, g2, imax (show pcs f i (d + 1) s < 2 ^ 31 by omega) (show pcs f i d ((s + 31) % 32) < 2 ^ 31 by omega), imax (show max (pcs f i (d + 1) s) (pcs f i d ((s + 31) % 32)) < 2 ^ 31 by omega) (show pcs f i d ((s + 1) % 32) < 2 ^ 31 by omega)]
        rw [← ev]
        refine j67 _ ?_
        show _ = max (pcs f i (d + 1) s) (max (pcs f i d ((s + 31) % 32)) (pcs f i d ((s + 1) % 32))) + _
        rw [Nat.max_assoc]
theorem x_addHair {f : Nat → Nat → Bool} {i c : Nat} (hi : i < 32) (hc : c < 4) {I : Nat → Nat → Int32} {Q : Hp → Prop} (hM : ∀ c' t, c' < 4 → t < 32 → I 17 (32 * c' + t) = nI (GP f i c 0 c' t)) (hS : ∀ t, t < 32 → bt (I 16 t) i = f t i) (hK : ∀ I' : Nat → Nat → Int32, (∀ l k, l ≠ 17 → I' l k = I l k) → (∀ c' t, c' < 4 → t < 32 → I' 17 (32 * c' + t) = nI (GP f i c 32 c' t)) → Q (fm I' L D)) : wp_X6_addHair (nI i) (nI c * (32 : Int32)) (some 16) (some 17) (fm I L D) Q := by
  unfold wp_X6_addHair
  intro v1 hv1
  rw [show nI c * (32 : Int32) = nI (32 * c) from by rw [show (32 : Int32) = nI 32 from rfl, pk_mul, Nat.mul_comm]] at hv1 ⊢
  exact x_addHair_L hi hc hv1 fuel 0 I (by omega) (by have := fuel_ge; omega) hM hS hK
theorem x_pieces_L52 {f : Nat → Nat → Bool} {i : Nat} (hi : i < 32) {K : Hp → Prop} {Q : Int32 → Hp → Prop} : ∀ (n c : Nat) (I : Nat → Nat → Int32) (x : Int32), c ≤ 4 → 6 ≤ n + (4 - c) → x + 1 = nI c → (∀ c' t, c' < 4 → t < 32 → I 17 (32 * c' + t) = nI (if c ≤ c' then pcs f (i + 1) c' t else pcs f i c' t)) → (∀ t, t < 32 → bt (I 16 t) i = f t i) → (∀ I' : Nat → Nat → Int32, (∀ l k, l ≠ 17 → I' l k = I l k) → (∀ c' t, c' < 4 → t < 32 → I' 17 (32 * c' + t) = nI (pcs f (i + 1) c' t)) → K (fm I' L D)) → wp_X6_pieces_L52 (some 13) (nI i) K Q n x (fm I L D) := by
  intro n
  induction n with
  | zero => intro c I x h1 h2; omega
  | succ n ih =>
    intro c I x h1 h2 hx hM hS hK
    rw [wp_X6_pieces_L52]
    cases c with
    | zero =>
      have : x = -1 := by
        have := congrArg (· - (1 : Int32)) hx
        simp only [Int32.add_sub_cancel] at this
        rw [this]; decide
      rw [if_pos (by rw [this]; decide)]
      exact hK I (fun _ _ _ => rfl) (fun c' t h1 h2 => by rw [hM c' t h1 h2, if_pos (by omega)])
    | succ c =>
      have : x = nI c := by
        have := congrArg (· - (1 : Int32)) hx
        simp only [Int32.add_sub_cancel] at this
        rw [this, nI_pred]
      subst this
      rw [if_neg (nI_pos (by omega))]
      simp only [gK, gI, gL, gR_, g_stI, g_stL, forall_eq, true_and, ad_s, okA_s, okO_s, okN_s, i10, i00, if_true, if_false, reduceCtorEq, Kf_1, Kf_400, Kf_13, Rf_13_2, Rf_13_3]
      refine x_addHair (f := f) hi (by omega) (fun c' t h3 h4 => ?_) hS (fun I' hf hM' => ?_)
      · rw [hM c' t h3 h4]
        unfold GP
        by_cases e : c + 1 ≤ c'
        · rw [if_pos e, if_pos (by omega)]
        · rw [if_neg e, if_neg (by omega)]
      · refine ih c I' _ (by omega) (by omega) (by rw [Int32.add_assoc, show (-1 : Int32) + 1 = 0 from rfl, Int32.add_zero]) (fun c' t h3 h4 => ?_) (fun t ht => ?_) (fun I'' hf2 hM2 => hK I'' (fun l k hl => (hf2 l k hl).trans (hf l k hl)) hM2)
        · rw [hM' c' t h3 h4]
          unfold GP
          by_cases e : c ≤ c'
          · rw [if_pos e, if_pos (by omega)]
          · rw [if_neg e, if_neg (by omega)]
        · rw [hf _ _ (by omega)]; exact hS t ht
theorem x_pieces_L42 {f : Nat → Nat → Bool} {K : Hp → Prop} {Q : Int32 → Hp → Prop} : ∀ (n i : Nat) (I : Nat → Nat → Int32), i ≤ 32 → 33 ≤ n + i → (∀ c' t, c' < 4 → t < 32 → I 17 (32 * c' + t) = nI (pcs f i c' t)) → (∀ i t, i < 32 → t < 32 → bt (I 16 t) i = f t i) → (∀ I' : Nat → Nat → Int32, (∀ l k, l ≠ 17 → I' l k = I l k) → (∀ c' t, c' < 4 → t < 32 → I' 17 (32 * c' + t) = nI (pcs f 32 c' t)) → K (fm I' L D)) → wp_X6_pieces_L42 (some 13) K Q n (nI i) (fm I L D) := by
  intro n
  induction n with
  | zero => intro i I h1 h2; omega
  | succ n ih =>
    intro i I h1 h2 hM hS hK
    rw [wp_X6_pieces_L42]
    by_cases hi : i = 32
    · subst hi
      rw [if_pos (show (32 : Int32) ≤ nI 32 from by decide)]
      exact hK I (fun _ _ _ => rfl) hM
    · rw [if_neg (show ¬ (32 : Int32) ≤ nI i from nI_ge (b := 32) (by omega) (by decide))]
      refine x_pieces_L52 (f := f) (by omega) fuel 4 I 3 (by omega) (by have := fuel_ge; omega) (by decide) (fun c' t h3 h4 => ?_) (fun t ht => hS i t (by omega) ht) (fun I' hf hM' => ?_)
      · rw [if_neg (by omega)]; exact hM c' t h3 h4
      · simp only [forall_eq, nI_1]
        exact ih (i + 1) I' (by omega) (by omega) hM' (fun i t h3 h4 => by rw [hf _ _ (by omega)]; exact hS i t h3 h4) (fun I'' hf2 hM2 => hK I'' (fun l k hl => (hf2 l k hl).trans (hf l k hl)) hM2)
theorem x_pieces_L11 {ra rb m : Nat} (ka : Kf D ra = (1, 32)) (kb : Kf D rb = (1, 32)) (hra : ra ≠ 16) (hrb : rb ≠ 16) (hm : m < 16) {f : Nat → Nat → Bool} {K : Hp → Prop} {Q : Int32 → Hp → Prop} : ∀ (n s : Nat) (I : Nat → Nat → Int32), rg (I ra) → rg (I rb) → (∀ s i, s < 32 → i < 32 → f s i = rn (I ra) (I rb) (nI m) s i) → s ≤ 32 → 33 ≤ n + s → (∀ i t, i < 32 → t < s → bt (I 16 t) i = f t i) → (∀ I' : Nat → Nat → Int32, (∀ l k, l ≠ 16 → I' l k = I l k) → (∀ i t, i < 32 → t < 32 → bt (I' 16 t) i = f t i) → K (fm I' L D)) → wp_X6_pieces_L11 (some ra) (some rb) (nI m) (some 13) K Q n (nI s) (fm I L D) := by
  intro n
  induction n with
  | zero => intro s I _ _ _ h1 h2; omega
  | succ n ih =>
    intro s I ga gb hf h1 h2 hS hK
    rw [wp_X6_pieces_L11]
    by_cases hs : s = 32
    · subst hs
      rw [if_pos (show (32 : Int32) ≤ nI 32 from by decide)]
      exact hK I (fun _ _ _ => rfl) hS
    · rw [if_neg (show ¬ (32 : Int32) ≤ nI s from nI_ge (b := 32) (by omega) (by decide))]
      simp only [gK, gI, gL, gR_, g_stI, g_stL, forall_eq, true_and, ad_s, okA_s, okO_s, okN_s, i10, i00, if_true, if_false, reduceCtorEq, Kf_1, Kf_400, Kf_13, Rf_13_2]
      refine x_runs ka kb (by omega) hm ga gb ?_
      simp only [gK, gI, gL, gR_, g_stI, g_stL, forall_eq, true_and, ad_s, okA_s, okO_s, okN_s, i10, i00, if_true, if_false, reduceCtorEq, Kf_1, Kf_400, Kf_16, vp_in_nI (show s < 32 by omega) (show 32 < 2 ^ 31 by decide), nI_clamp (show s < 2 ^ 31 by omega), nI_1]
      have ea : up2 I 16 s (mkS (rn (I ra) (I rb) (nI m) s) 32) ra = I ra := by funext k; exact up2_o (by omega)
      have eb : up2 I 16 s (mkS (rn (I ra) (I rb) (nI m) s) 32) rb = I rb := by funext k; exact up2_o (by omega)
      refine ih (s + 1) _ (by rw [ea]; exact ga) (by rw [eb]; exact gb) (by rw [ea, eb]; exact hf) (by omega) (by omega) (fun i t hi ht => ?_) (fun I' hfr hS' => hK I' (fun l k hl => ?_) hS')
      · by_cases e : t = s
        · subst e
          rw [up2_s, bt_set hi, hf t i (by omega) hi]
        · rw [up2_o (by omega)]; exact hS i t hi (by omega)
      · rw [hfr l k hl, up2_o (by omega)]
theorem x_pieces {I : Nat → Nat → Int32} {ra rb m : Nat} (ka : Kf D ra = (1, 32)) (kb : Kf D rb = (1, 32)) (hra : 20 ≤ ra) (hrb : 20 ≤ rb) (hm : m < 16) (ga : rg (I ra)) (gb : rg (I rb)) {Q : Int32 → Hp → Prop} (hQ : ∀ I' : Nat → Nat → Int32, (∀ l k, l ≠ 16 → l ≠ 17 → I' l k = I l k) → Q (nI (piecesF (I ra) (I rb) (nI m))) (fm I' L D)) : wp_X6_pieces (some ra) (some rb) (nI m) (some 13) (fm I L D) Q := by
  unfold wp_X6_pieces
  simp only [gK, gI, gL, gR_, g_stI, g_stL, forall_eq, true_and, ad_s, okA_s, okO_s, okN_s, i10, i00, if_true, if_false, reduceCtorEq, Kf_1, Kf_400, Kf_13, Rf_13_3]
  rw [fm_raw]
  refine j_fill (m := 128) Kf_17 (by decide) ?_
  rw [← fm_raw]
  have fr : ∀ l, l ≠ 17 → (fun k => if l = 17 ∧ k < 128 then (0 : Int32) else I l k) = I l := fun l hl => funext fun k => by rw [if_neg (by omega)]
  refine x_pieces_L11 (f := fun s i => rn (I ra) (I rb) (nI m) s i) ka kb (by omega) (by omega) hm fuel 0 _ (by rw [fr ra (by omega)]; exact ga) (by rw [fr rb (by omega)]; exact gb) (by rw [fr ra (by omega), fr rb (by omega)]; exact fun _ _ _ _ => rfl) (by omega) (by have := fuel_ge; omega) (fun i t _ ht => by omega) (fun I1 f1 hS => ?_)
  refine x_pieces_L42 (f := fun s i => rn (I ra) (I rb) (nI m) s i) fuel 0 I1 (by omega) (by have := fuel_ge; omega) (fun c' t h3 h4 => ?_) hS (fun I2 f2 hM => ?_)
  · rw [f1 17 _ (by omega), if_pos (by omega)]
    cases c' <;> rfl
  · have fr2 : ∀ l k, l ≠ 16 → l ≠ 17 → I2 l k = I l k := fun l k h1 h2 => by rw [f2 l k h2, f1 l k h1, if_neg (by omega)]
    have key : ∀ (K : Int32 → Hp → Prop), K (nI (maxTo (fun s => pcs (fun s i => rn (I ra) (I rb) (nI m) s i) 32 3 s) 32)) (fm I2 L D) → ∀ (n s : Nat), s ≤ 32 → 33 ≤ n + s → wp_X6_pieces_L93 (some 13) K Q n (nI (maxTo (fun s => pcs (fun s i => rn (I ra) (I rb) (nI m) s i) 32 3 s) s)) (nI s) (fm I2 L D) := by
      intro K hK n
      induction n with
      | zero => intro s h1 h2; omega
      | succ n ih =>
        intro s h1 h2
        rw [wp_X6_pieces_L93]
        by_cases hs : s = 32
        · subst hs
          rw [if_pos (show (32 : Int32) ≤ nI 32 from by decide)]
          exact hK
        · rw [if_neg (show ¬ (32 : Int32) ≤ nI s from nI_ge (b := 32) (by omega) (by decide))]
          have e : I2 17 (96 + s) = nI (pcs (fun s i => rn (I ra) (I rb) (nI m) s i) 32 3 s) := hM 3 s (by omega) (by omega)
          have l1 := pcs_le (fun s i => rn (I ra) (I rb) (nI m) s i) 32 3 s
          have l2 := maxTo_le (fun s => pcs (fun s i => rn (I ra) (I rb) (nI m) s i) 32 3 s) (fun s => pcs_le _ 32 3 s) s
          simp only [gK, gI, gL, gR_, g_stI, g_stL, forall_eq, true_and, ad_s, okA_s, okO_s, okN_s, i10, i00, if_true, if_false, reduceCtorEq, Kf_1, Kf_400, Kf_13, Kf_17, Rf_13_3, show (96 : Int32) = nI 96 from rfl, nI_add, vp_in_nI (show 96 + s < 128 by omega) (by decide), nI_clamp (show 96 + s < 2 ^ 31 by omega), e, imax (show maxTo (fun s => pcs (fun s i => rn (I ra) (I rb) (nI m) s i) 32 3 s) s < 2 ^ 31 by omega) (show pcs (fun s i => rn (I ra) (I rb) (nI m) s i) 32 3 s < 2 ^ 31 by omega), nI_1]
          exact ih (s + 1) (by omega) (by omega)
    exact key _ (hQ I2 fr2) fuel 0 (by omega) (by have := fuel_ge; omega)
end PX
theorem up2_o14 {I : Nat → Nat → Int32} {a k : Nat} {v : Int32} (h : 14 ≠ a) : up2 I a k v 14 = I 14 := funext fun j => up2_a h
section PO
variable {n : Nat} {I0 I : Nat → Nat → Int32} {L : Nat → Nat → Int64} {D : DD} {l a b : Nat}
theorem x_piecesOf14 (h : St n L D I0 I) (hl : l < D.nL) (ha : a < D.nA) (hb : b < D.nA) {Q : Int32 → Hp → Prop} (hQ : ∀ I' : Nat → Nat → Int32, St n L D I0 I' → I' 14 = I 14 → Q (nI (piecesF (row I0 a) (row I0 b) (I0 447 l))) (fm I' L D)) : wp_X3_piecesOf (240 + 2 * l) (some (160 + 2 * a)) (some (160 + 2 * b)) (some 13) (fm I L D) Q := by
  have n3 := h.1.1.2.2.1
  have nL6 := h.1.1.2.2.2.1
  obtain ⟨m, s, g, mf, pc, pf, s0, s1, e, d1, d2, d3, d4, d5, d6, c1, c2, c3, c4⟩ := CK_get h.1 hl ha hb
  have hmg := ((h.1.2.2.2.2.2.2.1 l).1 hl)
  obtain ⟨mg, hmg16, emg⟩ := inN_of (by decide) hmg.2
  have eA := (h.1.2.2.2.2.2.1 a ha).2.1
  have eB := (h.1.2.2.2.2.2.1 b hb).2.1
  have hmf : mf ≤ 1 := by omega
  have j63 : ∀ (J : Nat → Nat → Int32) (W : Nat), St n L D I0 J → J 14 = I 14 → J (240 + 2 * l + 1) (40 * a + b) = nI W → W < 2 ^ 32 → W / 2 ^ 18 % 2 ^ 6 = piecesF (row I0 a) (row I0 b) (I0 447 l) → wp_X3_piecesOf_J63 (240 + 2 * l) (nI (40 * a + b)) Q (fm J L D) := by
    intro J W hJ j14 hW hW2 hd
    unfold wp_X3_piecesOf_J63
    simp only [gK, gI, gL, gR_, g_stI, g_stL, forall_eq, true_and, ad_s, okA_s, okO_s, okN_s, i10, i00, if_true, if_false, reduceCtorEq, Kf_1, Kf_400, Kf_look hl nL6, Rf_look hl nL6, Kf_lookr hl nL6, vp_in_nI (show 40 * a + b < 1600 by omega) (by decide), nI_clamp (show 40 * a + b < 2 ^ 31 by omega), hW]
    rw [show (18 : Int32).toUInt32 = (nI 18).toUInt32 from rfl, ush_and (k := 18) (j := 6) hW2 (by decide) (by decide) hd (by decide)]
    exact hQ J hJ j14
  unfold wp_X3_piecesOf
  simp only [gK, gI, gL, gR_, g_stI, g_stL, forall_eq, true_and, ad_s, okA_s, okO_s, okN_s, i10, i00, if_true, if_false, reduceCtorEq, Kf_1, Kf_400, Kf_ball ha n3, Kf_ball hb n3, eA, eB, ix40, Kf_look hl nL6, Rf_look hl nL6, Kf_lookr hl nL6, vp_in_nI (show 40 * a + b < 1600 by omega) (by decide), nI_clamp (show 40 * a + b < 2 ^ 31 by omega), e, Rf_ball ha n3, Rf_ball hb n3]
  have bb : nI (enc m s g mf pc pf s0 s1) &&& (16777216 : Int32) = nI (16777216 * pf) := by
    have := bit_is (W := enc m s g mf pc pf s0 s1) (k := 24) (d := pf) (by unfold enc; omega)
    exact this
  rw [bb]
  rcases c2 with ⟨e1, e2⟩ | ⟨e1, e2⟩
  · subst e1; subst e2
    rw [if_pos (show nI (16777216 * 0) = (0 : Int32) from rfl)]
    rw [hmg.1, emg]
    refine x_pieces (Kf_ballr ha n3) (Kf_ballr hb n3) (by omega) (by omega) hmg16 (rg_x h.1 ha) (rg_x h.1 hb) (fun J hJ => ?_)
    rw [piecesF_cg (row_x h.1 ha) (row_x h.1 hb), ← emg]
    have b4 := piecesF_le (row I a) (row I b) (I 447 l)
    have hSJ : St n L D I0 J := St_scr h (fun l' k' hn => hJ l' k' (fun z => hn (by first | (unfold Scr2 Scr; omega) | (unfold Scr; omega))) (fun z => hn (by first | (unfold Scr2 Scr; omega) | (unfold Scr; omega))))
    have eJ : J (240 + 2 * l + 1) (40 * a + b) = nI (enc m s g mf 0 0 s0 s1) := by rw [hJ _ _ (by omega) (by omega)]; exact e
    have w0 : nI (piecesF (row I a) (row I b) (I 447 l)) <<< ((18 : Int32) &&& 31) = nI (262144 * piecesF (row I a) (row I b) (I 447 l)) := shl_nI (k := 18) (by decide) (by omega) (Nat.mul_comm _ _)
    have w1 : (16777216 : Int32) ||| nI (262144 * piecesF (row I a) (row I b) (I 447 l)) = nI (262144 * (piecesF (row I a) (row I b) (I 447 l) + 64)) := by
      rw [Int32.or_comm]
      have := or_sum (k := 24) (a := 262144 * piecesF (row I a) (row I b) (I 447 l)) (b := 1) (by omega)
      rw [show 262144 * piecesF (row I a) (row I b) (I 447 l) + 2 ^ 24 * 1 = 262144 * (piecesF (row I a) (row I b) (I 447 l) + 64) by omega] at this
      exact this
    have w2 : nI (enc m s g mf 0 0 s0 s1) ||| nI (262144 * (piecesF (row I a) (row I b) (I 447 l) + 64)) = nI (enc m s g mf (piecesF (row I a) (row I b) (I 447 l)) 1 s0 s1) := by
      refine or_add (a := m + 64 * s + 2048 * g + 131072 * mf) (k := 18) (j := 7) (c := s0 + 4 * s1) (d := piecesF (row I a) (row I b) (I 447 l) + 64) (by omega) (by omega) ?_ (by omega) ?_
      · unfold enc; omega
      · unfold enc; omega
    simp only [gK, gI, gL, gR_, g_stI, g_stL, forall_eq, true_and, ad_s, okA_s, okO_s, okN_s, i10, i00, if_true, if_false, reduceCtorEq, Kf_1, Kf_400, Kf_look hl nL6, Rf_look hl nL6, Kf_lookr hl nL6, vp_in_nI (show 40 * a + b < 1600 by omega) (by decide), nI_clamp (show 40 * a + b < 2 ^ 31 by omega), eJ, w0, w1, w2]
    have r1 := hSJ.2.row a
    have r2 := hSJ.2.row b
    have r3 := hSJ.2.mg l
    have r4 := h.2.row a
    have r5 := h.2.row b
    have r6 := h.2.mg l
    have s1' : ∀ t, sayF J l a b t = sayF I l a b t := fun t => by
      have h0 : Same D I J := ⟨h.2.1, fun l' k' hn _ _ => hJ l' k' (fun z => hn (by first | (unfold Scr2 Scr; omega) | (unfold Scr; omega))) (fun z => hn (by first | (unfold Scr2 Scr; omega) | (unfold Scr; omega)))⟩
      exact h0.say h.1 hl a b t
    refine j63 _ (enc m s g mf (piecesF (row I a) (row I b) (I 447 l)) 1 s0 s1) (St_K hSJ hl ha hb ⟨m, s, g, mf, _, 1, s0, s1, rfl, ?_, Or.inr ⟨rfl, ?_⟩, ?_, ?_⟩) ?_ up2_s ?_ ?_
    · rw [r1, r2, r3, ← r4, ← r5, ← r6]; exact c1
    · rw [r1, r2, r3, ← r4, ← r5, ← r6]
    · rw [s1' 0]; exact c3
    · rw [s1' 1]; exact c4
    · rw [up2_o14 (by omega)]; exact funext fun k => hJ 14 k (by omega) (by omega)
    · unfold enc; omega
    · rw [← r4, ← r5, ← r6]; unfold enc; omega
  · subst e1
    rw [if_neg (show ¬ nI (16777216 * 1) = (0 : Int32) by decide)]
    refine j63 I _ h rfl e (by unfold enc; omega) ?_
    rw [← h.2.row, ← h.2.row, ← h.2.mg, ← e2]; unfold enc; omega
theorem x_piecesOf (h : St n L D I0 I) (hl : l < D.nL) (ha : a < D.nA) (hb : b < D.nA) {Q : Int32 → Hp → Prop} (hQ : ∀ I' : Nat → Nat → Int32, St n L D I0 I' → Q (nI (piecesF (row I0 a) (row I0 b) (I0 447 l))) (fm I' L D)) : wp_X3_piecesOf (240 + 2 * l) (some (160 + 2 * a)) (some (160 + 2 * b)) (some 13) (fm I L D) Q := x_piecesOf14 h hl ha hb (fun I' h1 _ => hQ I' h1)
end PO
