/-! TOKENS: bytes, sorts, runs; the object's scan (my own) -/
def srt (x : Nat) : Nat := if x = 32 ∨ x = 10 then 0 else if (97 ≤ x ∧ x ≤ 122) ∨ (65 ≤ x ∧ x ≤ 90) then 1 else if 48 ≤ x ∧ x ≤ 57 then 2 else 3
theorem srt_lt (x : Nat) : srt x < 4 := by unfold srt; split; omega; split; omega; split <;> omega
def isSt (b : Nat → Nat) (p : Nat) : Prop := srt (b p) = 3 ∨ (srt (b p) ≠ 0 ∧ (p = 0 ∨ srt (b (p - 1)) ≠ srt (b p)))
noncomputable def nx (b : Nat → Nat) : Nat → Nat → Nat
  | 0, p => p
  | f + 1, p => @ite _ (isSt b p) (Classical.propDecidable _) p (nx b f (p + 1))
noncomputable def PSf (b : Nat → Nat) (n : Nat) : Nat → Nat
  | 0 => nx b n 0
  | i + 1 => if PSf b n i < n then nx b (n - (PSf b n i + 1)) (PSf b n i + 1) else n
theorem nx_le (b : Nat → Nat) : ∀ f p, p ≤ nx b f p ∧ nx b f p ≤ p + f := by
  intro f
  induction f with
  | zero => intro p; exact ⟨Nat.le_refl _, Nat.le_refl _⟩
  | succ f ih =>
    intro p
    unfold nx
    have := ih (p + 1)
    split <;> omega
/-- how many of one sort stand from q on -/
def smr (b : Nat → Nat) (s : Nat) : Nat → Nat → Nat
  | 0, _ => 0
  | f + 1, q => if srt (b q) = s then smr b s f (q + 1) + 1 else 0
theorem smr_le (b : Nat → Nat) (s : Nat) : ∀ f q, smr b s f q ≤ f := by
  intro f
  induction f with
  | zero => intro q; exact Nat.le_refl _
  | succ f ih => intro q; unfold smr; have := ih (q + 1); split <;> omega
def runN (b : Nat → Nat) (n p : Nat) : Nat := 1 + smr b (srt (b p)) (n - (p + 1)) (p + 1)
def numV (b : Nat → Nat) (p : Nat) : Nat → Nat
  | 0 => 0
  | k + 1 => numV b p k * 10 + (b (p + k) - 48)
def chL : List Nat := [111, 114, 32, 97, 110, 100, 32, 110, 111, 32, 119, 104, 101, 110, 32, 99, 117, 116, 32, 119, 101, 97, 114, 32, 116, 97, 107, 101, 32, 115, 97, 109, 101, 32, 110, 111, 116, 32, 97, 116, 32, 104, 105, 103, 104, 32, 108, 101, 102, 116, 32, 114, 105, 103, 104, 116, 32, 100, 114, 97, 119, 32, 115, 104, 111, 116, 115, 32, 114, 117, 115, 116, 32, 115, 111, 102, 116, 32, 98, 101, 115, 116, 32, 108, 111, 110, 103, 101, 115, 116, 32, 115, 108, 105, 100, 101, 32, 112, 105, 101, 99, 101, 115, 32, 108, 97, 99, 107, 32, 116, 111, 108, 100, 32]
def chW (q : Nat) : Nat := chL.getD q 0
def wsL : List Nat := [0, 3, 7, 10, 15, 19, 24, 29, 34, 38, 41, 46, 51, 57, 62, 68, 73, 78, 83, 91, 97, 104, 109, 114]
def wsO (k : Nat) : Nat := wsL.getD k 0
def wlO (k : Nat) : Nat := wsO (k + 1) - wsO k - 1
theorem ws_ok : ∀ k, k < 23 → wsO (k + 1) = wsO k + wlO k + 1 ∧ chW (wsO k + wlO k) = 32 ∧ wsO (k + 1) ≤ 114 ∧ ∀ j, j < wlO k → chW (wsO k + j) ≠ 32 := by decide
theorem ws_23 : wsO 23 = 114 ∧ wsO 0 = 0 := by decide
def wIs (b : Nat → Nat) (p r k : Nat) : Prop := r = wlO k ∧ ∀ j, j < r → chW (wsO k + j) = b (p + j)
theorem ws_dif : ∀ k, k < 23 → ∀ k', k' < 23 → k = k' ∨ wlO k ≠ wlO k' ∨ ∃ j, j < wlO k ∧ chW (wsO k + j) ≠ chW (wsO k' + j) := by decide +kernel
theorem wIs_uniq {b : Nat → Nat} {p r k k' : Nat} (hk : k < 23) (hk' : k' < 23) (h : wIs b p r k) (h' : wIs b p r k') : k = k' := by
  rcases ws_dif k hk k' hk' with q | q | ⟨j, q1, q2⟩
  · exact q
  · exact absurd (h.1.symm.trans h'.1) q
  · exact absurd ((h.2 j (by rw [h.1]; exact q1)).trans (h'.2 j (by rw [h.1]; exact q1)).symm) q2
def kindR (b : Nat → Nat) (n p : Nat) (k : Int32) : Prop := (srt (b p) = 1 ∧ ((∃ w, w < 23 ∧ wIs b p (runN b n p) w ∧ k = nI (256 + w)) ∨ ((∀ w, w < 23 → ¬ wIs b p (runN b n p) w) ∧ k = 1))) ∨ (srt (b p) = 2 ∧ ((runN b n p ≤ 4 ∧ k = -1 - nI (numV b p (runN b n p))) ∨ (4 < runN b n p ∧ k = 1))) ∨ (srt (b p) = 3 ∧ ((sgn (b p) ∧ k = nI (b p)) ∨ (¬ sgn (b p) ∧ k = 1)))
/-! the texts of the object -/
theorem ch_ok : ∀ q, q < 114 → (((byJ.getD 0 []).getD q 0 &&& (255 : Int32)).toUInt32 % 65536).toInt32 = nI (chW q) ∧ chW q < 128 := by decide +kernel
theorem j_charAt {q : Nat} (hq : q < 114) {h : Hp} {Q : Int32 → Hp → Prop} (hQ : Q (nI (chW q)) h) : wp_J0_charAt_5068e 0 (nI q) h Q := by
  obtain ⟨e, l⟩ := ch_ok q hq
  unfold wp_J0_charAt_5068e wp_J0_isLatin1_aae02 wp_J1_charAt_3b067 wp_J0_checkIndex_df160 wp_J3_checkIndex_8e157
  simp only [i10, i00, if_false, if_true, show (0 < 2) = True by simp, true_and, show lnJ.getD 0 0 = 114 from rfl, if_neg (nI_pos (show q < 2 ^ 31 by omega)), if_pos (nI_lt hq (show 114 < 2 ^ 31 by decide)), vp_in_nI hq (show 114 < 2 ^ 31 by decide), nI_clamp (show q < 2 ^ 31 by omega), forall_eq, e, (pk_charN (show chW q < 65536 by omega)).1]
  exact fun _ => hQ
theorem j_length {h : Hp} {Q : Int32 → Hp → Prop} : wp_J0_length_8abf5 0 h Q ↔ Q (nI 114) h := by
  unfold wp_J0_length_8abf5 wp_J0_coder_7d493
  simp only [i10, if_false, show (0 < 2) = True by simp, true_and]
  rfl
def sgL : List Nat := [59, 43, 45, 42, 47, 40, 41, 60, 61, 62]
theorem sg_ok : ∀ k, k < 10 → (byJ.getD 1 []).getD k 0 = nI (sgL.getD k 0) ∧ sgL.getD k 0 < 64 := by decide
theorem sg_eq : ∀ v, v < 256 → ∀ k, k < 10 → decide (nI (sgL.getD k 0) = (nI v).toInt8.toInt32) = decide (sgL.getD k 0 = v) := by decide +kernel
theorem sg_mem : ∀ v, v < 256 → ((∃ k, k < 10 ∧ sgL.getD k 0 = v) ↔ (v = 59 ∨ v = 43 ∨ v = 45 ∨ v = 42 ∨ v = 47 ∨ v = 40 ∨ v = 41 ∨ v = 60 ∨ v = 61 ∨ v = 62)) := by decide +kernel
theorem j_indexOf {v : Nat} (hv : v < 256) {h : Hp} {Q : Int32 → Hp → Prop} (h1 : ∀ k : Nat, k < 10 → sgn v → Q (nI k) h) (h0 : ¬ sgn v → Q (-1) h) : wp_J0_indexOf_0f7a4 1 (nI v) h Q := by
  unfold wp_J0_indexOf_0f7a4 wp_J0_indexOf_7cf53 wp_J0_isLatin1_aae02 wp_J0_length_8abf5 wp_J0_coder_7d493 wp_J1_indexOf_4cfef wp_J1_canEncode_9a6ad
  have e10 : nI (lnJ.getD 1 0) >>> ((0 : Int32) &&& 31) = nI 10 := by decide
  have m : (if nI (lnJ.getD 1 0) < nI 10 then nI (lnJ.getD 1 0) else nI 10) = nI 10 := by decide
  simp only [i10, i00, if_false, if_true, show (1 < 2) = True by simp, true_and, e10, if_neg (nI_pos (show v < 2 ^ 31 by omega)), if_neg (show ¬ (255 : Int32) < nI v from nI_nlt (a := 255) (by omega) (by decide)), forall_eq, show ¬ (0 : Int32) < 0 by decide, m, show (0 : Int32) < nI 10 by decide]
  unfold wp_J1_indexOfChar_4cfef
  simp only [forall_eq]
  have key : ∀ (N k : Nat), k ≤ 10 → 11 ≤ N + k → (∀ j, j < k → sgL.getD j 0 ≠ v) → wp_J1_indexOfChar_4cfef_L7 1 (nI 10) (nI v).toInt8.toInt32 (fun y9 h8 => Q y9 h8) (fun h10 => Q (-1) h10) Q N (nI k) h := by
    intro N
    induction N with
    | zero => intro k h1 h2; omega
    | succ N ih =>
      intro k k1 k2 hp
      rw [wp_J1_indexOfChar_4cfef_L7]
      by_cases e : k = 10
      · subst e
        rw [if_pos (nI_le (Nat.le_refl _) (by decide))]
        refine h0 (fun z => ?_)
        obtain ⟨j, j1, j2⟩ := (sg_mem v hv).mpr z
        exact hp j j1 j2
      · rw [if_neg (nI_ge (by omega) (by decide))]
        obtain ⟨s1, s2⟩ := sg_ok k (by omega)
        simp only [show (1 < 2) = True by simp, true_and, show lnJ.getD 1 0 = 10 from rfl, vp_in_nI (show k < 10 by omega) (show 10 < 2 ^ 31 by decide), nI_clamp (show k < 2 ^ 31 by omega), s1, forall_eq]
        have q := sg_eq v hv k (by omega)
        by_cases c : sgL.getD k 0 = v
        · rw [if_pos (by have : decide (nI (sgL.getD k 0) = (nI v).toInt8.toInt32) = true := by rw [q]; exact decide_eq_true c
                         exact of_decide_eq_true this)]
          exact h1 k (by omega) ((sg_mem v hv).mp ⟨k, by omega, c⟩)
        · rw [if_neg (by have : decide (nI (sgL.getD k 0) = (nI v).toInt8.toInt32) = false := by rw [q]; exact decide_eq_false c
                         exact of_decide_eq_false this), nI_1]
          refine ih (k + 1) (by omega) (by omega) (fun j hj => ?_)
          by_cases ej : j = k
          · rw [ej]; exact c
          · exact hp j (by omega)
  exact key fuel 0 (by omega) (by have := fuel_ge; omega) (fun j hj => by omega)
theorem x_sortOf {v : Nat} (hv : v < 256) {h : Hp} {Q : Int32 → Hp → Prop} : wp_X8_sortOf (nI v) h Q ↔ Q (nI (srt v)) h := by
  have l : ∀ c : Nat, c < 256 → ((nI v < nI c) = (v < c)) := fun c hc => propext (nI_ltI (by omega) (by omega))
  have g : ∀ c : Nat, c < 256 → ((nI c < nI v) = (c < v)) := fun c hc => propext (nI_ltI (by omega) (by omega))
  have le : ∀ c : Nat, c < 256 → ((nI v ≤ nI c) = (v ≤ c)) := fun c hc => propext (nI_leI (by omega) (by omega))
  have eq : ∀ c : Nat, c < 256 → ((nI v = nI c) = (v = c)) := fun c hc => propext (nI_eq (by omega) (by omega))
  unfold wp_X8_sortOf wp_X8_sortOf_J26 wp_X8_sortOf_J40 srt
  simp only [show (32 : Int32) = nI 32 from rfl, show (10 : Int32) = nI 10 from rfl, show (97 : Int32) = nI 97 from rfl, show (122 : Int32) = nI 122 from rfl, show (65 : Int32) = nI 65 from rfl, show (90 : Int32) = nI 90 from rfl, show (48 : Int32) = nI 48 from rfl, show (57 : Int32) = nI 57 from rfl, l 97 (by decide), l 65 (by decide), l 48 (by decide), g 90 (by decide), g 57 (by decide), le 122 (by decide), eq 32 (by decide), eq 10 (by decide)]
  by_cases a1 : v = 32
  · rw [if_pos a1, if_pos (Or.inl a1)]; exact Iff.rfl
  · rw [if_neg a1]
    by_cases a2 : v = 10
    · rw [if_pos a2, if_pos (Or.inr a2)]; exact Iff.rfl
    · rw [if_neg a2, if_neg (show ¬ (v = 32 ∨ v = 10) by omega)]
      by_cases b1 : (97 ≤ v ∧ v ≤ 122) ∨ (65 ≤ v ∧ v ≤ 90)
      · rw [if_pos b1]
        by_cases b2 : v < 97
        · rw [if_pos b2, if_neg (by omega), if_neg (by omega)]; exact Iff.rfl
        · rw [if_neg b2, if_pos (by omega)]; exact Iff.rfl
      · rw [if_neg b1]
        by_cases d1 : 48 ≤ v ∧ v ≤ 57
        · rw [if_pos d1, if_pos (by omega), if_pos (by omega), if_neg (by omega), if_neg (by omega)]; exact Iff.rfl
        · rw [if_neg d1]
          by_cases b2 : v < 97
          · rw [if_pos b2]
            by_cases b3 : v < 65
            · rw [if_pos b3]
              by_cases b4 : v < 48
              · rw [if_pos b4]; exact Iff.rfl
              · rw [if_neg b4, if_pos (by omega)]; exact Iff.rfl
            · rw [if_neg b3, if_pos (by omega), if_neg (by omega), if_pos (by omega)]; exact Iff.rfl
          · rw [if_neg b2, if_neg (by omega), if_neg (by omega), if_pos (by omega), if_neg (by omega), if_pos (by omega)]; exact Iff.rfl
