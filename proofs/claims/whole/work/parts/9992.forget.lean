/-! judgement: what a looker said is forgotten (my own; draft, not yet compiled) -/
theorem x_forgetSaid {L : Nat → Nat → Int64} {D : DD} {I0 : Nat → Nat → Int32} {l : Nat} (hl : l < D.nL) (hm : D.nL ≤ 6) {Q : Hp → Prop} (hQ : ∀ I, (∀ a k, a ≠ 240 + 2 * l + 1 → I a k = I0 a k) → (∀ k, k < 1600 → I (240 + 2 * l + 1) k = I0 (240 + 2 * l + 1) k &&& (33554431 : Int32)) → Q (fm I L D)) : wp_X3_forgetSaid (240 + 2 * l) (fm I0 L D) Q := by
  unfold wp_X3_forgetSaid
  have key : ∀ (N k : Nat) (I : Nat → Nat → Int32), k ≤ 1600 → 1600 < N + k → (∀ a j, a ≠ 240 + 2 * l + 1 → I a j = I0 a j) → (∀ j, j < k → I (240 + 2 * l + 1) j = I0 (240 + 2 * l + 1) j &&& (33554431 : Int32)) → (∀ j, k ≤ j → I (240 + 2 * l + 1) j = I0 (240 + 2 * l + 1) j) → wp_X3_forgetSaid_L2 (240 + 2 * l) (fun (h9 : Hp) => Q h9) Q N (nI k) (fm I L D) := by
    intro N
    induction N with
    | zero => intro k I h1 h2; omega
    | succ N ih =>
      intro k I h1 h2 hf ha hb
      rw [wp_X3_forgetSaid_L2]
      simp only [gK, gI, gL, gR_, g_stI, g_stL, forall_eq, true_and, ad_s, okA_s, okO_s, okN_s, i10, i00, if_true, if_false, reduceCtorEq, Kf_1, Kf_400, Kf_look hl hm, Rf_look hl hm, Kf_lookr hl hm]
      by_cases e : k = 1600
      · rw [if_pos (nI_le (by omega) (by omega))]
        exact hQ I hf (fun j hj => ha j (by omega))
      · rw [if_neg (nI_ge (by omega) (by omega))]
        simp only [gK, gI, gL, gR_, g_stI, g_stL, forall_eq, true_and, ad_s, okA_s, okO_s, okN_s, i10, i00, if_true, if_false, reduceCtorEq, Kf_1, Kf_400, Kf_look hl hm, Rf_look hl hm, Kf_lookr hl hm, vp_in_nI (show k < 1600 by omega) (show 1600 < 2 ^ 31 by decide), nI_clamp (show k < 2 ^ 31 by omega), hb k (Nat.le_refl _), nI_1]
        refine ih (k + 1) _ (by omega) (by omega) (fun a j z => (up2_o (by omega)).trans (hf a j z)) (fun j hj => ?_) (fun j hj => (up2_o (by omega)).trans (hb j (by omega)))
        by_cases ej : j = k
        · rw [ej, up2_s]
        · rw [up2_o (by omega)]; exact ha j (by omega)
  exact key fuel 0 I0 (by omega) (by have := fuel_ge; omega) (fun _ _ _ => rfl) (fun j hj => by omega) (fun _ _ => rfl)
