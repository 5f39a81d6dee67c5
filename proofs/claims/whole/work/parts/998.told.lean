/-! A TEXT IS TOLD ANEW: what stays (my own) -/
theorem seg_len {C : CD} {f n : Nat} (h : f + n ≤ C.length) : (seg C f n).length = n := by
  unfold seg
  rw [List.length_take, List.length_drop]
  omega
theorem seg_get {C : CD} {f n j : Nat} {e : Int32 × Int32} (h : (seg C f n)[j]? = some e) : C[f + j]? = some e := by
  unfold seg at h
  rw [List.getElem?_take] at h
  by_cases c : j < n
  · rw [if_pos c, List.getElem?_drop] at h
    exact h
  · rw [if_neg c] at h
    cases h
theorem TR_new {I : Nat → Nat → Int32} {t row : Nat} {lw : Bool} {C : CD} {Ls : List LR} (hx : XTX I t C Ls) (h6 : I 426 row = nI Ls.length) (hl : ∀ (x : Nat) (q : LR), Ls[x]? = some q → I 427 (16 * row + x) = nI q.1 ∧ I 428 (16 * row + x) = nI q.2.1 ∧ I 429 (16 * row + x) = nI q.2.2.1 ∧ I 430 (16 * row + x) = nI q.2.2.2) (hc : ∀ (j : Nat) (e : Int32 × Int32), C[j]? = some e → I 431 (600 * row + j) = e.1 ∧ I 432 (600 * row + j) = e.2) (hLn : ∀ q, q ∈ Ls → LnOK lw C q) : TR I t row (lwL lw) (lwH lw) (slo lw) (shi lw) := by
  obtain ⟨x1, x2, x3, x4, x5, x6, x7, x8⟩ := hx
  have ckE : ∀ f n, f + n ≤ C.length → ck (lwL lw) (lwH lw) (I 431) (I 432) (600 * row + f) n [] = ckL (lwL lw) (lwH lw) (seg C f n) [] := by
    intro f n hf
    have := ck_ckL (lo := lwL lw) (hi := lwH lw) (op := I 431) (ar := I 432) (seg C f n) (600 * row + f) [] (fun j e he => by
      have := hc (f + j) e (seg_get he)
      rw [show 600 * row + f + j = 600 * row + (f + j) by omega]
      exact this)
    rw [seg_len hf] at this
    exact this
  refine ⟨Ls.length, C.length, x7, x1, x6, x2, h6, fun k hk => ?_, x4, fun z k hk w => ?_, fun i hi => ?_⟩
  · have e : C[k]? = some C[k] := List.getElem?_eq_getElem hk
    rw [x3 k _ e, (hc k _ e).1, (hc k _ e).2]
  · have e : C[k]? = some C[k] := List.getElem?_eq_getElem hk
    obtain ⟨w1, w2⟩ := w
    rw [(hc k _ e).1] at w1
    rw [(hc k _ e).2] at w2
    refine x5 z k ?_
    rw [e, ← w1, ← w2]
  · have e : Ls[i]? = some Ls[i] := List.getElem?_eq_getElem hi
    obtain ⟨a1, a2, a3, a4⟩ := hl i _ e
    obtain ⟨b1, b2, b3, b4⟩ := x8 i _ e
    obtain ⟨d1, d2, d3, d4, d5, d6, d7⟩ := hLn _ (List.getElem_mem hi)
    refine ⟨(Ls[i]).2.1, (Ls[i]).2.2.1, (Ls[i]).2.2.2, (Ls[i]).1, d1, d2, d3, d4, d5, a1, b1, a2, b2, a3, b3, a4, b4, ?_, fun z => ?_⟩
    · rw [ckE _ _ (by omega)]; exact d6
    · rw [ckE _ _ (by omega)]; exact d7 z
theorem enc_un {m s g mf pc pf s0 s1 : Nat} (h1 : m < 64) (h2 : s < 32) (h3 : g < 64) (h4 : mf ≤ 1) (h5 : pc < 64) (h6 : pf ≤ 1) : nI (enc m s g mf pc pf s0 s1) &&& (33554431 : Int32) = nI (enc m s g mf pc pf 0 0) := by
  rw [show (33554431 : Int32) = nI 33554431 from rfl, nx_and, show (33554431 : Nat) = 2 ^ 25 - 1 from rfl, Nat.and_two_pow_sub_one_eq_mod]
  congr 1
  unfold enc
  omega
abbrev DD.swp (D : DD) (u : Nat) : DD := (D.1, D.2.1, D.2.2.1, D.2.2.2.1, fun w => if w = 0 then D.tx u else if w = u then D.tx 0 else D.tx w)
theorem swp_0 {D : DD} {u : Nat} : (D.swp u).tx 0 = D.tx u := rfl
theorem swp_u {D : DD} {u : Nat} (h : u ≠ 0) : (D.swp u).tx u = D.tx 0 := by
  show (if u = 0 then D.tx u else if u = u then D.tx 0 else D.tx u) = _
  rw [if_neg h, if_pos rfl]
theorem swp_w {D : DD} {u w : Nat} (h : w ≠ 0) (h2 : w ≠ u) : (D.swp u).tx w = D.tx w := by
  show (if w = 0 then D.tx u else if w = u then D.tx 0 else D.tx w) = _
  rw [if_neg h, if_neg h2]
theorem InvD_swp {D : DD} {u : Nat} (h : InvD D) (hu : u < 2 + D.nL) (u0 : u ≠ 0) : InvD (D.swp u) := by
  obtain ⟨d1, d2, d3, d4, d5, d6, d7, d8, d9⟩ := h
  have d9' : ∀ a b, a < 2 + D.nL → b < 2 + D.nL → a ≠ b → D.tx a ≠ D.tx b := fun a b ha hb hn e => hn (d9 a b ha hb e)
  refine ⟨d1, d2, d3, d4, d5, d6, d7, fun w hw => ?_, fun v w hv hw e => ?_⟩
  · have hw : w < 2 + D.nL := hw
    show (D.swp u).tx w < 2 + D.nL
    by_cases e0 : w = 0
    · rw [e0, swp_0]; exact d8 u hu
    · by_cases e1 : w = u
      · rw [e1, swp_u u0]; exact d8 0 (by omega)
      · rw [swp_w e0 e1]; exact d8 w hw
  · have hv : v < 2 + D.nL := hv
    have hw : w < 2 + D.nL := hw
    by_cases a0 : v = 0
    · subst a0
      by_cases b0 : w = 0
      · exact b0.symm
      · by_cases b1 : w = u
        · rw [swp_0, b1, swp_u u0] at e
          exact absurd e (d9' u 0 hu (by omega) u0)
        · rw [swp_0, swp_w b0 b1] at e
          exact absurd e (d9' u w hu hw (fun z => b1 z.symm))
    · by_cases a1 : v = u
      · subst a1
        rw [swp_u u0] at e
        by_cases b0 : w = 0
        · rw [b0, swp_0] at e
          exact absurd e.symm (d9' v 0 hu (by omega) u0)
        · by_cases b1 : w = v
          · exact b1.symm
          · rw [swp_w b0 b1] at e
            exact absurd e (d9' 0 w (by omega) hw (fun z => b0 z.symm))
      · rw [swp_w a0 a1] at e
        by_cases b0 : w = 0
        · rw [b0, swp_0] at e
          exact absurd e (d9' v u hv hu a1)
        · by_cases b1 : w = u
          · rw [b1, swp_u u0] at e
            exact absurd e (d9' v 0 hv (by omega) a0)
          · rw [swp_w b0 b1] at e
            exact d9 v w hv hw e
theorem ver_ne {I : Nat → Nat → Int32} {n : Nat} (h : CVv I n) (hn : n < 100000) : ¬ I 400 49 = I 400 17 + 1 := by
  obtain ⟨v, v1, v2, v3⟩ := h
  rw [v2, nI_1]
  rcases v3 with e | ⟨w, w1, w2⟩
  · rw [e]; exact fun z => nI_nm1 (show v + 1 < 2 ^ 31 by omega) z.symm
  · rw [w2]; exact fun z => absurd ((nI_eq (by omega) (by omega)).mp z) (by omega)
set_option maxHeartbeats 2000000 in
theorem Inv_text {n : Nat} {I M : Nat → Nat → Int32} {L : Nat → Nat → Int64} {D : DD} {rw0 : Nat} {lw : Bool} (h : InvI n I L D) (hn : n < 100000) (hr : rw0 < 1 + D.nL) (hlw : lw = true ↔ rw0 = 0) (mx : ∀ l k, ¬ Scr D l k → ¬ Xs_D5 D l k → M l k = I l k) (mT : ∀ r, r < 7 → r ≠ rw0 → TSame I M r) (mk : ∀ l k, l < D.nL → 1 + l ≠ rw0 → M (240 + 2 * l + 1) k = I (240 + 2 * l + 1) k) (mk2 : ∀ l k, l < D.nL → 1 + l = rw0 → k < 1600 → M (240 + 2 * l + 1) k = I (240 + 2 * l + 1) k &&& (33554431 : Int32)) (m81 : M 8 1 = 0) (m19 : M 400 19 = 0) (f0 : M 12 0 = M 400 39) (f1 : M 12 1 = M 400 40) (m17 : M 400 17 = I 400 17 + 1) (hT : TR M (D.tx 0) rw0 (lwL lw) (lwH lw) (slo lw) (shi lw)) : InvI (n + 1) M L (D.swp (1 + rw0)) := by
  have hD := h.1
  have nL6 := h.nL6
  have u0 : 1 + rw0 ≠ 0 := by omega
  have hu : 1 + rw0 < 2 + D.nL := by omega
  have hD' := InvD_swp hD hu u0
  obtain ⟨c1, c2, c3, c4, c5, c6, c7, c8, c9, c10, c11⟩ := h.2.1
  have hVv := h.2.2.2.2.2.2.2.2.2.2.2.2.2.1
  have t0 : D.tx 0 < 8 := tx_lt hD (by omega)
  have e414 : M 414 = I 414 := funext fun k => mx 414 k (by unfold Scr; omega) (by unfold Xs_D5; omega)
  have e447 : ∀ l, M 447 l = I 447 l := fun l => mx 447 l (by unfold Scr; omega) (by unfold Xs_D5; omega)
  have htx : ∀ w, w < 2 + D.nL → w ≠ 0 → (∀ k, M (20 + 8 * D.tx w) k = I (20 + 8 * D.tx w) k) ∧ ∀ j k, 1 ≤ j → j ≤ 5 → M (20 + 8 * D.tx w + j) k = I (20 + 8 * D.tx w + j) k := by
    intro w hw hw0
    have b1 := hD.2.2.2.2.2.2.2.1 w hw
    have b2 := tx_ne hD hw (show 0 < 2 + D.nL by omega) hw0
    refine ⟨fun k => mx _ _ ?_ ?_, fun j k j1 j2 => mx _ _ ?_ ?_⟩
    · unfold Scr; omega
    · unfold Xs_D5; omega
    · unfold Scr; omega
    · unfold Xs_D5; omega
  have hsay : ∀ l a b t, l < D.nL → 1 + l ≠ rw0 → sayF M l a b t = sayF I l a b t := fun l a b t hl hne => sayF_cg (CX_of h hl) (mT (1 + l) (by omega) hne) e414 (e447 l)
  refine InvI_D5 (m := n + 1) h ⟨hD', ?_, ?_, ?_, ?_, ?_, ?_⟩ h.2.2.2.2.2.2.2.2.1 mx
  · refine ⟨?_, ?_, ?_, ?_, ?_, ?_, ?_, ?_, ?_, ?_, ?_⟩
    · rw [mx _ _ (by unfold Scr; omega) (by unfold Xs_D5; omega)]; exact c1
    · rw [mx _ _ (by unfold Scr; omega) (by unfold Xs_D5; omega)]; exact c2
    · rw [mx _ _ (by unfold Scr; omega) (by unfold Xs_D5; omega)]; exact c3
    · rw [mx _ _ (by unfold Scr; omega) (by unfold Xs_D5; omega)]; exact c4
    · rw [mx _ _ (by unfold Scr; omega) (by unfold Xs_D5; omega)]; exact c5
    · rw [mx _ _ (by unfold Scr; omega) (by unfold Xs_D5; omega)]; exact c6
    · rw [mx _ _ (by unfold Scr; omega) (by unfold Xs_D5; omega)]; exact c7
    · rw [mx _ _ (by unfold Scr; omega) (by unfold Xs_D5; omega)]; exact c8
    · rw [mx _ _ (by unfold Scr; omega) (by unfold Xs_D5; omega)]; exact c9
    · rw [mx _ _ (by unfold Scr; omega) (by unfold Xs_D5; omega)]; exact c10
    · rw [mx _ _ (by unfold Scr; omega) (by unfold Xs_D5; omega)]
      refine c11.trans (congrArg nI ?_)
      exact (nFound_cg (D := D) (D' := D.swp (1 + rw0)) D.nA (fun i _ => rfl)).symm
  · exact ⟨⟨0, by omega, m81, m19, fun j hj => by omega⟩, f0, f1⟩
  · refine ⟨?_, fun l hl => ?_⟩
    · by_cases e : rw0 = 0
      · have l1 : lw = true := hlw.mpr e
        subst e
        show TR M ((D.swp 1).tx 1) 0 0 8 0 3
        rw [swp_u (by decide)]
        rw [show lwL lw = 0 by unfold lwL; rw [if_pos l1], show lwH lw = 8 by unfold lwH; rw [if_pos l1], show slo lw = 0 by unfold slo; rw [if_pos l1], show shi lw = 3 by unfold shi; rw [if_pos l1]] at hT
        exact hT
      · show TR M ((D.swp (1 + rw0)).tx 1) 0 0 8 0 3
        rw [swp_w (by decide) (by omega)]
        exact TR_cg h.2.2.2.2.2.2.2.2.2.2.1.1 (mT 0 (by omega) (by omega)) (htx 1 (by omega) (by omega)).1 (htx 1 (by omega) (by omega)).2
    · have hl : l < D.nL := hl
      show TR M ((D.swp (1 + rw0)).tx (2 + l)) (1 + l) 8 14 3 5
      by_cases e : 1 + l = rw0
      · have l1 : ¬ lw = true := fun z => by have := hlw.mp z; omega
        subst e
        rw [show 1 + (1 + l) = 2 + l by omega, swp_u (by omega)]
        rw [show lwL lw = 8 by unfold lwL; rw [if_neg l1], show lwH lw = 14 by unfold lwH; rw [if_neg l1], show slo lw = 3 by unfold slo; rw [if_neg l1], show shi lw = 5 by unfold shi; rw [if_neg l1]] at hT
        exact hT
      · rw [swp_w (by omega) (by omega)]
        exact TR_cg (CX_of h hl) (mT (1 + l) (by omega) e) (htx (2 + l) (by omega) (by omega)).1 (htx (2 + l) (by omega) (by omega)).2
  · intro l a b hl ha hb
    have hl : l < D.nL := hl
    obtain ⟨q1, q2⟩ := h.2.2.2.2.2.2.2.2.2.2.2.1 l a b hl ha hb
    have er : ∀ a, row M a = row I a := fun a => by
      unfold row; rw [e414]
    rw [er a, er b, e447 l]
    by_cases e : 1 + l = rw0
    · rw [mk2 l _ hl e (by omega)]
      refine ⟨fun z => by rw [q1 z]; decide, fun z1 z2 => ?_⟩
      obtain ⟨m, s, g, mf, pc, pf, s0, s1, w1, w2, w3, w4, w5⟩ := q2 z1 z2
      refine ⟨m, s, g, mf, pc, pf, 0, 0, ?_, w2, w3, Or.inl rfl, Or.inl rfl⟩
      rw [w1]
      have k1 : m < 64 ∧ s < 32 ∧ g < 64 ∧ mf ≤ 1 := by
        rcases w2 with ⟨x1, x2, x3, x4⟩ | ⟨x1, x2, x3, x4⟩
        · omega
        · have y1 := manyF_le (row I a) (row I b) (I 447 l) (bestF (row I a) (row I b) (I 447 l))
          have y2 := bestF_lt (row I a) (row I b) (I 447 l)
          have y3 : longF (row I a) (row I b) (I 447 l) ≤ 32 := Nat.min_le_left _ _
          have y1 : bestM (row I a) (row I b) (I 447 l) ≤ 32 := y1
          omega
      have k2 : pc < 64 ∧ pf ≤ 1 := by
        rcases w3 with ⟨x1, x2⟩ | ⟨x1, x2⟩
        · omega
        · have y := piecesF_le (row I a) (row I b) (I 447 l)
          omega
      exact enc_un k1.1 k1.2.1 k1.2.2.1 k1.2.2.2 k2.1 k2.2
    · rw [mk l _ hl e, hsay l a b 0 hl e, hsay l a b 1 hl e]
      exact ⟨q1, q2⟩
  · intro z
    rw [mx 400 49 (by unfold Scr; omega) (by unfold Xs_D5; omega), m17] at z
    exact absurd z (ver_ne hVv hn)
  · obtain ⟨v, v1, v2, v3⟩ := hVv
    refine ⟨v + 1, by omega, by rw [m17, v2, nI_1], ?_⟩
    rw [mx 400 49 (by unfold Scr; omega) (by unfold Xs_D5; omega)]
    rcases v3 with e | ⟨w, w1, w2⟩
    · exact Or.inl e
    · exact Or.inr ⟨w, by omega, w2⟩
