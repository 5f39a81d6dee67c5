/-! WHAT THE STATEMENT GIVES AT THE LAW'S ENTRY (my own) -/
theorem arr_p {args : Array Value} {s : State} {ty : FieldType} (h : (Cond.arrayClass ty).before args s = true) : ∃ cA : ClassId, ArrOfT s cA ty ∧ s.vm.findClass ("[" ++ ty.toString) = some cA := by
  obtain ⟨c, k, comp, h1, h2, h3⟩ := Cond.arrayClass_spec h
  exact ⟨c, fun n z => ⟨fun k h => (by cases h), k, h2, comp, h3⟩, h1⟩
theorem arr_o {args : Array Value} {s : State} {C : String} (h : (Cond.arrayOver (.object C)).before args s = true) : ∃ cA : ClassId, ArrOfT s cA (.object C) ∧ va_RA s cA (.object C) := by
  obtain ⟨comp, c, k, h1, h2, h3, h4, h5⟩ := Cond.arrayOver_spec h
  exact ⟨c, fun n z => ⟨fun k h => (by cases h), k, h3, comp, h4⟩, k, comp, h3, h4, h1, h5⟩
def tmJ : Nat → Term := fun i => if i = 0 then .string RX8 56 else .string RX8 49
def nwF : List Cond := flatC (Jvm.Cond.and given_1 narrow_1)
theorem nar_0 : ∀ j, j < 114 → nwF[13 + j]? = some (Cond.eq (.elem (.field (tmJ 0) "java/lang/String" "value" "[B") (.int (Int32.ofNat j))) (.int ((byJ.getD 0 []).getD j 0))) := by decide +kernel
theorem nar_1 : ∀ j, j < 10 → nwF[131 + j]? = some (Cond.eq (.elem (.field (tmJ 1) "java/lang/String" "value" "[B") (.int (Int32.ofNat j))) (.int ((byJ.getD 1 []).getD j 0))) := by decide +kernel
theorem for2 {P : Nat → Prop} (h0 : P 0) (h1 : P 1) : ∀ i : Nat, i < 2 → P i := fun i hi => by
  rcases (show i = 0 ∨ i = 1 by omega) with rfl | rfl
  · exact h0
  · exact h1
theorem law_texts {s : State} {b : Nat} (hgv : (Jvm.Cond.and given_1 narrow_1).before #[Value.ref b] s = true) : ∃ adK adV : Nat → Nat, vk_S 2 lnJ byJ adK adV (fun q => s.heap.size ≤ q) s s.heap ∧ ∀ i : Nat, i < 2 → (tmJ i).eval #[Value.ref b] s none [] s = some (.ref (adK i)) := by
  have hs : ∀ c ∈ nwF, c.before #[Value.ref b] s = true := flat_of_before _ hgv
  have at_ : ∀ (i : Nat) (c : Cond), nwF[i]? = some c → c.before #[Value.ref b] s = true := fun i c h => hs c (List.mem_of_getElem? h)
  refine vk_Sof (tm := tmJ) (N := 2) (len := lnJ) (byt := byJ) (for2 (by decide) (by decide)) (for2 ?_ ?_) (for2 ?_ ?_) (for2 ?_ ?_) (for2 ?_ ?_) (for2 (fun j hj => ?_) (fun j hj => ?_)) (fun i j hi hj hn => ?_) (fun a ha => Nat.not_le.mpr ha)
  · exact at_ 9 _ (by decide +kernel)
  · exact at_ 127 _ (by decide +kernel)
  · exact at_ 10 _ (by decide +kernel)
  · exact at_ 128 _ (by decide +kernel)
  · exact at_ 11 _ (by decide +kernel)
  · exact at_ 129 _ (by decide +kernel)
  · exact at_ 12 _ (by decide +kernel)
  · exact at_ 130 _ (by decide +kernel)
  · exact at_ (13 + j) _ (nar_0 j hj)
  · exact at_ (131 + j) _ (nar_1 j hj)
  · have hd : (Cond.not (Cond.eq (tmJ 0) (tmJ 1))).before #[Value.ref b] s = true := at_ 141 _ (by decide +kernel)
    rcases (show i = 0 ∨ i = 1 by omega) with rfl | rfl
    · rcases (show j = 0 ∨ j = 1 by omega) with rfl | rfl
      · exact absurd rfl hn
      · exact Or.inl hd
    · rcases (show j = 0 ∨ j = 1 by omega) with rfl | rfl
      · exact Or.inr hd
      · exact absurd rfl hn
theorem tb_at {s : State} {b : Nat} (hts : ∀ w ∈ lw_tbl, w.before #[Value.ref b] s = true) (i : Nat) (c : Cond) (h : tables_1[i]? = some c) : c.before #[Value.ref b] s = true := hts c (List.mem_append_right _ (List.mem_of_getElem? h))
theorem law_nests {s : State} {b : Nat} (hts : ∀ w ∈ lw_tbl, w.before #[Value.ref b] s = true) : gN s := by
  refine ⟨?_, ?_, ?_⟩
  · refine List.forall_mem_cons.mpr ⟨va_Nw.of rfl (tb_at hts 43 _ (by decide +kernel)), List.forall_mem_cons.mpr ⟨va_Nw.of rfl (tb_at hts 77 _ (by decide +kernel)), List.forall_mem_cons.mpr ⟨va_Nw.of rfl (tb_at hts 135 _ (by decide +kernel)), List.forall_mem_cons.mpr ⟨va_Nw.of rfl (tb_at hts 138 _ (by decide +kernel)), List.forall_mem_cons.mpr ⟨va_Nw.of rfl (tb_at hts 686 _ (by decide +kernel)), fun _ h => absurd h List.not_mem_nil⟩⟩⟩⟩⟩
  · refine List.forall_mem_cons.mpr ⟨va_AO.of (tb_at hts 32 _ (by decide +kernel)), List.forall_mem_cons.mpr ⟨va_AO.of (tb_at hts 34 _ (by decide +kernel)), List.forall_mem_cons.mpr ⟨va_AO.of (tb_at hts 36 _ (by decide +kernel)), List.forall_mem_cons.mpr ⟨va_AO.of (tb_at hts 38 _ (by decide +kernel)), List.forall_mem_cons.mpr ⟨va_AO.of (tb_at hts 40 _ (by decide +kernel)), fun _ h => absurd h List.not_mem_nil⟩⟩⟩⟩⟩
  · exact va_Nw.of rfl (tb_at hts 272 _ (by decide +kernel))
theorem law_classes {s : State} {b : Nat} (hts : ∀ w ∈ lw_tbl, w.before #[Value.ref b] s = true) : ∃ (dC : Nat → ClassId) (dI : Nat → Nat → Nat), ∀ (k : Nat) (q : vw_C), classes[k]? = some q → u_Kn s q.1 q.2.1 q.2.2 (dC k) (dI k) := by
  have hok : ∀ w ∈ lw_ok, w.before #[Value.ref b] s = true := fun w hw => hts w (List.mem_filter.mp hw).1
  obtain ⟨c0, i0, h0⟩ := u_known (C := RX0) (T := TX0) (N := 5) (n := 5) hok in_0 (tb_at hts 353 _ (by decide +kernel))
  obtain ⟨c1, i1, h1⟩ := u_known (C := RX1) (T := TX1) (N := 7) (n := 7) hok in_1 (tb_at hts 262 _ (by decide +kernel))
  obtain ⟨c2, i2, h2⟩ := u_known (C := RX3) (T := TX3) (N := 3) (n := 3) hok in_2 (tb_at hts 680 _ (by decide +kernel))
  obtain ⟨c3, i3, h3⟩ := u_known (C := RX4) (T := TX4) (N := 3) (n := 3) hok in_3 (tb_at hts 814 _ (by decide +kernel))
  obtain ⟨c4, i4, h4⟩ := u_known (C := RX5) (T := TX5) (N := 6) (n := 6) hok in_4 (tb_at hts 70 _ (by decide +kernel))
  obtain ⟨c5, i5, h5⟩ := u_known (C := RX7) (T := TX7) (N := 9) (n := 9) hok in_5 (tb_at hts 76 _ (by decide +kernel))
  obtain ⟨c6, i6, h6⟩ := u_known (C := RX8) (T := TX8) (N := 5) (n := 5) hok in_6 (tb_at hts 42 _ (by decide +kernel))
  obtain ⟨c7, i7, h7⟩ := u_known (C := RX9) (T := TX9) (N := 3) (n := 3) hok in_7 (tb_at hts 221 _ (by decide +kernel))
  obtain ⟨c8, i8, h8⟩ := u_known (C := RX10) (T := TX10) (N := 6) (n := 6) hok in_8 (tb_at hts 137 _ (by decide +kernel))
  obtain ⟨c9, i9, h9⟩ := u_known (C := RX11) (T := TX11) (N := 16) (n := 16) hok in_9 (tb_at hts 24 _ (by decide +kernel))
  obtain ⟨c10, i10, h10⟩ := u_known (C := RX12) (T := TX12) (N := 62) (n := 62) hok in_10 (tb_at hts 907 _ (by decide +kernel))
  refine ⟨fun k => [c0, c1, c2, c3, c4, c5, c6, c7, c8, c9, c10].getD k c0, fun k => [i0, i1, i2, i3, i4, i5, i6, i7, i8, i9, i10].getD k i0, ?_⟩
  intro k q hq
  match k, hq with
  | 0, hq => cases hq; exact h0
  | 1, hq => cases hq; exact h1
  | 2, hq => cases hq; exact h2
  | 3, hq => cases hq; exact h3
  | 4, hq => cases hq; exact h4
  | 5, hq => cases hq; exact h5
  | 6, hq => cases hq; exact h6
  | 7, hq => cases hq; exact h7
  | 8, hq => cases hq; exact h8
  | 9, hq => cases hq; exact h9
  | 10, hq => cases hq; exact h10
  | k + 11, hq => simp [classes] at hq
theorem law_world {s : State} {b : Nat} (hts : ∀ w ∈ lw_tbl, w.before #[Value.ref b] s = true) (hgv : (Jvm.Cond.and given_1 narrow_1).before #[Value.ref b] s = true) : ∃ G : GG, va_K G.1 classes (tysG G) s ∧ (gS G s.heap.size s s.heap ∧ gR G s) := by
  have hs : ∀ c ∈ nwF, c.before #[Value.ref b] s = true := flat_of_before _ hgv
  have at_ : ∀ (i : Nat) (c : Cond), nwF[i]? = some c → c.before #[Value.ref b] s = true := fun i c h => hs c (List.mem_of_getElem? h)
  obtain ⟨dC, dI, hKc⟩ := law_classes hts
  obtain ⟨adK, adV, hT, hTe⟩ := law_texts hgv
  obtain ⟨a1, r1, t1⟩ := arr_p (tb_at hts 68 (.arrayClass .int) (by decide +kernel))
  obtain ⟨a2, r2, t2⟩ := arr_p (tb_at hts 67 (.arrayClass .long) (by decide +kernel))
  obtain ⟨a3, r3⟩ := arr_o (tb_at hts 36 (.arrayOver (.object RX0)) (by decide +kernel))
  obtain ⟨a4, r4⟩ := arr_o (tb_at hts 34 (.arrayOver (.object RX1)) (by decide +kernel))
  obtain ⟨a5, r5⟩ := arr_o (tb_at hts 38 (.arrayOver (.object RX3)) (by decide +kernel))
  obtain ⟨a6, r6⟩ := arr_o (tb_at hts 40 (.arrayOver (.object RX4)) (by decide +kernel))
  obtain ⟨a10, r10⟩ := arr_o (tb_at hts 32 (.arrayOver (.object RX9)) (by decide +kernel))
  refine ⟨((dC, dI), fun k => [a1, a1, a2, a3, a4, a5, a6, a1, a1, a1, a10].getD k a1, adK, adV), ⟨hKc, ?_⟩, ⟨hT, ?_, ?_⟩, ?_, ?_, law_nests hts⟩
  · intro k q hq
    match k, hq with
    | 0, hq => cases hq; exact ⟨r1, t1⟩
    | 1, hq => cases hq; exact ⟨r2, t2⟩
    | 2, hq => cases hq; exact r3
    | 3, hq => cases hq; exact r4
    | 4, hq => cases hq; exact r5
    | 5, hq => cases hq; exact r6
    | 6, hq => cases hq; exact r10
    | k + 7, hq => simp [tysG] at hq
  · exact va_Zof (tb_at hts 478 _ (by decide +kernel)) (tb_at hts 13 _ (by decide +kernel)) (va_eqi (at_ 4 _ (by decide +kernel))) (fun a ha => Nat.not_le.mpr ha)
  · exact va_Zqof (tb_at hts 494 _ (by decide +kernel)) (tb_at hts 15 _ (by decide +kernel)) (at_ 5 _ (by decide +kernel)) (fun a ha => Nat.not_le.mpr ha)
  · exact vk_R.of (tb_at hts 468 _ (by decide +kernel)) (hTe 0 (by decide))
  · exact vk_R.of (tb_at hts 525 _ (by decide +kernel)) (hTe 1 (by decide))
