abbrev rm_X12_forgets : Room := { frames := 0, cells := 0, slots := 0, locals := 0 }
set_option maxRecDepth 100000 in
def wp_X12_forgets_L22 (o : Nat) (K42 : Hp → Prop) (Q : Hp → Prop) : Nat → Int32 → Hp → Prop
  | 0, _, _ => False
  | n + 1, x1, h => (if (19200 : Int32) ≤ x1 then (K42 h) else (((hpK h o).1 = 20 + 10) ∧ (okA h (hpR h o 50) 1 x1 ∧ (∀ h7 : Hp, h7 = stI h (ad (hpR h o 50)) (x1).toNatClampNeg (0 : Int32) → (∀ v8 : Int32, v8 = x1 + (1 : Int32) → (wp_X12_forgets_L22 o K42 Q n v8 h7))))))
set_option maxRecDepth 100000 in
def wp_X12_forgets_L44 (o : Nat) (K64 : Hp → Prop) (Q : Hp → Prop) : Nat → Int32 → Hp → Prop
  | 0, _, _ => False
  | n + 1, x1, h => (if (9600 : Int32) ≤ x1 then (K64 h) else (((hpK h o).1 = 20 + 10) ∧ (okA h (hpR h o 51) 1 x1 ∧ (∀ h13 : Hp, h13 = stI h (ad (hpR h o 51)) (x1).toNatClampNeg (0 : Int32) → (∀ v14 : Int32, v14 = x1 + (1 : Int32) → (wp_X12_forgets_L44 o K64 Q n v14 h13))))))
set_option maxRecDepth 100000 in
def wp_X12_forgets (o : Nat) (h : Hp) (Q : Hp → Prop) : Prop := ((hpK h o).1 = 20 + 10) ∧ ((if (hpI h o 49) = (hpI h o 17) then (Q h) else (∀ h3 : Hp, h3 = stI h o 49 (hpI h o 17) → (wp_X12_forgets_L22 o (fun (h9 : Hp) => wp_X12_forgets_L44 o (fun (h15 : Hp) => Q h15) Q fuel (0 : Int32) h9) Q fuel (0 : Int32) h3))))
set_option maxHeartbeats 4000000 in
set_option maxRecDepth 100000 in
theorem t_X12_forgets_L22 {p : Program} {l : Launch} {e : Env} {s : State} {m : MethodId} {args : Array Value} {below : List Frame} {meth : Method} {c : Code} {G : GG} {base : Nat} {A : Nat → Nat} {g0 : Hp} (hM : Mx G base p s m args meth c cX12_forgets 2 none RX12 "forgets") (o : Nat) (K42 : Hp → Prop) (Q : Hp → Prop) (hK42 : ∀ (h : Hp) (H : Heap) (locs : List Loc) (ls : Array Slot), Cx2 G base A g0 A h s.heap H locs → lo_has ls 2 [(0, .ref (A o))] → K42 h → W p l e rm_X12_forgets s m args below meth c H locs 0 0 (MQ below (va_Qv Q (PU2 G base A g0 A) (fun q => base ≤ q)) args s 0 0 (fun q => base ≤ q)) (F0 m 42 ls [])) : ∀ (n : Nat) (x1 : Int32) (h : Hp) (H : Heap) (locs : List Loc) (ls : Array Slot), Cx2 G base A g0 A h s.heap H locs → lo_has ls 2 [(0, .ref (A o)), (1, .int x1)] → wp_X12_forgets_L22 o K42 Q n x1 h → W p l e rm_X12_forgets s m args below meth c H locs 0 0 (MQ below (va_Qv Q (PU2 G base A g0 A) (fun q => base ≤ q)) args s 0 0 (fun q => base ≤ q)) (F0 m 22 ls []) := by
  intro n
  induction n with
  | zero =>
    intro x1 h H locs ls hC hl hw
    rw [wp_X12_forgets_L22] at hw
    exact hw.elim
  | succ n ih =>
    intro x1 h H locs ls hC hl hw
    rw [wp_X12_forgets_L22] at hw
    obtain ⟨hx, hb, hr, hml, hown, hts, hg, hs, hlk, hnm⟩ := id hM
    refine lv_iload_n hx hb dX12_forgets_22 rfl (lo_at hl 1 rfl) ?_
    refine lv_sipush (v := 19200) hx hb dX12_forgets_23 (by decide) ?_
    refine lv_icmp_ge (tgt := 42) hx hb dX12_forgets_26 (by decide) (fun c4 => ?_) (fun c4 => ?_)
    ·
      replace hw := (if_pos c4).mp hw
      exact hK42  h H locs ls hC (lo_sub hl [0] rfl) hw
    ·
      replace hw := (if_neg c4).mp hw
      refine lv_aload_n hx hb dX12_forgets_29 rfl (lo_at hl 0 rfl) ?_
      obtain ⟨k5, hw⟩ := hw
      refine s_getR hx hb hts hown hg hC fb_10_50 k5 mk_f_RX12_104 dX12_forgets_30 ?_
      refine lv_iload_n hx hb dX12_forgets_33 rfl (lo_at hl 1 rfl) ?_
      refine lv_iconst (v := 0) hx hb dX12_forgets_34 (by decide) ?_
      obtain ⟨k6, hw⟩ := hw
      refine sf_3 k6.1 ?_
      refine s_iast hx hb hg hC k6.2.1 k6.2.2 dX12_forgets_35 (fun h7 H locs eh7 hC => ?_)
      replace hw := hw h7 eh7
      obtain ⟨v8, ev8⟩ : ∃ y : Int32, y = x1 + (1 : Int32) := ⟨_, rfl⟩
      replace hw := hw v8 ev8
      refine lo_iinc (v := v8) (lv' := [(1, .int v8), (0, .ref (A o))]) hx hb dX12_forgets_36 hl (k := 1) rfl (by rw [ev8]; rfl) (by decide) rfl (fun ls hl => ?_)
      refine lv_goto (tgt := 22) hx hb dX12_forgets_39 (by decide) ?_
      exact ih v8 h7 H locs ls hC (lo_sub hl [1, 0] rfl) hw
set_option maxHeartbeats 4000000 in
set_option maxRecDepth 100000 in
theorem t_X12_forgets_L44 {p : Program} {l : Launch} {e : Env} {s : State} {m : MethodId} {args : Array Value} {below : List Frame} {meth : Method} {c : Code} {G : GG} {base : Nat} {A : Nat → Nat} {g0 : Hp} (hM : Mx G base p s m args meth c cX12_forgets 2 none RX12 "forgets") (o : Nat) (K64 : Hp → Prop) (Q : Hp → Prop) (hK64 : ∀ (h : Hp) (H : Heap) (locs : List Loc) (ls : Array Slot), Cx2 G base A g0 A h s.heap H locs → lo_has ls 2 [] → K64 h → W p l e rm_X12_forgets s m args below meth c H locs 0 0 (MQ below (va_Qv Q (PU2 G base A g0 A) (fun q => base ≤ q)) args s 0 0 (fun q => base ≤ q)) (F0 m 64 ls [])) : ∀ (n : Nat) (x1 : Int32) (h : Hp) (H : Heap) (locs : List Loc) (ls : Array Slot), Cx2 G base A g0 A h s.heap H locs → lo_has ls 2 [(0, .ref (A o)), (1, .int x1)] → wp_X12_forgets_L44 o K64 Q n x1 h → W p l e rm_X12_forgets s m args below meth c H locs 0 0 (MQ below (va_Qv Q (PU2 G base A g0 A) (fun q => base ≤ q)) args s 0 0 (fun q => base ≤ q)) (F0 m 44 ls []) := by
  intro n
  induction n with
  | zero =>
    intro x1 h H locs ls hC hl hw
    rw [wp_X12_forgets_L44] at hw
    exact hw.elim
  | succ n ih =>
    intro x1 h H locs ls hC hl hw
    rw [wp_X12_forgets_L44] at hw
    obtain ⟨hx, hb, hr, hml, hown, hts, hg, hs, hlk, hnm⟩ := id hM
    refine lv_iload_n hx hb dX12_forgets_44 rfl (lo_at hl 1 rfl) ?_
    refine lv_sipush (v := 9600) hx hb dX12_forgets_45 (by decide) ?_
    refine lv_icmp_ge (tgt := 64) hx hb dX12_forgets_48 (by decide) (fun c10 => ?_) (fun c10 => ?_)
    ·
      replace hw := (if_pos c10).mp hw
      exact hK64  h H locs ls hC (lo_sub hl [] rfl) hw
    ·
      replace hw := (if_neg c10).mp hw
      refine lv_aload_n hx hb dX12_forgets_51 rfl (lo_at hl 0 rfl) ?_
      obtain ⟨k11, hw⟩ := hw
      refine s_getR hx hb hts hown hg hC fb_10_51 k11 mk_f_RX12_107 dX12_forgets_52 ?_
      refine lv_iload_n hx hb dX12_forgets_55 rfl (lo_at hl 1 rfl) ?_
      refine lv_iconst (v := 0) hx hb dX12_forgets_56 (by decide) ?_
      obtain ⟨k12, hw⟩ := hw
      refine sf_3 k12.1 ?_
      refine s_iast hx hb hg hC k12.2.1 k12.2.2 dX12_forgets_57 (fun h13 H locs eh13 hC => ?_)
      replace hw := hw h13 eh13
      obtain ⟨v14, ev14⟩ : ∃ y : Int32, y = x1 + (1 : Int32) := ⟨_, rfl⟩
      replace hw := hw v14 ev14
      refine lo_iinc (v := v14) (lv' := [(1, .int v14), (0, .ref (A o))]) hx hb dX12_forgets_58 hl (k := 1) rfl (by rw [ev14]; rfl) (by decide) rfl (fun ls hl => ?_)
      refine lv_goto (tgt := 44) hx hb dX12_forgets_61 (by decide) ?_
      exact ih v14 h13 H locs ls hC (lo_sub hl [1, 0] rfl) hw
set_option maxHeartbeats 4000000 in
set_option maxRecDepth 100000 in
theorem c_X12_forgets (l : Launch) (G : GG) (base : Nat) (A : Nat → Nat) (o : Nat) (h : Hp) (Q : Hp → Prop) (hw : wp_X12_forgets o h Q) : Met l yX12_forgets (ww yX12_forgets cX12_forgets 2 none) rm_X12_forgets (va_Pc [.ref (A o)] (PU2 G base A h A h)) (va_Qv Q (PU2 G base A h A) (fun q => base ≤ q)) 0 0 (fun q => base ≤ q) := by
  refine met2_of (own := RX12) (nm := "forgets") (by decide) rfl rfl (List.forall_mem_cons.mpr ⟨rfl, (fun _ h => absurd h List.not_mem_nil)⟩) (Nat.le_of_ble_eq_true rfl) rfl ?_
  intro p e s m args below meth c H locs ls hM hC hl
  obtain ⟨hx, hb, hr, hml, hown, hts, hg, hs, hlk, hnm⟩ := id hM
  unfold wp_X12_forgets at hw
  refine lv_aload_n hx hb dX12_forgets_0 rfl (lo_at hl 0 rfl) ?_
  obtain ⟨k1, hw⟩ := hw
  refine s_getI hx hb hts hown hg hC fb_10_49 k1 mk_f_RX12_101 dX12_forgets_1 ?_
  refine lv_aload_n hx hb dX12_forgets_4 rfl (lo_at hl 0 rfl) ?_
  refine s_getI hx hb hts hown hg hC fb_10_17 k1 mk_f_RX12_165 dX12_forgets_5 ?_
  refine lv_icmp_ne (tgt := 12) hx hb dX12_forgets_8 (by decide) (fun c2 => ?_) (fun c2 => ?_)
  ·
    replace hw := (if_neg c2).mp hw
    refine lv_aload_n hx hb dX12_forgets_12 rfl (lo_at hl 0 rfl) ?_
    refine lv_aload_n hx hb dX12_forgets_13 rfl (lo_at hl 0 rfl) ?_
    refine s_getI hx hb hts hown hg hC fb_10_17 k1 mk_f_RX12_165 dX12_forgets_14 ?_
    refine s_putI hx hb hts hown hg hC fb_10_49 k1 rfl rfl mk_f_RX12_101 dX12_forgets_17 (fun h3 H locs eh3 hC => ?_)
    replace hw := hw h3 eh3
    refine lv_iconst (v := 0) hx hb dX12_forgets_20 (by decide) ?_
    refine lo_istore_n (lv' := [(1, .int ((0 : Int32))), (0, .ref (A o))]) hx hb dX12_forgets_21 rfl hl (by decide) rfl (fun ls hl => ?_)
    refine t_X12_forgets_L22 hM o _ Q ?_ fuel (0 : Int32) h3 H locs ls hC (lo_sub hl [1, 0] rfl) hw
    intro  h9 H locs ls hC hl hw
    refine lv_iconst (v := 0) hx hb dX12_forgets_42 (by decide) ?_
    refine lo_istore_n (lv' := [(1, .int ((0 : Int32))), (0, .ref (A o))]) hx hb dX12_forgets_43 rfl hl (by decide) rfl (fun ls hl => ?_)
    refine t_X12_forgets_L44 hM o _ Q ?_ fuel (0 : Int32) h9 H locs ls hC (lo_sub hl [1, 0] rfl) hw
    intro  h15 H locs ls hC hl hw
    exact ret2_v hM hC hw dX12_forgets_64
  ·
    replace hw := (if_pos c2).mp hw
    exact ret2_v hM hC hw dX12_forgets_11
abbrev rm_X12_longest : Room := { frames := 3, cells := 0, slots := 0, locals := 81 }
set_option maxRecDepth 100000 in
def wp_X12_longest_J51 (o : Nat) (x4 : Int32) (Q : Int32 → Hp → Prop) (h : Hp) : Prop := ((hpK h o).1 = 20 + 10) ∧ (okA h (hpR h o 51) 1 x4 ∧ (∀ v11 : Int32, v11 = hpI h (ad (hpR h o 51)) (x4).toNatClampNeg → (Q (v11 - (1 : Int32)) h)))
set_option maxRecDepth 100000 in
def wp_X12_longest (o : Nat) (x1 : Int32) (x2 : Int32) (x3 : Int32) (h : Hp) (Q : Int32 → Hp → Prop) : Prop := ((hpK h o).1 = 20 + 10) ∧ (wp_X12_forgets o h (fun (h2 : Hp) => ∀ v4 : Int32, v4 = (((1600 : Int32) * x1) + ((40 : Int32) * x2)) + x3 → (((hpK h2 o).1 = 20 + 10) ∧ (okA h2 (hpR h2 o 51) 1 v4 ∧ (∀ v7 : Int32, v7 = hpI h2 (ad (hpR h2 o 51)) (v4).toNatClampNeg → ((if v7 = 0 then (wp_X12_bestSlide o x1 x2 x3 h2 (fun (z13 : Int32) (h12 : Hp) => ((hpK h12 o).1 = 20 + 10) ∧ (wp_X12_longestBy o x1 x2 x3 z13 h12 (fun (z16 : Int32) (h15 : Hp) => okA h15 (hpR h2 o 51) 1 v4 ∧ (∀ h18 : Hp, h18 = stI h15 (ad (hpR h2 o 51)) (v4).toNatClampNeg ((1 : Int32) + z16) → (wp_X12_longest_J51 o v4 Q h18)))))) else (wp_X12_longest_J51 o v4 Q h2))))))))
set_option maxHeartbeats 4000000 in
set_option maxRecDepth 100000 in
theorem t_X12_longest_J51 {p : Program} {l : Launch} {e : Env} {s : State} {m : MethodId} {args : Array Value} {below : List Frame} {meth : Method} {c : Code} {G : GG} {base : Nat} {A : Nat → Nat} {g0 : Hp} (hM : Mx G base p s m args meth c cX12_longest 5 (some .int) RX12 "longest") (o : Nat) (x4 : Int32) (Q : Int32 → Hp → Prop) (h : Hp) (H : Heap) (locs : List Loc) (ls : Array Slot) : Cx2 G base A g0 A h s.heap H locs → lo_has ls 5 [(0, .ref (A o)), (4, .int x4)] → wp_X12_longest_J51 o x4 Q h → W p l e rm_X12_longest s m args below meth c H locs 0 0 (MQ below (va_Qi Q (PU2 G base A g0 A) (fun q => base ≤ q)) args s 0 0 (fun q => base ≤ q)) (F0 m 51 ls []) := by
  intro hC hl hw
  unfold wp_X12_longest_J51 at hw
  obtain ⟨hx, hb, hr, hml, hown, hts, hg, hs, hlk, hnm⟩ := id hM
  refine lv_aload_n hx hb dX12_longest_51 rfl (lo_at hl 0 rfl) ?_
  obtain ⟨k9, hw⟩ := hw
  refine s_getR hx hb hts hown hg hC fb_10_51 k9 mk_f_RX12_107 dX12_longest_52 ?_
  refine lv_iload hx hb dX12_longest_55 (lo_at hl 1 rfl) ?_
  obtain ⟨k10, hw⟩ := hw
  refine sf_2 k10.1 ?_
  refine s_iald hx hb hg hC k10.2.1 k10.2.2 dX12_longest_57 ?_
  refine lv_topi (fun v11 ev11 => ?_)
  replace hw := hw v11 ev11
  refine lv_iconst (v := 1) hx hb dX12_longest_58 (by decide) ?_
  refine lv_isub hx hb dX12_longest_59 ?_
  exact ret2_i hM hC hw dX12_longest_60
set_option maxHeartbeats 4000000 in
set_option maxRecDepth 100000 in
theorem c_X12_longest (l : Launch) (G : GG) (base : Nat) (A : Nat → Nat) (o : Nat) (x1 : Int32) (x2 : Int32) (x3 : Int32) (h : Hp) (Q : Int32 → Hp → Prop) (hw : wp_X12_longest o x1 x2 x3 h Q) : Met l yX12_longest (ww yX12_longest cX12_longest 5 (some .int)) rm_X12_longest (va_Pc [.ref (A o), .int x1, .int x2, .int x3] (PU2 G base A h A h)) (va_Qi Q (PU2 G base A h A) (fun q => base ≤ q)) 0 0 (fun q => base ≤ q) := by
  refine met2_of (own := RX12) (nm := "longest") (by decide) rfl rfl (List.forall_mem_cons.mpr ⟨rfl, (List.forall_mem_cons.mpr ⟨rfl, (List.forall_mem_cons.mpr ⟨rfl, (List.forall_mem_cons.mpr ⟨rfl, (fun _ h => absurd h List.not_mem_nil)⟩)⟩)⟩)⟩) (Nat.le_of_ble_eq_true rfl) rfl ?_
  intro p e s m args below meth c H locs ls hM hC hl
  obtain ⟨hx, hb, hr, hml, hown, hts, hg, hs, hlk, hnm⟩ := id hM
  unfold wp_X12_longest at hw
  refine lv_aload_n hx hb dX12_longest_0 rfl (lo_at hl 0 rfl) ?_
  obtain ⟨k1, hw⟩ := hw
  refine res2_v hC (run2_V (As := []) (rest := []) hM hC hl.1.1 kv_RX12_324 (c_X12_forgets l G base A o h _ hw) (hc_10) k1 rfl rfl rfl ⟨Nat.le_of_ble_eq_true rfl, Nat.le_of_ble_eq_true rfl⟩ (Nat.le_of_ble_eq_true rfl) ⟨Nat.le_of_ble_eq_true rfl, Nat.le_of_ble_eq_true rfl⟩ dX12_longest_1) (fun h2 H locs hw hC => ?_)
  refine lv_sipush (v := 1600) hx hb dX12_longest_4 (by decide) ?_
  refine lv_iload_n hx hb dX12_longest_7 rfl (lo_at hl 1 rfl) ?_
  refine lv_imul hx hb dX12_longest_8 ?_
  refine lv_bipush (v := 40) hx hb dX12_longest_9 (by decide) ?_
  refine lv_iload_n hx hb dX12_longest_11 rfl (lo_at hl 2 rfl) ?_
  refine lv_imul hx hb dX12_longest_12 ?_
  refine lv_iadd hx hb dX12_longest_13 ?_
  refine lv_iload_n hx hb dX12_longest_14 rfl (lo_at hl 3 rfl) ?_
  refine lv_iadd hx hb dX12_longest_15 ?_
  refine lv_topi (fun v4 ev4 => ?_)
  replace hw := hw v4 ev4
  refine lo_istore (lv' := [(4, .int v4), (0, .ref (A o)), (1, .int x1), (2, .int x2), (3, .int x3)]) hx hb dX12_longest_16 hl (by decide) rfl (fun ls hl => ?_)
  refine lv_aload_n hx hb dX12_longest_18 rfl (lo_at hl 1 rfl) ?_
  obtain ⟨k5, hw⟩ := hw
  refine s_getR hx hb hts hown hg hC fb_10_51 k5 mk_f_RX12_107 dX12_longest_19 ?_
  refine lv_iload hx hb dX12_longest_22 (lo_at hl 0 rfl) ?_
  obtain ⟨k6, hw⟩ := hw
  refine sf_2 k6.1 ?_
  refine s_iald hx hb hg hC k6.2.1 k6.2.2 dX12_longest_24 ?_
  refine lv_topi (fun v7 ev7 => ?_)
  replace hw := hw v7 ev7
  refine lv_if_ne (tgt := 51) hx hb dX12_longest_25 (by decide) (fun c8 => ?_) (fun c8 => ?_)
  ·
    replace hw := (if_neg c8).mp hw
    exact t_X12_longest_J51 hM o v4 Q  h2 H locs ls hC (lo_sub hl [1, 0] rfl) hw
  ·
    replace hw := (if_pos c8).mp hw
    refine lv_aload_n hx hb dX12_longest_28 rfl (lo_at hl 1 rfl) ?_
    refine s_getR hx hb hts hown hg hC fb_10_51 k5 mk_f_RX12_107 dX12_longest_29 ?_
    refine lv_iload hx hb dX12_longest_32 (lo_at hl 0 rfl) ?_
    refine lv_iconst (v := 1) hx hb dX12_longest_34 (by decide) ?_
    refine lv_aload_n hx hb dX12_longest_35 rfl (lo_at hl 1 rfl) ?_
    refine lv_iload_n hx hb dX12_longest_36 rfl (lo_at hl 2 rfl) ?_
    refine lv_iload_n hx hb dX12_longest_37 rfl (lo_at hl 3 rfl) ?_
    refine lv_iload_n hx hb dX12_longest_38 rfl (lo_at hl 4 rfl) ?_
    refine lv_aload_n hx hb dX12_longest_39 rfl (lo_at hl 1 rfl) ?_
    refine lv_iload_n hx hb dX12_longest_40 rfl (lo_at hl 2 rfl) ?_
    refine lv_iload_n hx hb dX12_longest_41 rfl (lo_at hl 3 rfl) ?_
    refine lv_iload_n hx hb dX12_longest_42 rfl (lo_at hl 4 rfl) ?_
    refine res2_i hC (run2_V (As := [.int x1, .int x2, .int x3]) (rest := [.int x3, .int x2, .int x1, .ref (A o), .int ((1 : Int32)), .int v4, va_rf (Option.map A (hpR h2 o 51))]) hM hC hl.1.1 kv_RX12_318 (c_X12_bestSlide l G base A o x1 x2 x3 h2 _ hw) (hc_10) k5 rfl rfl rfl ⟨Nat.le_of_ble_eq_true rfl, Nat.le_of_ble_eq_true rfl⟩ (rest_le (List.forall_mem_cons.mpr ⟨rfl, (List.forall_mem_cons.mpr ⟨rfl, (List.forall_mem_cons.mpr ⟨rfl, (List.forall_mem_cons.mpr ⟨rfl, (List.forall_mem_cons.mpr ⟨rfl, (List.forall_mem_cons.mpr ⟨rfl, (List.forall_mem_cons.mpr ⟨va_rf_cat _, (fun _ h => absurd h List.not_mem_nil)⟩)⟩)⟩)⟩)⟩)⟩)⟩) (Nat.le_of_ble_eq_true rfl)) ⟨Nat.le_of_ble_eq_true rfl, Nat.le_of_ble_eq_true rfl⟩ dX12_longest_43) (fun z13 h12 H locs hw hC => ?_)
    obtain ⟨k14, hw⟩ := hw
    refine res2_i hC (run2_V (As := [.int x1, .int x2, .int x3, .int z13]) (rest := [.int ((1 : Int32)), .int v4, va_rf (Option.map A (hpR h2 o 51))]) hM hC hl.1.1 kv_RX12_321 (c_X12_longestBy l G base A o x1 x2 x3 z13 h12 _ hw) (hc_10) k14 rfl rfl rfl ⟨Nat.le_of_ble_eq_true rfl, Nat.le_of_ble_eq_true rfl⟩ (rest_le (List.forall_mem_cons.mpr ⟨rfl, (List.forall_mem_cons.mpr ⟨rfl, (List.forall_mem_cons.mpr ⟨va_rf_cat _, (fun _ h => absurd h List.not_mem_nil)⟩)⟩)⟩) (Nat.le_of_ble_eq_true rfl)) ⟨Nat.le_of_ble_eq_true rfl, Nat.le_of_ble_eq_true rfl⟩ dX12_longest_46) (fun z16 h15 H locs hw hC => ?_)
    refine lv_iadd hx hb dX12_longest_49 ?_
    obtain ⟨k17, hw⟩ := hw
    refine sf_3 k17.1 ?_
    refine s_iast hx hb hg hC k17.2.1 k17.2.2 dX12_longest_50 (fun h18 H locs eh18 hC => ?_)
    replace hw := hw h18 eh18
    exact t_X12_longest_J51 hM o v4 Q  h18 H locs ls hC (lo_sub hl [1, 0] rfl) hw
abbrev rm_X12_judges : Room := { frames := 3, cells := 0, slots := 0, locals := 81 }
set_option maxRecDepth 100000 in
def wp_X12_judges_L98 (o : Nat) (x6 : Int32) (K139 : Int32 → Hp → Prop) (K162 : Hp → Prop) (Q : Int32 → Hp → Prop) : Nat → Int32 → Hp → Prop
  | 0, _, _ => False
  | n + 1, x7, h => ((hpK h o).1 = 20 + 10) ∧ (okA h (hpR h o 25) 1 x6 ∧ (∀ v34 : Int32, v34 = hpI h (ad (hpR h o 25)) (x6).toNatClampNeg → ((if (((16 : Int32) * x6) + v34) ≤ x7 then (K162 h) else (okA h (hpR h o 28) 1 x7 ∧ (∀ v37 : Int32, v37 = hpI h (ad (hpR h o 28)) (x7).toNatClampNeg → (okA h (hpR h o 29) 1 x7 ∧ (∀ v39 : Int32, v39 = hpI h (ad (hpR h o 29)) (x7).toNatClampNeg → (wp_X12_worth o x6 v37 v39 h (fun (z41 : Int32) (h40 : Hp) => (if z41 = 0 then (∀ v43 : Int32, v43 = x7 + (1 : Int32) → (wp_X12_judges_L98 o x6 K139 K162 Q n v43 h40)) else (K139 x7 h40))))))))))))
set_option maxRecDepth 100000 in
def wp_X12_judges (o : Nat) (x1 : Int32) (x2 : Int32) (x3 : Int32) (x4 : Int32) (h : Hp) (Q : Int32 → Hp → Prop) : Prop := ((hpK h o).1 = 20 + 10) ∧ (wp_X12_bestSlide o x1 x2 x3 h (fun (z3 : Int32) (h2 : Hp) => ((hpK h2 o).1 = 20 + 10) ∧ (wp_X12_manyOf o x1 x2 x3 z3 h2 (fun (z6 : Int32) (h5 : Hp) => okA h5 (hpR h2 o 41) 1 (8 : Int32) ∧ (∀ h8 : Hp, h8 = stI h5 (ad (hpR h2 o 41)) ((8 : Int32)).toNatClampNeg z6 → (((hpK h8 o).1 = 20 + 10) ∧ (wp_X12_longestBy o x1 x2 x3 z3 h8 (fun (z11 : Int32) (h10 : Hp) => okA h10 (hpR h8 o 41) 1 (9 : Int32) ∧ (∀ h13 : Hp, h13 = stI h10 (ad (hpR h8 o 41)) ((9 : Int32)).toNatClampNeg z11 → (((hpK h13 o).1 = 20 + 10) ∧ (okA h13 (hpR h13 o 41) 1 (10 : Int32) ∧ (∀ h16 : Hp, h16 = stI h13 (ad (hpR h13 o 41)) ((10 : Int32)).toNatClampNeg z3 → (((hpK h16 o).1 = 20 + 10) ∧ (wp_X12_piecesOf o x1 x2 x3 h16 (fun (z19 : Int32) (h18 : Hp) => okA h18 (hpR h16 o 41) 1 (11 : Int32) ∧ (∀ h21 : Hp, h21 = stI h18 (ad (hpR h16 o 41)) ((11 : Int32)).toNatClampNeg z19 → (((hpK h21 o).1 = 20 + 10) ∧ (wp_X12_lackOf o x2 x3 h21 (fun (z24 : Int32) (h23 : Hp) => okA h23 (hpR h21 o 41) 1 (12 : Int32) ∧ (∀ h26 : Hp, h26 = stI h23 (ad (hpR h21 o 41)) ((12 : Int32)).toNatClampNeg z24 → (((hpK h26 o).1 = 20 + 10) ∧ (okA h26 (hpR h26 o 41) 1 (13 : Int32) ∧ (∀ h29 : Hp, h29 = stI h26 (ad (hpR h26 o 41)) ((13 : Int32)).toNatClampNeg x4 → (∀ v30 : Int32, v30 = (1 : Int32) + x1 → (∀ v31 : Int32, v31 = (16 : Int32) * v30 → (wp_X12_judges_L98 o v30 (fun (y45 : Int32) (h44 : Hp) => ((hpK h44 o).1 = 20 + 10) ∧ (okA h44 (hpR h44 o 26) 1 y45 ∧ (∀ v48 : Int32, v48 = hpI h44 (ad (hpR h44 o 26)) (y45).toNatClampNeg → ((if v48 = (3 : Int32) then (Q (1 : Int32) h44) else (Q (0 : Int32) h44)))))) (fun (h50 : Hp) => Q (2 : Int32) h50) Q fuel v31 h29))))))))))))))))))))))))))
set_option maxHeartbeats 4000000 in
set_option maxRecDepth 100000 in
theorem t_X12_judges_L98 {p : Program} {l : Launch} {e : Env} {s : State} {m : MethodId} {args : Array Value} {below : List Frame} {meth : Method} {c : Code} {G : GG} {base : Nat} {A : Nat → Nat} {g0 : Hp} (hM : Mx G base p s m args meth c cX12_judges 8 (some .int) RX12 "judges") (o : Nat) (x6 : Int32) (K139 : Int32 → Hp → Prop) (K162 : Hp → Prop) (Q : Int32 → Hp → Prop) (hK139 : ∀ (y7 : Int32) (h : Hp) (H : Heap) (locs : List Loc) (ls : Array Slot), Cx2 G base A g0 A h s.heap H locs → lo_has ls 8 [(0, .ref (A o)), (7, .int y7)] → K139 y7 h → W p l e rm_X12_judges s m args below meth c H locs 0 0 (MQ below (va_Qi Q (PU2 G base A g0 A) (fun q => base ≤ q)) args s 0 0 (fun q => base ≤ q)) (F0 m 139 ls [])) (hK162 : ∀ (h : Hp) (H : Heap) (locs : List Loc) (ls : Array Slot), Cx2 G base A g0 A h s.heap H locs → lo_has ls 8 [] → K162 h → W p l e rm_X12_judges s m args below meth c H locs 0 0 (MQ below (va_Qi Q (PU2 G base A g0 A) (fun q => base ≤ q)) args s 0 0 (fun q => base ≤ q)) (F0 m 162 ls [])) : ∀ (n : Nat) (x7 : Int32) (h : Hp) (H : Heap) (locs : List Loc) (ls : Array Slot), Cx2 G base A g0 A h s.heap H locs → lo_has ls 8 [(0, .ref (A o)), (6, .int x6), (7, .int x7)] → wp_X12_judges_L98 o x6 K139 K162 Q n x7 h → W p l e rm_X12_judges s m args below meth c H locs 0 0 (MQ below (va_Qi Q (PU2 G base A g0 A) (fun q => base ≤ q)) args s 0 0 (fun q => base ≤ q)) (F0 m 98 ls []) := by
  intro n
  induction n with
  | zero =>
    intro x7 h H locs ls hC hl hw
    rw [wp_X12_judges_L98] at hw
    exact hw.elim
  | succ n ih =>
    intro x7 h H locs ls hC hl hw
    rw [wp_X12_judges_L98] at hw
    obtain ⟨hx, hb, hr, hml, hown, hts, hg, hs, hlk, hnm⟩ := id hM
    refine lv_iload hx hb dX12_judges_98 (lo_at hl 2 rfl) ?_
    refine lv_bipush (v := 16) hx hb dX12_judges_100 (by decide) ?_
    refine lv_iload hx hb dX12_judges_102 (lo_at hl 1 rfl) ?_
    refine lv_imul hx hb dX12_judges_104 ?_
    refine lv_aload_n hx hb dX12_judges_105 rfl (lo_at hl 0 rfl) ?_
    obtain ⟨k32, hw⟩ := hw
    refine s_getR hx hb hts hown hg hC fb_10_25 k32 mk_f_RX12_55 dX12_judges_106 ?_
    refine lv_iload hx hb dX12_judges_109 (lo_at hl 1 rfl) ?_
    obtain ⟨k33, hw⟩ := hw
    refine sf_2 k33.1 ?_
    refine s_iald hx hb hg hC k33.2.1 k33.2.2 dX12_judges_111 ?_
    refine lv_topi (fun v34 ev34 => ?_)
    replace hw := hw v34 ev34
    refine lv_iadd hx hb dX12_judges_112 ?_
    refine lv_icmp_ge (tgt := 162) hx hb dX12_judges_113 (by decide) (fun c35 => ?_) (fun c35 => ?_)
    ·
      replace hw := (if_pos c35).mp hw
      exact hK162  h H locs ls hC (lo_sub hl [] rfl) hw
    ·
      replace hw := (if_neg c35).mp hw
      refine lv_aload_n hx hb dX12_judges_116 rfl (lo_at hl 0 rfl) ?_
      refine lv_iload hx hb dX12_judges_117 (lo_at hl 1 rfl) ?_
      refine lv_aload_n hx hb dX12_judges_119 rfl (lo_at hl 0 rfl) ?_
      refine s_getR hx hb hts hown hg hC fb_10_28 k32 mk_f_RX12_64 dX12_judges_120 ?_
      refine lv_iload hx hb dX12_judges_123 (lo_at hl 2 rfl) ?_
      obtain ⟨k36, hw⟩ := hw
      refine sf_2 k36.1 ?_
      refine s_iald hx hb hg hC k36.2.1 k36.2.2 dX12_judges_125 ?_
      refine lv_topi (fun v37 ev37 => ?_)
      replace hw := hw v37 ev37
      refine lv_aload_n hx hb dX12_judges_126 rfl (lo_at hl 0 rfl) ?_
      refine s_getR hx hb hts hown hg hC fb_10_29 k32 mk_f_RX12_67 dX12_judges_127 ?_
      refine lv_iload hx hb dX12_judges_130 (lo_at hl 2 rfl) ?_
      obtain ⟨k38, hw⟩ := hw
      refine sf_2 k38.1 ?_
      refine s_iald hx hb hg hC k38.2.1 k38.2.2 dX12_judges_132 ?_
      refine lv_topi (fun v39 ev39 => ?_)
      replace hw := hw v39 ev39
      refine res2_i hC (run2_V (As := [.int x6, .int v37, .int v39]) (rest := []) hM hC hl.1.1 kv_RX12_290 (c_X12_worth l G base A o x6 v37 v39 h _ hw) (hc_10) k32 rfl rfl rfl ⟨Nat.le_of_ble_eq_true rfl, Nat.le_of_ble_eq_true rfl⟩ (Nat.le_of_ble_eq_true rfl) ⟨Nat.le_of_ble_eq_true rfl, Nat.le_of_ble_eq_true rfl⟩ dX12_judges_133) (fun z41 h40 H locs hw hC => ?_)
      refine lv_if_eq (tgt := 156) hx hb dX12_judges_136 (by decide) (fun c42 => ?_) (fun c42 => ?_)
      ·
        replace hw := (if_pos c42).mp hw
        obtain ⟨v43, ev43⟩ : ∃ y : Int32, y = x7 + (1 : Int32) := ⟨_, rfl⟩
        replace hw := hw v43 ev43
        refine lo_iinc (v := v43) (lv' := [(7, .int v43), (0, .ref (A o)), (6, .int x6)]) hx hb dX12_judges_156 hl (k := 2) rfl (by rw [ev43]; rfl) (by decide) rfl (fun ls hl => ?_)
        refine lv_goto (tgt := 98) hx hb dX12_judges_159 (by decide) ?_
        exact ih v43 h40 H locs ls hC (lo_sub hl [1, 2, 0] rfl) hw
      ·
        replace hw := (if_neg c42).mp hw
        exact hK139 x7 h40 H locs ls hC (lo_sub hl [0, 2] rfl) hw
set_option maxHeartbeats 4000000 in
set_option maxRecDepth 100000 in
theorem c_X12_judges (l : Launch) (G : GG) (base : Nat) (A : Nat → Nat) (o : Nat) (x1 : Int32) (x2 : Int32) (x3 : Int32) (x4 : Int32) (h : Hp) (Q : Int32 → Hp → Prop) (hw : wp_X12_judges o x1 x2 x3 x4 h Q) : Met l yX12_judges (ww yX12_judges cX12_judges 8 (some .int)) rm_X12_judges (va_Pc [.ref (A o), .int x1, .int x2, .int x3, .int x4] (PU2 G base A h A h)) (va_Qi Q (PU2 G base A h A) (fun q => base ≤ q)) 0 0 (fun q => base ≤ q) := by
  refine met2_of (own := RX12) (nm := "judges") (by decide) rfl rfl (List.forall_mem_cons.mpr ⟨rfl, (List.forall_mem_cons.mpr ⟨rfl, (List.forall_mem_cons.mpr ⟨rfl, (List.forall_mem_cons.mpr ⟨rfl, (List.forall_mem_cons.mpr ⟨rfl, (fun _ h => absurd h List.not_mem_nil)⟩)⟩)⟩)⟩)⟩) (Nat.le_of_ble_eq_true rfl) rfl ?_
  intro p e s m args below meth c H locs ls hM hC hl
  obtain ⟨hx, hb, hr, hml, hown, hts, hg, hs, hlk, hnm⟩ := id hM
  unfold wp_X12_judges at hw
  refine lv_aload_n hx hb dX12_judges_0 rfl (lo_at hl 0 rfl) ?_
  refine lv_iload_n hx hb dX12_judges_1 rfl (lo_at hl 1 rfl) ?_
  refine lv_iload_n hx hb dX12_judges_2 rfl (lo_at hl 2 rfl) ?_
  refine lv_iload_n hx hb dX12_judges_3 rfl (lo_at hl 3 rfl) ?_
  obtain ⟨k1, hw⟩ := hw
  refine res2_i hC (run2_V (As := [.int x1, .int x2, .int x3]) (rest := []) hM hC hl.1.1 kv_RX12_318 (c_X12_bestSlide l G base A o x1 x2 x3 h _ hw) (hc_10) k1 rfl rfl rfl ⟨Nat.le_of_ble_eq_true rfl, Nat.le_of_ble_eq_true rfl⟩ (Nat.le_of_ble_eq_true rfl) ⟨Nat.le_of_ble_eq_true rfl, Nat.le_of_ble_eq_true rfl⟩ dX12_judges_4) (fun z3 h2 H locs hw hC => ?_)
  refine lo_istore (lv' := [(5, .int z3), (0, .ref (A o)), (1, .int x1), (2, .int x2), (3, .int x3), (4, .int x4)]) hx hb dX12_judges_7 hl (by decide) rfl (fun ls hl => ?_)
  refine lv_aload_n hx hb dX12_judges_9 rfl (lo_at hl 1 rfl) ?_
  obtain ⟨k4, hw⟩ := hw
  refine s_getR hx hb hts hown hg hC fb_10_41 k4 mk_f_RX12_83 dX12_judges_10 ?_
  refine lv_bipush (v := 8) hx hb dX12_judges_13 (by decide) ?_
  refine lv_aload_n hx hb dX12_judges_15 rfl (lo_at hl 1 rfl) ?_
  refine lv_iload_n hx hb dX12_judges_16 rfl (lo_at hl 2 rfl) ?_
  refine lv_iload_n hx hb dX12_judges_17 rfl (lo_at hl 3 rfl) ?_
  refine lv_iload_n hx hb dX12_judges_18 rfl (lo_at hl 4 rfl) ?_
  refine lv_iload hx hb dX12_judges_19 (lo_at hl 0 rfl) ?_
  refine res2_i hC (run2_V (As := [.int x1, .int x2, .int x3, .int z3]) (rest := [.int ((8 : Int32)), va_rf (Option.map A (hpR h2 o 41))]) hM hC hl.1.1 kv_RX12_302 (c_X12_manyOf l G base A o x1 x2 x3 z3 h2 _ hw) (hc_10) k4 rfl rfl rfl ⟨Nat.le_of_ble_eq_true rfl, Nat.le_of_ble_eq_true rfl⟩ (rest_le (List.forall_mem_cons.mpr ⟨rfl, (List.forall_mem_cons.mpr ⟨va_rf_cat _, (fun _ h => absurd h List.not_mem_nil)⟩)⟩) (Nat.le_of_ble_eq_true rfl)) ⟨Nat.le_of_ble_eq_true rfl, Nat.le_of_ble_eq_true rfl⟩ dX12_judges_21) (fun z6 h5 H locs hw hC => ?_)
  obtain ⟨k7, hw⟩ := hw
  refine sf_3 k7.1 ?_
  refine s_iast hx hb hg hC k7.2.1 k7.2.2 dX12_judges_24 (fun h8 H locs eh8 hC => ?_)
  replace hw := hw h8 eh8
  refine lv_aload_n hx hb dX12_judges_25 rfl (lo_at hl 1 rfl) ?_
  obtain ⟨k9, hw⟩ := hw
  refine s_getR hx hb hts hown hg hC fb_10_41 k9 mk_f_RX12_83 dX12_judges_26 ?_
  refine lv_bipush (v := 9) hx hb dX12_judges_29 (by decide) ?_
  refine lv_aload_n hx hb dX12_judges_31 rfl (lo_at hl 1 rfl) ?_
  refine lv_iload_n hx hb dX12_judges_32 rfl (lo_at hl 2 rfl) ?_
  refine lv_iload_n hx hb dX12_judges_33 rfl (lo_at hl 3 rfl) ?_
  refine lv_iload_n hx hb dX12_judges_34 rfl (lo_at hl 4 rfl) ?_
  refine lv_iload hx hb dX12_judges_35 (lo_at hl 0 rfl) ?_
  refine res2_i hC (run2_V (As := [.int x1, .int x2, .int x3, .int z3]) (rest := [.int ((9 : Int32)), va_rf (Option.map A (hpR h8 o 41))]) hM hC hl.1.1 kv_RX12_321 (c_X12_longestBy l G base A o x1 x2 x3 z3 h8 _ hw) (hc_10) k9 rfl rfl rfl ⟨Nat.le_of_ble_eq_true rfl, Nat.le_of_ble_eq_true rfl⟩ (rest_le (List.forall_mem_cons.mpr ⟨rfl, (List.forall_mem_cons.mpr ⟨va_rf_cat _, (fun _ h => absurd h List.not_mem_nil)⟩)⟩) (Nat.le_of_ble_eq_true rfl)) ⟨Nat.le_of_ble_eq_true rfl, Nat.le_of_ble_eq_true rfl⟩ dX12_judges_37) (fun z11 h10 H locs hw hC => ?_)
  obtain ⟨k12, hw⟩ := hw
  refine sf_3 k12.1 ?_
  refine s_iast hx hb hg hC k12.2.1 k12.2.2 dX12_judges_40 (fun h13 H locs eh13 hC => ?_)
  replace hw := hw h13 eh13
  refine lv_aload_n hx hb dX12_judges_41 rfl (lo_at hl 1 rfl) ?_
  obtain ⟨k14, hw⟩ := hw
  refine s_getR hx hb hts hown hg hC fb_10_41 k14 mk_f_RX12_83 dX12_judges_42 ?_
  refine lv_bipush (v := 10) hx hb dX12_judges_45 (by decide) ?_
  refine lv_iload hx hb dX12_judges_47 (lo_at hl 0 rfl) ?_
  obtain ⟨k15, hw⟩ := hw
  refine sf_3 k15.1 ?_
  refine s_iast hx hb hg hC k15.2.1 k15.2.2 dX12_judges_49 (fun h16 H locs eh16 hC => ?_)
  replace hw := hw h16 eh16
  refine lv_aload_n hx hb dX12_judges_50 rfl (lo_at hl 1 rfl) ?_
  obtain ⟨k17, hw⟩ := hw
  refine s_getR hx hb hts hown hg hC fb_10_41 k17 mk_f_RX12_83 dX12_judges_51 ?_
  refine lv_bipush (v := 11) hx hb dX12_judges_54 (by decide) ?_
  refine lv_aload_n hx hb dX12_judges_56 rfl (lo_at hl 1 rfl) ?_
  refine lv_iload_n hx hb dX12_judges_57 rfl (lo_at hl 2 rfl) ?_
  refine lv_iload_n hx hb dX12_judges_58 rfl (lo_at hl 3 rfl) ?_
  refine lv_iload_n hx hb dX12_judges_59 rfl (lo_at hl 4 rfl) ?_
  refine res2_i hC (run2_V (As := [.int x1, .int x2, .int x3]) (rest := [.int ((11 : Int32)), va_rf (Option.map A (hpR h16 o 41))]) hM hC hl.1.1 kv_RX12_312 (c_X12_piecesOf l G base A o x1 x2 x3 h16 _ hw) (hc_10) k17 rfl rfl rfl ⟨Nat.le_of_ble_eq_true rfl, Nat.le_of_ble_eq_true rfl⟩ (rest_le (List.forall_mem_cons.mpr ⟨rfl, (List.forall_mem_cons.mpr ⟨va_rf_cat _, (fun _ h => absurd h List.not_mem_nil)⟩)⟩) (Nat.le_of_ble_eq_true rfl)) ⟨Nat.le_of_ble_eq_true rfl, Nat.le_of_ble_eq_true rfl⟩ dX12_judges_60) (fun z19 h18 H locs hw hC => ?_)
  obtain ⟨k20, hw⟩ := hw
  refine sf_3 k20.1 ?_
  refine s_iast hx hb hg hC k20.2.1 k20.2.2 dX12_judges_63 (fun h21 H locs eh21 hC => ?_)
  replace hw := hw h21 eh21
  refine lv_aload_n hx hb dX12_judges_64 rfl (lo_at hl 1 rfl) ?_
  obtain ⟨k22, hw⟩ := hw
  refine s_getR hx hb hts hown hg hC fb_10_41 k22 mk_f_RX12_83 dX12_judges_65 ?_
  refine lv_bipush (v := 12) hx hb dX12_judges_68 (by decide) ?_
  refine lv_aload_n hx hb dX12_judges_70 rfl (lo_at hl 1 rfl) ?_
  refine lv_iload_n hx hb dX12_judges_71 rfl (lo_at hl 3 rfl) ?_
  refine lv_iload_n hx hb dX12_judges_72 rfl (lo_at hl 4 rfl) ?_
  refine res2_i hC (run2_V (As := [.int x2, .int x3]) (rest := [.int ((12 : Int32)), va_rf (Option.map A (hpR h21 o 41))]) hM hC hl.1.1 kv_RX12_315 (c_X12_lackOf l G base A o x2 x3 h21 _ hw) (hc_10) k22 rfl rfl rfl ⟨Nat.le_of_ble_eq_true rfl, Nat.le_of_ble_eq_true rfl⟩ (rest_le (List.forall_mem_cons.mpr ⟨rfl, (List.forall_mem_cons.mpr ⟨va_rf_cat _, (fun _ h => absurd h List.not_mem_nil)⟩)⟩) (Nat.le_of_ble_eq_true rfl)) ⟨Nat.le_of_ble_eq_true rfl, Nat.le_of_ble_eq_true rfl⟩ dX12_judges_73) (fun z24 h23 H locs hw hC => ?_)
  obtain ⟨k25, hw⟩ := hw
  refine sf_3 k25.1 ?_
  refine s_iast hx hb hg hC k25.2.1 k25.2.2 dX12_judges_76 (fun h26 H locs eh26 hC => ?_)
  replace hw := hw h26 eh26
  refine lv_aload_n hx hb dX12_judges_77 rfl (lo_at hl 1 rfl) ?_
  obtain ⟨k27, hw⟩ := hw
  refine s_getR hx hb hts hown hg hC fb_10_41 k27 mk_f_RX12_83 dX12_judges_78 ?_
  refine lv_bipush (v := 13) hx hb dX12_judges_81 (by decide) ?_
  refine lv_iload hx hb dX12_judges_83 (lo_at hl 5 rfl) ?_
  obtain ⟨k28, hw⟩ := hw
  refine sf_3 k28.1 ?_
  refine s_iast hx hb hg hC k28.2.1 k28.2.2 dX12_judges_85 (fun h29 H locs eh29 hC => ?_)
  replace hw := hw h29 eh29
  refine lv_iconst (v := 1) hx hb dX12_judges_86 (by decide) ?_
  refine lv_iload_n hx hb dX12_judges_87 rfl (lo_at hl 2 rfl) ?_
  refine lv_iadd hx hb dX12_judges_88 ?_
  refine lv_topi (fun v30 ev30 => ?_)
  replace hw := hw v30 ev30
  refine lo_istore (lv' := [(6, .int v30), (5, .int z3), (0, .ref (A o)), (1, .int x1), (2, .int x2), (3, .int x3), (4, .int x4)]) hx hb dX12_judges_89 hl (by decide) rfl (fun ls hl => ?_)
  refine lv_bipush (v := 16) hx hb dX12_judges_91 (by decide) ?_
  refine lv_iload hx hb dX12_judges_93 (lo_at hl 0 rfl) ?_
  refine lv_imul hx hb dX12_judges_95 ?_
  refine lv_topi (fun v31 ev31 => ?_)
  replace hw := hw v31 ev31
  refine lo_istore (lv' := [(7, .int v31), (6, .int v30), (5, .int z3), (0, .ref (A o)), (1, .int x1), (2, .int x2), (3, .int x3), (4, .int x4)]) hx hb dX12_judges_96 hl (by decide) rfl (fun ls hl => ?_)
  refine t_X12_judges_L98 hM o v30 _ _ Q ?_ ?_ fuel v31 h29 H locs ls hC (lo_sub hl [3, 1, 0] rfl) hw
  ·
    intro y45 h44 H locs ls hC hl hw
    refine lv_aload_n hx hb dX12_judges_139 rfl (lo_at hl 0 rfl) ?_
    obtain ⟨k46, hw⟩ := hw
    refine s_getR hx hb hts hown hg hC fb_10_26 k46 mk_f_RX12_58 dX12_judges_140 ?_
    refine lv_iload hx hb dX12_judges_143 (lo_at hl 1 rfl) ?_
    obtain ⟨k47, hw⟩ := hw
    refine sf_2 k47.1 ?_
    refine s_iald hx hb hg hC k47.2.1 k47.2.2 dX12_judges_145 ?_
    refine lv_topi (fun v48 ev48 => ?_)
    replace hw := hw v48 ev48
    refine lv_iconst (v := 3) hx hb dX12_judges_146 (by decide) ?_
    refine lv_icmp_ne (tgt := 154) hx hb dX12_judges_147 (by decide) (fun c49 => ?_) (fun c49 => ?_)
    ·
      replace hw := (if_neg c49).mp hw
      refine lv_iconst (v := 0) hx hb dX12_judges_154 (by decide) ?_
      exact ret2_i hM hC hw dX12_judges_155
    ·
      replace hw := (if_pos c49).mp hw
      refine lv_iconst (v := 1) hx hb dX12_judges_150 (by decide) ?_
      refine lv_goto (tgt := 155) hx hb dX12_judges_151 (by decide) ?_
      exact ret2_i hM hC hw dX12_judges_155
  ·
    intro  h50 H locs ls hC hl hw
    refine lv_iconst (v := 2) hx hb dX12_judges_162 (by decide) ?_
    exact ret2_i hM hC hw dX12_judges_163
abbrev rm_X12_saysOf : Room := { frames := 4, cells := 0, slots := 0, locals := 108 }
set_option maxRecDepth 100000 in
def wp_X12_saysOf_J53 (o : Nat) (x5 : Int32) (Q : Int32 → Hp → Prop) (h : Hp) : Prop := ((hpK h o).1 = 20 + 10) ∧ (okA h (hpR h o 50) 1 x5 ∧ (∀ v11 : Int32, v11 = hpI h (ad (hpR h o 50)) (x5).toNatClampNeg → (Q (v11 - (1 : Int32)) h)))
set_option maxRecDepth 100000 in
def wp_X12_saysOf (o : Nat) (x1 : Int32) (x2 : Int32) (x3 : Int32) (x4 : Int32) (h : Hp) (Q : Int32 → Hp → Prop) : Prop := ((hpK h o).1 = 20 + 10) ∧ (wp_X12_forgets o h (fun (h2 : Hp) => ∀ v4 : Int32, v4 = ((((9600 : Int32) * x4) + ((1600 : Int32) * x1)) + ((40 : Int32) * x2)) + x3 → (((hpK h2 o).1 = 20 + 10) ∧ (okA h2 (hpR h2 o 50) 1 v4 ∧ (∀ v7 : Int32, v7 = hpI h2 (ad (hpR h2 o 50)) (v4).toNatClampNeg → ((if v7 = 0 then (wp_X12_judges o x1 x2 x3 x4 h2 (fun (z13 : Int32) (h12 : Hp) => okA h12 (hpR h2 o 50) 1 v4 ∧ (∀ h15 : Hp, h15 = stI h12 (ad (hpR h2 o 50)) (v4).toNatClampNeg ((1 : Int32) + z13) → (wp_X12_saysOf_J53 o v4 Q h15)))) else (wp_X12_saysOf_J53 o v4 Q h2))))))))
set_option maxHeartbeats 4000000 in
set_option maxRecDepth 100000 in
theorem t_X12_saysOf_J53 {p : Program} {l : Launch} {e : Env} {s : State} {m : MethodId} {args : Array Value} {below : List Frame} {meth : Method} {c : Code} {G : GG} {base : Nat} {A : Nat → Nat} {g0 : Hp} (hM : Mx G base p s m args meth c cX12_saysOf 6 (some .int) RX12 "saysOf") (o : Nat) (x5 : Int32) (Q : Int32 → Hp → Prop) (h : Hp) (H : Heap) (locs : List Loc) (ls : Array Slot) : Cx2 G base A g0 A h s.heap H locs → lo_has ls 6 [(0, .ref (A o)), (5, .int x5)] → wp_X12_saysOf_J53 o x5 Q h → W p l e rm_X12_saysOf s m args below meth c H locs 0 0 (MQ below (va_Qi Q (PU2 G base A g0 A) (fun q => base ≤ q)) args s 0 0 (fun q => base ≤ q)) (F0 m 53 ls []) := by
  intro hC hl hw
  unfold wp_X12_saysOf_J53 at hw
  obtain ⟨hx, hb, hr, hml, hown, hts, hg, hs, hlk, hnm⟩ := id hM
  refine lv_aload_n hx hb dX12_saysOf_53 rfl (lo_at hl 0 rfl) ?_
  obtain ⟨k9, hw⟩ := hw
  refine s_getR hx hb hts hown hg hC fb_10_50 k9 mk_f_RX12_104 dX12_saysOf_54 ?_
  refine lv_iload hx hb dX12_saysOf_57 (lo_at hl 1 rfl) ?_
  obtain ⟨k10, hw⟩ := hw
  refine sf_2 k10.1 ?_
  refine s_iald hx hb hg hC k10.2.1 k10.2.2 dX12_saysOf_59 ?_
  refine lv_topi (fun v11 ev11 => ?_)
  replace hw := hw v11 ev11
  refine lv_iconst (v := 1) hx hb dX12_saysOf_60 (by decide) ?_
  refine lv_isub hx hb dX12_saysOf_61 ?_
  exact ret2_i hM hC hw dX12_saysOf_62
set_option maxHeartbeats 4000000 in
set_option maxRecDepth 100000 in
theorem c_X12_saysOf (l : Launch) (G : GG) (base : Nat) (A : Nat → Nat) (o : Nat) (x1 : Int32) (x2 : Int32) (x3 : Int32) (x4 : Int32) (h : Hp) (Q : Int32 → Hp → Prop) (hw : wp_X12_saysOf o x1 x2 x3 x4 h Q) : Met l yX12_saysOf (ww yX12_saysOf cX12_saysOf 6 (some .int)) rm_X12_saysOf (va_Pc [.ref (A o), .int x1, .int x2, .int x3, .int x4] (PU2 G base A h A h)) (va_Qi Q (PU2 G base A h A) (fun q => base ≤ q)) 0 0 (fun q => base ≤ q) := by
  refine met2_of (own := RX12) (nm := "saysOf") (by decide) rfl rfl (List.forall_mem_cons.mpr ⟨rfl, (List.forall_mem_cons.mpr ⟨rfl, (List.forall_mem_cons.mpr ⟨rfl, (List.forall_mem_cons.mpr ⟨rfl, (List.forall_mem_cons.mpr ⟨rfl, (fun _ h => absurd h List.not_mem_nil)⟩)⟩)⟩)⟩)⟩) (Nat.le_of_ble_eq_true rfl) rfl ?_
  intro p e s m args below meth c H locs ls hM hC hl
  obtain ⟨hx, hb, hr, hml, hown, hts, hg, hs, hlk, hnm⟩ := id hM
  unfold wp_X12_saysOf at hw
  refine lv_aload_n hx hb dX12_saysOf_0 rfl (lo_at hl 0 rfl) ?_
  obtain ⟨k1, hw⟩ := hw
  refine res2_v hC (run2_V (As := []) (rest := []) hM hC hl.1.1 kv_RX12_324 (c_X12_forgets l G base A o h _ hw) (hc_10) k1 rfl rfl rfl ⟨Nat.le_of_ble_eq_true rfl, Nat.le_of_ble_eq_true rfl⟩ (Nat.le_of_ble_eq_true rfl) ⟨Nat.le_of_ble_eq_true rfl, Nat.le_of_ble_eq_true rfl⟩ dX12_saysOf_1) (fun h2 H locs hw hC => ?_)
  refine lv_sipush (v := 9600) hx hb dX12_saysOf_4 (by decide) ?_
  refine lv_iload hx hb dX12_saysOf_7 (lo_at hl 4 rfl) ?_
  refine lv_imul hx hb dX12_saysOf_9 ?_
  refine lv_sipush (v := 1600) hx hb dX12_saysOf_10 (by decide) ?_
  refine lv_iload_n hx hb dX12_saysOf_13 rfl (lo_at hl 1 rfl) ?_
  refine lv_imul hx hb dX12_saysOf_14 ?_
  refine lv_iadd hx hb dX12_saysOf_15 ?_
  refine lv_bipush (v := 40) hx hb dX12_saysOf_16 (by decide) ?_
  refine lv_iload_n hx hb dX12_saysOf_18 rfl (lo_at hl 2 rfl) ?_
  refine lv_imul hx hb dX12_saysOf_19 ?_
  refine lv_iadd hx hb dX12_saysOf_20 ?_
  refine lv_iload_n hx hb dX12_saysOf_21 rfl (lo_at hl 3 rfl) ?_
  refine lv_iadd hx hb dX12_saysOf_22 ?_
  refine lv_topi (fun v4 ev4 => ?_)
  replace hw := hw v4 ev4
  refine lo_istore (lv' := [(5, .int v4), (0, .ref (A o)), (1, .int x1), (2, .int x2), (3, .int x3), (4, .int x4)]) hx hb dX12_saysOf_23 hl (by decide) rfl (fun ls hl => ?_)
  refine lv_aload_n hx hb dX12_saysOf_25 rfl (lo_at hl 1 rfl) ?_
  obtain ⟨k5, hw⟩ := hw
  refine s_getR hx hb hts hown hg hC fb_10_50 k5 mk_f_RX12_104 dX12_saysOf_26 ?_
  refine lv_iload hx hb dX12_saysOf_29 (lo_at hl 0 rfl) ?_
  obtain ⟨k6, hw⟩ := hw
  refine sf_2 k6.1 ?_
  refine s_iald hx hb hg hC k6.2.1 k6.2.2 dX12_saysOf_31 ?_
  refine lv_topi (fun v7 ev7 => ?_)
  replace hw := hw v7 ev7
  refine lv_if_ne (tgt := 53) hx hb dX12_saysOf_32 (by decide) (fun c8 => ?_) (fun c8 => ?_)
  ·
    replace hw := (if_neg c8).mp hw
    exact t_X12_saysOf_J53 hM o v4 Q  h2 H locs ls hC (lo_sub hl [1, 0] rfl) hw
  ·
    replace hw := (if_pos c8).mp hw
    refine lv_aload_n hx hb dX12_saysOf_35 rfl (lo_at hl 1 rfl) ?_
    refine s_getR hx hb hts hown hg hC fb_10_50 k5 mk_f_RX12_104 dX12_saysOf_36 ?_
    refine lv_iload hx hb dX12_saysOf_39 (lo_at hl 0 rfl) ?_
    refine lv_iconst (v := 1) hx hb dX12_saysOf_41 (by decide) ?_
    refine lv_aload_n hx hb dX12_saysOf_42 rfl (lo_at hl 1 rfl) ?_
    refine lv_iload_n hx hb dX12_saysOf_43 rfl (lo_at hl 2 rfl) ?_
    refine lv_iload_n hx hb dX12_saysOf_44 rfl (lo_at hl 3 rfl) ?_
    refine lv_iload_n hx hb dX12_saysOf_45 rfl (lo_at hl 4 rfl) ?_
    refine lv_iload hx hb dX12_saysOf_46 (lo_at hl 5 rfl) ?_
    refine res2_i hC (run2_V (As := [.int x1, .int x2, .int x3, .int x4]) (rest := [.int ((1 : Int32)), .int v4, va_rf (Option.map A (hpR h2 o 50))]) hM hC hl.1.1 kv_RX12_327 (c_X12_judges l G base A o x1 x2 x3 x4 h2 _ hw) (hc_10) k5 rfl rfl rfl ⟨Nat.le_of_ble_eq_true rfl, Nat.le_of_ble_eq_true rfl⟩ (rest_le (List.forall_mem_cons.mpr ⟨rfl, (List.forall_mem_cons.mpr ⟨rfl, (List.forall_mem_cons.mpr ⟨va_rf_cat _, (fun _ h => absurd h List.not_mem_nil)⟩)⟩)⟩) (Nat.le_of_ble_eq_true rfl)) ⟨Nat.le_of_ble_eq_true rfl, Nat.le_of_ble_eq_true rfl⟩ dX12_saysOf_48) (fun z13 h12 H locs hw hC => ?_)
    refine lv_iadd hx hb dX12_saysOf_51 ?_
    obtain ⟨k14, hw⟩ := hw
    refine sf_3 k14.1 ?_
    refine s_iast hx hb hg hC k14.2.1 k14.2.2 dX12_saysOf_52 (fun h15 H locs eh15 hC => ?_)
    replace hw := hw h15 eh15
    exact t_X12_saysOf_J53 hM o v4 Q  h15 H locs ls hC (lo_sub hl [1, 0] rfl) hw
abbrev rm_X12_says : Room := { frames := 5, cells := 0, slots := 0, locals := 133 }
set_option maxRecDepth 100000 in
def wp_X12_says (o : Nat) (x1 : Int32) (x2 : Int32) (x3 : Int32) (x4 : Int32) (h : Hp) (Q : Int32 → Hp → Prop) : Prop := ((hpK h o).1 = 20 + 10) ∧ (∀ h2 : Hp, h2 = stI h o 0 (0 : Int32) → (((hpK h2 o).1 = 20 + 10) ∧ (wp_X12_isLooker o x1 h2 (fun (z5 : Int32) (h4 : Hp) => (if z5 = 0 then (Q (-1 : Int32) h4) else (((hpK h4 o).1 = 20 + 10) ∧ (wp_X12_isBall o x2 h4 (fun (z9 : Int32) (h8 : Hp) => (if z9 = 0 then (Q (-1 : Int32) h8) else (((hpK h8 o).1 = 20 + 10) ∧ (wp_X12_isBall o x3 h8 (fun (z13 : Int32) (h12 : Hp) => (if z13 = 0 then (Q (-1 : Int32) h12) else ((if x4 = 0 then (((hpK h12 o).1 = 20 + 10) ∧ (wp_X12_saysOf o x1 x2 x3 (0 : Int32) h12 (fun (z18 : Int32) (h17 : Hp) => Q z18 h17))) else (((hpK h12 o).1 = 20 + 10) ∧ (wp_X12_saysOf o x1 x2 x3 (1 : Int32) h12 (fun (z21 : Int32) (h20 : Hp) => Q z21 h20))))))))))))))))))
set_option maxHeartbeats 4000000 in
set_option maxRecDepth 100000 in
theorem c_X12_says (l : Launch) (G : GG) (base : Nat) (A : Nat → Nat) (o : Nat) (x1 : Int32) (x2 : Int32) (x3 : Int32) (x4 : Int32) (h : Hp) (Q : Int32 → Hp → Prop) (hw : wp_X12_says o x1 x2 x3 x4 h Q) : Met l yX12_says (ww yX12_says cX12_says 5 (some .int)) rm_X12_says (va_Pc [.ref (A o), .int x1, .int x2, .int x3, .int x4] (PU2 G base A h A h)) (va_Qi Q (PU2 G base A h A) (fun q => base ≤ q)) 0 0 (fun q => base ≤ q) := by
  refine met2_of (own := RX12) (nm := "says") (by decide) rfl rfl (List.forall_mem_cons.mpr ⟨rfl, (List.forall_mem_cons.mpr ⟨rfl, (List.forall_mem_cons.mpr ⟨rfl, (List.forall_mem_cons.mpr ⟨rfl, (List.forall_mem_cons.mpr ⟨rfl, (fun _ h => absurd h List.not_mem_nil)⟩)⟩)⟩)⟩)⟩) (Nat.le_of_ble_eq_true rfl) rfl ?_
  intro p e s m args below meth c H locs ls hM hC hl
  obtain ⟨hx, hb, hr, hml, hown, hts, hg, hs, hlk, hnm⟩ := id hM
  unfold wp_X12_says at hw
  refine lv_aload_n hx hb dX12_says_0 rfl (lo_at hl 0 rfl) ?_
  refine lv_iconst (v := 0) hx hb dX12_says_1 (by decide) ?_
  obtain ⟨k1, hw⟩ := hw
  refine s_putI hx hb hts hown hg hC fb_10_0 k1 rfl rfl mk_f_RX12_132 dX12_says_2 (fun h2 H locs eh2 hC => ?_)
  replace hw := hw h2 eh2
  refine lv_aload_n hx hb dX12_says_5 rfl (lo_at hl 0 rfl) ?_
  refine lv_iload_n hx hb dX12_says_6 rfl (lo_at hl 1 rfl) ?_
  obtain ⟨k3, hw⟩ := hw
  refine res2_i hC (run2_V (As := [.int x1]) (rest := []) hM hC hl.1.1 kv_RX12_309 (c_X12_isLooker l G base A o x1 h2 _ hw) (hc_10) k3 rfl rfl rfl ⟨Nat.le_of_ble_eq_true rfl, Nat.le_of_ble_eq_true rfl⟩ (Nat.le_of_ble_eq_true rfl) ⟨Nat.le_of_ble_eq_true rfl, Nat.le_of_ble_eq_true rfl⟩ dX12_says_7) (fun z5 h4 H locs hw hC => ?_)
  refine lv_if_eq (tgt := 49) hx hb dX12_says_10 (by decide) (fun c6 => ?_) (fun c6 => ?_)
  ·
    replace hw := (if_pos c6).mp hw
    refine lv_iconst (v := -1) hx hb dX12_says_49 (by decide) ?_
    exact ret2_i hM hC hw dX12_says_50
  ·
    replace hw := (if_neg c6).mp hw
    refine lv_aload_n hx hb dX12_says_13 rfl (lo_at hl 0 rfl) ?_
    refine lv_iload_n hx hb dX12_says_14 rfl (lo_at hl 2 rfl) ?_
    obtain ⟨k7, hw⟩ := hw
    refine res2_i hC (run2_V (As := [.int x2]) (rest := []) hM hC hl.1.1 kv_RX12_168 (c_X12_isBall l G base A o x2 h4 _ hw) (hc_10) k7 rfl rfl rfl ⟨Nat.le_of_ble_eq_true rfl, Nat.le_of_ble_eq_true rfl⟩ (Nat.le_of_ble_eq_true rfl) ⟨Nat.le_of_ble_eq_true rfl, Nat.le_of_ble_eq_true rfl⟩ dX12_says_15) (fun z9 h8 H locs hw hC => ?_)
    refine lv_if_eq (tgt := 49) hx hb dX12_says_18 (by decide) (fun c10 => ?_) (fun c10 => ?_)
    ·
      replace hw := (if_pos c10).mp hw
      refine lv_iconst (v := -1) hx hb dX12_says_49 (by decide) ?_
      exact ret2_i hM hC hw dX12_says_50
    ·
      replace hw := (if_neg c10).mp hw
      refine lv_aload_n hx hb dX12_says_21 rfl (lo_at hl 0 rfl) ?_
      refine lv_iload_n hx hb dX12_says_22 rfl (lo_at hl 3 rfl) ?_
      obtain ⟨k11, hw⟩ := hw
      refine res2_i hC (run2_V (As := [.int x3]) (rest := []) hM hC hl.1.1 kv_RX12_168 (c_X12_isBall l G base A o x3 h8 _ hw) (hc_10) k11 rfl rfl rfl ⟨Nat.le_of_ble_eq_true rfl, Nat.le_of_ble_eq_true rfl⟩ (Nat.le_of_ble_eq_true rfl) ⟨Nat.le_of_ble_eq_true rfl, Nat.le_of_ble_eq_true rfl⟩ dX12_says_23) (fun z13 h12 H locs hw hC => ?_)
      refine lv_if_eq (tgt := 49) hx hb dX12_says_26 (by decide) (fun c14 => ?_) (fun c14 => ?_)
      ·
        replace hw := (if_pos c14).mp hw
        refine lv_iconst (v := -1) hx hb dX12_says_49 (by decide) ?_
        exact ret2_i hM hC hw dX12_says_50
      ·
        replace hw := (if_neg c14).mp hw
        refine lv_aload_n hx hb dX12_says_29 rfl (lo_at hl 0 rfl) ?_
        refine lv_iload_n hx hb dX12_says_30 rfl (lo_at hl 1 rfl) ?_
        refine lv_iload_n hx hb dX12_says_31 rfl (lo_at hl 2 rfl) ?_
        refine lv_iload_n hx hb dX12_says_32 rfl (lo_at hl 3 rfl) ?_
        refine lv_iload hx hb dX12_says_33 (lo_at hl 4 rfl) ?_
        refine lv_if_eq (tgt := 42) hx hb dX12_says_35 (by decide) (fun c15 => ?_) (fun c15 => ?_)
        ·
          replace hw := (if_pos c15).mp hw
          refine lv_iconst (v := 0) hx hb dX12_says_42 (by decide) ?_
          obtain ⟨k16, hw⟩ := hw
          refine res2_i hC (run2_V (As := [.int x1, .int x2, .int x3, .int ((0 : Int32))]) (rest := []) hM hC hl.1.1 kv_RX12_330 (c_X12_saysOf l G base A o x1 x2 x3 (0 : Int32) h12 _ hw) (hc_10) k16 rfl rfl rfl ⟨Nat.le_of_ble_eq_true rfl, Nat.le_of_ble_eq_true rfl⟩ (Nat.le_of_ble_eq_true rfl) ⟨Nat.le_of_ble_eq_true rfl, Nat.le_of_ble_eq_true rfl⟩ dX12_says_43) (fun z18 h17 H locs hw hC => ?_)
          refine lv_goto (tgt := 50) hx hb dX12_says_46 (by decide) ?_
          exact ret2_i hM hC hw dX12_says_50
        ·
          replace hw := (if_neg c15).mp hw
          refine lv_iconst (v := 1) hx hb dX12_says_38 (by decide) ?_
          refine lv_goto (tgt := 43) hx hb dX12_says_39 (by decide) ?_
          obtain ⟨k19, hw⟩ := hw
          refine res2_i hC (run2_V (As := [.int x1, .int x2, .int x3, .int ((1 : Int32))]) (rest := []) hM hC hl.1.1 kv_RX12_330 (c_X12_saysOf l G base A o x1 x2 x3 (1 : Int32) h12 _ hw) (hc_10) k19 rfl rfl rfl ⟨Nat.le_of_ble_eq_true rfl, Nat.le_of_ble_eq_true rfl⟩ (Nat.le_of_ble_eq_true rfl) ⟨Nat.le_of_ble_eq_true rfl, Nat.le_of_ble_eq_true rfl⟩ dX12_says_43) (fun z21 h20 H locs hw hC => ?_)
          refine lv_goto (tgt := 50) hx hb dX12_says_46 (by decide) ?_
          exact ret2_i hM hC hw dX12_says_50
abbrev rm_X12_isShot : Room := { frames := 0, cells := 0, slots := 0, locals := 0 }
set_option maxRecDepth 100000 in
def wp_X12_isShot (o : Nat) (x1 : Int32) (h : Hp) (Q : Int32 → Hp → Prop) : Prop := ((hpK h o).1 = 20 + 10) ∧ (okA h (hpR h o 14) 1 x1 ∧ (∀ v3 : Int32, v3 = hpI h (ad (hpR h o 14)) (x1).toNatClampNeg → ((if v3 = (-1 : Int32) then (Q (0 : Int32) h) else (Q (1 : Int32) h)))))
set_option maxHeartbeats 4000000 in
set_option maxRecDepth 100000 in
theorem c_X12_isShot (l : Launch) (G : GG) (base : Nat) (A : Nat → Nat) (o : Nat) (x1 : Int32) (h : Hp) (Q : Int32 → Hp → Prop) (hw : wp_X12_isShot o x1 h Q) : Met l yX12_isShot (ww yX12_isShot cX12_isShot 2 (some .boolean)) rm_X12_isShot (va_Pc [.ref (A o), .int x1] (PU2 G base A h A h)) (va_Qi Q (PU2 G base A h A) (fun q => base ≤ q)) 0 0 (fun q => base ≤ q) := by
  refine met2_of (own := RX12) (nm := "isShot") (by decide) rfl rfl (List.forall_mem_cons.mpr ⟨rfl, (List.forall_mem_cons.mpr ⟨rfl, (fun _ h => absurd h List.not_mem_nil)⟩)⟩) (Nat.le_of_ble_eq_true rfl) rfl ?_
  intro p e s m args below meth c H locs ls hM hC hl
  obtain ⟨hx, hb, hr, hml, hown, hts, hg, hs, hlk, hnm⟩ := id hM
  unfold wp_X12_isShot at hw
  refine lv_aload_n hx hb dX12_isShot_0 rfl (lo_at hl 0 rfl) ?_
  obtain ⟨k1, hw⟩ := hw
  refine s_getR hx hb hts hown hg hC fb_10_14 k1 mk_f_RX12_40 dX12_isShot_1 ?_
  refine lv_iload_n hx hb dX12_isShot_4 rfl (lo_at hl 1 rfl) ?_
  obtain ⟨k2, hw⟩ := hw
  refine sf_2 k2.1 ?_
  refine s_iald hx hb hg hC k2.2.1 k2.2.2 dX12_isShot_5 ?_
  refine lv_topi (fun v3 ev3 => ?_)
  replace hw := hw v3 ev3
  refine lv_iconst (v := -1) hx hb dX12_isShot_6 (by decide) ?_
  refine lv_icmp_eq (tgt := 14) hx hb dX12_isShot_7 (by decide) (fun c4 => ?_) (fun c4 => ?_)
  ·
    replace hw := (if_pos c4).mp hw
    refine lv_iconst (v := 0) hx hb dX12_isShot_14 (by decide) ?_
    exact ret2_t hM hC rfl hw dX12_isShot_15
  ·
    replace hw := (if_neg c4).mp hw
    refine lv_iconst (v := 1) hx hb dX12_isShot_10 (by decide) ?_
    refine lv_goto (tgt := 15) hx hb dX12_isShot_11 (by decide) ?_
    exact ret2_t hM hC rfl hw dX12_isShot_15
abbrev rm_X12_truthOf : Room := { frames := 0, cells := 0, slots := 0, locals := 0 }
set_option maxRecDepth 100000 in
def wp_X12_truthOf (o : Nat) (x1 : Int32) (x2 : Int32) (h : Hp) (Q : Int32 → Hp → Prop) : Prop := ((hpK h o).1 = 20 + 10) ∧ (okA h (hpR h o 14) 1 x1 ∧ (∀ v3 : Int32, v3 = hpI h (ad (hpR h o 14)) (x1).toNatClampNeg → (okA h (hpR h o 14) 1 x2 ∧ (∀ v5 : Int32, v5 = hpI h (ad (hpR h o 14)) (x2).toNatClampNeg → ((if v3 = v5 then (Q (0 : Int32) h) else (okA h (hpR h o 14) 1 x1 ∧ (∀ v8 : Int32, v8 = hpI h (ad (hpR h o 14)) (x1).toNatClampNeg → (okA h (hpR h o 8) 1 v8 ∧ (∀ v10 : Int32, v10 = hpI h (ad (hpR h o 8)) (v8).toNatClampNeg → (okA h (hpR h o 14) 1 x2 ∧ (∀ v12 : Int32, v12 = hpI h (ad (hpR h o 14)) (x2).toNatClampNeg → (okA h (hpR h o 8) 1 v12 ∧ (∀ v14 : Int32, v14 = hpI h (ad (hpR h o 8)) (v12).toNatClampNeg → ((if v10 = v14 then (Q (1 : Int32) h) else (Q (2 : Int32) h)))))))))))))))))
set_option maxHeartbeats 4000000 in
set_option maxRecDepth 100000 in
theorem c_X12_truthOf (l : Launch) (G : GG) (base : Nat) (A : Nat → Nat) (o : Nat) (x1 : Int32) (x2 : Int32) (h : Hp) (Q : Int32 → Hp → Prop) (hw : wp_X12_truthOf o x1 x2 h Q) : Met l yX12_truthOf (ww yX12_truthOf cX12_truthOf 3 (some .int)) rm_X12_truthOf (va_Pc [.ref (A o), .int x1, .int x2] (PU2 G base A h A h)) (va_Qi Q (PU2 G base A h A) (fun q => base ≤ q)) 0 0 (fun q => base ≤ q) := by
  refine met2_of (own := RX12) (nm := "truthOf") (by decide) rfl rfl (List.forall_mem_cons.mpr ⟨rfl, (List.forall_mem_cons.mpr ⟨rfl, (List.forall_mem_cons.mpr ⟨rfl, (fun _ h => absurd h List.not_mem_nil)⟩)⟩)⟩) (Nat.le_of_ble_eq_true rfl) rfl ?_
  intro p e s m args below meth c H locs ls hM hC hl
  obtain ⟨hx, hb, hr, hml, hown, hts, hg, hs, hlk, hnm⟩ := id hM
  unfold wp_X12_truthOf at hw
  refine lv_aload_n hx hb dX12_truthOf_0 rfl (lo_at hl 0 rfl) ?_
  obtain ⟨k1, hw⟩ := hw
  refine s_getR hx hb hts hown hg hC fb_10_14 k1 mk_f_RX12_40 dX12_truthOf_1 ?_
  refine lv_iload_n hx hb dX12_truthOf_4 rfl (lo_at hl 1 rfl) ?_
  obtain ⟨k2, hw⟩ := hw
  refine sf_2 k2.1 ?_
  refine s_iald hx hb hg hC k2.2.1 k2.2.2 dX12_truthOf_5 ?_
  refine lv_topi (fun v3 ev3 => ?_)
  replace hw := hw v3 ev3
  refine lv_aload_n hx hb dX12_truthOf_6 rfl (lo_at hl 0 rfl) ?_
  refine s_getR hx hb hts hown hg hC fb_10_14 k1 mk_f_RX12_40 dX12_truthOf_7 ?_
  refine lv_iload_n hx hb dX12_truthOf_10 rfl (lo_at hl 2 rfl) ?_
  obtain ⟨k4, hw⟩ := hw
  refine sf_2 k4.1 ?_
  refine s_iald hx hb hg hC k4.2.1 k4.2.2 dX12_truthOf_11 ?_
  refine lv_topi (fun v5 ev5 => ?_)
  replace hw := hw v5 ev5
  refine lv_icmp_ne (tgt := 17) hx hb dX12_truthOf_12 (by decide) (fun c6 => ?_) (fun c6 => ?_)
  ·
    replace hw := (if_neg c6).mp hw
    refine lv_aload_n hx hb dX12_truthOf_17 rfl (lo_at hl 0 rfl) ?_
    refine s_getR hx hb hts hown hg hC fb_10_8 k1 mk_f_RX12_25 dX12_truthOf_18 ?_
    refine lv_aload_n hx hb dX12_truthOf_21 rfl (lo_at hl 0 rfl) ?_
    refine s_getR hx hb hts hown hg hC fb_10_14 k1 mk_f_RX12_40 dX12_truthOf_22 ?_
    refine lv_iload_n hx hb dX12_truthOf_25 rfl (lo_at hl 1 rfl) ?_
    obtain ⟨k7, hw⟩ := hw
    refine sf_2 k7.1 ?_
    refine s_iald hx hb hg hC k7.2.1 k7.2.2 dX12_truthOf_26 ?_
    refine lv_topi (fun v8 ev8 => ?_)
    replace hw := hw v8 ev8
    obtain ⟨k9, hw⟩ := hw
    refine sf_2 k9.1 ?_
    refine s_iald hx hb hg hC k9.2.1 k9.2.2 dX12_truthOf_27 ?_
    refine lv_topi (fun v10 ev10 => ?_)
    replace hw := hw v10 ev10
    refine lv_aload_n hx hb dX12_truthOf_28 rfl (lo_at hl 0 rfl) ?_
    refine s_getR hx hb hts hown hg hC fb_10_8 k1 mk_f_RX12_25 dX12_truthOf_29 ?_
    refine lv_aload_n hx hb dX12_truthOf_32 rfl (lo_at hl 0 rfl) ?_
    refine s_getR hx hb hts hown hg hC fb_10_14 k1 mk_f_RX12_40 dX12_truthOf_33 ?_
    refine lv_iload_n hx hb dX12_truthOf_36 rfl (lo_at hl 2 rfl) ?_
    obtain ⟨k11, hw⟩ := hw
    refine sf_2 k11.1 ?_
    refine s_iald hx hb hg hC k11.2.1 k11.2.2 dX12_truthOf_37 ?_
    refine lv_topi (fun v12 ev12 => ?_)
    replace hw := hw v12 ev12
    obtain ⟨k13, hw⟩ := hw
    refine sf_2 k13.1 ?_
    refine s_iald hx hb hg hC k13.2.1 k13.2.2 dX12_truthOf_38 ?_
    refine lv_topi (fun v14 ev14 => ?_)
    replace hw := hw v14 ev14
    refine lv_icmp_ne (tgt := 46) hx hb dX12_truthOf_39 (by decide) (fun c15 => ?_) (fun c15 => ?_)
    ·
      replace hw := (if_neg c15).mp hw
      refine lv_iconst (v := 2) hx hb dX12_truthOf_46 (by decide) ?_
      exact ret2_i hM hC hw dX12_truthOf_47
    ·
      replace hw := (if_pos c15).mp hw
      refine lv_iconst (v := 1) hx hb dX12_truthOf_42 (by decide) ?_
      refine lv_goto (tgt := 47) hx hb dX12_truthOf_43 (by decide) ?_
      exact ret2_i hM hC hw dX12_truthOf_47
  ·
    replace hw := (if_pos c6).mp hw
    refine lv_iconst (v := 0) hx hb dX12_truthOf_15 (by decide) ?_
    exact ret2_i hM hC hw dX12_truthOf_16
abbrev rm_X12_truth : Room := { frames := 1, cells := 0, slots := 0, locals := 22 }
set_option maxRecDepth 100000 in
def wp_X12_truth (o : Nat) (x1 : Int32) (x2 : Int32) (h : Hp) (Q : Int32 → Hp → Prop) : Prop := ((hpK h o).1 = 20 + 10) ∧ (∀ h2 : Hp, h2 = stI h o 0 (0 : Int32) → (((hpK h2 o).1 = 20 + 10) ∧ (wp_X12_isBall o x1 h2 (fun (z5 : Int32) (h4 : Hp) => (if z5 = 0 then (Q (-1 : Int32) h4) else (((hpK h4 o).1 = 20 + 10) ∧ (wp_X12_isBall o x2 h4 (fun (z9 : Int32) (h8 : Hp) => (if z9 = 0 then (Q (-1 : Int32) h8) else ((if x1 = x2 then (Q (-1 : Int32) h8) else (((hpK h8 o).1 = 20 + 10) ∧ (wp_X12_isShot o x1 h8 (fun (z14 : Int32) (h13 : Hp) => (if z14 = 0 then (Q (-1 : Int32) h13) else (((hpK h13 o).1 = 20 + 10) ∧ (wp_X12_isShot o x2 h13 (fun (z18 : Int32) (h17 : Hp) => (if z18 = 0 then (Q (-1 : Int32) h17) else (((hpK h17 o).1 = 20 + 10) ∧ (wp_X12_truthOf o x1 x2 h17 (fun (z22 : Int32) (h21 : Hp) => Q z22 h21))))))))))))))))))))))
set_option maxHeartbeats 4000000 in
set_option maxRecDepth 100000 in
theorem c_X12_truth (l : Launch) (G : GG) (base : Nat) (A : Nat → Nat) (o : Nat) (x1 : Int32) (x2 : Int32) (h : Hp) (Q : Int32 → Hp → Prop) (hw : wp_X12_truth o x1 x2 h Q) : Met l yX12_truth (ww yX12_truth cX12_truth 3 (some .int)) rm_X12_truth (va_Pc [.ref (A o), .int x1, .int x2] (PU2 G base A h A h)) (va_Qi Q (PU2 G base A h A) (fun q => base ≤ q)) 0 0 (fun q => base ≤ q) := by
  refine met2_of (own := RX12) (nm := "truth") (by decide) rfl rfl (List.forall_mem_cons.mpr ⟨rfl, (List.forall_mem_cons.mpr ⟨rfl, (List.forall_mem_cons.mpr ⟨rfl, (fun _ h => absurd h List.not_mem_nil)⟩)⟩)⟩) (Nat.le_of_ble_eq_true rfl) rfl ?_
  intro p e s m args below meth c H locs ls hM hC hl
  obtain ⟨hx, hb, hr, hml, hown, hts, hg, hs, hlk, hnm⟩ := id hM
  unfold wp_X12_truth at hw
  refine lv_aload_n hx hb dX12_truth_0 rfl (lo_at hl 0 rfl) ?_
  refine lv_iconst (v := 0) hx hb dX12_truth_1 (by decide) ?_
  obtain ⟨k1, hw⟩ := hw
  refine s_putI hx hb hts hown hg hC fb_10_0 k1 rfl rfl mk_f_RX12_132 dX12_truth_2 (fun h2 H locs eh2 hC => ?_)
  replace hw := hw h2 eh2
  refine lv_aload_n hx hb dX12_truth_5 rfl (lo_at hl 0 rfl) ?_
  refine lv_iload_n hx hb dX12_truth_6 rfl (lo_at hl 1 rfl) ?_
  obtain ⟨k3, hw⟩ := hw
  refine res2_i hC (run2_V (As := [.int x1]) (rest := []) hM hC hl.1.1 kv_RX12_168 (c_X12_isBall l G base A o x1 h2 _ hw) (hc_10) k3 rfl rfl rfl ⟨Nat.le_of_ble_eq_true rfl, Nat.le_of_ble_eq_true rfl⟩ (Nat.le_of_ble_eq_true rfl) ⟨Nat.le_of_ble_eq_true rfl, Nat.le_of_ble_eq_true rfl⟩ dX12_truth_7) (fun z5 h4 H locs hw hC => ?_)
  refine lv_if_eq (tgt := 51) hx hb dX12_truth_10 (by decide) (fun c6 => ?_) (fun c6 => ?_)
  ·
    replace hw := (if_pos c6).mp hw
    refine lv_iconst (v := -1) hx hb dX12_truth_51 (by decide) ?_
    exact ret2_i hM hC hw dX12_truth_52
  ·
    replace hw := (if_neg c6).mp hw
    refine lv_aload_n hx hb dX12_truth_13 rfl (lo_at hl 0 rfl) ?_
    refine lv_iload_n hx hb dX12_truth_14 rfl (lo_at hl 2 rfl) ?_
    obtain ⟨k7, hw⟩ := hw
    refine res2_i hC (run2_V (As := [.int x2]) (rest := []) hM hC hl.1.1 kv_RX12_168 (c_X12_isBall l G base A o x2 h4 _ hw) (hc_10) k7 rfl rfl rfl ⟨Nat.le_of_ble_eq_true rfl, Nat.le_of_ble_eq_true rfl⟩ (Nat.le_of_ble_eq_true rfl) ⟨Nat.le_of_ble_eq_true rfl, Nat.le_of_ble_eq_true rfl⟩ dX12_truth_15) (fun z9 h8 H locs hw hC => ?_)
    refine lv_if_eq (tgt := 51) hx hb dX12_truth_18 (by decide) (fun c10 => ?_) (fun c10 => ?_)
    ·
      replace hw := (if_pos c10).mp hw
      refine lv_iconst (v := -1) hx hb dX12_truth_51 (by decide) ?_
      exact ret2_i hM hC hw dX12_truth_52
    ·
      replace hw := (if_neg c10).mp hw
      refine lv_iload_n hx hb dX12_truth_21 rfl (lo_at hl 1 rfl) ?_
      refine lv_iload_n hx hb dX12_truth_22 rfl (lo_at hl 2 rfl) ?_
      refine lv_icmp_eq (tgt := 51) hx hb dX12_truth_23 (by decide) (fun c11 => ?_) (fun c11 => ?_)
      ·
        replace hw := (if_pos c11).mp hw
        refine lv_iconst (v := -1) hx hb dX12_truth_51 (by decide) ?_
        exact ret2_i hM hC hw dX12_truth_52
      ·
        replace hw := (if_neg c11).mp hw
        refine lv_aload_n hx hb dX12_truth_26 rfl (lo_at hl 0 rfl) ?_
        refine lv_iload_n hx hb dX12_truth_27 rfl (lo_at hl 1 rfl) ?_
        obtain ⟨k12, hw⟩ := hw
        refine res2_i hC (run2_V (As := [.int x1]) (rest := []) hM hC hl.1.1 kv_RX12_333 (c_X12_isShot l G base A o x1 h8 _ hw) (hc_10) k12 rfl rfl rfl ⟨Nat.le_of_ble_eq_true rfl, Nat.le_of_ble_eq_true rfl⟩ (Nat.le_of_ble_eq_true rfl) ⟨Nat.le_of_ble_eq_true rfl, Nat.le_of_ble_eq_true rfl⟩ dX12_truth_28) (fun z14 h13 H locs hw hC => ?_)
        refine lv_if_eq (tgt := 51) hx hb dX12_truth_31 (by decide) (fun c15 => ?_) (fun c15 => ?_)
        ·
          replace hw := (if_pos c15).mp hw
          refine lv_iconst (v := -1) hx hb dX12_truth_51 (by decide) ?_
          exact ret2_i hM hC hw dX12_truth_52
        ·
          replace hw := (if_neg c15).mp hw
          refine lv_aload_n hx hb dX12_truth_34 rfl (lo_at hl 0 rfl) ?_
          refine lv_iload_n hx hb dX12_truth_35 rfl (lo_at hl 2 rfl) ?_
          obtain ⟨k16, hw⟩ := hw
          refine res2_i hC (run2_V (As := [.int x2]) (rest := []) hM hC hl.1.1 kv_RX12_333 (c_X12_isShot l G base A o x2 h13 _ hw) (hc_10) k16 rfl rfl rfl ⟨Nat.le_of_ble_eq_true rfl, Nat.le_of_ble_eq_true rfl⟩ (Nat.le_of_ble_eq_true rfl) ⟨Nat.le_of_ble_eq_true rfl, Nat.le_of_ble_eq_true rfl⟩ dX12_truth_36) (fun z18 h17 H locs hw hC => ?_)
          refine lv_if_eq (tgt := 51) hx hb dX12_truth_39 (by decide) (fun c19 => ?_) (fun c19 => ?_)
          ·
            replace hw := (if_pos c19).mp hw
            refine lv_iconst (v := -1) hx hb dX12_truth_51 (by decide) ?_
            exact ret2_i hM hC hw dX12_truth_52
          ·
            replace hw := (if_neg c19).mp hw
            refine lv_aload_n hx hb dX12_truth_42 rfl (lo_at hl 0 rfl) ?_
            refine lv_iload_n hx hb dX12_truth_43 rfl (lo_at hl 1 rfl) ?_
            refine lv_iload_n hx hb dX12_truth_44 rfl (lo_at hl 2 rfl) ?_
            obtain ⟨k20, hw⟩ := hw
            refine res2_i hC (run2_V (As := [.int x1, .int x2]) (rest := []) hM hC hl.1.1 kv_RX12_336 (c_X12_truthOf l G base A o x1 x2 h17 _ hw) (hc_10) k20 rfl rfl rfl ⟨Nat.le_of_ble_eq_true rfl, Nat.le_of_ble_eq_true rfl⟩ (Nat.le_of_ble_eq_true rfl) ⟨Nat.le_of_ble_eq_true rfl, Nat.le_of_ble_eq_true rfl⟩ dX12_truth_45) (fun z22 h21 H locs hw hC => ?_)
            refine lv_goto (tgt := 52) hx hb dX12_truth_48 (by decide) ?_
            exact ret2_i hM hC hw dX12_truth_52
abbrev rm_X12_odds : Room := { frames := 4, cells := 0, slots := 0, locals := 105 }
set_option maxRecDepth 100000 in
def wp_X12_odds_L71 (o : Nat) (x1 : Int32) (x2 : Int32) (x3 : Int32) (x4 : Int32) (x7 : Int32) (K149 : Int32 → Int32 → Hp → Prop) (Q : Int32 → Hp → Prop) : Nat → Int32 → Int32 → Int32 → Hp → Prop
  | 0, _, _, _, _ => False
  | n + 1, x5, x6, x8, h => ((hpK h o).1 = 20 + 10) ∧ ((if (hpI h o 12) ≤ x8 then (K149 x5 x6 h) else (wp_X12_isShot o x7 h (fun (z25 : Int32) (h24 : Hp) => (if z25 = 0 then (∀ v27 : Int32, v27 = x8 + (1 : Int32) → (wp_X12_odds_L71 o x1 x2 x3 x4 x7 K149 Q n x5 x6 v27 h24)) else (((hpK h24 o).1 = 20 + 10) ∧ (wp_X12_isShot o x8 h24 (fun (z30 : Int32) (h29 : Hp) => (if z30 = 0 then (∀ v32 : Int32, v32 = x8 + (1 : Int32) → (wp_X12_odds_L71 o x1 x2 x3 x4 x7 K149 Q n x5 x6 v32 h29)) else (((hpK h29 o).1 = 20 + 10) ∧ (wp_X12_truthOf o x7 x8 h29 (fun (z35 : Int32) (h34 : Hp) => (if z35 = x3 then (∀ v37 : Int32, v37 = x5 + (1 : Int32) → ((if x4 = 0 then (((hpK h34 o).1 = 20 + 10) ∧ (wp_X12_longest o x1 x7 x8 h34 (fun (z42 : Int32) (h41 : Hp) => (if z42 < x2 then (∀ v44 : Int32, v44 = x8 + (1 : Int32) → (wp_X12_odds_L71 o x1 x2 x3 x4 x7 K149 Q n v37 x6 v44 h41)) else (∀ v45 : Int32, v45 = x6 + (1 : Int32) → (∀ v46 : Int32, v46 = x8 + (1 : Int32) → (wp_X12_odds_L71 o x1 x2 x3 x4 x7 K149 Q n v37 v45 v46 h41))))))) else (∀ v39 : Int32, v39 = x8 + (1 : Int32) → (wp_X12_odds_L71 o x1 x2 x3 x4 x7 K149 Q n v37 x6 v39 h34))))) else (∀ v47 : Int32, v47 = x8 + (1 : Int32) → (wp_X12_odds_L71 o x1 x2 x3 x4 x7 K149 Q n x5 x6 v47 h34)))))))))))))))
set_option maxRecDepth 100000 in
def wp_X12_odds_L56 (o : Nat) (x1 : Int32) (x2 : Int32) (x3 : Int32) (x4 : Int32) (K155 : Int32 → Int32 → Hp → Prop) (Q : Int32 → Hp → Prop) : Nat → Int32 → Int32 → Int32 → Hp → Prop
  | 0, _, _, _, _ => False
  | n + 1, x5, x6, x7, h => ((hpK h o).1 = 20 + 10) ∧ ((if (hpI h o 12) ≤ x7 then (K155 x5 x6 h) else (∀ v21 : Int32, v21 = x7 + (1 : Int32) → (wp_X12_odds_L71 o x1 x2 x3 x4 x7 (fun (y49 : Int32) (y50 : Int32) (h48 : Hp) => ∀ v51 : Int32, v51 = x7 + (1 : Int32) → (wp_X12_odds_L56 o x1 x2 x3 x4 K155 Q n y49 y50 v51 h48)) Q fuel x5 x6 v21 h))))
set_option maxRecDepth 100000 in
def wp_X12_odds (o : Nat) (x1 : Int32) (x2 : Int32) (x3 : Int32) (x4 : Int32) (h : Hp) (Q : Int32 → Hp → Prop) : Prop := ((hpK h o).1 = 20 + 10) ∧ (∀ h2 : Hp, h2 = stI h o 0 (0 : Int32) → (((hpK h2 o).1 = 20 + 10) ∧ (wp_X12_isLooker o x1 h2 (fun (z5 : Int32) (h4 : Hp) => (if z5 = 0 then (Q (-1 : Int32) h4) else (((hpK h4 o).1 = 20 + 10) ∧ (wp_X12_isIn o x2 (0 : Int32) (32 : Int32) h4 (fun (z9 : Int32) (h8 : Hp) => (if z9 = 0 then (Q (-1 : Int32) h8) else (((hpK h8 o).1 = 20 + 10) ∧ (wp_X12_isIn o x3 (0 : Int32) (2 : Int32) h8 (fun (z13 : Int32) (h12 : Hp) => (if z13 = 0 then (Q (-1 : Int32) h12) else (((hpK h12 o).1 = 20 + 10) ∧ (wp_X12_isIn o x4 (0 : Int32) (1 : Int32) h12 (fun (z17 : Int32) (h16 : Hp) => (if z17 = 0 then (Q (-1 : Int32) h16) else (wp_X12_odds_L56 o x1 x2 x3 x4 (fun (y53 : Int32) (y54 : Int32) (h52 : Hp) => (if x4 = 0 then (Q y54 h52) else (Q y53 h52))) Q fuel (0 : Int32) (0 : Int32) (0 : Int32) h16))))))))))))))))))
set_option maxHeartbeats 4000000 in
set_option maxRecDepth 100000 in
theorem t_X12_odds_L71 {p : Program} {l : Launch} {e : Env} {s : State} {m : MethodId} {args : Array Value} {below : List Frame} {meth : Method} {c : Code} {G : GG} {base : Nat} {A : Nat → Nat} {g0 : Hp} (hM : Mx G base p s m args meth c cX12_odds 9 (some .int) RX12 "odds") (o : Nat) (x1 : Int32) (x2 : Int32) (x3 : Int32) (x4 : Int32) (x7 : Int32) (K149 : Int32 → Int32 → Hp → Prop) (Q : Int32 → Hp → Prop) (hK149 : ∀ (y5 : Int32) (y6 : Int32) (h : Hp) (H : Heap) (locs : List Loc) (ls : Array Slot), Cx2 G base A g0 A h s.heap H locs → lo_has ls 9 [(0, .ref (A o)), (1, .int x1), (2, .int x2), (3, .int x3), (4, .int x4), (5, .int y5), (6, .int y6), (7, .int x7)] → K149 y5 y6 h → W p l e rm_X12_odds s m args below meth c H locs 0 0 (MQ below (va_Qi Q (PU2 G base A g0 A) (fun q => base ≤ q)) args s 0 0 (fun q => base ≤ q)) (F0 m 149 ls [])) : ∀ (n : Nat) (x5 : Int32) (x6 : Int32) (x8 : Int32) (h : Hp) (H : Heap) (locs : List Loc) (ls : Array Slot), Cx2 G base A g0 A h s.heap H locs → lo_has ls 9 [(0, .ref (A o)), (1, .int x1), (2, .int x2), (3, .int x3), (4, .int x4), (5, .int x5), (6, .int x6), (7, .int x7), (8, .int x8)] → wp_X12_odds_L71 o x1 x2 x3 x4 x7 K149 Q n x5 x6 x8 h → W p l e rm_X12_odds s m args below meth c H locs 0 0 (MQ below (va_Qi Q (PU2 G base A g0 A) (fun q => base ≤ q)) args s 0 0 (fun q => base ≤ q)) (F0 m 71 ls []) := by
  intro n
  induction n with
  | zero =>
    intro x5 x6 x8 h H locs ls hC hl hw
    rw [wp_X12_odds_L71] at hw
    exact hw.elim
  | succ n ih =>
    intro x5 x6 x8 h H locs ls hC hl hw
    rw [wp_X12_odds_L71] at hw
    obtain ⟨hx, hb, hr, hml, hown, hts, hg, hs, hlk, hnm⟩ := id hM
    refine lv_iload hx hb dX12_odds_71 (lo_at hl 8 rfl) ?_
    refine lv_aload_n hx hb dX12_odds_73 rfl (lo_at hl 0 rfl) ?_
    obtain ⟨k22, hw⟩ := hw
    refine s_getI hx hb hts hown hg hC fb_10_12 k22 mk_f_RX12_141 dX12_odds_74 ?_
    refine lv_icmp_ge (tgt := 149) hx hb dX12_odds_77 (by decide) (fun c23 => ?_) (fun c23 => ?_)
    ·
      replace hw := (if_pos c23).mp hw
      exact hK149 x5 x6 h H locs ls hC (lo_sub hl [0, 1, 2, 3, 4, 5, 6, 7] rfl) hw
    ·
      replace hw := (if_neg c23).mp hw
      refine lv_aload_n hx hb dX12_odds_80 rfl (lo_at hl 0 rfl) ?_
      refine lv_iload hx hb dX12_odds_81 (lo_at hl 7 rfl) ?_
      refine res2_i hC (run2_V (As := [.int x7]) (rest := []) hM hC hl.1.1 kv_RX12_333 (c_X12_isShot l G base A o x7 h _ hw) (hc_10) k22 rfl rfl rfl ⟨Nat.le_of_ble_eq_true rfl, Nat.le_of_ble_eq_true rfl⟩ (Nat.le_of_ble_eq_true rfl) ⟨Nat.le_of_ble_eq_true rfl, Nat.le_of_ble_eq_true rfl⟩ dX12_odds_83) (fun z25 h24 H locs hw hC => ?_)
      refine lv_if_eq (tgt := 143) hx hb dX12_odds_86 (by decide) (fun c26 => ?_) (fun c26 => ?_)
      ·
        replace hw := (if_pos c26).mp hw
        obtain ⟨v27, ev27⟩ : ∃ y : Int32, y = x8 + (1 : Int32) := ⟨_, rfl⟩
        replace hw := hw v27 ev27
        refine lo_iinc (v := v27) (lv' := [(8, .int v27), (0, .ref (A o)), (1, .int x1), (2, .int x2), (3, .int x3), (4, .int x4), (5, .int x5), (6, .int x6), (7, .int x7)]) hx hb dX12_odds_143 hl (k := 8) rfl (by rw [ev27]; rfl) (by decide) rfl (fun ls hl => ?_)
        refine lv_goto (tgt := 71) hx hb dX12_odds_146 (by decide) ?_
        exact ih x5 x6 v27 h24 H locs ls hC (lo_sub hl [1, 2, 3, 4, 5, 6, 7, 8, 0] rfl) hw
      ·
        replace hw := (if_neg c26).mp hw
        refine lv_aload_n hx hb dX12_odds_89 rfl (lo_at hl 0 rfl) ?_
        refine lv_iload hx hb dX12_odds_90 (lo_at hl 8 rfl) ?_
        obtain ⟨k28, hw⟩ := hw
        refine res2_i hC (run2_V (As := [.int x8]) (rest := []) hM hC hl.1.1 kv_RX12_333 (c_X12_isShot l G base A o x8 h24 _ hw) (hc_10) k28 rfl rfl rfl ⟨Nat.le_of_ble_eq_true rfl, Nat.le_of_ble_eq_true rfl⟩ (Nat.le_of_ble_eq_true rfl) ⟨Nat.le_of_ble_eq_true rfl, Nat.le_of_ble_eq_true rfl⟩ dX12_odds_92) (fun z30 h29 H locs hw hC => ?_)
        refine lv_if_eq (tgt := 143) hx hb dX12_odds_95 (by decide) (fun c31 => ?_) (fun c31 => ?_)
        ·
          replace hw := (if_pos c31).mp hw
          obtain ⟨v32, ev32⟩ : ∃ y : Int32, y = x8 + (1 : Int32) := ⟨_, rfl⟩
          replace hw := hw v32 ev32
          refine lo_iinc (v := v32) (lv' := [(8, .int v32), (0, .ref (A o)), (1, .int x1), (2, .int x2), (3, .int x3), (4, .int x4), (5, .int x5), (6, .int x6), (7, .int x7)]) hx hb dX12_odds_143 hl (k := 8) rfl (by rw [ev32]; rfl) (by decide) rfl (fun ls hl => ?_)
          refine lv_goto (tgt := 71) hx hb dX12_odds_146 (by decide) ?_
          exact ih x5 x6 v32 h29 H locs ls hC (lo_sub hl [1, 2, 3, 4, 5, 6, 7, 8, 0] rfl) hw
        ·
          replace hw := (if_neg c31).mp hw
          refine lv_aload_n hx hb dX12_odds_98 rfl (lo_at hl 0 rfl) ?_
          refine lv_iload hx hb dX12_odds_99 (lo_at hl 7 rfl) ?_
          refine lv_iload hx hb dX12_odds_101 (lo_at hl 8 rfl) ?_
          obtain ⟨k33, hw⟩ := hw
          refine res2_i hC (run2_V (As := [.int x7, .int x8]) (rest := []) hM hC hl.1.1 kv_RX12_336 (c_X12_truthOf l G base A o x7 x8 h29 _ hw) (hc_10) k33 rfl rfl rfl ⟨Nat.le_of_ble_eq_true rfl, Nat.le_of_ble_eq_true rfl⟩ (Nat.le_of_ble_eq_true rfl) ⟨Nat.le_of_ble_eq_true rfl, Nat.le_of_ble_eq_true rfl⟩ dX12_odds_103) (fun z35 h34 H locs hw hC => ?_)
          refine lv_iload_n hx hb dX12_odds_106 rfl (lo_at hl 3 rfl) ?_
          refine lv_icmp_eq (tgt := 113) hx hb dX12_odds_107 (by decide) (fun c36 => ?_) (fun c36 => ?_)
          ·
            replace hw := (if_pos c36).mp hw
            refine lv_iload hx hb dX12_odds_113 (lo_at hl 5 rfl) ?_
            refine lv_iconst (v := 1) hx hb dX12_odds_115 (by decide) ?_
            refine lv_iadd hx hb dX12_odds_116 ?_
            refine lv_topi (fun v37 ev37 => ?_)
            replace hw := hw v37 ev37
            refine lo_istore (lv' := [(5, .int v37), (0, .ref (A o)), (1, .int x1), (2, .int x2), (3, .int x3), (4, .int x4), (6, .int x6), (7, .int x7), (8, .int x8)]) hx hb dX12_odds_117 hl (by decide) rfl (fun ls hl => ?_)
            refine lv_iload hx hb dX12_odds_119 (lo_at hl 5 rfl) ?_
            refine lv_if_ne (tgt := 143) hx hb dX12_odds_121 (by decide) (fun c38 => ?_) (fun c38 => ?_)
            ·
              replace hw := (if_neg c38).mp hw
              obtain ⟨v39, ev39⟩ : ∃ y : Int32, y = x8 + (1 : Int32) := ⟨_, rfl⟩
              replace hw := hw v39 ev39
              refine lo_iinc (v := v39) (lv' := [(8, .int v39), (5, .int v37), (0, .ref (A o)), (1, .int x1), (2, .int x2), (3, .int x3), (4, .int x4), (6, .int x6), (7, .int x7)]) hx hb dX12_odds_143 hl (k := 8) rfl (by rw [ev39]; rfl) (by decide) rfl (fun ls hl => ?_)
              refine lv_goto (tgt := 71) hx hb dX12_odds_146 (by decide) ?_
              exact ih v37 x6 v39 h34 H locs ls hC (lo_sub hl [2, 3, 4, 5, 6, 1, 7, 8, 0] rfl) hw
            ·
              replace hw := (if_pos c38).mp hw
              refine lv_aload_n hx hb dX12_odds_124 rfl (lo_at hl 1 rfl) ?_
              refine lv_iload_n hx hb dX12_odds_125 rfl (lo_at hl 2 rfl) ?_
              refine lv_iload hx hb dX12_odds_126 (lo_at hl 7 rfl) ?_
              refine lv_iload hx hb dX12_odds_128 (lo_at hl 8 rfl) ?_
              obtain ⟨k40, hw⟩ := hw
              refine res2_i hC (run2_V (As := [.int x1, .int x7, .int x8]) (rest := []) hM hC hl.1.1 kv_RX12_339 (c_X12_longest l G base A o x1 x7 x8 h34 _ hw) (hc_10) k40 rfl rfl rfl ⟨Nat.le_of_ble_eq_true rfl, Nat.le_of_ble_eq_true rfl⟩ (Nat.le_of_ble_eq_true rfl) ⟨Nat.le_of_ble_eq_true rfl, Nat.le_of_ble_eq_true rfl⟩ dX12_odds_130) (fun z42 h41 H locs hw hC => ?_)
              refine lv_iload_n hx hb dX12_odds_133 rfl (lo_at hl 3 rfl) ?_
              refine lv_icmp_lt (tgt := 143) hx hb dX12_odds_134 (by decide) (fun c43 => ?_) (fun c43 => ?_)
              ·
                replace hw := (if_pos c43).mp hw
                obtain ⟨v44, ev44⟩ : ∃ y : Int32, y = x8 + (1 : Int32) := ⟨_, rfl⟩
                replace hw := hw v44 ev44
                refine lo_iinc (v := v44) (lv' := [(8, .int v44), (5, .int v37), (0, .ref (A o)), (1, .int x1), (2, .int x2), (3, .int x3), (4, .int x4), (6, .int x6), (7, .int x7)]) hx hb dX12_odds_143 hl (k := 8) rfl (by rw [ev44]; rfl) (by decide) rfl (fun ls hl => ?_)
                refine lv_goto (tgt := 71) hx hb dX12_odds_146 (by decide) ?_
                exact ih v37 x6 v44 h41 H locs ls hC (lo_sub hl [2, 3, 4, 5, 6, 1, 7, 8, 0] rfl) hw
              ·
                replace hw := (if_neg c43).mp hw
                refine lv_iload hx hb dX12_odds_137 (lo_at hl 6 rfl) ?_
                refine lv_iconst (v := 1) hx hb dX12_odds_139 (by decide) ?_
                refine lv_iadd hx hb dX12_odds_140 ?_
                refine lv_topi (fun v45 ev45 => ?_)
                replace hw := hw v45 ev45
                refine lo_istore (lv' := [(6, .int v45), (5, .int v37), (0, .ref (A o)), (1, .int x1), (2, .int x2), (3, .int x3), (4, .int x4), (7, .int x7), (8, .int x8)]) hx hb dX12_odds_141 hl (by decide) rfl (fun ls hl => ?_)
                obtain ⟨v46, ev46⟩ : ∃ y : Int32, y = x8 + (1 : Int32) := ⟨_, rfl⟩
                replace hw := hw v46 ev46
                refine lo_iinc (v := v46) (lv' := [(8, .int v46), (6, .int v45), (5, .int v37), (0, .ref (A o)), (1, .int x1), (2, .int x2), (3, .int x3), (4, .int x4), (7, .int x7)]) hx hb dX12_odds_143 hl (k := 8) rfl (by rw [ev46]; rfl) (by decide) rfl (fun ls hl => ?_)
                refine lv_goto (tgt := 71) hx hb dX12_odds_146 (by decide) ?_
                exact ih v37 v45 v46 h41 H locs ls hC (lo_sub hl [3, 4, 5, 6, 7, 2, 1, 8, 0] rfl) hw
          ·
            replace hw := (if_neg c36).mp hw
            refine lv_goto (tgt := 143) hx hb dX12_odds_110 (by decide) ?_
            obtain ⟨v47, ev47⟩ : ∃ y : Int32, y = x8 + (1 : Int32) := ⟨_, rfl⟩
            replace hw := hw v47 ev47
            refine lo_iinc (v := v47) (lv' := [(8, .int v47), (0, .ref (A o)), (1, .int x1), (2, .int x2), (3, .int x3), (4, .int x4), (5, .int x5), (6, .int x6), (7, .int x7)]) hx hb dX12_odds_143 hl (k := 8) rfl (by rw [ev47]; rfl) (by decide) rfl (fun ls hl => ?_)
            refine lv_goto (tgt := 71) hx hb dX12_odds_146 (by decide) ?_
            exact ih x5 x6 v47 h34 H locs ls hC (lo_sub hl [1, 2, 3, 4, 5, 6, 7, 8, 0] rfl) hw
set_option maxHeartbeats 4000000 in
set_option maxRecDepth 100000 in
theorem t_X12_odds_L56 {p : Program} {l : Launch} {e : Env} {s : State} {m : MethodId} {args : Array Value} {below : List Frame} {meth : Method} {c : Code} {G : GG} {base : Nat} {A : Nat → Nat} {g0 : Hp} (hM : Mx G base p s m args meth c cX12_odds 9 (some .int) RX12 "odds") (o : Nat) (x1 : Int32) (x2 : Int32) (x3 : Int32) (x4 : Int32) (K155 : Int32 → Int32 → Hp → Prop) (Q : Int32 → Hp → Prop) (hK155 : ∀ (y5 : Int32) (y6 : Int32) (h : Hp) (H : Heap) (locs : List Loc) (ls : Array Slot), Cx2 G base A g0 A h s.heap H locs → lo_has ls 9 [(4, .int x4), (5, .int y5), (6, .int y6)] → K155 y5 y6 h → W p l e rm_X12_odds s m args below meth c H locs 0 0 (MQ below (va_Qi Q (PU2 G base A g0 A) (fun q => base ≤ q)) args s 0 0 (fun q => base ≤ q)) (F0 m 155 ls [])) : ∀ (n : Nat) (x5 : Int32) (x6 : Int32) (x7 : Int32) (h : Hp) (H : Heap) (locs : List Loc) (ls : Array Slot), Cx2 G base A g0 A h s.heap H locs → lo_has ls 9 [(0, .ref (A o)), (1, .int x1), (2, .int x2), (3, .int x3), (4, .int x4), (5, .int x5), (6, .int x6), (7, .int x7)] → wp_X12_odds_L56 o x1 x2 x3 x4 K155 Q n x5 x6 x7 h → W p l e rm_X12_odds s m args below meth c H locs 0 0 (MQ below (va_Qi Q (PU2 G base A g0 A) (fun q => base ≤ q)) args s 0 0 (fun q => base ≤ q)) (F0 m 56 ls []) := by
  intro n
  induction n with
  | zero =>
    intro x5 x6 x7 h H locs ls hC hl hw
    rw [wp_X12_odds_L56] at hw
    exact hw.elim
  | succ n ih =>
    intro x5 x6 x7 h H locs ls hC hl hw
    rw [wp_X12_odds_L56] at hw
    obtain ⟨hx, hb, hr, hml, hown, hts, hg, hs, hlk, hnm⟩ := id hM
    refine lv_iload hx hb dX12_odds_56 (lo_at hl 7 rfl) ?_
    refine lv_aload_n hx hb dX12_odds_58 rfl (lo_at hl 0 rfl) ?_
    obtain ⟨k19, hw⟩ := hw
    refine s_getI hx hb hts hown hg hC fb_10_12 k19 mk_f_RX12_141 dX12_odds_59 ?_
    refine lv_icmp_ge (tgt := 155) hx hb dX12_odds_62 (by decide) (fun c20 => ?_) (fun c20 => ?_)
    ·
      replace hw := (if_pos c20).mp hw
      exact hK155 x5 x6 h H locs ls hC (lo_sub hl [4, 5, 6] rfl) hw
    ·
      replace hw := (if_neg c20).mp hw
      refine lv_iload hx hb dX12_odds_65 (lo_at hl 7 rfl) ?_
      refine lv_iconst (v := 1) hx hb dX12_odds_67 (by decide) ?_
      refine lv_iadd hx hb dX12_odds_68 ?_
      refine lv_topi (fun v21 ev21 => ?_)
      replace hw := hw v21 ev21
      refine lo_istore (lv' := [(8, .int v21), (0, .ref (A o)), (1, .int x1), (2, .int x2), (3, .int x3), (4, .int x4), (5, .int x5), (6, .int x6), (7, .int x7)]) hx hb dX12_odds_69 hl (by decide) rfl (fun ls hl => ?_)
      refine t_X12_odds_L71 hM o x1 x2 x3 x4 x7 _ Q ?_ fuel x5 x6 v21 h H locs ls hC (lo_sub hl [1, 2, 3, 4, 5, 6, 7, 8, 0] rfl) hw
      intro y49 y50 h48 H locs ls hC hl hw
      obtain ⟨v51, ev51⟩ : ∃ y : Int32, y = x7 + (1 : Int32) := ⟨_, rfl⟩
      replace hw := hw v51 ev51
      refine lo_iinc (v := v51) (lv' := [(7, .int v51), (0, .ref (A o)), (1, .int x1), (2, .int x2), (3, .int x3), (4, .int x4), (5, .int y49), (6, .int y50)]) hx hb dX12_odds_149 hl (k := 7) rfl (by rw [ev51]; rfl) (by decide) rfl (fun ls hl => ?_)
      refine lv_goto (tgt := 56) hx hb dX12_odds_152 (by decide) ?_
      exact ih y49 y50 v51 h48 H locs ls hC (lo_sub hl [1, 2, 3, 4, 5, 6, 7, 0] rfl) hw
set_option maxHeartbeats 4000000 in
set_option maxRecDepth 100000 in
theorem c_X12_odds (l : Launch) (G : GG) (base : Nat) (A : Nat → Nat) (o : Nat) (x1 : Int32) (x2 : Int32) (x3 : Int32) (x4 : Int32) (h : Hp) (Q : Int32 → Hp → Prop) (hw : wp_X12_odds o x1 x2 x3 x4 h Q) : Met l yX12_odds (ww yX12_odds cX12_odds 9 (some .int)) rm_X12_odds (va_Pc [.ref (A o), .int x1, .int x2, .int x3, .int x4] (PU2 G base A h A h)) (va_Qi Q (PU2 G base A h A) (fun q => base ≤ q)) 0 0 (fun q => base ≤ q) := by
  refine met2_of (own := RX12) (nm := "odds") (by decide) rfl rfl (List.forall_mem_cons.mpr ⟨rfl, (List.forall_mem_cons.mpr ⟨rfl, (List.forall_mem_cons.mpr ⟨rfl, (List.forall_mem_cons.mpr ⟨rfl, (List.forall_mem_cons.mpr ⟨rfl, (fun _ h => absurd h List.not_mem_nil)⟩)⟩)⟩)⟩)⟩) (Nat.le_of_ble_eq_true rfl) rfl ?_
  intro p e s m args below meth c H locs ls hM hC hl
  obtain ⟨hx, hb, hr, hml, hown, hts, hg, hs, hlk, hnm⟩ := id hM
  unfold wp_X12_odds at hw
  refine lv_aload_n hx hb dX12_odds_0 rfl (lo_at hl 0 rfl) ?_
  refine lv_iconst (v := 0) hx hb dX12_odds_1 (by decide) ?_
  obtain ⟨k1, hw⟩ := hw
  refine s_putI hx hb hts hown hg hC fb_10_0 k1 rfl rfl mk_f_RX12_132 dX12_odds_2 (fun h2 H locs eh2 hC => ?_)
  replace hw := hw h2 eh2
  refine lv_aload_n hx hb dX12_odds_5 rfl (lo_at hl 0 rfl) ?_
  refine lv_iload_n hx hb dX12_odds_6 rfl (lo_at hl 1 rfl) ?_
  obtain ⟨k3, hw⟩ := hw
  refine res2_i hC (run2_V (As := [.int x1]) (rest := []) hM hC hl.1.1 kv_RX12_309 (c_X12_isLooker l G base A o x1 h2 _ hw) (hc_10) k3 rfl rfl rfl ⟨Nat.le_of_ble_eq_true rfl, Nat.le_of_ble_eq_true rfl⟩ (Nat.le_of_ble_eq_true rfl) ⟨Nat.le_of_ble_eq_true rfl, Nat.le_of_ble_eq_true rfl⟩ dX12_odds_7) (fun z5 h4 H locs hw hC => ?_)
  refine lv_if_eq (tgt := 45) hx hb dX12_odds_10 (by decide) (fun c6 => ?_) (fun c6 => ?_)
  ·
    replace hw := (if_pos c6).mp hw
    refine lv_iconst (v := -1) hx hb dX12_odds_45 (by decide) ?_
    exact ret2_i hM hC hw dX12_odds_46
  ·
    replace hw := (if_neg c6).mp hw
    refine lv_aload_n hx hb dX12_odds_13 rfl (lo_at hl 0 rfl) ?_
    refine lv_iload_n hx hb dX12_odds_14 rfl (lo_at hl 2 rfl) ?_
    refine lv_iconst (v := 0) hx hb dX12_odds_15 (by decide) ?_
    refine lv_bipush (v := 32) hx hb dX12_odds_16 (by decide) ?_
    obtain ⟨k7, hw⟩ := hw
    refine res2_i hC (run2_V (As := [.int x2, .int ((0 : Int32)), .int ((32 : Int32))]) (rest := []) hM hC hl.1.1 kv_RX12_144 (c_X12_isIn l G base A o x2 (0 : Int32) (32 : Int32) h4 _ hw) (hc_10) k7 rfl rfl rfl ⟨Nat.le_of_ble_eq_true rfl, Nat.le_of_ble_eq_true rfl⟩ (Nat.le_of_ble_eq_true rfl) ⟨Nat.le_of_ble_eq_true rfl, Nat.le_of_ble_eq_true rfl⟩ dX12_odds_18) (fun z9 h8 H locs hw hC => ?_)
    refine lv_if_eq (tgt := 45) hx hb dX12_odds_21 (by decide) (fun c10 => ?_) (fun c10 => ?_)
    ·
      replace hw := (if_pos c10).mp hw
      refine lv_iconst (v := -1) hx hb dX12_odds_45 (by decide) ?_
      exact ret2_i hM hC hw dX12_odds_46
    ·
      replace hw := (if_neg c10).mp hw
      refine lv_aload_n hx hb dX12_odds_24 rfl (lo_at hl 0 rfl) ?_
      refine lv_iload_n hx hb dX12_odds_25 rfl (lo_at hl 3 rfl) ?_
      refine lv_iconst (v := 0) hx hb dX12_odds_26 (by decide) ?_
      refine lv_iconst (v := 2) hx hb dX12_odds_27 (by decide) ?_
      obtain ⟨k11, hw⟩ := hw
      refine res2_i hC (run2_V (As := [.int x3, .int ((0 : Int32)), .int ((2 : Int32))]) (rest := []) hM hC hl.1.1 kv_RX12_144 (c_X12_isIn l G base A o x3 (0 : Int32) (2 : Int32) h8 _ hw) (hc_10) k11 rfl rfl rfl ⟨Nat.le_of_ble_eq_true rfl, Nat.le_of_ble_eq_true rfl⟩ (Nat.le_of_ble_eq_true rfl) ⟨Nat.le_of_ble_eq_true rfl, Nat.le_of_ble_eq_true rfl⟩ dX12_odds_28) (fun z13 h12 H locs hw hC => ?_)
      refine lv_if_eq (tgt := 45) hx hb dX12_odds_31 (by decide) (fun c14 => ?_) (fun c14 => ?_)
      ·
        replace hw := (if_pos c14).mp hw
        refine lv_iconst (v := -1) hx hb dX12_odds_45 (by decide) ?_
        exact ret2_i hM hC hw dX12_odds_46
      ·
        replace hw := (if_neg c14).mp hw
        refine lv_aload_n hx hb dX12_odds_34 rfl (lo_at hl 0 rfl) ?_
        refine lv_iload hx hb dX12_odds_35 (lo_at hl 4 rfl) ?_
        refine lv_iconst (v := 0) hx hb dX12_odds_37 (by decide) ?_
        refine lv_iconst (v := 1) hx hb dX12_odds_38 (by decide) ?_
        obtain ⟨k15, hw⟩ := hw
        refine res2_i hC (run2_V (As := [.int x4, .int ((0 : Int32)), .int ((1 : Int32))]) (rest := []) hM hC hl.1.1 kv_RX12_144 (c_X12_isIn l G base A o x4 (0 : Int32) (1 : Int32) h12 _ hw) (hc_10) k15 rfl rfl rfl ⟨Nat.le_of_ble_eq_true rfl, Nat.le_of_ble_eq_true rfl⟩ (Nat.le_of_ble_eq_true rfl) ⟨Nat.le_of_ble_eq_true rfl, Nat.le_of_ble_eq_true rfl⟩ dX12_odds_39) (fun z17 h16 H locs hw hC => ?_)
        refine lv_if_ne (tgt := 47) hx hb dX12_odds_42 (by decide) (fun c18 => ?_) (fun c18 => ?_)
        ·
          replace hw := (if_neg c18).mp hw
          refine lv_iconst (v := 0) hx hb dX12_odds_47 (by decide) ?_
          refine lo_istore (lv' := [(5, .int ((0 : Int32))), (0, .ref (A o)), (1, .int x1), (2, .int x2), (3, .int x3), (4, .int x4)]) hx hb dX12_odds_48 hl (by decide) rfl (fun ls hl => ?_)
          refine lv_iconst (v := 0) hx hb dX12_odds_50 (by decide) ?_
          refine lo_istore (lv' := [(6, .int ((0 : Int32))), (5, .int ((0 : Int32))), (0, .ref (A o)), (1, .int x1), (2, .int x2), (3, .int x3), (4, .int x4)]) hx hb dX12_odds_51 hl (by decide) rfl (fun ls hl => ?_)
          refine lv_iconst (v := 0) hx hb dX12_odds_53 (by decide) ?_
          refine lo_istore (lv' := [(7, .int ((0 : Int32))), (6, .int ((0 : Int32))), (5, .int ((0 : Int32))), (0, .ref (A o)), (1, .int x1), (2, .int x2), (3, .int x3), (4, .int x4)]) hx hb dX12_odds_54 hl (by decide) rfl (fun ls hl => ?_)
          refine t_X12_odds_L56 hM o x1 x2 x3 x4 _ Q ?_ fuel (0 : Int32) (0 : Int32) (0 : Int32) h16 H locs ls hC (lo_sub hl [3, 4, 5, 6, 7, 2, 1, 0] rfl) hw
          intro y53 y54 h52 H locs ls hC hl hw
          refine lv_iload hx hb dX12_odds_155 (lo_at hl 0 rfl) ?_
          refine lv_if_ne (tgt := 165) hx hb dX12_odds_157 (by decide) (fun c55 => ?_) (fun c55 => ?_)
          ·
            replace hw := (if_neg c55).mp hw
            refine lv_iload hx hb dX12_odds_165 (lo_at hl 1 rfl) ?_
            exact ret2_i hM hC hw dX12_odds_167
          ·
            replace hw := (if_pos c55).mp hw
            refine lv_iload hx hb dX12_odds_160 (lo_at hl 2 rfl) ?_
            refine lv_goto (tgt := 167) hx hb dX12_odds_162 (by decide) ?_
            exact ret2_i hM hC hw dX12_odds_167
        ·
          replace hw := (if_pos c18).mp hw
          refine lv_iconst (v := -1) hx hb dX12_odds_45 (by decide) ?_
          exact ret2_i hM hC hw dX12_odds_46
abbrev rm_X12_far : Room := { frames := 4, cells := 0, slots := 0, locals := 105 }
set_option maxRecDepth 100000 in
def wp_X12_far_J121 (o : Nat) (x1 : Int32) (x2 : Int32) (x3 : Int32) (x4 : Int32) (x5 : Int32) (x6 : Int32) (KH : Int32 → Int32 → Hp → Prop) (K143 : Int32 → Hp → Prop) (Q : Int32 → Hp → Prop) (h : Hp) : Prop := ((hpK h o).1 = 20 + 10) ∧ (wp_X12_longest o x1 x4 x5 h (fun (z39 : Int32) (h38 : Hp) => (if x2 ≤ z39 then (∀ v41 : Int32, v41 = x5 + (1 : Int32) → (KH x3 v41 h38)) else (∀ v42 : Int32, v42 = x5 + (1 : Int32) → (KH x6 v42 h38)))))
set_option maxRecDepth 100000 in
def wp_X12_far_L46 (o : Nat) (x1 : Int32) (x2 : Int32) (x4 : Int32) (K143 : Int32 → Hp → Prop) (Q : Int32 → Hp → Prop) : Nat → Int32 → Int32 → Hp → Prop
  | 0, _, _, _ => False
  | n + 1, x3, x5, h => ((hpK h o).1 = 20 + 10) ∧ ((if (hpI h o 12) ≤ x5 then (K143 x3 h) else (wp_X12_isShot o x4 h (fun (z17 : Int32) (h16 : Hp) => (if z17 = 0 then (∀ v19 : Int32, v19 = x5 + (1 : Int32) → (wp_X12_far_L46 o x1 x2 x4 K143 Q n x3 v19 h16)) else (((hpK h16 o).1 = 20 + 10) ∧ (wp_X12_isShot o x5 h16 (fun (z22 : Int32) (h21 : Hp) => (if z22 = 0 then (∀ v24 : Int32, v24 = x5 + (1 : Int32) → (wp_X12_far_L46 o x1 x2 x4 K143 Q n x3 v24 h21)) else (((hpK h21 o).1 = 20 + 10) ∧ (okA h21 (hpR h21 o 14) 1 x4 ∧ (∀ v27 : Int32, v27 = hpI h21 (ad (hpR h21 o 14)) (x4).toNatClampNeg → (okA h21 (hpR h21 o 14) 1 x5 ∧ (∀ v29 : Int32, v29 = hpI h21 (ad (hpR h21 o 14)) (x5).toNatClampNeg → ((if v27 = v29 then (okA h21 (hpR h21 o 15) 1 x5 ∧ (∀ v32 : Int32, v32 = hpI h21 (ad (hpR h21 o 15)) (x5).toNatClampNeg → (okA h21 (hpR h21 o 15) 1 x4 ∧ (∀ v34 : Int32, v34 = hpI h21 (ad (hpR h21 o 15)) (x4).toNatClampNeg → (∀ v35 : Int32, v35 = v32 - v34 → ((if x3 = (-1 : Int32) then (wp_X12_far_J121 o x1 x2 x3 x4 x5 v35 (wp_X12_far_L46 o x1 x2 x4 K143 Q n) K143 Q h21) else ((if x3 ≤ v35 then (∀ v44 : Int32, v44 = x5 + (1 : Int32) → (wp_X12_far_L46 o x1 x2 x4 K143 Q n x3 v44 h21)) else (wp_X12_far_J121 o x1 x2 x3 x4 x5 v35 (wp_X12_far_L46 o x1 x2 x4 K143 Q n) K143 Q h21)))))))))) else (∀ v45 : Int32, v45 = x5 + (1 : Int32) → (wp_X12_far_L46 o x1 x2 x4 K143 Q n x3 v45 h21))))))))))))))))))
set_option maxRecDepth 100000 in
def wp_X12_far_L31 (o : Nat) (x1 : Int32) (x2 : Int32) (K149 : Int32 → Hp → Prop) (Q : Int32 → Hp → Prop) : Nat → Int32 → Int32 → Hp → Prop
  | 0, _, _, _ => False
  | n + 1, x3, x4, h => ((hpK h o).1 = 20 + 10) ∧ ((if (hpI h o 12) ≤ x4 then (K149 x3 h) else (∀ v13 : Int32, v13 = x4 + (1 : Int32) → (wp_X12_far_L46 o x1 x2 x4 (fun (y47 : Int32) (h46 : Hp) => ∀ v48 : Int32, v48 = x4 + (1 : Int32) → (wp_X12_far_L31 o x1 x2 K149 Q n y47 v48 h46)) Q fuel x3 v13 h))))
set_option maxRecDepth 100000 in
def wp_X12_far (o : Nat) (x1 : Int32) (x2 : Int32) (h : Hp) (Q : Int32 → Hp → Prop) : Prop := ((hpK h o).1 = 20 + 10) ∧ (∀ h2 : Hp, h2 = stI h o 0 (0 : Int32) → (((hpK h2 o).1 = 20 + 10) ∧ (wp_X12_isLooker o x1 h2 (fun (z5 : Int32) (h4 : Hp) => (if z5 = 0 then (Q (-1 : Int32) h4) else (((hpK h4 o).1 = 20 + 10) ∧ (wp_X12_isIn o x2 (0 : Int32) (33 : Int32) h4 (fun (z9 : Int32) (h8 : Hp) => (if z9 = 0 then (Q (-1 : Int32) h8) else (wp_X12_far_L31 o x1 x2 (fun (y50 : Int32) (h49 : Hp) => Q y50 h49) Q fuel (-1 : Int32) (0 : Int32) h8))))))))))
set_option maxHeartbeats 4000000 in
set_option maxRecDepth 100000 in
theorem t_X12_far_J121 {p : Program} {l : Launch} {e : Env} {s : State} {m : MethodId} {args : Array Value} {below : List Frame} {meth : Method} {c : Code} {G : GG} {base : Nat} {A : Nat → Nat} {g0 : Hp} (hM : Mx G base p s m args meth c cX12_far 7 (some .int) RX12 "far") (o : Nat) (x1 : Int32) (x2 : Int32) (x3 : Int32) (x4 : Int32) (x5 : Int32) (x6 : Int32) (KH : Int32 → Int32 → Hp → Prop) (K143 : Int32 → Hp → Prop) (Q : Int32 → Hp → Prop) (hKH : ∀ (y3 : Int32) (y5 : Int32) (h : Hp) (H : Heap) (locs : List Loc) (ls : Array Slot), Cx2 G base A g0 A h s.heap H locs → lo_has ls 7 [(0, .ref (A o)), (1, .int x1), (2, .int x2), (3, .int y3), (4, .int x4), (5, .int y5)] → KH y3 y5 h → W p l e rm_X12_far s m args below meth c H locs 0 0 (MQ below (va_Qi Q (PU2 G base A g0 A) (fun q => base ≤ q)) args s 0 0 (fun q => base ≤ q)) (F0 m 46 ls [])) (hK143 : ∀ (y3 : Int32) (h : Hp) (H : Heap) (locs : List Loc) (ls : Array Slot), Cx2 G base A g0 A h s.heap H locs → lo_has ls 7 [(0, .ref (A o)), (1, .int x1), (2, .int x2), (3, .int y3), (4, .int x4)] → K143 y3 h → W p l e rm_X12_far s m args below meth c H locs 0 0 (MQ below (va_Qi Q (PU2 G base A g0 A) (fun q => base ≤ q)) args s 0 0 (fun q => base ≤ q)) (F0 m 143 ls [])) (h : Hp) (H : Heap) (locs : List Loc) (ls : Array Slot) : Cx2 G base A g0 A h s.heap H locs → lo_has ls 7 [(0, .ref (A o)), (1, .int x1), (2, .int x2), (3, .int x3), (4, .int x4), (5, .int x5), (6, .int x6)] → wp_X12_far_J121 o x1 x2 x3 x4 x5 x6 KH K143 Q h → W p l e rm_X12_far s m args below meth c H locs 0 0 (MQ below (va_Qi Q (PU2 G base A g0 A) (fun q => base ≤ q)) args s 0 0 (fun q => base ≤ q)) (F0 m 121 ls []) := by
  intro hC hl hw
  unfold wp_X12_far_J121 at hw
  obtain ⟨hx, hb, hr, hml, hown, hts, hg, hs, hlk, hnm⟩ := id hM
  refine lv_aload_n hx hb dX12_far_121 rfl (lo_at hl 0 rfl) ?_
  refine lv_iload_n hx hb dX12_far_122 rfl (lo_at hl 1 rfl) ?_
  refine lv_iload hx hb dX12_far_123 (lo_at hl 4 rfl) ?_
  refine lv_iload hx hb dX12_far_125 (lo_at hl 5 rfl) ?_
  obtain ⟨k37, hw⟩ := hw
  refine res2_i hC (run2_V (As := [.int x1, .int x4, .int x5]) (rest := []) hM hC hl.1.1 kv_RX12_339 (c_X12_longest l G base A o x1 x4 x5 h _ hw) (hc_10) k37 rfl rfl rfl ⟨Nat.le_of_ble_eq_true rfl, Nat.le_of_ble_eq_true rfl⟩ (Nat.le_of_ble_eq_true rfl) ⟨Nat.le_of_ble_eq_true rfl, Nat.le_of_ble_eq_true rfl⟩ dX12_far_127) (fun z39 h38 H locs hw hC => ?_)
  refine lv_iload_n hx hb dX12_far_130 rfl (lo_at hl 2 rfl) ?_
  refine lv_icmp_ge (tgt := 137) hx hb dX12_far_131 (by decide) (fun c40 => ?_) (fun c40 => ?_)
  ·
    replace hw := (if_pos c40).mp hw
    obtain ⟨v41, ev41⟩ : ∃ y : Int32, y = x5 + (1 : Int32) := ⟨_, rfl⟩
    replace hw := hw v41 ev41
    refine lo_iinc (v := v41) (lv' := [(5, .int v41), (0, .ref (A o)), (1, .int x1), (2, .int x2), (3, .int x3), (4, .int x4), (6, .int x6)]) hx hb dX12_far_137 hl (k := 5) rfl (by rw [ev41]; rfl) (by decide) rfl (fun ls hl => ?_)
    refine lv_goto (tgt := 46) hx hb dX12_far_140 (by decide) ?_
    exact hKH x3 v41 h38 H locs ls hC (lo_sub hl [1, 2, 3, 4, 5, 0] rfl) hw
  ·
    replace hw := (if_neg c40).mp hw
    refine lv_iload hx hb dX12_far_134 (lo_at hl 6 rfl) ?_
    refine lo_istore_n (lv' := [(3, .int x6), (0, .ref (A o)), (1, .int x1), (2, .int x2), (4, .int x4), (5, .int x5), (6, .int x6)]) hx hb dX12_far_136 rfl hl (by decide) rfl (fun ls hl => ?_)
    obtain ⟨v42, ev42⟩ : ∃ y : Int32, y = x5 + (1 : Int32) := ⟨_, rfl⟩
    replace hw := hw v42 ev42
    refine lo_iinc (v := v42) (lv' := [(5, .int v42), (3, .int x6), (0, .ref (A o)), (1, .int x1), (2, .int x2), (4, .int x4), (6, .int x6)]) hx hb dX12_far_137 hl (k := 5) rfl (by rw [ev42]; rfl) (by decide) rfl (fun ls hl => ?_)
    refine lv_goto (tgt := 46) hx hb dX12_far_140 (by decide) ?_
    exact hKH x6 v42 h38 H locs ls hC (lo_sub hl [2, 3, 4, 1, 5, 0] rfl) hw
set_option maxHeartbeats 4000000 in
set_option maxRecDepth 100000 in
theorem t_X12_far_L46 {p : Program} {l : Launch} {e : Env} {s : State} {m : MethodId} {args : Array Value} {below : List Frame} {meth : Method} {c : Code} {G : GG} {base : Nat} {A : Nat → Nat} {g0 : Hp} (hM : Mx G base p s m args meth c cX12_far 7 (some .int) RX12 "far") (o : Nat) (x1 : Int32) (x2 : Int32) (x4 : Int32) (K143 : Int32 → Hp → Prop) (Q : Int32 → Hp → Prop) (hK143 : ∀ (y3 : Int32) (h : Hp) (H : Heap) (locs : List Loc) (ls : Array Slot), Cx2 G base A g0 A h s.heap H locs → lo_has ls 7 [(0, .ref (A o)), (1, .int x1), (2, .int x2), (3, .int y3), (4, .int x4)] → K143 y3 h → W p l e rm_X12_far s m args below meth c H locs 0 0 (MQ below (va_Qi Q (PU2 G base A g0 A) (fun q => base ≤ q)) args s 0 0 (fun q => base ≤ q)) (F0 m 143 ls [])) : ∀ (n : Nat) (x3 : Int32) (x5 : Int32) (h : Hp) (H : Heap) (locs : List Loc) (ls : Array Slot), Cx2 G base A g0 A h s.heap H locs → lo_has ls 7 [(0, .ref (A o)), (1, .int x1), (2, .int x2), (3, .int x3), (4, .int x4), (5, .int x5)] → wp_X12_far_L46 o x1 x2 x4 K143 Q n x3 x5 h → W p l e rm_X12_far s m args below meth c H locs 0 0 (MQ below (va_Qi Q (PU2 G base A g0 A) (fun q => base ≤ q)) args s 0 0 (fun q => base ≤ q)) (F0 m 46 ls []) := by
  intro n
  induction n with
  | zero =>
    intro x3 x5 h H locs ls hC hl hw
    rw [wp_X12_far_L46] at hw
    exact hw.elim
  | succ n ih =>
    intro x3 x5 h H locs ls hC hl hw
    rw [wp_X12_far_L46] at hw
    obtain ⟨hx, hb, hr, hml, hown, hts, hg, hs, hlk, hnm⟩ := id hM
    refine lv_iload hx hb dX12_far_46 (lo_at hl 5 rfl) ?_
    refine lv_aload_n hx hb dX12_far_48 rfl (lo_at hl 0 rfl) ?_
    obtain ⟨k14, hw⟩ := hw
    refine s_getI hx hb hts hown hg hC fb_10_12 k14 mk_f_RX12_141 dX12_far_49 ?_
    refine lv_icmp_ge (tgt := 143) hx hb dX12_far_52 (by decide) (fun c15 => ?_) (fun c15 => ?_)
    ·
      replace hw := (if_pos c15).mp hw
      exact hK143 x3 h H locs ls hC (lo_sub hl [0, 1, 2, 3, 4] rfl) hw
    ·
      replace hw := (if_neg c15).mp hw
      refine lv_aload_n hx hb dX12_far_55 rfl (lo_at hl 0 rfl) ?_
      refine lv_iload hx hb dX12_far_56 (lo_at hl 4 rfl) ?_
      refine res2_i hC (run2_V (As := [.int x4]) (rest := []) hM hC hl.1.1 kv_RX12_333 (c_X12_isShot l G base A o x4 h _ hw) (hc_10) k14 rfl rfl rfl ⟨Nat.le_of_ble_eq_true rfl, Nat.le_of_ble_eq_true rfl⟩ (Nat.le_of_ble_eq_true rfl) ⟨Nat.le_of_ble_eq_true rfl, Nat.le_of_ble_eq_true rfl⟩ dX12_far_58) (fun z17 h16 H locs hw hC => ?_)
      refine lv_if_eq (tgt := 137) hx hb dX12_far_61 (by decide) (fun c18 => ?_) (fun c18 => ?_)
      ·
        replace hw := (if_pos c18).mp hw
        obtain ⟨v19, ev19⟩ : ∃ y : Int32, y = x5 + (1 : Int32) := ⟨_, rfl⟩
        replace hw := hw v19 ev19
        refine lo_iinc (v := v19) (lv' := [(5, .int v19), (0, .ref (A o)), (1, .int x1), (2, .int x2), (3, .int x3), (4, .int x4)]) hx hb dX12_far_137 hl (k := 5) rfl (by rw [ev19]; rfl) (by decide) rfl (fun ls hl => ?_)
        refine lv_goto (tgt := 46) hx hb dX12_far_140 (by decide) ?_
        exact ih x3 v19 h16 H locs ls hC (lo_sub hl [1, 2, 3, 4, 5, 0] rfl) hw
      ·
        replace hw := (if_neg c18).mp hw
        refine lv_aload_n hx hb dX12_far_64 rfl (lo_at hl 0 rfl) ?_
        refine lv_iload hx hb dX12_far_65 (lo_at hl 5 rfl) ?_
        obtain ⟨k20, hw⟩ := hw
        refine res2_i hC (run2_V (As := [.int x5]) (rest := []) hM hC hl.1.1 kv_RX12_333 (c_X12_isShot l G base A o x5 h16 _ hw) (hc_10) k20 rfl rfl rfl ⟨Nat.le_of_ble_eq_true rfl, Nat.le_of_ble_eq_true rfl⟩ (Nat.le_of_ble_eq_true rfl) ⟨Nat.le_of_ble_eq_true rfl, Nat.le_of_ble_eq_true rfl⟩ dX12_far_67) (fun z22 h21 H locs hw hC => ?_)
        refine lv_if_eq (tgt := 137) hx hb dX12_far_70 (by decide) (fun c23 => ?_) (fun c23 => ?_)
        ·
          replace hw := (if_pos c23).mp hw
          obtain ⟨v24, ev24⟩ : ∃ y : Int32, y = x5 + (1 : Int32) := ⟨_, rfl⟩
          replace hw := hw v24 ev24
          refine lo_iinc (v := v24) (lv' := [(5, .int v24), (0, .ref (A o)), (1, .int x1), (2, .int x2), (3, .int x3), (4, .int x4)]) hx hb dX12_far_137 hl (k := 5) rfl (by rw [ev24]; rfl) (by decide) rfl (fun ls hl => ?_)
          refine lv_goto (tgt := 46) hx hb dX12_far_140 (by decide) ?_
          exact ih x3 v24 h21 H locs ls hC (lo_sub hl [1, 2, 3, 4, 5, 0] rfl) hw
        ·
          replace hw := (if_neg c23).mp hw
          refine lv_aload_n hx hb dX12_far_73 rfl (lo_at hl 0 rfl) ?_
          obtain ⟨k25, hw⟩ := hw
          refine s_getR hx hb hts hown hg hC fb_10_14 k25 mk_f_RX12_40 dX12_far_74 ?_
          refine lv_iload hx hb dX12_far_77 (lo_at hl 4 rfl) ?_
          obtain ⟨k26, hw⟩ := hw
          refine sf_2 k26.1 ?_
          refine s_iald hx hb hg hC k26.2.1 k26.2.2 dX12_far_79 ?_
          refine lv_topi (fun v27 ev27 => ?_)
          replace hw := hw v27 ev27
          refine lv_aload_n hx hb dX12_far_80 rfl (lo_at hl 0 rfl) ?_
          refine s_getR hx hb hts hown hg hC fb_10_14 k25 mk_f_RX12_40 dX12_far_81 ?_
          refine lv_iload hx hb dX12_far_84 (lo_at hl 5 rfl) ?_
          obtain ⟨k28, hw⟩ := hw
          refine sf_2 k28.1 ?_
          refine s_iald hx hb hg hC k28.2.1 k28.2.2 dX12_far_86 ?_
          refine lv_topi (fun v29 ev29 => ?_)
          replace hw := hw v29 ev29
          refine lv_icmp_eq (tgt := 93) hx hb dX12_far_87 (by decide) (fun c30 => ?_) (fun c30 => ?_)
          ·
            replace hw := (if_pos c30).mp hw
            refine lv_aload_n hx hb dX12_far_93 rfl (lo_at hl 0 rfl) ?_
            refine s_getR hx hb hts hown hg hC fb_10_15 k25 mk_f_RX12_43 dX12_far_94 ?_
            refine lv_iload hx hb dX12_far_97 (lo_at hl 5 rfl) ?_
            obtain ⟨k31, hw⟩ := hw
            refine sf_2 k31.1 ?_
            refine s_iald hx hb hg hC k31.2.1 k31.2.2 dX12_far_99 ?_
            refine lv_topi (fun v32 ev32 => ?_)
            replace hw := hw v32 ev32
            refine lv_aload_n hx hb dX12_far_100 rfl (lo_at hl 0 rfl) ?_
            refine s_getR hx hb hts hown hg hC fb_10_15 k25 mk_f_RX12_43 dX12_far_101 ?_
            refine lv_iload hx hb dX12_far_104 (lo_at hl 4 rfl) ?_
            obtain ⟨k33, hw⟩ := hw
            refine sf_2 k33.1 ?_
            refine s_iald hx hb hg hC k33.2.1 k33.2.2 dX12_far_106 ?_
            refine lv_topi (fun v34 ev34 => ?_)
            replace hw := hw v34 ev34
            refine lv_isub hx hb dX12_far_107 ?_
            refine lv_topi (fun v35 ev35 => ?_)
            replace hw := hw v35 ev35
            refine lo_istore (lv' := [(6, .int v35), (0, .ref (A o)), (1, .int x1), (2, .int x2), (3, .int x3), (4, .int x4), (5, .int x5)]) hx hb dX12_far_108 hl (by decide) rfl (fun ls hl => ?_)
            refine lv_iload_n hx hb dX12_far_110 rfl (lo_at hl 4 rfl) ?_
            refine lv_iconst (v := -1) hx hb dX12_far_111 (by decide) ?_
            refine lv_icmp_eq (tgt := 121) hx hb dX12_far_112 (by decide) (fun c36 => ?_) (fun c36 => ?_)
            ·
              replace hw := (if_pos c36).mp hw
              exact t_X12_far_J121 hM o x1 x2 x3 x4 x5 v35 (wp_X12_far_L46 o x1 x2 x4 K143 Q n) K143 Q ih hK143 h21 H locs ls hC (lo_sub hl [1, 2, 3, 4, 5, 6, 0] rfl) hw
            ·
              replace hw := (if_neg c36).mp hw
              refine lv_iload hx hb dX12_far_115 (lo_at hl 0 rfl) ?_
              refine lv_iload_n hx hb dX12_far_117 rfl (lo_at hl 4 rfl) ?_
              refine lv_icmp_ge (tgt := 137) hx hb dX12_far_118 (by decide) (fun c43 => ?_) (fun c43 => ?_)
              ·
                replace hw := (if_pos c43).mp hw
                obtain ⟨v44, ev44⟩ : ∃ y : Int32, y = x5 + (1 : Int32) := ⟨_, rfl⟩
                replace hw := hw v44 ev44
                refine lo_iinc (v := v44) (lv' := [(5, .int v44), (6, .int v35), (0, .ref (A o)), (1, .int x1), (2, .int x2), (3, .int x3), (4, .int x4)]) hx hb dX12_far_137 hl (k := 6) rfl (by rw [ev44]; rfl) (by decide) rfl (fun ls hl => ?_)
                refine lv_goto (tgt := 46) hx hb dX12_far_140 (by decide) ?_
                exact ih x3 v44 h21 H locs ls hC (lo_sub hl [2, 3, 4, 5, 6, 0] rfl) hw
              ·
                replace hw := (if_neg c43).mp hw
                exact t_X12_far_J121 hM o x1 x2 x3 x4 x5 v35 (wp_X12_far_L46 o x1 x2 x4 K143 Q n) K143 Q ih hK143 h21 H locs ls hC (lo_sub hl [1, 2, 3, 4, 5, 6, 0] rfl) hw
          ·
            replace hw := (if_neg c30).mp hw
            refine lv_goto (tgt := 137) hx hb dX12_far_90 (by decide) ?_
            obtain ⟨v45, ev45⟩ : ∃ y : Int32, y = x5 + (1 : Int32) := ⟨_, rfl⟩
            replace hw := hw v45 ev45
            refine lo_iinc (v := v45) (lv' := [(5, .int v45), (0, .ref (A o)), (1, .int x1), (2, .int x2), (3, .int x3), (4, .int x4)]) hx hb dX12_far_137 hl (k := 5) rfl (by rw [ev45]; rfl) (by decide) rfl (fun ls hl => ?_)
            refine lv_goto (tgt := 46) hx hb dX12_far_140 (by decide) ?_
            exact ih x3 v45 h21 H locs ls hC (lo_sub hl [1, 2, 3, 4, 5, 0] rfl) hw
set_option maxHeartbeats 4000000 in
set_option maxRecDepth 100000 in
theorem t_X12_far_L31 {p : Program} {l : Launch} {e : Env} {s : State} {m : MethodId} {args : Array Value} {below : List Frame} {meth : Method} {c : Code} {G : GG} {base : Nat} {A : Nat → Nat} {g0 : Hp} (hM : Mx G base p s m args meth c cX12_far 7 (some .int) RX12 "far") (o : Nat) (x1 : Int32) (x2 : Int32) (K149 : Int32 → Hp → Prop) (Q : Int32 → Hp → Prop) (hK149 : ∀ (y3 : Int32) (h : Hp) (H : Heap) (locs : List Loc) (ls : Array Slot), Cx2 G base A g0 A h s.heap H locs → lo_has ls 7 [(3, .int y3)] → K149 y3 h → W p l e rm_X12_far s m args below meth c H locs 0 0 (MQ below (va_Qi Q (PU2 G base A g0 A) (fun q => base ≤ q)) args s 0 0 (fun q => base ≤ q)) (F0 m 149 ls [])) : ∀ (n : Nat) (x3 : Int32) (x4 : Int32) (h : Hp) (H : Heap) (locs : List Loc) (ls : Array Slot), Cx2 G base A g0 A h s.heap H locs → lo_has ls 7 [(0, .ref (A o)), (1, .int x1), (2, .int x2), (3, .int x3), (4, .int x4)] → wp_X12_far_L31 o x1 x2 K149 Q n x3 x4 h → W p l e rm_X12_far s m args below meth c H locs 0 0 (MQ below (va_Qi Q (PU2 G base A g0 A) (fun q => base ≤ q)) args s 0 0 (fun q => base ≤ q)) (F0 m 31 ls []) := by
  intro n
  induction n with
  | zero =>
    intro x3 x4 h H locs ls hC hl hw
    rw [wp_X12_far_L31] at hw
    exact hw.elim
  | succ n ih =>
    intro x3 x4 h H locs ls hC hl hw
    rw [wp_X12_far_L31] at hw
    obtain ⟨hx, hb, hr, hml, hown, hts, hg, hs, hlk, hnm⟩ := id hM
    refine lv_iload hx hb dX12_far_31 (lo_at hl 4 rfl) ?_
    refine lv_aload_n hx hb dX12_far_33 rfl (lo_at hl 0 rfl) ?_
    obtain ⟨k11, hw⟩ := hw
    refine s_getI hx hb hts hown hg hC fb_10_12 k11 mk_f_RX12_141 dX12_far_34 ?_
    refine lv_icmp_ge (tgt := 149) hx hb dX12_far_37 (by decide) (fun c12 => ?_) (fun c12 => ?_)
    ·
      replace hw := (if_pos c12).mp hw
      exact hK149 x3 h H locs ls hC (lo_sub hl [3] rfl) hw
    ·
      replace hw := (if_neg c12).mp hw
      refine lv_iload hx hb dX12_far_40 (lo_at hl 4 rfl) ?_
      refine lv_iconst (v := 1) hx hb dX12_far_42 (by decide) ?_
      refine lv_iadd hx hb dX12_far_43 ?_
      refine lv_topi (fun v13 ev13 => ?_)
      replace hw := hw v13 ev13
      refine lo_istore (lv' := [(5, .int v13), (0, .ref (A o)), (1, .int x1), (2, .int x2), (3, .int x3), (4, .int x4)]) hx hb dX12_far_44 hl (by decide) rfl (fun ls hl => ?_)
      refine t_X12_far_L46 hM o x1 x2 x4 _ Q ?_ fuel x3 v13 h H locs ls hC (lo_sub hl [1, 2, 3, 4, 5, 0] rfl) hw
      intro y47 h46 H locs ls hC hl hw
      obtain ⟨v48, ev48⟩ : ∃ y : Int32, y = x4 + (1 : Int32) := ⟨_, rfl⟩
      replace hw := hw v48 ev48
      refine lo_iinc (v := v48) (lv' := [(4, .int v48), (0, .ref (A o)), (1, .int x1), (2, .int x2), (3, .int y47)]) hx hb dX12_far_143 hl (k := 4) rfl (by rw [ev48]; rfl) (by decide) rfl (fun ls hl => ?_)
      refine lv_goto (tgt := 31) hx hb dX12_far_146 (by decide) ?_
      exact ih y47 v48 h46 H locs ls hC (lo_sub hl [1, 2, 3, 4, 0] rfl) hw
set_option maxHeartbeats 4000000 in
set_option maxRecDepth 100000 in
theorem c_X12_far (l : Launch) (G : GG) (base : Nat) (A : Nat → Nat) (o : Nat) (x1 : Int32) (x2 : Int32) (h : Hp) (Q : Int32 → Hp → Prop) (hw : wp_X12_far o x1 x2 h Q) : Met l yX12_far (ww yX12_far cX12_far 7 (some .int)) rm_X12_far (va_Pc [.ref (A o), .int x1, .int x2] (PU2 G base A h A h)) (va_Qi Q (PU2 G base A h A) (fun q => base ≤ q)) 0 0 (fun q => base ≤ q) := by
  refine met2_of (own := RX12) (nm := "far") (by decide) rfl rfl (List.forall_mem_cons.mpr ⟨rfl, (List.forall_mem_cons.mpr ⟨rfl, (List.forall_mem_cons.mpr ⟨rfl, (fun _ h => absurd h List.not_mem_nil)⟩)⟩)⟩) (Nat.le_of_ble_eq_true rfl) rfl ?_
  intro p e s m args below meth c H locs ls hM hC hl
  obtain ⟨hx, hb, hr, hml, hown, hts, hg, hs, hlk, hnm⟩ := id hM
  unfold wp_X12_far at hw
  refine lv_aload_n hx hb dX12_far_0 rfl (lo_at hl 0 rfl) ?_
  refine lv_iconst (v := 0) hx hb dX12_far_1 (by decide) ?_
  obtain ⟨k1, hw⟩ := hw
  refine s_putI hx hb hts hown hg hC fb_10_0 k1 rfl rfl mk_f_RX12_132 dX12_far_2 (fun h2 H locs eh2 hC => ?_)
  replace hw := hw h2 eh2
  refine lv_aload_n hx hb dX12_far_5 rfl (lo_at hl 0 rfl) ?_
  refine lv_iload_n hx hb dX12_far_6 rfl (lo_at hl 1 rfl) ?_
  obtain ⟨k3, hw⟩ := hw
  refine res2_i hC (run2_V (As := [.int x1]) (rest := []) hM hC hl.1.1 kv_RX12_309 (c_X12_isLooker l G base A o x1 h2 _ hw) (hc_10) k3 rfl rfl rfl ⟨Nat.le_of_ble_eq_true rfl, Nat.le_of_ble_eq_true rfl⟩ (Nat.le_of_ble_eq_true rfl) ⟨Nat.le_of_ble_eq_true rfl, Nat.le_of_ble_eq_true rfl⟩ dX12_far_7) (fun z5 h4 H locs hw hC => ?_)
  refine lv_if_eq (tgt := 24) hx hb dX12_far_10 (by decide) (fun c6 => ?_) (fun c6 => ?_)
  ·
    replace hw := (if_pos c6).mp hw
    refine lv_iconst (v := -1) hx hb dX12_far_24 (by decide) ?_
    exact ret2_i hM hC hw dX12_far_25
  ·
    replace hw := (if_neg c6).mp hw
    refine lv_aload_n hx hb dX12_far_13 rfl (lo_at hl 0 rfl) ?_
    refine lv_iload_n hx hb dX12_far_14 rfl (lo_at hl 2 rfl) ?_
    refine lv_iconst (v := 0) hx hb dX12_far_15 (by decide) ?_
    refine lv_bipush (v := 33) hx hb dX12_far_16 (by decide) ?_
    obtain ⟨k7, hw⟩ := hw
    refine res2_i hC (run2_V (As := [.int x2, .int ((0 : Int32)), .int ((33 : Int32))]) (rest := []) hM hC hl.1.1 kv_RX12_144 (c_X12_isIn l G base A o x2 (0 : Int32) (33 : Int32) h4 _ hw) (hc_10) k7 rfl rfl rfl ⟨Nat.le_of_ble_eq_true rfl, Nat.le_of_ble_eq_true rfl⟩ (Nat.le_of_ble_eq_true rfl) ⟨Nat.le_of_ble_eq_true rfl, Nat.le_of_ble_eq_true rfl⟩ dX12_far_18) (fun z9 h8 H locs hw hC => ?_)
    refine lv_if_ne (tgt := 26) hx hb dX12_far_21 (by decide) (fun c10 => ?_) (fun c10 => ?_)
    ·
      replace hw := (if_neg c10).mp hw
      refine lv_iconst (v := -1) hx hb dX12_far_26 (by decide) ?_
      refine lo_istore_n (lv' := [(3, .int ((-1 : Int32))), (0, .ref (A o)), (1, .int x1), (2, .int x2)]) hx hb dX12_far_27 rfl hl (by decide) rfl (fun ls hl => ?_)
      refine lv_iconst (v := 0) hx hb dX12_far_28 (by decide) ?_
      refine lo_istore (lv' := [(4, .int ((0 : Int32))), (3, .int ((-1 : Int32))), (0, .ref (A o)), (1, .int x1), (2, .int x2)]) hx hb dX12_far_29 hl (by decide) rfl (fun ls hl => ?_)
      refine t_X12_far_L31 hM o x1 x2 _ Q ?_ fuel (-1 : Int32) (0 : Int32) h8 H locs ls hC (lo_sub hl [2, 3, 4, 1, 0] rfl) hw
      intro y50 h49 H locs ls hC hl hw
      refine lv_iload_n hx hb dX12_far_149 rfl (lo_at hl 0 rfl) ?_
      exact ret2_i hM hC hw dX12_far_150
    ·
      replace hw := (if_pos c10).mp hw
      refine lv_iconst (v := -1) hx hb dX12_far_24 (by decide) ?_
      exact ret2_i hM hC hw dX12_far_25
