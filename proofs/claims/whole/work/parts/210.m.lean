abbrev rm_X12_round : Room := { frames := 6, cells := 0, slots := 0, locals := 157 }
set_option maxRecDepth 100000 in
def wp_X12_round_L54 (o : Nat) (x1 : Int32) (x2 : Int32) (x3 : Int32) (K107 : Hp → Prop) (Q : Int32 → Hp → Prop) : Nat → Int32 → Hp → Prop
  | 0, _, _ => False
  | n + 1, x4, h => ((hpK h o).1 = 20 + 10) ∧ ((if (hpI h o 53) ≤ x4 then (K107 h) else ((if ((x1 >>> (x3 &&& 31)) &&& (1 : Int32)) = (1 : Int32) then (wp_X12_countOf o x3 x4 (0 : Int32) h (fun (z19 : Int32) (h18 : Hp) => (if z19 = (1 : Int32) then (((hpK h18 o).1 = 20 + 10) ∧ (okA h18 (hpR h18 o 57) 1 x3 ∧ (∀ v24 : Int32, v24 = hpI h18 (ad (hpR h18 o 57)) (x3).toNatClampNeg → (okA h18 (hpR h18 o 57) 1 x3 ∧ (∀ h26 : Hp, h26 = stI h18 (ad (hpR h18 o 57)) (x3).toNatClampNeg (v24 ||| ((1 : Int32) <<< (x4 &&& 31))) → (∀ v27 : Int32, v27 = x4 + (1 : Int32) → (wp_X12_round_L54 o x1 x2 x3 K107 Q n v27 h26))))))) else (∀ v21 : Int32, v21 = x4 + (1 : Int32) → (wp_X12_round_L54 o x1 x2 x3 K107 Q n v21 h18))))) else (K107 h)))))
set_option maxRecDepth 100000 in
def wp_X12_round_L36 (o : Nat) (x1 : Int32) (x2 : Int32) (K113 : Hp → Prop) (Q : Int32 → Hp → Prop) : Nat → Int32 → Hp → Prop
  | 0, _, _ => False
  | n + 1, x3, h => ((hpK h o).1 = 20 + 10) ∧ ((if (hpI h o 45) ≤ x3 then (K113 h) else (okA h (hpR h o 57) 1 x3 ∧ (∀ h14 : Hp, h14 = stI h (ad (hpR h o 57)) (x3).toNatClampNeg (0 : Int32) → (wp_X12_round_L54 o x1 x2 x3 (fun (h28 : Hp) => ∀ v29 : Int32, v29 = x3 + (1 : Int32) → (wp_X12_round_L36 o x1 x2 K113 Q n v29 h28)) Q fuel (0 : Int32) h14)))))
set_option maxRecDepth 100000 in
def wp_X12_round_L118 (o : Nat) (x1 : Int32) (x2 : Int32) (K201 : Int32 → Hp → Prop) (Q : Int32 → Hp → Prop) : Nat → Int32 → Int32 → Hp → Prop
  | 0, _, _, _ => False
  | n + 1, x3, x4, h => ((hpK h o).1 = 20 + 10) ∧ ((if ((1 : Int32) <<< ((hpI h o 53) &&& 31)) ≤ x4 then (K201 x3 h) else (wp_X12_findsAll o x1 x4 h (fun (z34 : Int32) (h33 : Hp) => (if z34 = 0 then (∀ v63 : Int32, v63 = x4 + (1 : Int32) → (wp_X12_round_L118 o x1 x2 K201 Q n x3 v63 h33)) else ((if x3 = (-1 : Int32) then (∀ v37 : Int32, v37 = x4 + (1 : Int32) → (wp_X12_round_L118 o x1 x2 K201 Q n x4 v37 h33)) else (((hpK h33 o).1 = 20 + 10) ∧ (wp_X12_hoursOfSet o x4 h33 (fun (z40 : Int32) (h39 : Hp) => ((hpK h39 o).1 = 20 + 10) ∧ (wp_X12_hoursOfSet o x3 h39 (fun (z43 : Int32) (h42 : Hp) => (if z43 < z40 then (∀ v45 : Int32, v45 = x4 + (1 : Int32) → (wp_X12_round_L118 o x1 x2 K201 Q n x3 v45 h42)) else (((hpK h42 o).1 = 20 + 10) ∧ (wp_X12_hoursOfSet o x4 h42 (fun (z48 : Int32) (h47 : Hp) => ((hpK h47 o).1 = 20 + 10) ∧ (wp_X12_hoursOfSet o x3 h47 (fun (z51 : Int32) (h50 : Hp) => (if z48 = z51 then (((hpK h50 o).1 = 20 + 10) ∧ (wp_X12_ones o x4 h50 (fun (z56 : Int32) (h55 : Hp) => ((hpK h55 o).1 = 20 + 10) ∧ (wp_X12_ones o x3 h55 (fun (z59 : Int32) (h58 : Hp) => (if z56 < z59 then (∀ v61 : Int32, v61 = x4 + (1 : Int32) → (wp_X12_round_L118 o x1 x2 K201 Q n x4 v61 h58)) else (∀ v62 : Int32, v62 = x4 + (1 : Int32) → (wp_X12_round_L118 o x1 x2 K201 Q n x3 v62 h58)))))))) else (∀ v53 : Int32, v53 = x4 + (1 : Int32) → (wp_X12_round_L118 o x1 x2 K201 Q n x4 v53 h50)))))))))))))))))))))
set_option maxRecDepth 100000 in
def wp_X12_round (o : Nat) (x1 : Int32) (x2 : Int32) (h : Hp) (Q : Int32 → Hp → Prop) : Prop := ((hpK h o).1 = 20 + 10) ∧ (∀ h2 : Hp, h2 = stI h o 0 (0 : Int32) → (((hpK h2 o).1 = 20 + 10) ∧ (wp_X12_isIn o x1 (1 : Int32) (((1 : Int32) <<< ((hpI h2 o 45) &&& 31)) - (1 : Int32)) h2 (fun (z5 : Int32) (h4 : Hp) => (if z5 = 0 then (Q (-1 : Int32) h4) else (((hpK h4 o).1 = 20 + 10) ∧ (wp_X12_isIn o x2 (0 : Int32) (1 : Int32) h4 (fun (z9 : Int32) (h8 : Hp) => (if z9 = 0 then (Q (-1 : Int32) h8) else (wp_X12_round_L36 o x1 x2 (fun (h30 : Hp) => wp_X12_round_L118 o x1 x2 (fun (y65 : Int32) (h64 : Hp) => (if y65 = (-1 : Int32) then (Q y65 h64) else ((if x2 = 0 then (Q y65 h64) else (((hpK h64 o).1 = 20 + 10) ∧ (wp_X12_hoursOfSet o y65 h64 (fun (z70 : Int32) (h69 : Hp) => Q z70 h69))))))) Q fuel (-1 : Int32) (1 : Int32) h30) Q fuel (0 : Int32) h8))))))))))
set_option maxHeartbeats 4000000 in
set_option maxRecDepth 100000 in
theorem t_X12_round_L54 {p : Program} {l : Launch} {e : Env} {s : State} {m : MethodId} {args : Array Value} {below : List Frame} {meth : Method} {c : Code} {G : GG} {base : Nat} {A : Nat → Nat} {g0 : Hp} (hM : Mx G base p s m args meth c cX12_round 5 (some .int) RX12 "round") (o : Nat) (x1 : Int32) (x2 : Int32) (x3 : Int32) (K107 : Hp → Prop) (Q : Int32 → Hp → Prop) (hK107 : ∀ (h : Hp) (H : Heap) (locs : List Loc) (ls : Array Slot), Cx2 G base A g0 A h s.heap H locs → lo_has ls 5 [(0, .ref (A o)), (1, .int x1), (2, .int x2), (3, .int x3)] → K107 h → W p l e rm_X12_round s m args below meth c H locs 0 0 (MQ below (va_Qi Q (PU2 G base A g0 A) (fun q => base ≤ q)) args s 0 0 (fun q => base ≤ q)) (F0 m 107 ls [])) : ∀ (n : Nat) (x4 : Int32) (h : Hp) (H : Heap) (locs : List Loc) (ls : Array Slot), Cx2 G base A g0 A h s.heap H locs → lo_has ls 5 [(0, .ref (A o)), (1, .int x1), (2, .int x2), (3, .int x3), (4, .int x4)] → wp_X12_round_L54 o x1 x2 x3 K107 Q n x4 h → W p l e rm_X12_round s m args below meth c H locs 0 0 (MQ below (va_Qi Q (PU2 G base A g0 A) (fun q => base ≤ q)) args s 0 0 (fun q => base ≤ q)) (F0 m 54 ls []) := by
  intro n
  induction n with
  | zero =>
    intro x4 h H locs ls hC hl hw
    rw [wp_X12_round_L54] at hw
    exact hw.elim
  | succ n ih =>
    intro x4 h H locs ls hC hl hw
    rw [wp_X12_round_L54] at hw
    obtain ⟨hx, hb, hr, hml, hown, hts, hg, hs, hlk, hnm⟩ := id hM
    refine lv_iload hx hb dX12_round_54 (lo_at hl 4 rfl) ?_
    refine lv_aload_n hx hb dX12_round_56 rfl (lo_at hl 0 rfl) ?_
    obtain ⟨k15, hw⟩ := hw
    refine s_getI hx hb hts hown hg hC fb_10_53 k15 mk_f_RX12_342 dX12_round_57 ?_
    refine lv_icmp_ge (tgt := 107) hx hb dX12_round_60 (by decide) (fun c16 => ?_) (fun c16 => ?_)
    ·
      replace hw := (if_pos c16).mp hw
      exact hK107  h H locs ls hC (lo_sub hl [0, 1, 2, 3] rfl) hw
    ·
      replace hw := (if_neg c16).mp hw
      refine lv_iload_n hx hb dX12_round_63 rfl (lo_at hl 1 rfl) ?_
      refine lv_iload_n hx hb dX12_round_64 rfl (lo_at hl 3 rfl) ?_
      refine lv_ishr hx hb dX12_round_65 ?_
      refine lv_iconst (v := 1) hx hb dX12_round_66 (by decide) ?_
      refine lv_iand hx hb dX12_round_67 ?_
      refine lv_iconst (v := 1) hx hb dX12_round_68 (by decide) ?_
      refine lv_icmp_ne (tgt := 107) hx hb dX12_round_69 (by decide) (fun c17 => ?_) (fun c17 => ?_)
      ·
        replace hw := (if_neg c17).mp hw
        exact hK107  h H locs ls hC (lo_sub hl [0, 1, 2, 3] rfl) hw
      ·
        replace hw := (if_pos c17).mp hw
        refine lv_aload_n hx hb dX12_round_72 rfl (lo_at hl 0 rfl) ?_
        refine lv_iload_n hx hb dX12_round_73 rfl (lo_at hl 3 rfl) ?_
        refine lv_iload hx hb dX12_round_74 (lo_at hl 4 rfl) ?_
        refine lv_iconst (v := 0) hx hb dX12_round_76 (by decide) ?_
        refine res2_i hC (run2_V (As := [.int x3, .int x4, .int ((0 : Int32))]) (rest := []) hM hC hl.1.1 kv_RX12_345 (c_X12_countOf l G base A o x3 x4 (0 : Int32) h _ hw) (hc_10) k15 rfl rfl rfl ⟨Nat.le_of_ble_eq_true rfl, Nat.le_of_ble_eq_true rfl⟩ (Nat.le_of_ble_eq_true rfl) ⟨Nat.le_of_ble_eq_true rfl, Nat.le_of_ble_eq_true rfl⟩ dX12_round_77) (fun z19 h18 H locs hw hC => ?_)
        refine lv_iconst (v := 1) hx hb dX12_round_80 (by decide) ?_
        refine lv_icmp_ne (tgt := 101) hx hb dX12_round_81 (by decide) (fun c20 => ?_) (fun c20 => ?_)
        ·
          replace hw := (if_neg c20).mp hw
          obtain ⟨v21, ev21⟩ : ∃ y : Int32, y = x4 + (1 : Int32) := ⟨_, rfl⟩
          replace hw := hw v21 ev21
          refine lo_iinc (v := v21) (lv' := [(4, .int v21), (0, .ref (A o)), (1, .int x1), (2, .int x2), (3, .int x3)]) hx hb dX12_round_101 hl (k := 4) rfl (by rw [ev21]; rfl) (by decide) rfl (fun ls hl => ?_)
          refine lv_goto (tgt := 54) hx hb dX12_round_104 (by decide) ?_
          exact ih v21 h18 H locs ls hC (lo_sub hl [1, 2, 3, 4, 0] rfl) hw
        ·
          replace hw := (if_pos c20).mp hw
          refine lv_aload_n hx hb dX12_round_84 rfl (lo_at hl 0 rfl) ?_
          obtain ⟨k22, hw⟩ := hw
          refine s_getR hx hb hts hown hg hC fb_10_57 k22 mk_f_RX12_122 dX12_round_85 ?_
          refine lv_iload_n hx hb dX12_round_88 rfl (lo_at hl 3 rfl) ?_
          refine lv_aload_n hx hb dX12_round_89 rfl (lo_at hl 0 rfl) ?_
          refine s_getR hx hb hts hown hg hC fb_10_57 k22 mk_f_RX12_122 dX12_round_90 ?_
          refine lv_iload_n hx hb dX12_round_93 rfl (lo_at hl 3 rfl) ?_
          obtain ⟨k23, hw⟩ := hw
          refine sf_2 k23.1 ?_
          refine s_iald hx hb hg hC k23.2.1 k23.2.2 dX12_round_94 ?_
          refine lv_topi (fun v24 ev24 => ?_)
          replace hw := hw v24 ev24
          refine lv_iconst (v := 1) hx hb dX12_round_95 (by decide) ?_
          refine lv_iload hx hb dX12_round_96 (lo_at hl 4 rfl) ?_
          refine lv_ishl hx hb dX12_round_98 ?_
          refine lv_ior hx hb dX12_round_99 ?_
          obtain ⟨k25, hw⟩ := hw
          refine sf_3 k25.1 ?_
          refine s_iast hx hb hg hC k25.2.1 k25.2.2 dX12_round_100 (fun h26 H locs eh26 hC => ?_)
          replace hw := hw h26 eh26
          obtain ⟨v27, ev27⟩ : ∃ y : Int32, y = x4 + (1 : Int32) := ⟨_, rfl⟩
          replace hw := hw v27 ev27
          refine lo_iinc (v := v27) (lv' := [(4, .int v27), (0, .ref (A o)), (1, .int x1), (2, .int x2), (3, .int x3)]) hx hb dX12_round_101 hl (k := 4) rfl (by rw [ev27]; rfl) (by decide) rfl (fun ls hl => ?_)
          refine lv_goto (tgt := 54) hx hb dX12_round_104 (by decide) ?_
          exact ih v27 h26 H locs ls hC (lo_sub hl [1, 2, 3, 4, 0] rfl) hw
set_option maxHeartbeats 4000000 in
set_option maxRecDepth 100000 in
theorem t_X12_round_L36 {p : Program} {l : Launch} {e : Env} {s : State} {m : MethodId} {args : Array Value} {below : List Frame} {meth : Method} {c : Code} {G : GG} {base : Nat} {A : Nat → Nat} {g0 : Hp} (hM : Mx G base p s m args meth c cX12_round 5 (some .int) RX12 "round") (o : Nat) (x1 : Int32) (x2 : Int32) (K113 : Hp → Prop) (Q : Int32 → Hp → Prop) (hK113 : ∀ (h : Hp) (H : Heap) (locs : List Loc) (ls : Array Slot), Cx2 G base A g0 A h s.heap H locs → lo_has ls 5 [(0, .ref (A o)), (1, .int x1), (2, .int x2)] → K113 h → W p l e rm_X12_round s m args below meth c H locs 0 0 (MQ below (va_Qi Q (PU2 G base A g0 A) (fun q => base ≤ q)) args s 0 0 (fun q => base ≤ q)) (F0 m 113 ls [])) : ∀ (n : Nat) (x3 : Int32) (h : Hp) (H : Heap) (locs : List Loc) (ls : Array Slot), Cx2 G base A g0 A h s.heap H locs → lo_has ls 5 [(0, .ref (A o)), (1, .int x1), (2, .int x2), (3, .int x3)] → wp_X12_round_L36 o x1 x2 K113 Q n x3 h → W p l e rm_X12_round s m args below meth c H locs 0 0 (MQ below (va_Qi Q (PU2 G base A g0 A) (fun q => base ≤ q)) args s 0 0 (fun q => base ≤ q)) (F0 m 36 ls []) := by
  intro n
  induction n with
  | zero =>
    intro x3 h H locs ls hC hl hw
    rw [wp_X12_round_L36] at hw
    exact hw.elim
  | succ n ih =>
    intro x3 h H locs ls hC hl hw
    rw [wp_X12_round_L36] at hw
    obtain ⟨hx, hb, hr, hml, hown, hts, hg, hs, hlk, hnm⟩ := id hM
    refine lv_iload_n hx hb dX12_round_36 rfl (lo_at hl 3 rfl) ?_
    refine lv_aload_n hx hb dX12_round_37 rfl (lo_at hl 0 rfl) ?_
    obtain ⟨k11, hw⟩ := hw
    refine s_getI hx hb hts hown hg hC fb_10_45 k11 mk_f_RX12_283 dX12_round_38 ?_
    refine lv_icmp_ge (tgt := 113) hx hb dX12_round_41 (by decide) (fun c12 => ?_) (fun c12 => ?_)
    ·
      replace hw := (if_pos c12).mp hw
      exact hK113  h H locs ls hC (lo_sub hl [0, 1, 2] rfl) hw
    ·
      replace hw := (if_neg c12).mp hw
      refine lv_aload_n hx hb dX12_round_44 rfl (lo_at hl 0 rfl) ?_
      refine s_getR hx hb hts hown hg hC fb_10_57 k11 mk_f_RX12_122 dX12_round_45 ?_
      refine lv_iload_n hx hb dX12_round_48 rfl (lo_at hl 3 rfl) ?_
      refine lv_iconst (v := 0) hx hb dX12_round_49 (by decide) ?_
      obtain ⟨k13, hw⟩ := hw
      refine sf_3 k13.1 ?_
      refine s_iast hx hb hg hC k13.2.1 k13.2.2 dX12_round_50 (fun h14 H locs eh14 hC => ?_)
      replace hw := hw h14 eh14
      refine lv_iconst (v := 0) hx hb dX12_round_51 (by decide) ?_
      refine lo_istore (lv' := [(4, .int ((0 : Int32))), (0, .ref (A o)), (1, .int x1), (2, .int x2), (3, .int x3)]) hx hb dX12_round_52 hl (by decide) rfl (fun ls hl => ?_)
      refine t_X12_round_L54 hM o x1 x2 x3 _ Q ?_ fuel (0 : Int32) h14 H locs ls hC (lo_sub hl [1, 2, 3, 4, 0] rfl) hw
      intro  h28 H locs ls hC hl hw
      obtain ⟨v29, ev29⟩ : ∃ y : Int32, y = x3 + (1 : Int32) := ⟨_, rfl⟩
      replace hw := hw v29 ev29
      refine lo_iinc (v := v29) (lv' := [(3, .int v29), (0, .ref (A o)), (1, .int x1), (2, .int x2)]) hx hb dX12_round_107 hl (k := 3) rfl (by rw [ev29]; rfl) (by decide) rfl (fun ls hl => ?_)
      refine lv_goto (tgt := 36) hx hb dX12_round_110 (by decide) ?_
      exact ih v29 h28 H locs ls hC (lo_sub hl [1, 2, 3, 0] rfl) hw
set_option maxHeartbeats 4000000 in
set_option maxRecDepth 100000 in
theorem t_X12_round_L118 {p : Program} {l : Launch} {e : Env} {s : State} {m : MethodId} {args : Array Value} {below : List Frame} {meth : Method} {c : Code} {G : GG} {base : Nat} {A : Nat → Nat} {g0 : Hp} (hM : Mx G base p s m args meth c cX12_round 5 (some .int) RX12 "round") (o : Nat) (x1 : Int32) (x2 : Int32) (K201 : Int32 → Hp → Prop) (Q : Int32 → Hp → Prop) (hK201 : ∀ (y3 : Int32) (h : Hp) (H : Heap) (locs : List Loc) (ls : Array Slot), Cx2 G base A g0 A h s.heap H locs → lo_has ls 5 [(0, .ref (A o)), (2, .int x2), (3, .int y3)] → K201 y3 h → W p l e rm_X12_round s m args below meth c H locs 0 0 (MQ below (va_Qi Q (PU2 G base A g0 A) (fun q => base ≤ q)) args s 0 0 (fun q => base ≤ q)) (F0 m 201 ls [])) : ∀ (n : Nat) (x3 : Int32) (x4 : Int32) (h : Hp) (H : Heap) (locs : List Loc) (ls : Array Slot), Cx2 G base A g0 A h s.heap H locs → lo_has ls 5 [(0, .ref (A o)), (1, .int x1), (2, .int x2), (3, .int x3), (4, .int x4)] → wp_X12_round_L118 o x1 x2 K201 Q n x3 x4 h → W p l e rm_X12_round s m args below meth c H locs 0 0 (MQ below (va_Qi Q (PU2 G base A g0 A) (fun q => base ≤ q)) args s 0 0 (fun q => base ≤ q)) (F0 m 118 ls []) := by
  intro n
  induction n with
  | zero =>
    intro x3 x4 h H locs ls hC hl hw
    rw [wp_X12_round_L118] at hw
    exact hw.elim
  | succ n ih =>
    intro x3 x4 h H locs ls hC hl hw
    rw [wp_X12_round_L118] at hw
    obtain ⟨hx, hb, hr, hml, hown, hts, hg, hs, hlk, hnm⟩ := id hM
    refine lv_iload hx hb dX12_round_118 (lo_at hl 4 rfl) ?_
    refine lv_iconst (v := 1) hx hb dX12_round_120 (by decide) ?_
    refine lv_aload_n hx hb dX12_round_121 rfl (lo_at hl 0 rfl) ?_
    obtain ⟨k31, hw⟩ := hw
    refine s_getI hx hb hts hown hg hC fb_10_53 k31 mk_f_RX12_342 dX12_round_122 ?_
    refine lv_ishl hx hb dX12_round_125 ?_
    refine lv_icmp_ge (tgt := 201) hx hb dX12_round_126 (by decide) (fun c32 => ?_) (fun c32 => ?_)
    ·
      replace hw := (if_pos c32).mp hw
      exact hK201 x3 h H locs ls hC (lo_sub hl [0, 2, 3] rfl) hw
    ·
      replace hw := (if_neg c32).mp hw
      refine lv_aload_n hx hb dX12_round_129 rfl (lo_at hl 0 rfl) ?_
      refine lv_iload_n hx hb dX12_round_130 rfl (lo_at hl 1 rfl) ?_
      refine lv_iload hx hb dX12_round_131 (lo_at hl 4 rfl) ?_
      refine res2_i hC (run2_V (As := [.int x1, .int x4]) (rest := []) hM hC hl.1.1 kv_RX12_348 (c_X12_findsAll l G base A o x1 x4 h _ hw) (hc_10) k31 rfl rfl rfl ⟨Nat.le_of_ble_eq_true rfl, Nat.le_of_ble_eq_true rfl⟩ (Nat.le_of_ble_eq_true rfl) ⟨Nat.le_of_ble_eq_true rfl, Nat.le_of_ble_eq_true rfl⟩ dX12_round_133) (fun z34 h33 H locs hw hC => ?_)
      refine lv_if_ne (tgt := 142) hx hb dX12_round_136 (by decide) (fun c35 => ?_) (fun c35 => ?_)
      ·
        replace hw := (if_neg c35).mp hw
        refine lv_iload_n hx hb dX12_round_142 rfl (lo_at hl 3 rfl) ?_
        refine lv_iconst (v := -1) hx hb dX12_round_143 (by decide) ?_
        refine lv_icmp_eq (tgt := 192) hx hb dX12_round_144 (by decide) (fun c36 => ?_) (fun c36 => ?_)
        ·
          replace hw := (if_pos c36).mp hw
          refine lv_iload hx hb dX12_round_192 (lo_at hl 4 rfl) ?_
          refine lo_istore_n (lv' := [(3, .int x4), (0, .ref (A o)), (1, .int x1), (2, .int x2), (4, .int x4)]) hx hb dX12_round_194 rfl hl (by decide) rfl (fun ls hl => ?_)
          obtain ⟨v37, ev37⟩ : ∃ y : Int32, y = x4 + (1 : Int32) := ⟨_, rfl⟩
          replace hw := hw v37 ev37
          refine lo_iinc (v := v37) (lv' := [(4, .int v37), (3, .int x4), (0, .ref (A o)), (1, .int x1), (2, .int x2)]) hx hb dX12_round_195 hl (k := 4) rfl (by rw [ev37]; rfl) (by decide) rfl (fun ls hl => ?_)
          refine lv_goto (tgt := 118) hx hb dX12_round_198 (by decide) ?_
          exact ih x4 v37 h33 H locs ls hC (lo_sub hl [2, 3, 4, 1, 0] rfl) hw
        ·
          replace hw := (if_neg c36).mp hw
          refine lv_aload_n hx hb dX12_round_147 rfl (lo_at hl 0 rfl) ?_
          refine lv_iload hx hb dX12_round_148 (lo_at hl 4 rfl) ?_
          obtain ⟨k38, hw⟩ := hw
          refine res2_i hC (run2_V (As := [.int x4]) (rest := []) hM hC hl.1.1 kv_RX12_352 (c_X12_hoursOfSet l G base A o x4 h33 _ hw) (hc_10) k38 rfl rfl rfl ⟨Nat.le_of_ble_eq_true rfl, Nat.le_of_ble_eq_true rfl⟩ (Nat.le_of_ble_eq_true rfl) ⟨Nat.le_of_ble_eq_true rfl, Nat.le_of_ble_eq_true rfl⟩ dX12_round_150) (fun z40 h39 H locs hw hC => ?_)
          refine lv_aload_n hx hb dX12_round_153 rfl (lo_at hl 0 rfl) ?_
          refine lv_iload_n hx hb dX12_round_154 rfl (lo_at hl 3 rfl) ?_
          obtain ⟨k41, hw⟩ := hw
          refine res2_i hC (run2_V (As := [.int x3]) (rest := [.int z40]) hM hC hl.1.1 kv_RX12_352 (c_X12_hoursOfSet l G base A o x3 h39 _ hw) (hc_10) k41 rfl rfl rfl ⟨Nat.le_of_ble_eq_true rfl, Nat.le_of_ble_eq_true rfl⟩ (Nat.le_of_ble_eq_true rfl) ⟨Nat.le_of_ble_eq_true rfl, Nat.le_of_ble_eq_true rfl⟩ dX12_round_155) (fun z43 h42 H locs hw hC => ?_)
          refine lv_icmp_gt (tgt := 195) hx hb dX12_round_158 (by decide) (fun c44 => ?_) (fun c44 => ?_)
          ·
            replace hw := (if_pos c44).mp hw
            obtain ⟨v45, ev45⟩ : ∃ y : Int32, y = x4 + (1 : Int32) := ⟨_, rfl⟩
            replace hw := hw v45 ev45
            refine lo_iinc (v := v45) (lv' := [(4, .int v45), (0, .ref (A o)), (1, .int x1), (2, .int x2), (3, .int x3)]) hx hb dX12_round_195 hl (k := 4) rfl (by rw [ev45]; rfl) (by decide) rfl (fun ls hl => ?_)
            refine lv_goto (tgt := 118) hx hb dX12_round_198 (by decide) ?_
            exact ih x3 v45 h42 H locs ls hC (lo_sub hl [1, 2, 3, 4, 0] rfl) hw
          ·
            replace hw := (if_neg c44).mp hw
            refine lv_aload_n hx hb dX12_round_161 rfl (lo_at hl 0 rfl) ?_
            refine lv_iload hx hb dX12_round_162 (lo_at hl 4 rfl) ?_
            obtain ⟨k46, hw⟩ := hw
            refine res2_i hC (run2_V (As := [.int x4]) (rest := []) hM hC hl.1.1 kv_RX12_352 (c_X12_hoursOfSet l G base A o x4 h42 _ hw) (hc_10) k46 rfl rfl rfl ⟨Nat.le_of_ble_eq_true rfl, Nat.le_of_ble_eq_true rfl⟩ (Nat.le_of_ble_eq_true rfl) ⟨Nat.le_of_ble_eq_true rfl, Nat.le_of_ble_eq_true rfl⟩ dX12_round_164) (fun z48 h47 H locs hw hC => ?_)
            refine lv_aload_n hx hb dX12_round_167 rfl (lo_at hl 0 rfl) ?_
            refine lv_iload_n hx hb dX12_round_168 rfl (lo_at hl 3 rfl) ?_
            obtain ⟨k49, hw⟩ := hw
            refine res2_i hC (run2_V (As := [.int x3]) (rest := [.int z48]) hM hC hl.1.1 kv_RX12_352 (c_X12_hoursOfSet l G base A o x3 h47 _ hw) (hc_10) k49 rfl rfl rfl ⟨Nat.le_of_ble_eq_true rfl, Nat.le_of_ble_eq_true rfl⟩ (Nat.le_of_ble_eq_true rfl) ⟨Nat.le_of_ble_eq_true rfl, Nat.le_of_ble_eq_true rfl⟩ dX12_round_169) (fun z51 h50 H locs hw hC => ?_)
            refine lv_icmp_ne (tgt := 192) hx hb dX12_round_172 (by decide) (fun c52 => ?_) (fun c52 => ?_)
            ·
              replace hw := (if_neg c52).mp hw
              refine lv_iload hx hb dX12_round_192 (lo_at hl 4 rfl) ?_
              refine lo_istore_n (lv' := [(3, .int x4), (0, .ref (A o)), (1, .int x1), (2, .int x2), (4, .int x4)]) hx hb dX12_round_194 rfl hl (by decide) rfl (fun ls hl => ?_)
              obtain ⟨v53, ev53⟩ : ∃ y : Int32, y = x4 + (1 : Int32) := ⟨_, rfl⟩
              replace hw := hw v53 ev53
              refine lo_iinc (v := v53) (lv' := [(4, .int v53), (3, .int x4), (0, .ref (A o)), (1, .int x1), (2, .int x2)]) hx hb dX12_round_195 hl (k := 4) rfl (by rw [ev53]; rfl) (by decide) rfl (fun ls hl => ?_)
              refine lv_goto (tgt := 118) hx hb dX12_round_198 (by decide) ?_
              exact ih x4 v53 h50 H locs ls hC (lo_sub hl [2, 3, 4, 1, 0] rfl) hw
            ·
              replace hw := (if_pos c52).mp hw
              refine lv_aload_n hx hb dX12_round_175 rfl (lo_at hl 0 rfl) ?_
              refine lv_iload hx hb dX12_round_176 (lo_at hl 4 rfl) ?_
              obtain ⟨k54, hw⟩ := hw
              refine res2_i hC (run2_V (As := [.int x4]) (rest := []) hM hC hl.1.1 kv_RX12_355 (c_X12_ones l G base A o x4 h50 _ hw) (hc_10) k54 rfl rfl rfl ⟨Nat.le_of_ble_eq_true rfl, Nat.le_of_ble_eq_true rfl⟩ (Nat.le_of_ble_eq_true rfl) ⟨Nat.le_of_ble_eq_true rfl, Nat.le_of_ble_eq_true rfl⟩ dX12_round_178) (fun z56 h55 H locs hw hC => ?_)
              refine lv_aload_n hx hb dX12_round_181 rfl (lo_at hl 0 rfl) ?_
              refine lv_iload_n hx hb dX12_round_182 rfl (lo_at hl 3 rfl) ?_
              obtain ⟨k57, hw⟩ := hw
              refine res2_i hC (run2_V (As := [.int x3]) (rest := [.int z56]) hM hC hl.1.1 kv_RX12_355 (c_X12_ones l G base A o x3 h55 _ hw) (hc_10) k57 rfl rfl rfl ⟨Nat.le_of_ble_eq_true rfl, Nat.le_of_ble_eq_true rfl⟩ (Nat.le_of_ble_eq_true rfl) ⟨Nat.le_of_ble_eq_true rfl, Nat.le_of_ble_eq_true rfl⟩ dX12_round_183) (fun z59 h58 H locs hw hC => ?_)
              refine lv_icmp_lt (tgt := 192) hx hb dX12_round_186 (by decide) (fun c60 => ?_) (fun c60 => ?_)
              ·
                replace hw := (if_pos c60).mp hw
                refine lv_iload hx hb dX12_round_192 (lo_at hl 4 rfl) ?_
                refine lo_istore_n (lv' := [(3, .int x4), (0, .ref (A o)), (1, .int x1), (2, .int x2), (4, .int x4)]) hx hb dX12_round_194 rfl hl (by decide) rfl (fun ls hl => ?_)
                obtain ⟨v61, ev61⟩ : ∃ y : Int32, y = x4 + (1 : Int32) := ⟨_, rfl⟩
                replace hw := hw v61 ev61
                refine lo_iinc (v := v61) (lv' := [(4, .int v61), (3, .int x4), (0, .ref (A o)), (1, .int x1), (2, .int x2)]) hx hb dX12_round_195 hl (k := 4) rfl (by rw [ev61]; rfl) (by decide) rfl (fun ls hl => ?_)
                refine lv_goto (tgt := 118) hx hb dX12_round_198 (by decide) ?_
                exact ih x4 v61 h58 H locs ls hC (lo_sub hl [2, 3, 4, 1, 0] rfl) hw
              ·
                replace hw := (if_neg c60).mp hw
                refine lv_goto (tgt := 195) hx hb dX12_round_189 (by decide) ?_
                obtain ⟨v62, ev62⟩ : ∃ y : Int32, y = x4 + (1 : Int32) := ⟨_, rfl⟩
                replace hw := hw v62 ev62
                refine lo_iinc (v := v62) (lv' := [(4, .int v62), (0, .ref (A o)), (1, .int x1), (2, .int x2), (3, .int x3)]) hx hb dX12_round_195 hl (k := 4) rfl (by rw [ev62]; rfl) (by decide) rfl (fun ls hl => ?_)
                refine lv_goto (tgt := 118) hx hb dX12_round_198 (by decide) ?_
                exact ih x3 v62 h58 H locs ls hC (lo_sub hl [1, 2, 3, 4, 0] rfl) hw
      ·
        replace hw := (if_pos c35).mp hw
        refine lv_goto (tgt := 195) hx hb dX12_round_139 (by decide) ?_
        obtain ⟨v63, ev63⟩ : ∃ y : Int32, y = x4 + (1 : Int32) := ⟨_, rfl⟩
        replace hw := hw v63 ev63
        refine lo_iinc (v := v63) (lv' := [(4, .int v63), (0, .ref (A o)), (1, .int x1), (2, .int x2), (3, .int x3)]) hx hb dX12_round_195 hl (k := 4) rfl (by rw [ev63]; rfl) (by decide) rfl (fun ls hl => ?_)
        refine lv_goto (tgt := 118) hx hb dX12_round_198 (by decide) ?_
        exact ih x3 v63 h33 H locs ls hC (lo_sub hl [1, 2, 3, 4, 0] rfl) hw
set_option maxHeartbeats 4000000 in
set_option maxRecDepth 100000 in
theorem c_X12_round (l : Launch) (G : GG) (base : Nat) (A : Nat → Nat) (o : Nat) (x1 : Int32) (x2 : Int32) (h : Hp) (Q : Int32 → Hp → Prop) (hw : wp_X12_round o x1 x2 h Q) : Met l yX12_round (ww yX12_round cX12_round 5 (some .int)) rm_X12_round (va_Pc [.ref (A o), .int x1, .int x2] (PU2 G base A h A h)) (va_Qi Q (PU2 G base A h A) (fun q => base ≤ q)) 0 0 (fun q => base ≤ q) := by
  refine met2_of (own := RX12) (nm := "round") (by decide) rfl rfl (List.forall_mem_cons.mpr ⟨rfl, (List.forall_mem_cons.mpr ⟨rfl, (List.forall_mem_cons.mpr ⟨rfl, (fun _ h => absurd h List.not_mem_nil)⟩)⟩)⟩) (Nat.le_of_ble_eq_true rfl) rfl ?_
  intro p e s m args below meth c H locs ls hM hC hl
  obtain ⟨hx, hb, hr, hml, hown, hts, hg, hs, hlk, hnm⟩ := id hM
  unfold wp_X12_round at hw
  refine lv_aload_n hx hb dX12_round_0 rfl (lo_at hl 0 rfl) ?_
  refine lv_iconst (v := 0) hx hb dX12_round_1 (by decide) ?_
  obtain ⟨k1, hw⟩ := hw
  refine s_putI hx hb hts hown hg hC fb_10_0 k1 rfl rfl mk_f_RX12_132 dX12_round_2 (fun h2 H locs eh2 hC => ?_)
  replace hw := hw h2 eh2
  refine lv_aload_n hx hb dX12_round_5 rfl (lo_at hl 0 rfl) ?_
  refine lv_iload_n hx hb dX12_round_6 rfl (lo_at hl 1 rfl) ?_
  refine lv_iconst (v := 1) hx hb dX12_round_7 (by decide) ?_
  refine lv_iconst (v := 1) hx hb dX12_round_8 (by decide) ?_
  refine lv_aload_n hx hb dX12_round_9 rfl (lo_at hl 0 rfl) ?_
  obtain ⟨k3, hw⟩ := hw
  refine s_getI hx hb hts hown hg hC fb_10_45 k3 mk_f_RX12_283 dX12_round_10 ?_
  refine lv_ishl hx hb dX12_round_13 ?_
  refine lv_iconst (v := 1) hx hb dX12_round_14 (by decide) ?_
  refine lv_isub hx hb dX12_round_15 ?_
  refine res2_i hC (run2_V (As := [.int x1, .int ((1 : Int32)), .int (((1 : Int32) <<< ((hpI h2 o 45) &&& 31)) - (1 : Int32))]) (rest := []) hM hC hl.1.1 kv_RX12_144 (c_X12_isIn l G base A o x1 (1 : Int32) (((1 : Int32) <<< ((hpI h2 o 45) &&& 31)) - (1 : Int32)) h2 _ hw) (hc_10) k3 rfl rfl rfl ⟨Nat.le_of_ble_eq_true rfl, Nat.le_of_ble_eq_true rfl⟩ (Nat.le_of_ble_eq_true rfl) ⟨Nat.le_of_ble_eq_true rfl, Nat.le_of_ble_eq_true rfl⟩ dX12_round_16) (fun z5 h4 H locs hw hC => ?_)
  refine lv_if_eq (tgt := 32) hx hb dX12_round_19 (by decide) (fun c6 => ?_) (fun c6 => ?_)
  ·
    replace hw := (if_pos c6).mp hw
    refine lv_iconst (v := -1) hx hb dX12_round_32 (by decide) ?_
    exact ret2_i hM hC hw dX12_round_33
  ·
    replace hw := (if_neg c6).mp hw
    refine lv_aload_n hx hb dX12_round_22 rfl (lo_at hl 0 rfl) ?_
    refine lv_iload_n hx hb dX12_round_23 rfl (lo_at hl 2 rfl) ?_
    refine lv_iconst (v := 0) hx hb dX12_round_24 (by decide) ?_
    refine lv_iconst (v := 1) hx hb dX12_round_25 (by decide) ?_
    obtain ⟨k7, hw⟩ := hw
    refine res2_i hC (run2_V (As := [.int x2, .int ((0 : Int32)), .int ((1 : Int32))]) (rest := []) hM hC hl.1.1 kv_RX12_144 (c_X12_isIn l G base A o x2 (0 : Int32) (1 : Int32) h4 _ hw) (hc_10) k7 rfl rfl rfl ⟨Nat.le_of_ble_eq_true rfl, Nat.le_of_ble_eq_true rfl⟩ (Nat.le_of_ble_eq_true rfl) ⟨Nat.le_of_ble_eq_true rfl, Nat.le_of_ble_eq_true rfl⟩ dX12_round_26) (fun z9 h8 H locs hw hC => ?_)
    refine lv_if_ne (tgt := 34) hx hb dX12_round_29 (by decide) (fun c10 => ?_) (fun c10 => ?_)
    ·
      replace hw := (if_neg c10).mp hw
      refine lv_iconst (v := 0) hx hb dX12_round_34 (by decide) ?_
      refine lo_istore_n (lv' := [(3, .int ((0 : Int32))), (0, .ref (A o)), (1, .int x1), (2, .int x2)]) hx hb dX12_round_35 rfl hl (by decide) rfl (fun ls hl => ?_)
      refine t_X12_round_L36 hM o x1 x2 _ Q ?_ fuel (0 : Int32) h8 H locs ls hC (lo_sub hl [1, 2, 3, 0] rfl) hw
      intro  h30 H locs ls hC hl hw
      refine lv_iconst (v := -1) hx hb dX12_round_113 (by decide) ?_
      refine lo_istore_n (lv' := [(3, .int ((-1 : Int32))), (0, .ref (A o)), (1, .int x1), (2, .int x2)]) hx hb dX12_round_114 rfl hl (by decide) rfl (fun ls hl => ?_)
      refine lv_iconst (v := 1) hx hb dX12_round_115 (by decide) ?_
      refine lo_istore (lv' := [(4, .int ((1 : Int32))), (3, .int ((-1 : Int32))), (0, .ref (A o)), (1, .int x1), (2, .int x2)]) hx hb dX12_round_116 hl (by decide) rfl (fun ls hl => ?_)
      refine t_X12_round_L118 hM o x1 x2 _ Q ?_ fuel (-1 : Int32) (1 : Int32) h30 H locs ls hC (lo_sub hl [2, 3, 4, 1, 0] rfl) hw
      intro y65 h64 H locs ls hC hl hw
      refine lv_iload_n hx hb dX12_round_201 rfl (lo_at hl 2 rfl) ?_
      refine lv_iconst (v := -1) hx hb dX12_round_202 (by decide) ?_
      refine lv_icmp_eq (tgt := 210) hx hb dX12_round_203 (by decide) (fun c66 => ?_) (fun c66 => ?_)
      ·
        replace hw := (if_pos c66).mp hw
        refine lv_iload_n hx hb dX12_round_210 rfl (lo_at hl 2 rfl) ?_
        refine lv_goto (tgt := 219) hx hb dX12_round_211 (by decide) ?_
        exact ret2_i hM hC hw dX12_round_219
      ·
        replace hw := (if_neg c66).mp hw
        refine lv_iload_n hx hb dX12_round_206 rfl (lo_at hl 1 rfl) ?_
        refine lv_if_ne (tgt := 214) hx hb dX12_round_207 (by decide) (fun c67 => ?_) (fun c67 => ?_)
        ·
          replace hw := (if_neg c67).mp hw
          refine lv_aload_n hx hb dX12_round_214 rfl (lo_at hl 0 rfl) ?_
          refine lv_iload_n hx hb dX12_round_215 rfl (lo_at hl 2 rfl) ?_
          obtain ⟨k68, hw⟩ := hw
          refine res2_i hC (run2_V (As := [.int y65]) (rest := []) hM hC hl.1.1 kv_RX12_352 (c_X12_hoursOfSet l G base A o y65 h64 _ hw) (hc_10) k68 rfl rfl rfl ⟨Nat.le_of_ble_eq_true rfl, Nat.le_of_ble_eq_true rfl⟩ (Nat.le_of_ble_eq_true rfl) ⟨Nat.le_of_ble_eq_true rfl, Nat.le_of_ble_eq_true rfl⟩ dX12_round_216) (fun z70 h69 H locs hw hC => ?_)
          exact ret2_i hM hC hw dX12_round_219
        ·
          replace hw := (if_pos c67).mp hw
          refine lv_iload_n hx hb dX12_round_210 rfl (lo_at hl 2 rfl) ?_
          refine lv_goto (tgt := 219) hx hb dX12_round_211 (by decide) ?_
          exact ret2_i hM hC hw dX12_round_219
    ·
      replace hw := (if_pos c10).mp hw
      refine lv_iconst (v := -1) hx hb dX12_round_32 (by decide) ?_
      exact ret2_i hM hC hw dX12_round_33
abbrev rm_X12_lean : Room := { frames := 5, cells := 0, slots := 0, locals := 133 }
set_option maxRecDepth 100000 in
def wp_X12_lean_L19 (o : Nat) (x1 : Int32) (K76 : Int32 → Hp → Prop) (Q : Int32 → Hp → Prop) : Nat → Int32 → Int32 → Hp → Prop
  | 0, _, _, _ => False
  | n + 1, x2, x3, h => ((hpK h o).1 = 20 + 10) ∧ ((if (hpI h o 53) ≤ x3 then (K76 x2 h) else (okA h (hpR h o 54) 1 x3 ∧ (∀ v10 : Int32, v10 = hpI h (ad (hpR h o 54)) (x3).toNatClampNeg → (okA h (hpR h o 55) 1 x3 ∧ (∀ v12 : Int32, v12 = hpI h (ad (hpR h o 55)) (x3).toNatClampNeg → (wp_X12_saysOf o x1 v10 v12 (0 : Int32) h (fun (z14 : Int32) (h13 : Hp) => ((hpK h13 o).1 = 20 + 10) ∧ (okA h13 (hpR h13 o 54) 1 x3 ∧ (∀ v17 : Int32, v17 = hpI h13 (ad (hpR h13 o 54)) (x3).toNatClampNeg → (okA h13 (hpR h13 o 55) 1 x3 ∧ (∀ v19 : Int32, v19 = hpI h13 (ad (hpR h13 o 55)) (x3).toNatClampNeg → (wp_X12_saysOf o x1 v17 v19 (1 : Int32) h13 (fun (z21 : Int32) (h20 : Hp) => (if z14 = z21 then (∀ v23 : Int32, v23 = x3 + (1 : Int32) → (wp_X12_lean_L19 o x1 K76 Q n x2 v23 h20)) else (∀ v24 : Int32, v24 = x2 + (1 : Int32) → (∀ v25 : Int32, v25 = x3 + (1 : Int32) → (wp_X12_lean_L19 o x1 K76 Q n v24 v25 h20))))))))))))))))))
set_option maxRecDepth 100000 in
def wp_X12_lean (o : Nat) (x1 : Int32) (h : Hp) (Q : Int32 → Hp → Prop) : Prop := ((hpK h o).1 = 20 + 10) ∧ (∀ h2 : Hp, h2 = stI h o 0 (0 : Int32) → (((hpK h2 o).1 = 20 + 10) ∧ (wp_X12_isLooker o x1 h2 (fun (z5 : Int32) (h4 : Hp) => (if z5 = 0 then (Q (-1 : Int32) h4) else (wp_X12_lean_L19 o x1 (fun (y27 : Int32) (h26 : Hp) => Q y27 h26) Q fuel (0 : Int32) (0 : Int32) h4))))))
set_option maxHeartbeats 4000000 in
set_option maxRecDepth 100000 in
theorem t_X12_lean_L19 {p : Program} {l : Launch} {e : Env} {s : State} {m : MethodId} {args : Array Value} {below : List Frame} {meth : Method} {c : Code} {G : GG} {base : Nat} {A : Nat → Nat} {g0 : Hp} (hM : Mx G base p s m args meth c cX12_lean 4 (some .int) RX12 "lean") (o : Nat) (x1 : Int32) (K76 : Int32 → Hp → Prop) (Q : Int32 → Hp → Prop) (hK76 : ∀ (y2 : Int32) (h : Hp) (H : Heap) (locs : List Loc) (ls : Array Slot), Cx2 G base A g0 A h s.heap H locs → lo_has ls 4 [(2, .int y2)] → K76 y2 h → W p l e rm_X12_lean s m args below meth c H locs 0 0 (MQ below (va_Qi Q (PU2 G base A g0 A) (fun q => base ≤ q)) args s 0 0 (fun q => base ≤ q)) (F0 m 76 ls [])) : ∀ (n : Nat) (x2 : Int32) (x3 : Int32) (h : Hp) (H : Heap) (locs : List Loc) (ls : Array Slot), Cx2 G base A g0 A h s.heap H locs → lo_has ls 4 [(0, .ref (A o)), (1, .int x1), (2, .int x2), (3, .int x3)] → wp_X12_lean_L19 o x1 K76 Q n x2 x3 h → W p l e rm_X12_lean s m args below meth c H locs 0 0 (MQ below (va_Qi Q (PU2 G base A g0 A) (fun q => base ≤ q)) args s 0 0 (fun q => base ≤ q)) (F0 m 19 ls []) := by
  intro n
  induction n with
  | zero =>
    intro x2 x3 h H locs ls hC hl hw
    rw [wp_X12_lean_L19] at hw
    exact hw.elim
  | succ n ih =>
    intro x2 x3 h H locs ls hC hl hw
    rw [wp_X12_lean_L19] at hw
    obtain ⟨hx, hb, hr, hml, hown, hts, hg, hs, hlk, hnm⟩ := id hM
    refine lv_iload_n hx hb dX12_lean_19 rfl (lo_at hl 3 rfl) ?_
    refine lv_aload_n hx hb dX12_lean_20 rfl (lo_at hl 0 rfl) ?_
    obtain ⟨k7, hw⟩ := hw
    refine s_getI hx hb hts hown hg hC fb_10_53 k7 mk_f_RX12_342 dX12_lean_21 ?_
    refine lv_icmp_ge (tgt := 76) hx hb dX12_lean_24 (by decide) (fun c8 => ?_) (fun c8 => ?_)
    ·
      replace hw := (if_pos c8).mp hw
      exact hK76 x2 h H locs ls hC (lo_sub hl [2] rfl) hw
    ·
      replace hw := (if_neg c8).mp hw
      refine lv_aload_n hx hb dX12_lean_27 rfl (lo_at hl 0 rfl) ?_
      refine lv_iload_n hx hb dX12_lean_28 rfl (lo_at hl 1 rfl) ?_
      refine lv_aload_n hx hb dX12_lean_29 rfl (lo_at hl 0 rfl) ?_
      refine s_getR hx hb hts hown hg hC fb_10_54 k7 mk_f_RX12_113 dX12_lean_30 ?_
      refine lv_iload_n hx hb dX12_lean_33 rfl (lo_at hl 3 rfl) ?_
      obtain ⟨k9, hw⟩ := hw
      refine sf_2 k9.1 ?_
      refine s_iald hx hb hg hC k9.2.1 k9.2.2 dX12_lean_34 ?_
      refine lv_topi (fun v10 ev10 => ?_)
      replace hw := hw v10 ev10
      refine lv_aload_n hx hb dX12_lean_35 rfl (lo_at hl 0 rfl) ?_
      refine s_getR hx hb hts hown hg hC fb_10_55 k7 mk_f_RX12_116 dX12_lean_36 ?_
      refine lv_iload_n hx hb dX12_lean_39 rfl (lo_at hl 3 rfl) ?_
      obtain ⟨k11, hw⟩ := hw
      refine sf_2 k11.1 ?_
      refine s_iald hx hb hg hC k11.2.1 k11.2.2 dX12_lean_40 ?_
      refine lv_topi (fun v12 ev12 => ?_)
      replace hw := hw v12 ev12
      refine lv_iconst (v := 0) hx hb dX12_lean_41 (by decide) ?_
      refine res2_i hC (run2_V (As := [.int x1, .int v10, .int v12, .int ((0 : Int32))]) (rest := []) hM hC hl.1.1 kv_RX12_330 (c_X12_saysOf l G base A o x1 v10 v12 (0 : Int32) h _ hw) (hc_10) k7 rfl rfl rfl ⟨Nat.le_of_ble_eq_true rfl, Nat.le_of_ble_eq_true rfl⟩ (Nat.le_of_ble_eq_true rfl) ⟨Nat.le_of_ble_eq_true rfl, Nat.le_of_ble_eq_true rfl⟩ dX12_lean_42) (fun z14 h13 H locs hw hC => ?_)
      refine lv_aload_n hx hb dX12_lean_45 rfl (lo_at hl 0 rfl) ?_
      refine lv_iload_n hx hb dX12_lean_46 rfl (lo_at hl 1 rfl) ?_
      refine lv_aload_n hx hb dX12_lean_47 rfl (lo_at hl 0 rfl) ?_
      obtain ⟨k15, hw⟩ := hw
      refine s_getR hx hb hts hown hg hC fb_10_54 k15 mk_f_RX12_113 dX12_lean_48 ?_
      refine lv_iload_n hx hb dX12_lean_51 rfl (lo_at hl 3 rfl) ?_
      obtain ⟨k16, hw⟩ := hw
      refine sf_2 k16.1 ?_
      refine s_iald hx hb hg hC k16.2.1 k16.2.2 dX12_lean_52 ?_
      refine lv_topi (fun v17 ev17 => ?_)
      replace hw := hw v17 ev17
      refine lv_aload_n hx hb dX12_lean_53 rfl (lo_at hl 0 rfl) ?_
      refine s_getR hx hb hts hown hg hC fb_10_55 k15 mk_f_RX12_116 dX12_lean_54 ?_
      refine lv_iload_n hx hb dX12_lean_57 rfl (lo_at hl 3 rfl) ?_
      obtain ⟨k18, hw⟩ := hw
      refine sf_2 k18.1 ?_
      refine s_iald hx hb hg hC k18.2.1 k18.2.2 dX12_lean_58 ?_
      refine lv_topi (fun v19 ev19 => ?_)
      replace hw := hw v19 ev19
      refine lv_iconst (v := 1) hx hb dX12_lean_59 (by decide) ?_
      refine res2_i hC (run2_V (As := [.int x1, .int v17, .int v19, .int ((1 : Int32))]) (rest := [.int z14]) hM hC hl.1.1 kv_RX12_330 (c_X12_saysOf l G base A o x1 v17 v19 (1 : Int32) h13 _ hw) (hc_10) k15 rfl rfl rfl ⟨Nat.le_of_ble_eq_true rfl, Nat.le_of_ble_eq_true rfl⟩ (Nat.le_of_ble_eq_true rfl) ⟨Nat.le_of_ble_eq_true rfl, Nat.le_of_ble_eq_true rfl⟩ dX12_lean_60) (fun z21 h20 H locs hw hC => ?_)
      refine lv_icmp_eq (tgt := 70) hx hb dX12_lean_63 (by decide) (fun c22 => ?_) (fun c22 => ?_)
      ·
        replace hw := (if_pos c22).mp hw
        obtain ⟨v23, ev23⟩ : ∃ y : Int32, y = x3 + (1 : Int32) := ⟨_, rfl⟩
        replace hw := hw v23 ev23
        refine lo_iinc (v := v23) (lv' := [(3, .int v23), (0, .ref (A o)), (1, .int x1), (2, .int x2)]) hx hb dX12_lean_70 hl (k := 3) rfl (by rw [ev23]; rfl) (by decide) rfl (fun ls hl => ?_)
        refine lv_goto (tgt := 19) hx hb dX12_lean_73 (by decide) ?_
        exact ih x2 v23 h20 H locs ls hC (lo_sub hl [1, 2, 3, 0] rfl) hw
      ·
        replace hw := (if_neg c22).mp hw
        refine lv_iload_n hx hb dX12_lean_66 rfl (lo_at hl 2 rfl) ?_
        refine lv_iconst (v := 1) hx hb dX12_lean_67 (by decide) ?_
        refine lv_iadd hx hb dX12_lean_68 ?_
        refine lv_topi (fun v24 ev24 => ?_)
        replace hw := hw v24 ev24
        refine lo_istore_n (lv' := [(2, .int v24), (0, .ref (A o)), (1, .int x1), (3, .int x3)]) hx hb dX12_lean_69 rfl hl (by decide) rfl (fun ls hl => ?_)
        obtain ⟨v25, ev25⟩ : ∃ y : Int32, y = x3 + (1 : Int32) := ⟨_, rfl⟩
        replace hw := hw v25 ev25
        refine lo_iinc (v := v25) (lv' := [(3, .int v25), (2, .int v24), (0, .ref (A o)), (1, .int x1)]) hx hb dX12_lean_70 hl (k := 3) rfl (by rw [ev25]; rfl) (by decide) rfl (fun ls hl => ?_)
        refine lv_goto (tgt := 19) hx hb dX12_lean_73 (by decide) ?_
        exact ih v24 v25 h20 H locs ls hC (lo_sub hl [2, 3, 1, 0] rfl) hw
set_option maxHeartbeats 4000000 in
set_option maxRecDepth 100000 in
theorem c_X12_lean (l : Launch) (G : GG) (base : Nat) (A : Nat → Nat) (o : Nat) (x1 : Int32) (h : Hp) (Q : Int32 → Hp → Prop) (hw : wp_X12_lean o x1 h Q) : Met l yX12_lean (ww yX12_lean cX12_lean 4 (some .int)) rm_X12_lean (va_Pc [.ref (A o), .int x1] (PU2 G base A h A h)) (va_Qi Q (PU2 G base A h A) (fun q => base ≤ q)) 0 0 (fun q => base ≤ q) := by
  refine met2_of (own := RX12) (nm := "lean") (by decide) rfl rfl (List.forall_mem_cons.mpr ⟨rfl, (List.forall_mem_cons.mpr ⟨rfl, (fun _ h => absurd h List.not_mem_nil)⟩)⟩) (Nat.le_of_ble_eq_true rfl) rfl ?_
  intro p e s m args below meth c H locs ls hM hC hl
  obtain ⟨hx, hb, hr, hml, hown, hts, hg, hs, hlk, hnm⟩ := id hM
  unfold wp_X12_lean at hw
  refine lv_aload_n hx hb dX12_lean_0 rfl (lo_at hl 0 rfl) ?_
  refine lv_iconst (v := 0) hx hb dX12_lean_1 (by decide) ?_
  obtain ⟨k1, hw⟩ := hw
  refine s_putI hx hb hts hown hg hC fb_10_0 k1 rfl rfl mk_f_RX12_132 dX12_lean_2 (fun h2 H locs eh2 hC => ?_)
  replace hw := hw h2 eh2
  refine lv_aload_n hx hb dX12_lean_5 rfl (lo_at hl 0 rfl) ?_
  refine lv_iload_n hx hb dX12_lean_6 rfl (lo_at hl 1 rfl) ?_
  obtain ⟨k3, hw⟩ := hw
  refine res2_i hC (run2_V (As := [.int x1]) (rest := []) hM hC hl.1.1 kv_RX12_309 (c_X12_isLooker l G base A o x1 h2 _ hw) (hc_10) k3 rfl rfl rfl ⟨Nat.le_of_ble_eq_true rfl, Nat.le_of_ble_eq_true rfl⟩ (Nat.le_of_ble_eq_true rfl) ⟨Nat.le_of_ble_eq_true rfl, Nat.le_of_ble_eq_true rfl⟩ dX12_lean_7) (fun z5 h4 H locs hw hC => ?_)
  refine lv_if_ne (tgt := 15) hx hb dX12_lean_10 (by decide) (fun c6 => ?_) (fun c6 => ?_)
  ·
    replace hw := (if_neg c6).mp hw
    refine lv_iconst (v := 0) hx hb dX12_lean_15 (by decide) ?_
    refine lo_istore_n (lv' := [(2, .int ((0 : Int32))), (0, .ref (A o)), (1, .int x1)]) hx hb dX12_lean_16 rfl hl (by decide) rfl (fun ls hl => ?_)
    refine lv_iconst (v := 0) hx hb dX12_lean_17 (by decide) ?_
    refine lo_istore_n (lv' := [(3, .int ((0 : Int32))), (2, .int ((0 : Int32))), (0, .ref (A o)), (1, .int x1)]) hx hb dX12_lean_18 rfl hl (by decide) rfl (fun ls hl => ?_)
    refine t_X12_lean_L19 hM o x1 _ Q ?_ fuel (0 : Int32) (0 : Int32) h4 H locs ls hC (lo_sub hl [2, 3, 1, 0] rfl) hw
    intro y27 h26 H locs ls hC hl hw
    refine lv_iload_n hx hb dX12_lean_76 rfl (lo_at hl 0 rfl) ?_
    exact ret2_i hM hC hw dX12_lean_77
  ·
    replace hw := (if_pos c6).mp hw
    refine lv_iconst (v := -1) hx hb dX12_lean_13 (by decide) ?_
    exact ret2_i hM hC hw dX12_lean_14
abbrev rm_X12_scene : Room := { frames := 1, cells := 0, slots := 0, locals := 23 }
set_option maxRecDepth 100000 in
def wp_X12_scene_J43 (o : Nat) (x1 : Int32) (x2 : Int32) (s0 : Int64) (s1 : Int64) (Q : Int32 → Hp → Prop) (h : Hp) : Prop := (if (lg_cmp s1 s0) = 0 then (Q (0 : Int32) h) else (((hpK h o).1 = 20 + 10) ∧ (okA h (hpR h o 58) 2 x1 ∧ (∀ v18 : Int64, v18 = hpL h (ad (hpR h o 58)) (x1).toNatClampNeg → (okA h (hpR h o 58) 2 x1 ∧ (∀ h20 : Hp, h20 = stL h (ad (hpR h o 58)) (x1).toNatClampNeg (v18 ^^^ ((1 : Int64) <<< ((x2).toInt64 &&& 63))) → (Q (1 : Int32) h20)))))))
set_option maxRecDepth 100000 in
def wp_X12_scene (o : Nat) (x1 : Int32) (x2 : Int32) (x3 : Int32) (h : Hp) (Q : Int32 → Hp → Prop) : Prop := ((hpK h o).1 = 20 + 10) ∧ (∀ h2 : Hp, h2 = stI h o 0 (0 : Int32) → (((hpK h2 o).1 = 20 + 10) ∧ (wp_X12_isIn o x1 (0 : Int32) (7 : Int32) h2 (fun (z5 : Int32) (h4 : Hp) => (if z5 = 0 then (Q (0 : Int32) h4) else (((hpK h4 o).1 = 20 + 10) ∧ (wp_X12_isBall o x2 h4 (fun (z9 : Int32) (h8 : Hp) => (if z9 = 0 then (Q (0 : Int32) h8) else (((hpK h8 o).1 = 20 + 10) ∧ (okA h8 (hpR h8 o 58) 2 x1 ∧ (∀ v13 : Int64, v13 = hpL h8 (ad (hpR h8 o 58)) (x1).toNatClampNeg → ((if x3 = 0 then (wp_X12_scene_J43 o x1 x2 (0 : Int64) ((v13 >>> ((x2).toInt64 &&& 63)) &&& (1 : Int64)) Q h8) else (wp_X12_scene_J43 o x1 x2 (1 : Int64) ((v13 >>> ((x2).toInt64 &&& 63)) &&& (1 : Int64)) Q h8)))))))))))))))
set_option maxHeartbeats 4000000 in
set_option maxRecDepth 100000 in
theorem t_X12_scene_J43 {p : Program} {l : Launch} {e : Env} {s : State} {m : MethodId} {args : Array Value} {below : List Frame} {meth : Method} {c : Code} {G : GG} {base : Nat} {A : Nat → Nat} {g0 : Hp} (hM : Mx G base p s m args meth c cX12_scene 4 (some .boolean) RX12 "scene") (o : Nat) (x1 : Int32) (x2 : Int32) (s0 : Int64) (s1 : Int64) (Q : Int32 → Hp → Prop) (h : Hp) (H : Heap) (locs : List Loc) (ls : Array Slot) : Cx2 G base A g0 A h s.heap H locs → lo_has ls 4 [(0, .ref (A o)), (1, .int x1), (2, .int x2)] → wp_X12_scene_J43 o x1 x2 s0 s1 Q h → W p l e rm_X12_scene s m args below meth c H locs 0 0 (MQ below (va_Qi Q (PU2 G base A g0 A) (fun q => base ≤ q)) args s 0 0 (fun q => base ≤ q)) (F0 m 43 ls [.long s0, .long s1]) := by
  intro hC hl hw
  unfold wp_X12_scene_J43 at hw
  obtain ⟨hx, hb, hr, hml, hown, hts, hg, hs, hlk, hnm⟩ := id hM
  refine W.lcmp hx hb dX12_scene_43 ?_
  refine lv_if_ne (tgt := 49) hx hb dX12_scene_44 (by decide) (fun c15 => ?_) (fun c15 => ?_)
  ·
    replace hw := (if_neg c15).mp hw
    refine lv_aload_n hx hb dX12_scene_49 rfl (lo_at hl 0 rfl) ?_
    obtain ⟨k16, hw⟩ := hw
    refine s_getR hx hb hts hown hg hC fb_10_58 k16 mk_f_RX12_125 dX12_scene_50 ?_
    refine lv_iload_n hx hb dX12_scene_53 rfl (lo_at hl 1 rfl) ?_
    refine lv_aload_n hx hb dX12_scene_54 rfl (lo_at hl 0 rfl) ?_
    refine s_getR hx hb hts hown hg hC fb_10_58 k16 mk_f_RX12_125 dX12_scene_55 ?_
    refine lv_iload_n hx hb dX12_scene_58 rfl (lo_at hl 1 rfl) ?_
    obtain ⟨k17, hw⟩ := hw
    refine sf_2 k17.1 ?_
    refine s_lald hx hb hg hC k17.2.1 k17.2.2 dX12_scene_59 ?_
    refine lv_topl (fun v18 ev18 => ?_)
    replace hw := hw v18 ev18
    refine lv_lconst (v := 1) hx hb dX12_scene_60 (by decide) ?_
    refine lv_iload_n hx hb dX12_scene_61 rfl (lo_at hl 2 rfl) ?_
    refine lv_lshl hx hb dX12_scene_62 (v := (1 : Int64) <<< ((x2).toInt64 &&& 63)) rfl ?_
    refine lv_lxor hx hb dX12_scene_63 ?_
    obtain ⟨k19, hw⟩ := hw
    refine sf_3 k19.1 ?_
    refine s_last hx hb hg hC k19.2.1 k19.2.2 dX12_scene_64 (fun h20 H locs eh20 hC => ?_)
    replace hw := hw h20 eh20
    refine lv_iconst (v := 1) hx hb dX12_scene_65 (by decide) ?_
    exact ret2_t hM hC rfl hw dX12_scene_66
  ·
    replace hw := (if_pos c15).mp hw
    refine lv_iconst (v := 0) hx hb dX12_scene_47 (by decide) ?_
    exact ret2_t hM hC rfl hw dX12_scene_48
set_option maxHeartbeats 4000000 in
set_option maxRecDepth 100000 in
theorem c_X12_scene (l : Launch) (G : GG) (base : Nat) (A : Nat → Nat) (o : Nat) (x1 : Int32) (x2 : Int32) (x3 : Int32) (h : Hp) (Q : Int32 → Hp → Prop) (hw : wp_X12_scene o x1 x2 x3 h Q) : Met l yX12_scene (ww yX12_scene cX12_scene 4 (some .boolean)) rm_X12_scene (va_Pc [.ref (A o), .int x1, .int x2, .int x3] (PU2 G base A h A h)) (va_Qi Q (PU2 G base A h A) (fun q => base ≤ q)) 0 0 (fun q => base ≤ q) := by
  refine met2_of (own := RX12) (nm := "scene") (by decide) rfl rfl (List.forall_mem_cons.mpr ⟨rfl, (List.forall_mem_cons.mpr ⟨rfl, (List.forall_mem_cons.mpr ⟨rfl, (List.forall_mem_cons.mpr ⟨rfl, (fun _ h => absurd h List.not_mem_nil)⟩)⟩)⟩)⟩) (Nat.le_of_ble_eq_true rfl) rfl ?_
  intro p e s m args below meth c H locs ls hM hC hl
  obtain ⟨hx, hb, hr, hml, hown, hts, hg, hs, hlk, hnm⟩ := id hM
  unfold wp_X12_scene at hw
  refine lv_aload_n hx hb dX12_scene_0 rfl (lo_at hl 0 rfl) ?_
  refine lv_iconst (v := 0) hx hb dX12_scene_1 (by decide) ?_
  obtain ⟨k1, hw⟩ := hw
  refine s_putI hx hb hts hown hg hC fb_10_0 k1 rfl rfl mk_f_RX12_132 dX12_scene_2 (fun h2 H locs eh2 hC => ?_)
  replace hw := hw h2 eh2
  refine lv_aload_n hx hb dX12_scene_5 rfl (lo_at hl 0 rfl) ?_
  refine lv_iload_n hx hb dX12_scene_6 rfl (lo_at hl 1 rfl) ?_
  refine lv_iconst (v := 0) hx hb dX12_scene_7 (by decide) ?_
  refine lv_bipush (v := 7) hx hb dX12_scene_8 (by decide) ?_
  obtain ⟨k3, hw⟩ := hw
  refine res2_i hC (run2_V (As := [.int x1, .int ((0 : Int32)), .int ((7 : Int32))]) (rest := []) hM hC hl.1.1 kv_RX12_144 (c_X12_isIn l G base A o x1 (0 : Int32) (7 : Int32) h2 _ hw) (hc_10) k3 rfl rfl rfl ⟨Nat.le_of_ble_eq_true rfl, Nat.le_of_ble_eq_true rfl⟩ (Nat.le_of_ble_eq_true rfl) ⟨Nat.le_of_ble_eq_true rfl, Nat.le_of_ble_eq_true rfl⟩ dX12_scene_10) (fun z5 h4 H locs hw hC => ?_)
  refine lv_if_eq (tgt := 47) hx hb dX12_scene_13 (by decide) (fun c6 => ?_) (fun c6 => ?_)
  ·
    replace hw := (if_pos c6).mp hw
    refine lv_iconst (v := 0) hx hb dX12_scene_47 (by decide) ?_
    exact ret2_t hM hC rfl hw dX12_scene_48
  ·
    replace hw := (if_neg c6).mp hw
    refine lv_aload_n hx hb dX12_scene_16 rfl (lo_at hl 0 rfl) ?_
    refine lv_iload_n hx hb dX12_scene_17 rfl (lo_at hl 2 rfl) ?_
    obtain ⟨k7, hw⟩ := hw
    refine res2_i hC (run2_V (As := [.int x2]) (rest := []) hM hC hl.1.1 kv_RX12_168 (c_X12_isBall l G base A o x2 h4 _ hw) (hc_10) k7 rfl rfl rfl ⟨Nat.le_of_ble_eq_true rfl, Nat.le_of_ble_eq_true rfl⟩ (Nat.le_of_ble_eq_true rfl) ⟨Nat.le_of_ble_eq_true rfl, Nat.le_of_ble_eq_true rfl⟩ dX12_scene_18) (fun z9 h8 H locs hw hC => ?_)
    refine lv_if_eq (tgt := 47) hx hb dX12_scene_21 (by decide) (fun c10 => ?_) (fun c10 => ?_)
    ·
      replace hw := (if_pos c10).mp hw
      refine lv_iconst (v := 0) hx hb dX12_scene_47 (by decide) ?_
      exact ret2_t hM hC rfl hw dX12_scene_48
    ·
      replace hw := (if_neg c10).mp hw
      refine lv_aload_n hx hb dX12_scene_24 rfl (lo_at hl 0 rfl) ?_
      obtain ⟨k11, hw⟩ := hw
      refine s_getR hx hb hts hown hg hC fb_10_58 k11 mk_f_RX12_125 dX12_scene_25 ?_
      refine lv_iload_n hx hb dX12_scene_28 rfl (lo_at hl 1 rfl) ?_
      obtain ⟨k12, hw⟩ := hw
      refine sf_2 k12.1 ?_
      refine s_lald hx hb hg hC k12.2.1 k12.2.2 dX12_scene_29 ?_
      refine lv_topl (fun v13 ev13 => ?_)
      replace hw := hw v13 ev13
      refine lv_iload_n hx hb dX12_scene_30 rfl (lo_at hl 2 rfl) ?_
      refine lv_lshr hx hb dX12_scene_31 (v := v13 >>> ((x2).toInt64 &&& 63)) rfl ?_
      refine lv_lconst (v := 1) hx hb dX12_scene_32 (by decide) ?_
      refine lv_land hx hb dX12_scene_33 ?_
      refine lv_iload_n hx hb dX12_scene_34 rfl (lo_at hl 3 rfl) ?_
      refine lv_if_eq (tgt := 42) hx hb dX12_scene_35 (by decide) (fun c14 => ?_) (fun c14 => ?_)
      ·
        replace hw := (if_pos c14).mp hw
        refine lv_lconst (v := 0) hx hb dX12_scene_42 (by decide) ?_
        exact t_X12_scene_J43 hM o x1 x2 (0 : Int64) ((v13 >>> ((x2).toInt64 &&& 63)) &&& (1 : Int64)) Q  h8 H locs ls hC (lo_sub hl [0, 1, 2] rfl) hw
      ·
        replace hw := (if_neg c14).mp hw
        refine lv_lconst (v := 1) hx hb dX12_scene_38 (by decide) ?_
        refine lv_goto (tgt := 43) hx hb dX12_scene_39 (by decide) ?_
        exact t_X12_scene_J43 hM o x1 x2 (1 : Int64) ((v13 >>> ((x2).toInt64 &&& 63)) &&& (1 : Int64)) Q  h8 H locs ls hC (lo_sub hl [0, 1, 2] rfl) hw
abbrev rm_X12_bestOf : Room := { frames := 5, cells := 0, slots := 0, locals := 133 }
set_option maxRecDepth 100000 in
def wp_X12_bestOf_L18 (o : Nat) (x1 : Int32) (x2 : Int32) (x3 : Int32) (x5 : Int32) (K99 : Int32 → Hp → Prop) (Q : Int32 → Hp → Prop) : Nat → Int32 → Int32 → Hp → Prop
  | 0, _, _, _ => False
  | n + 1, x4, x6, h => ((hpK h o).1 = 20 + 10) ∧ ((if (hpI h o 12) ≤ x6 then (K99 x4 h) else (okA h (hpR h o 58) 2 x2 ∧ (∀ v6 : Int64, v6 = hpL h (ad (hpR h o 58)) (x2).toNatClampNeg → ((if (lg_cmp ((v6 >>> ((x5).toInt64 &&& 63)) &&& (1 : Int64)) (0 : Int64)) = 0 then (∀ v8 : Int32, v8 = x6 + (1 : Int32) → (wp_X12_bestOf_L18 o x1 x2 x3 x5 K99 Q n x4 v8 h)) else (okA h (hpR h o 58) 2 x3 ∧ (∀ v10 : Int64, v10 = hpL h (ad (hpR h o 58)) (x3).toNatClampNeg → ((if (lg_cmp ((v10 >>> ((x6).toInt64 &&& 63)) &&& (1 : Int64)) (0 : Int64)) = 0 then (∀ v12 : Int32, v12 = x6 + (1 : Int32) → (wp_X12_bestOf_L18 o x1 x2 x3 x5 K99 Q n x4 v12 h)) else (wp_X12_saysOf o x1 x5 x6 (0 : Int32) h (fun (z14 : Int32) (h13 : Hp) => (if z14 = (1 : Int32) then (((hpK h13 o).1 = 20 + 10) ∧ (wp_X12_longest o x1 x5 x6 h13 (fun (z18 : Int32) (h17 : Hp) => ((hpK h17 o).1 = 20 + 10) ∧ (wp_X12_greater o x4 z18 h17 (fun (z21 : Int32) (h20 : Hp) => ∀ v22 : Int32, v22 = x6 + (1 : Int32) → (wp_X12_bestOf_L18 o x1 x2 x3 x5 K99 Q n z21 v22 h20)))))) else (∀ v23 : Int32, v23 = x6 + (1 : Int32) → (wp_X12_bestOf_L18 o x1 x2 x3 x5 K99 Q n x4 v23 h13)))))))))))))))
set_option maxRecDepth 100000 in
def wp_X12_bestOf_L6 (o : Nat) (x1 : Int32) (x2 : Int32) (x3 : Int32) (K105 : Int32 → Hp → Prop) (Q : Int32 → Hp → Prop) : Nat → Int32 → Int32 → Hp → Prop
  | 0, _, _, _ => False
  | n + 1, x4, x5, h => ((hpK h o).1 = 20 + 10) ∧ ((if (hpI h o 12) ≤ x5 then (K105 x4 h) else (wp_X12_bestOf_L18 o x1 x2 x3 x5 (fun (y25 : Int32) (h24 : Hp) => ∀ v26 : Int32, v26 = x5 + (1 : Int32) → (wp_X12_bestOf_L6 o x1 x2 x3 K105 Q n y25 v26 h24)) Q fuel x4 (0 : Int32) h)))
set_option maxRecDepth 100000 in
def wp_X12_bestOf (o : Nat) (x1 : Int32) (x2 : Int32) (x3 : Int32) (h : Hp) (Q : Int32 → Hp → Prop) : Prop := wp_X12_bestOf_L6 o x1 x2 x3 (fun (y28 : Int32) (h27 : Hp) => Q y28 h27) Q fuel (-1 : Int32) (0 : Int32) h
set_option maxHeartbeats 4000000 in
set_option maxRecDepth 100000 in
theorem t_X12_bestOf_L18 {p : Program} {l : Launch} {e : Env} {s : State} {m : MethodId} {args : Array Value} {below : List Frame} {meth : Method} {c : Code} {G : GG} {base : Nat} {A : Nat → Nat} {g0 : Hp} (hM : Mx G base p s m args meth c cX12_bestOf 7 (some .int) RX12 "bestOf") (o : Nat) (x1 : Int32) (x2 : Int32) (x3 : Int32) (x5 : Int32) (K99 : Int32 → Hp → Prop) (Q : Int32 → Hp → Prop) (hK99 : ∀ (y4 : Int32) (h : Hp) (H : Heap) (locs : List Loc) (ls : Array Slot), Cx2 G base A g0 A h s.heap H locs → lo_has ls 7 [(0, .ref (A o)), (1, .int x1), (2, .int x2), (3, .int x3), (4, .int y4), (5, .int x5)] → K99 y4 h → W p l e rm_X12_bestOf s m args below meth c H locs 0 0 (MQ below (va_Qi Q (PU2 G base A g0 A) (fun q => base ≤ q)) args s 0 0 (fun q => base ≤ q)) (F0 m 99 ls [])) : ∀ (n : Nat) (x4 : Int32) (x6 : Int32) (h : Hp) (H : Heap) (locs : List Loc) (ls : Array Slot), Cx2 G base A g0 A h s.heap H locs → lo_has ls 7 [(0, .ref (A o)), (1, .int x1), (2, .int x2), (3, .int x3), (4, .int x4), (5, .int x5), (6, .int x6)] → wp_X12_bestOf_L18 o x1 x2 x3 x5 K99 Q n x4 x6 h → W p l e rm_X12_bestOf s m args below meth c H locs 0 0 (MQ below (va_Qi Q (PU2 G base A g0 A) (fun q => base ≤ q)) args s 0 0 (fun q => base ≤ q)) (F0 m 18 ls []) := by
  intro n
  induction n with
  | zero =>
    intro x4 x6 h H locs ls hC hl hw
    rw [wp_X12_bestOf_L18] at hw
    exact hw.elim
  | succ n ih =>
    intro x4 x6 h H locs ls hC hl hw
    rw [wp_X12_bestOf_L18] at hw
    obtain ⟨hx, hb, hr, hml, hown, hts, hg, hs, hlk, hnm⟩ := id hM
    refine lv_iload hx hb dX12_bestOf_18 (lo_at hl 6 rfl) ?_
    refine lv_aload_n hx hb dX12_bestOf_20 rfl (lo_at hl 0 rfl) ?_
    obtain ⟨k3, hw⟩ := hw
    refine s_getI hx hb hts hown hg hC fb_10_12 k3 mk_f_RX12_141 dX12_bestOf_21 ?_
    refine lv_icmp_ge (tgt := 99) hx hb dX12_bestOf_24 (by decide) (fun c4 => ?_) (fun c4 => ?_)
    ·
      replace hw := (if_pos c4).mp hw
      exact hK99 x4 h H locs ls hC (lo_sub hl [0, 1, 2, 3, 4, 5] rfl) hw
    ·
      replace hw := (if_neg c4).mp hw
      refine lv_aload_n hx hb dX12_bestOf_27 rfl (lo_at hl 0 rfl) ?_
      refine s_getR hx hb hts hown hg hC fb_10_58 k3 mk_f_RX12_125 dX12_bestOf_28 ?_
      refine lv_iload_n hx hb dX12_bestOf_31 rfl (lo_at hl 2 rfl) ?_
      obtain ⟨k5, hw⟩ := hw
      refine sf_2 k5.1 ?_
      refine s_lald hx hb hg hC k5.2.1 k5.2.2 dX12_bestOf_32 ?_
      refine lv_topl (fun v6 ev6 => ?_)
      replace hw := hw v6 ev6
      refine lv_iload hx hb dX12_bestOf_33 (lo_at hl 5 rfl) ?_
      refine lv_lshr hx hb dX12_bestOf_35 (v := v6 >>> ((x5).toInt64 &&& 63)) rfl ?_
      refine lv_lconst (v := 1) hx hb dX12_bestOf_36 (by decide) ?_
      refine lv_land hx hb dX12_bestOf_37 ?_
      refine lv_lconst (v := 0) hx hb dX12_bestOf_38 (by decide) ?_
      refine W.lcmp hx hb dX12_bestOf_39 ?_
      refine lv_if_eq (tgt := 93) hx hb dX12_bestOf_40 (by decide) (fun c7 => ?_) (fun c7 => ?_)
      ·
        replace hw := (if_pos c7).mp hw
        obtain ⟨v8, ev8⟩ : ∃ y : Int32, y = x6 + (1 : Int32) := ⟨_, rfl⟩
        replace hw := hw v8 ev8
        refine lo_iinc (v := v8) (lv' := [(6, .int v8), (0, .ref (A o)), (1, .int x1), (2, .int x2), (3, .int x3), (4, .int x4), (5, .int x5)]) hx hb dX12_bestOf_93 hl (k := 6) rfl (by rw [ev8]; rfl) (by decide) rfl (fun ls hl => ?_)
        refine lv_goto (tgt := 18) hx hb dX12_bestOf_96 (by decide) ?_
        exact ih x4 v8 h H locs ls hC (lo_sub hl [1, 2, 3, 4, 5, 6, 0] rfl) hw
      ·
        replace hw := (if_neg c7).mp hw
        refine lv_aload_n hx hb dX12_bestOf_43 rfl (lo_at hl 0 rfl) ?_
        refine s_getR hx hb hts hown hg hC fb_10_58 k3 mk_f_RX12_125 dX12_bestOf_44 ?_
        refine lv_iload_n hx hb dX12_bestOf_47 rfl (lo_at hl 3 rfl) ?_
        obtain ⟨k9, hw⟩ := hw
        refine sf_2 k9.1 ?_
        refine s_lald hx hb hg hC k9.2.1 k9.2.2 dX12_bestOf_48 ?_
        refine lv_topl (fun v10 ev10 => ?_)
        replace hw := hw v10 ev10
        refine lv_iload hx hb dX12_bestOf_49 (lo_at hl 6 rfl) ?_
        refine lv_lshr hx hb dX12_bestOf_51 (v := v10 >>> ((x6).toInt64 &&& 63)) rfl ?_
        refine lv_lconst (v := 1) hx hb dX12_bestOf_52 (by decide) ?_
        refine lv_land hx hb dX12_bestOf_53 ?_
        refine lv_lconst (v := 0) hx hb dX12_bestOf_54 (by decide) ?_
        refine W.lcmp hx hb dX12_bestOf_55 ?_
        refine lv_if_eq (tgt := 93) hx hb dX12_bestOf_56 (by decide) (fun c11 => ?_) (fun c11 => ?_)
        ·
          replace hw := (if_pos c11).mp hw
          obtain ⟨v12, ev12⟩ : ∃ y : Int32, y = x6 + (1 : Int32) := ⟨_, rfl⟩
          replace hw := hw v12 ev12
          refine lo_iinc (v := v12) (lv' := [(6, .int v12), (0, .ref (A o)), (1, .int x1), (2, .int x2), (3, .int x3), (4, .int x4), (5, .int x5)]) hx hb dX12_bestOf_93 hl (k := 6) rfl (by rw [ev12]; rfl) (by decide) rfl (fun ls hl => ?_)
          refine lv_goto (tgt := 18) hx hb dX12_bestOf_96 (by decide) ?_
          exact ih x4 v12 h H locs ls hC (lo_sub hl [1, 2, 3, 4, 5, 6, 0] rfl) hw
        ·
          replace hw := (if_neg c11).mp hw
          refine lv_aload_n hx hb dX12_bestOf_59 rfl (lo_at hl 0 rfl) ?_
          refine lv_iload_n hx hb dX12_bestOf_60 rfl (lo_at hl 1 rfl) ?_
          refine lv_iload hx hb dX12_bestOf_61 (lo_at hl 5 rfl) ?_
          refine lv_iload hx hb dX12_bestOf_63 (lo_at hl 6 rfl) ?_
          refine lv_iconst (v := 0) hx hb dX12_bestOf_65 (by decide) ?_
          refine res2_i hC (run2_V (As := [.int x1, .int x5, .int x6, .int ((0 : Int32))]) (rest := []) hM hC hl.1.1 kv_RX12_330 (c_X12_saysOf l G base A o x1 x5 x6 (0 : Int32) h _ hw) (hc_10) k3 rfl rfl rfl ⟨Nat.le_of_ble_eq_true rfl, Nat.le_of_ble_eq_true rfl⟩ (Nat.le_of_ble_eq_true rfl) ⟨Nat.le_of_ble_eq_true rfl, Nat.le_of_ble_eq_true rfl⟩ dX12_bestOf_66) (fun z14 h13 H locs hw hC => ?_)
          refine lv_iconst (v := 1) hx hb dX12_bestOf_69 (by decide) ?_
          refine lv_icmp_eq (tgt := 76) hx hb dX12_bestOf_70 (by decide) (fun c15 => ?_) (fun c15 => ?_)
          ·
            replace hw := (if_pos c15).mp hw
            refine lv_aload_n hx hb dX12_bestOf_76 rfl (lo_at hl 0 rfl) ?_
            refine lv_iload hx hb dX12_bestOf_77 (lo_at hl 4 rfl) ?_
            refine lv_aload_n hx hb dX12_bestOf_79 rfl (lo_at hl 0 rfl) ?_
            refine lv_iload_n hx hb dX12_bestOf_80 rfl (lo_at hl 1 rfl) ?_
            refine lv_iload hx hb dX12_bestOf_81 (lo_at hl 5 rfl) ?_
            refine lv_iload hx hb dX12_bestOf_83 (lo_at hl 6 rfl) ?_
            obtain ⟨k16, hw⟩ := hw
            refine res2_i hC (run2_V (As := [.int x1, .int x5, .int x6]) (rest := [.int x4, .ref (A o)]) hM hC hl.1.1 kv_RX12_339 (c_X12_longest l G base A o x1 x5 x6 h13 _ hw) (hc_10) k16 rfl rfl rfl ⟨Nat.le_of_ble_eq_true rfl, Nat.le_of_ble_eq_true rfl⟩ (Nat.le_of_ble_eq_true rfl) ⟨Nat.le_of_ble_eq_true rfl, Nat.le_of_ble_eq_true rfl⟩ dX12_bestOf_85) (fun z18 h17 H locs hw hC => ?_)
            obtain ⟨k19, hw⟩ := hw
            refine res2_i hC (run2_V (As := [.int x4, .int z18]) (rest := []) hM hC hl.1.1 kv_RX12_306 (c_X12_greater l G base A o x4 z18 h17 _ hw) (hc_10) k19 rfl rfl rfl ⟨Nat.le_of_ble_eq_true rfl, Nat.le_of_ble_eq_true rfl⟩ (Nat.le_of_ble_eq_true rfl) ⟨Nat.le_of_ble_eq_true rfl, Nat.le_of_ble_eq_true rfl⟩ dX12_bestOf_88) (fun z21 h20 H locs hw hC => ?_)
            refine lo_istore (lv' := [(4, .int z21), (0, .ref (A o)), (1, .int x1), (2, .int x2), (3, .int x3), (5, .int x5), (6, .int x6)]) hx hb dX12_bestOf_91 hl (by decide) rfl (fun ls hl => ?_)
            obtain ⟨v22, ev22⟩ : ∃ y : Int32, y = x6 + (1 : Int32) := ⟨_, rfl⟩
            replace hw := hw v22 ev22
            refine lo_iinc (v := v22) (lv' := [(6, .int v22), (4, .int z21), (0, .ref (A o)), (1, .int x1), (2, .int x2), (3, .int x3), (5, .int x5)]) hx hb dX12_bestOf_93 hl (k := 6) rfl (by rw [ev22]; rfl) (by decide) rfl (fun ls hl => ?_)
            refine lv_goto (tgt := 18) hx hb dX12_bestOf_96 (by decide) ?_
            exact ih z21 v22 h20 H locs ls hC (lo_sub hl [2, 3, 4, 5, 1, 6, 0] rfl) hw
          ·
            replace hw := (if_neg c15).mp hw
            refine lv_goto (tgt := 93) hx hb dX12_bestOf_73 (by decide) ?_
            obtain ⟨v23, ev23⟩ : ∃ y : Int32, y = x6 + (1 : Int32) := ⟨_, rfl⟩
            replace hw := hw v23 ev23
            refine lo_iinc (v := v23) (lv' := [(6, .int v23), (0, .ref (A o)), (1, .int x1), (2, .int x2), (3, .int x3), (4, .int x4), (5, .int x5)]) hx hb dX12_bestOf_93 hl (k := 6) rfl (by rw [ev23]; rfl) (by decide) rfl (fun ls hl => ?_)
            refine lv_goto (tgt := 18) hx hb dX12_bestOf_96 (by decide) ?_
            exact ih x4 v23 h13 H locs ls hC (lo_sub hl [1, 2, 3, 4, 5, 6, 0] rfl) hw
set_option maxHeartbeats 4000000 in
set_option maxRecDepth 100000 in
theorem t_X12_bestOf_L6 {p : Program} {l : Launch} {e : Env} {s : State} {m : MethodId} {args : Array Value} {below : List Frame} {meth : Method} {c : Code} {G : GG} {base : Nat} {A : Nat → Nat} {g0 : Hp} (hM : Mx G base p s m args meth c cX12_bestOf 7 (some .int) RX12 "bestOf") (o : Nat) (x1 : Int32) (x2 : Int32) (x3 : Int32) (K105 : Int32 → Hp → Prop) (Q : Int32 → Hp → Prop) (hK105 : ∀ (y4 : Int32) (h : Hp) (H : Heap) (locs : List Loc) (ls : Array Slot), Cx2 G base A g0 A h s.heap H locs → lo_has ls 7 [(4, .int y4)] → K105 y4 h → W p l e rm_X12_bestOf s m args below meth c H locs 0 0 (MQ below (va_Qi Q (PU2 G base A g0 A) (fun q => base ≤ q)) args s 0 0 (fun q => base ≤ q)) (F0 m 105 ls [])) : ∀ (n : Nat) (x4 : Int32) (x5 : Int32) (h : Hp) (H : Heap) (locs : List Loc) (ls : Array Slot), Cx2 G base A g0 A h s.heap H locs → lo_has ls 7 [(0, .ref (A o)), (1, .int x1), (2, .int x2), (3, .int x3), (4, .int x4), (5, .int x5)] → wp_X12_bestOf_L6 o x1 x2 x3 K105 Q n x4 x5 h → W p l e rm_X12_bestOf s m args below meth c H locs 0 0 (MQ below (va_Qi Q (PU2 G base A g0 A) (fun q => base ≤ q)) args s 0 0 (fun q => base ≤ q)) (F0 m 6 ls []) := by
  intro n
  induction n with
  | zero =>
    intro x4 x5 h H locs ls hC hl hw
    rw [wp_X12_bestOf_L6] at hw
    exact hw.elim
  | succ n ih =>
    intro x4 x5 h H locs ls hC hl hw
    rw [wp_X12_bestOf_L6] at hw
    obtain ⟨hx, hb, hr, hml, hown, hts, hg, hs, hlk, hnm⟩ := id hM
    refine lv_iload hx hb dX12_bestOf_6 (lo_at hl 5 rfl) ?_
    refine lv_aload_n hx hb dX12_bestOf_8 rfl (lo_at hl 0 rfl) ?_
    obtain ⟨k1, hw⟩ := hw
    refine s_getI hx hb hts hown hg hC fb_10_12 k1 mk_f_RX12_141 dX12_bestOf_9 ?_
    refine lv_icmp_ge (tgt := 105) hx hb dX12_bestOf_12 (by decide) (fun c2 => ?_) (fun c2 => ?_)
    ·
      replace hw := (if_pos c2).mp hw
      exact hK105 x4 h H locs ls hC (lo_sub hl [4] rfl) hw
    ·
      replace hw := (if_neg c2).mp hw
      refine lv_iconst (v := 0) hx hb dX12_bestOf_15 (by decide) ?_
      refine lo_istore (lv' := [(6, .int ((0 : Int32))), (0, .ref (A o)), (1, .int x1), (2, .int x2), (3, .int x3), (4, .int x4), (5, .int x5)]) hx hb dX12_bestOf_16 hl (by decide) rfl (fun ls hl => ?_)
      refine t_X12_bestOf_L18 hM o x1 x2 x3 x5 _ Q ?_ fuel x4 (0 : Int32) h H locs ls hC (lo_sub hl [1, 2, 3, 4, 5, 6, 0] rfl) hw
      intro y25 h24 H locs ls hC hl hw
      obtain ⟨v26, ev26⟩ : ∃ y : Int32, y = x5 + (1 : Int32) := ⟨_, rfl⟩
      replace hw := hw v26 ev26
      refine lo_iinc (v := v26) (lv' := [(5, .int v26), (0, .ref (A o)), (1, .int x1), (2, .int x2), (3, .int x3), (4, .int y25)]) hx hb dX12_bestOf_99 hl (k := 5) rfl (by rw [ev26]; rfl) (by decide) rfl (fun ls hl => ?_)
      refine lv_goto (tgt := 6) hx hb dX12_bestOf_102 (by decide) ?_
      exact ih y25 v26 h24 H locs ls hC (lo_sub hl [1, 2, 3, 4, 5, 0] rfl) hw
set_option maxHeartbeats 4000000 in
set_option maxRecDepth 100000 in
theorem c_X12_bestOf (l : Launch) (G : GG) (base : Nat) (A : Nat → Nat) (o : Nat) (x1 : Int32) (x2 : Int32) (x3 : Int32) (h : Hp) (Q : Int32 → Hp → Prop) (hw : wp_X12_bestOf o x1 x2 x3 h Q) : Met l yX12_bestOf (ww yX12_bestOf cX12_bestOf 7 (some .int)) rm_X12_bestOf (va_Pc [.ref (A o), .int x1, .int x2, .int x3] (PU2 G base A h A h)) (va_Qi Q (PU2 G base A h A) (fun q => base ≤ q)) 0 0 (fun q => base ≤ q) := by
  refine met2_of (own := RX12) (nm := "bestOf") (by decide) rfl rfl (List.forall_mem_cons.mpr ⟨rfl, (List.forall_mem_cons.mpr ⟨rfl, (List.forall_mem_cons.mpr ⟨rfl, (List.forall_mem_cons.mpr ⟨rfl, (fun _ h => absurd h List.not_mem_nil)⟩)⟩)⟩)⟩) (Nat.le_of_ble_eq_true rfl) rfl ?_
  intro p e s m args below meth c H locs ls hM hC hl
  obtain ⟨hx, hb, hr, hml, hown, hts, hg, hs, hlk, hnm⟩ := id hM
  unfold wp_X12_bestOf at hw
  refine lv_iconst (v := -1) hx hb dX12_bestOf_0 (by decide) ?_
  refine lo_istore (lv' := [(4, .int ((-1 : Int32))), (0, .ref (A o)), (1, .int x1), (2, .int x2), (3, .int x3)]) hx hb dX12_bestOf_1 hl (by decide) rfl (fun ls hl => ?_)
  refine lv_iconst (v := 0) hx hb dX12_bestOf_3 (by decide) ?_
  refine lo_istore (lv' := [(5, .int ((0 : Int32))), (4, .int ((-1 : Int32))), (0, .ref (A o)), (1, .int x1), (2, .int x2), (3, .int x3)]) hx hb dX12_bestOf_4 hl (by decide) rfl (fun ls hl => ?_)
  refine t_X12_bestOf_L6 hM o x1 x2 x3 _ Q ?_ fuel (-1 : Int32) (0 : Int32) h H locs ls hC (lo_sub hl [2, 3, 4, 5, 1, 0] rfl) hw
  intro y28 h27 H locs ls hC hl hw
  refine lv_iload hx hb dX12_bestOf_105 (lo_at hl 0 rfl) ?_
  exact ret2_i hM hC hw dX12_bestOf_107
abbrev rm_X12_joins : Room := { frames := 0, cells := 0, slots := 0, locals := 0 }
set_option maxRecDepth 100000 in
def wp_X12_joins_L51 (o : Nat) (x3 : Int32) (x4 : Int32) (K84 : Hp → Prop) (Q : Hp → Prop) : Nat → Int32 → Hp → Prop
  | 0, _, _ => False
  | n + 1, x5, h => (if (8 : Int32) ≤ x5 then (K84 h) else (((hpK h o).1 = 20 + 10) ∧ (okA h (hpR h o 59) 1 x5 ∧ (∀ v18 : Int32, v18 = hpI h (ad (hpR h o 59)) (x5).toNatClampNeg → ((if v18 = x4 then (okA h (hpR h o 59) 1 x5 ∧ (∀ h22 : Hp, h22 = stI h (ad (hpR h o 59)) (x5).toNatClampNeg x3 → (∀ v23 : Int32, v23 = x5 + (1 : Int32) → (wp_X12_joins_L51 o x3 x4 K84 Q n v23 h22)))) else (∀ v20 : Int32, v20 = x5 + (1 : Int32) → (wp_X12_joins_L51 o x3 x4 K84 Q n v20 h))))))))
set_option maxRecDepth 100000 in
def wp_X12_joins_J30 (o : Nat) (x1 : Int32) (x2 : Int32) (s0 : Int32) (Q : Hp → Prop) (h : Hp) : Prop := ((hpK h o).1 = 20 + 10) ∧ (okA h (hpR h o 59) 1 x1 ∧ (∀ v11 : Int32, v11 = hpI h (ad (hpR h o 59)) (x1).toNatClampNeg → (okA h (hpR h o 59) 1 x2 ∧ (∀ v13 : Int32, v13 = hpI h (ad (hpR h o 59)) (x2).toNatClampNeg → (∀ v14 : Int32, v14 = (v11 + v13) - s0 → (wp_X12_joins_L51 o s0 v14 (fun (h24 : Hp) => Q h24) Q fuel (0 : Int32) h))))))
set_option maxRecDepth 100000 in
def wp_X12_joins (o : Nat) (x1 : Int32) (x2 : Int32) (h : Hp) (Q : Hp → Prop) : Prop := ((hpK h o).1 = 20 + 10) ∧ (okA h (hpR h o 59) 1 x1 ∧ (∀ v3 : Int32, v3 = hpI h (ad (hpR h o 59)) (x1).toNatClampNeg → (okA h (hpR h o 59) 1 x2 ∧ (∀ v5 : Int32, v5 = hpI h (ad (hpR h o 59)) (x2).toNatClampNeg → ((if v5 ≤ v3 then (okA h (hpR h o 59) 1 x2 ∧ (∀ v8 : Int32, v8 = hpI h (ad (hpR h o 59)) (x2).toNatClampNeg → (wp_X12_joins_J30 o x1 x2 v8 Q h))) else (okA h (hpR h o 59) 1 x1 ∧ (∀ v26 : Int32, v26 = hpI h (ad (hpR h o 59)) (x1).toNatClampNeg → (wp_X12_joins_J30 o x1 x2 v26 Q h)))))))))
set_option maxHeartbeats 4000000 in
set_option maxRecDepth 100000 in
theorem t_X12_joins_L51 {p : Program} {l : Launch} {e : Env} {s : State} {m : MethodId} {args : Array Value} {below : List Frame} {meth : Method} {c : Code} {G : GG} {base : Nat} {A : Nat → Nat} {g0 : Hp} (hM : Mx G base p s m args meth c cX12_joins 6 none RX12 "joins") (o : Nat) (x3 : Int32) (x4 : Int32) (K84 : Hp → Prop) (Q : Hp → Prop) (hK84 : ∀ (h : Hp) (H : Heap) (locs : List Loc) (ls : Array Slot), Cx2 G base A g0 A h s.heap H locs → lo_has ls 6 [] → K84 h → W p l e rm_X12_joins s m args below meth c H locs 0 0 (MQ below (va_Qv Q (PU2 G base A g0 A) (fun q => base ≤ q)) args s 0 0 (fun q => base ≤ q)) (F0 m 84 ls [])) : ∀ (n : Nat) (x5 : Int32) (h : Hp) (H : Heap) (locs : List Loc) (ls : Array Slot), Cx2 G base A g0 A h s.heap H locs → lo_has ls 6 [(0, .ref (A o)), (3, .int x3), (4, .int x4), (5, .int x5)] → wp_X12_joins_L51 o x3 x4 K84 Q n x5 h → W p l e rm_X12_joins s m args below meth c H locs 0 0 (MQ below (va_Qv Q (PU2 G base A g0 A) (fun q => base ≤ q)) args s 0 0 (fun q => base ≤ q)) (F0 m 51 ls []) := by
  intro n
  induction n with
  | zero =>
    intro x5 h H locs ls hC hl hw
    rw [wp_X12_joins_L51] at hw
    exact hw.elim
  | succ n ih =>
    intro x5 h H locs ls hC hl hw
    rw [wp_X12_joins_L51] at hw
    obtain ⟨hx, hb, hr, hml, hown, hts, hg, hs, hlk, hnm⟩ := id hM
    refine lv_iload hx hb dX12_joins_51 (lo_at hl 3 rfl) ?_
    refine lv_bipush (v := 8) hx hb dX12_joins_53 (by decide) ?_
    refine lv_icmp_ge (tgt := 84) hx hb dX12_joins_55 (by decide) (fun c15 => ?_) (fun c15 => ?_)
    ·
      replace hw := (if_pos c15).mp hw
      exact hK84  h H locs ls hC (lo_sub hl [] rfl) hw
    ·
      replace hw := (if_neg c15).mp hw
      refine lv_aload_n hx hb dX12_joins_58 rfl (lo_at hl 0 rfl) ?_
      obtain ⟨k16, hw⟩ := hw
      refine s_getR hx hb hts hown hg hC fb_10_59 k16 mk_f_RX12_129 dX12_joins_59 ?_
      refine lv_iload hx hb dX12_joins_62 (lo_at hl 3 rfl) ?_
      obtain ⟨k17, hw⟩ := hw
      refine sf_2 k17.1 ?_
      refine s_iald hx hb hg hC k17.2.1 k17.2.2 dX12_joins_64 ?_
      refine lv_topi (fun v18 ev18 => ?_)
      replace hw := hw v18 ev18
      refine lv_iload hx hb dX12_joins_65 (lo_at hl 2 rfl) ?_
      refine lv_icmp_ne (tgt := 78) hx hb dX12_joins_67 (by decide) (fun c19 => ?_) (fun c19 => ?_)
      ·
        replace hw := (if_neg c19).mp hw
        obtain ⟨v20, ev20⟩ : ∃ y : Int32, y = x5 + (1 : Int32) := ⟨_, rfl⟩
        replace hw := hw v20 ev20
        refine lo_iinc (v := v20) (lv' := [(5, .int v20), (0, .ref (A o)), (3, .int x3), (4, .int x4)]) hx hb dX12_joins_78 hl (k := 3) rfl (by rw [ev20]; rfl) (by decide) rfl (fun ls hl => ?_)
        refine lv_goto (tgt := 51) hx hb dX12_joins_81 (by decide) ?_
        exact ih v20 h H locs ls hC (lo_sub hl [1, 2, 3, 0] rfl) hw
      ·
        replace hw := (if_pos c19).mp hw
        refine lv_aload_n hx hb dX12_joins_70 rfl (lo_at hl 0 rfl) ?_
        refine s_getR hx hb hts hown hg hC fb_10_59 k16 mk_f_RX12_129 dX12_joins_71 ?_
        refine lv_iload hx hb dX12_joins_74 (lo_at hl 3 rfl) ?_
        refine lv_iload_n hx hb dX12_joins_76 rfl (lo_at hl 1 rfl) ?_
        obtain ⟨k21, hw⟩ := hw
        refine sf_3 k21.1 ?_
        refine s_iast hx hb hg hC k21.2.1 k21.2.2 dX12_joins_77 (fun h22 H locs eh22 hC => ?_)
        replace hw := hw h22 eh22
        obtain ⟨v23, ev23⟩ : ∃ y : Int32, y = x5 + (1 : Int32) := ⟨_, rfl⟩
        replace hw := hw v23 ev23
        refine lo_iinc (v := v23) (lv' := [(5, .int v23), (0, .ref (A o)), (3, .int x3), (4, .int x4)]) hx hb dX12_joins_78 hl (k := 3) rfl (by rw [ev23]; rfl) (by decide) rfl (fun ls hl => ?_)
        refine lv_goto (tgt := 51) hx hb dX12_joins_81 (by decide) ?_
        exact ih v23 h22 H locs ls hC (lo_sub hl [1, 2, 3, 0] rfl) hw
set_option maxHeartbeats 4000000 in
set_option maxRecDepth 100000 in
theorem t_X12_joins_J30 {p : Program} {l : Launch} {e : Env} {s : State} {m : MethodId} {args : Array Value} {below : List Frame} {meth : Method} {c : Code} {G : GG} {base : Nat} {A : Nat → Nat} {g0 : Hp} (hM : Mx G base p s m args meth c cX12_joins 6 none RX12 "joins") (o : Nat) (x1 : Int32) (x2 : Int32) (s0 : Int32) (Q : Hp → Prop) (h : Hp) (H : Heap) (locs : List Loc) (ls : Array Slot) : Cx2 G base A g0 A h s.heap H locs → lo_has ls 6 [(0, .ref (A o)), (1, .int x1), (2, .int x2)] → wp_X12_joins_J30 o x1 x2 s0 Q h → W p l e rm_X12_joins s m args below meth c H locs 0 0 (MQ below (va_Qv Q (PU2 G base A g0 A) (fun q => base ≤ q)) args s 0 0 (fun q => base ≤ q)) (F0 m 30 ls [.int s0]) := by
  intro hC hl hw
  unfold wp_X12_joins_J30 at hw
  obtain ⟨hx, hb, hr, hml, hown, hts, hg, hs, hlk, hnm⟩ := id hM
  refine lo_istore_n (lv' := [(3, .int s0), (0, .ref (A o)), (1, .int x1), (2, .int x2)]) hx hb dX12_joins_30 rfl hl (by decide) rfl (fun ls hl => ?_)
  refine lv_aload_n hx hb dX12_joins_31 rfl (lo_at hl 1 rfl) ?_
  obtain ⟨k9, hw⟩ := hw
  refine s_getR hx hb hts hown hg hC fb_10_59 k9 mk_f_RX12_129 dX12_joins_32 ?_
  refine lv_iload_n hx hb dX12_joins_35 rfl (lo_at hl 2 rfl) ?_
  obtain ⟨k10, hw⟩ := hw
  refine sf_2 k10.1 ?_
  refine s_iald hx hb hg hC k10.2.1 k10.2.2 dX12_joins_36 ?_
  refine lv_topi (fun v11 ev11 => ?_)
  replace hw := hw v11 ev11
  refine lv_aload_n hx hb dX12_joins_37 rfl (lo_at hl 1 rfl) ?_
  refine s_getR hx hb hts hown hg hC fb_10_59 k9 mk_f_RX12_129 dX12_joins_38 ?_
  refine lv_iload_n hx hb dX12_joins_41 rfl (lo_at hl 3 rfl) ?_
  obtain ⟨k12, hw⟩ := hw
  refine sf_2 k12.1 ?_
  refine s_iald hx hb hg hC k12.2.1 k12.2.2 dX12_joins_42 ?_
  refine lv_topi (fun v13 ev13 => ?_)
  replace hw := hw v13 ev13
  refine lv_iadd hx hb dX12_joins_43 ?_
  refine lv_iload_n hx hb dX12_joins_44 rfl (lo_at hl 0 rfl) ?_
  refine lv_isub hx hb dX12_joins_45 ?_
  refine lv_topi (fun v14 ev14 => ?_)
  replace hw := hw v14 ev14
  refine lo_istore (lv' := [(4, .int v14), (3, .int s0), (0, .ref (A o)), (1, .int x1), (2, .int x2)]) hx hb dX12_joins_46 hl (by decide) rfl (fun ls hl => ?_)
  refine lv_iconst (v := 0) hx hb dX12_joins_48 (by decide) ?_
  refine lo_istore (lv' := [(5, .int ((0 : Int32))), (4, .int v14), (3, .int s0), (0, .ref (A o)), (1, .int x1), (2, .int x2)]) hx hb dX12_joins_49 hl (by decide) rfl (fun ls hl => ?_)
  refine t_X12_joins_L51 hM o s0 v14 _ Q ?_ fuel (0 : Int32) h H locs ls hC (lo_sub hl [3, 2, 1, 0] rfl) hw
  intro  h24 H locs ls hC hl hw
  exact ret2_v hM hC hw dX12_joins_84
set_option maxHeartbeats 4000000 in
set_option maxRecDepth 100000 in
theorem c_X12_joins (l : Launch) (G : GG) (base : Nat) (A : Nat → Nat) (o : Nat) (x1 : Int32) (x2 : Int32) (h : Hp) (Q : Hp → Prop) (hw : wp_X12_joins o x1 x2 h Q) : Met l yX12_joins (ww yX12_joins cX12_joins 6 none) rm_X12_joins (va_Pc [.ref (A o), .int x1, .int x2] (PU2 G base A h A h)) (va_Qv Q (PU2 G base A h A) (fun q => base ≤ q)) 0 0 (fun q => base ≤ q) := by
  refine met2_of (own := RX12) (nm := "joins") (by decide) rfl rfl (List.forall_mem_cons.mpr ⟨rfl, (List.forall_mem_cons.mpr ⟨rfl, (List.forall_mem_cons.mpr ⟨rfl, (fun _ h => absurd h List.not_mem_nil)⟩)⟩)⟩) (Nat.le_of_ble_eq_true rfl) rfl ?_
  intro p e s m args below meth c H locs ls hM hC hl
  obtain ⟨hx, hb, hr, hml, hown, hts, hg, hs, hlk, hnm⟩ := id hM
  unfold wp_X12_joins at hw
  refine lv_aload_n hx hb dX12_joins_0 rfl (lo_at hl 0 rfl) ?_
  obtain ⟨k1, hw⟩ := hw
  refine s_getR hx hb hts hown hg hC fb_10_59 k1 mk_f_RX12_129 dX12_joins_1 ?_
  refine lv_iload_n hx hb dX12_joins_4 rfl (lo_at hl 1 rfl) ?_
  obtain ⟨k2, hw⟩ := hw
  refine sf_2 k2.1 ?_
  refine s_iald hx hb hg hC k2.2.1 k2.2.2 dX12_joins_5 ?_
  refine lv_topi (fun v3 ev3 => ?_)
  replace hw := hw v3 ev3
  refine lv_aload_n hx hb dX12_joins_6 rfl (lo_at hl 0 rfl) ?_
  refine s_getR hx hb hts hown hg hC fb_10_59 k1 mk_f_RX12_129 dX12_joins_7 ?_
  refine lv_iload_n hx hb dX12_joins_10 rfl (lo_at hl 2 rfl) ?_
  obtain ⟨k4, hw⟩ := hw
  refine sf_2 k4.1 ?_
  refine s_iald hx hb hg hC k4.2.1 k4.2.2 dX12_joins_11 ?_
  refine lv_topi (fun v5 ev5 => ?_)
  replace hw := hw v5 ev5
  refine lv_icmp_ge (tgt := 24) hx hb dX12_joins_12 (by decide) (fun c6 => ?_) (fun c6 => ?_)
  ·
    replace hw := (if_pos c6).mp hw
    refine lv_aload_n hx hb dX12_joins_24 rfl (lo_at hl 0 rfl) ?_
    refine s_getR hx hb hts hown hg hC fb_10_59 k1 mk_f_RX12_129 dX12_joins_25 ?_
    refine lv_iload_n hx hb dX12_joins_28 rfl (lo_at hl 2 rfl) ?_
    obtain ⟨k7, hw⟩ := hw
    refine sf_2 k7.1 ?_
    refine s_iald hx hb hg hC k7.2.1 k7.2.2 dX12_joins_29 ?_
    refine lv_topi (fun v8 ev8 => ?_)
    replace hw := hw v8 ev8
    exact t_X12_joins_J30 hM o x1 x2 v8 Q  h H locs ls hC (lo_sub hl [0, 1, 2] rfl) hw
  ·
    replace hw := (if_neg c6).mp hw
    refine lv_aload_n hx hb dX12_joins_15 rfl (lo_at hl 0 rfl) ?_
    refine s_getR hx hb hts hown hg hC fb_10_59 k1 mk_f_RX12_129 dX12_joins_16 ?_
    refine lv_iload_n hx hb dX12_joins_19 rfl (lo_at hl 1 rfl) ?_
    obtain ⟨k25, hw⟩ := hw
    refine sf_2 k25.1 ?_
    refine s_iald hx hb hg hC k25.2.1 k25.2.2 dX12_joins_20 ?_
    refine lv_topi (fun v26 ev26 => ?_)
    replace hw := hw v26 ev26
    refine lv_goto (tgt := 30) hx hb dX12_joins_21 (by decide) ?_
    exact t_X12_joins_J30 hM o x1 x2 v26 Q  h H locs ls hC (lo_sub hl [0, 1, 2] rfl) hw
abbrev rm_X12_findsGroups : Room := { frames := 6, cells := 0, slots := 0, locals := 159 }
set_option maxRecDepth 100000 in
def wp_X12_findsGroups_L12 (o : Nat) (x1 : Int32) (K31 : Hp → Prop) (Q : Hp → Prop) : Nat → Int32 → Hp → Prop
  | 0, _, _ => False
  | n + 1, x2, h => (if (8 : Int32) ≤ x2 then (K31 h) else (((hpK h o).1 = 20 + 10) ∧ (okA h (hpR h o 59) 1 x2 ∧ (∀ h8 : Hp, h8 = stI h (ad (hpR h o 59)) (x2).toNatClampNeg x2 → (∀ v9 : Int32, v9 = x2 + (1 : Int32) → (wp_X12_findsGroups_L12 o x1 K31 Q n v9 h8))))))
set_option maxRecDepth 100000 in
def wp_X12_findsGroups_J93 (o : Nat) (x1 : Int32) (x2 : Int32) (x3 : Int32) (x4 : Int32) (KH : Int32 → Hp → Prop) (K115 : Hp → Prop) (Q : Hp → Prop) (h : Hp) : Prop := ((hpK h o).1 = 20 + 10) ∧ (∀ h24 : Hp, h24 = stI h o 60 (((8 : Int32) * x2) + x3) → (((hpK h24 o).1 = 20 + 10) ∧ (∀ h26 : Hp, h26 = stI h24 o 61 x4 → (∀ v27 : Int32, v27 = x3 + (1 : Int32) → (KH v27 h26)))))
set_option maxRecDepth 100000 in
def wp_X12_findsGroups_L43 (o : Nat) (x1 : Int32) (x2 : Int32) (K115 : Hp → Prop) (Q : Hp → Prop) : Nat → Int32 → Hp → Prop
  | 0, _, _ => False
  | n + 1, x3, h => (if (8 : Int32) ≤ x3 then (K115 h) else (((hpK h o).1 = 20 + 10) ∧ (wp_X12_bestOf o x1 x2 x3 h (fun (z16 : Int32) (h15 : Hp) => (if z16 = (-1 : Int32) then (∀ v30 : Int32, v30 = x3 + (1 : Int32) → (wp_X12_findsGroups_L43 o x1 x2 K115 Q n v30 h15)) else (((hpK h15 o).1 = 20 + 10) ∧ (wp_X12_joins o x2 x3 h15 (fun (h19 : Hp) => ((hpK h19 o).1 = 20 + 10) ∧ ((if (hpI h19 o 60) = (-1 : Int32) then (wp_X12_findsGroups_J93 o x1 x2 x3 z16 (wp_X12_findsGroups_L43 o x1 x2 K115 Q n) K115 Q h19) else ((if z16 < (hpI h19 o 61) then (wp_X12_findsGroups_J93 o x1 x2 x3 z16 (wp_X12_findsGroups_L43 o x1 x2 K115 Q n) K115 Q h19) else (∀ v29 : Int32, v29 = x3 + (1 : Int32) → (wp_X12_findsGroups_L43 o x1 x2 K115 Q n v29 h19))))))))))))))
set_option maxRecDepth 100000 in
def wp_X12_findsGroups_L33 (o : Nat) (x1 : Int32) (K121 : Hp → Prop) (Q : Hp → Prop) : Nat → Int32 → Hp → Prop
  | 0, _, _ => False
  | n + 1, x2, h => (if (8 : Int32) ≤ x2 then (K121 h) else (∀ v12 : Int32, v12 = x2 + (1 : Int32) → (wp_X12_findsGroups_L43 o x1 x2 (fun (h31 : Hp) => ∀ v32 : Int32, v32 = x2 + (1 : Int32) → (wp_X12_findsGroups_L33 o x1 K121 Q n v32 h31)) Q fuel v12 h)))
set_option maxRecDepth 100000 in
def wp_X12_findsGroups (o : Nat) (x1 : Int32) (h : Hp) (Q : Hp → Prop) : Prop := ((hpK h o).1 = 20 + 10) ∧ (∀ h2 : Hp, h2 = stI h o 60 (-1 : Int32) → (((hpK h2 o).1 = 20 + 10) ∧ (∀ h4 : Hp, h4 = stI h2 o 61 (-1 : Int32) → (wp_X12_findsGroups_L12 o x1 (fun (h10 : Hp) => wp_X12_findsGroups_L33 o x1 (fun (h33 : Hp) => Q h33) Q fuel (0 : Int32) h10) Q fuel (0 : Int32) h4))))
set_option maxHeartbeats 4000000 in
set_option maxRecDepth 100000 in
theorem t_X12_findsGroups_L12 {p : Program} {l : Launch} {e : Env} {s : State} {m : MethodId} {args : Array Value} {below : List Frame} {meth : Method} {c : Code} {G : GG} {base : Nat} {A : Nat → Nat} {g0 : Hp} (hM : Mx G base p s m args meth c cX12_findsGroups 5 none RX12 "findsGroups") (o : Nat) (x1 : Int32) (K31 : Hp → Prop) (Q : Hp → Prop) (hK31 : ∀ (h : Hp) (H : Heap) (locs : List Loc) (ls : Array Slot), Cx2 G base A g0 A h s.heap H locs → lo_has ls 5 [(0, .ref (A o)), (1, .int x1)] → K31 h → W p l e rm_X12_findsGroups s m args below meth c H locs 0 0 (MQ below (va_Qv Q (PU2 G base A g0 A) (fun q => base ≤ q)) args s 0 0 (fun q => base ≤ q)) (F0 m 31 ls [])) : ∀ (n : Nat) (x2 : Int32) (h : Hp) (H : Heap) (locs : List Loc) (ls : Array Slot), Cx2 G base A g0 A h s.heap H locs → lo_has ls 5 [(0, .ref (A o)), (1, .int x1), (2, .int x2)] → wp_X12_findsGroups_L12 o x1 K31 Q n x2 h → W p l e rm_X12_findsGroups s m args below meth c H locs 0 0 (MQ below (va_Qv Q (PU2 G base A g0 A) (fun q => base ≤ q)) args s 0 0 (fun q => base ≤ q)) (F0 m 12 ls []) := by
  intro n
  induction n with
  | zero =>
    intro x2 h H locs ls hC hl hw
    rw [wp_X12_findsGroups_L12] at hw
    exact hw.elim
  | succ n ih =>
    intro x2 h H locs ls hC hl hw
    rw [wp_X12_findsGroups_L12] at hw
    obtain ⟨hx, hb, hr, hml, hown, hts, hg, hs, hlk, hnm⟩ := id hM
    refine lv_iload_n hx hb dX12_findsGroups_12 rfl (lo_at hl 2 rfl) ?_
    refine lv_bipush (v := 8) hx hb dX12_findsGroups_13 (by decide) ?_
    refine lv_icmp_ge (tgt := 31) hx hb dX12_findsGroups_15 (by decide) (fun c5 => ?_) (fun c5 => ?_)
    ·
      replace hw := (if_pos c5).mp hw
      exact hK31  h H locs ls hC (lo_sub hl [0, 1] rfl) hw
    ·
      replace hw := (if_neg c5).mp hw
      refine lv_aload_n hx hb dX12_findsGroups_18 rfl (lo_at hl 0 rfl) ?_
      obtain ⟨k6, hw⟩ := hw
      refine s_getR hx hb hts hown hg hC fb_10_59 k6 mk_f_RX12_129 dX12_findsGroups_19 ?_
      refine lv_iload_n hx hb dX12_findsGroups_22 rfl (lo_at hl 2 rfl) ?_
      refine lv_iload_n hx hb dX12_findsGroups_23 rfl (lo_at hl 2 rfl) ?_
      obtain ⟨k7, hw⟩ := hw
      refine sf_3 k7.1 ?_
      refine s_iast hx hb hg hC k7.2.1 k7.2.2 dX12_findsGroups_24 (fun h8 H locs eh8 hC => ?_)
      replace hw := hw h8 eh8
      obtain ⟨v9, ev9⟩ : ∃ y : Int32, y = x2 + (1 : Int32) := ⟨_, rfl⟩
      replace hw := hw v9 ev9
      refine lo_iinc (v := v9) (lv' := [(2, .int v9), (0, .ref (A o)), (1, .int x1)]) hx hb dX12_findsGroups_25 hl (k := 2) rfl (by rw [ev9]; rfl) (by decide) rfl (fun ls hl => ?_)
      refine lv_goto (tgt := 12) hx hb dX12_findsGroups_28 (by decide) ?_
      exact ih v9 h8 H locs ls hC (lo_sub hl [1, 2, 0] rfl) hw
set_option maxHeartbeats 4000000 in
set_option maxRecDepth 100000 in
theorem t_X12_findsGroups_J93 {p : Program} {l : Launch} {e : Env} {s : State} {m : MethodId} {args : Array Value} {below : List Frame} {meth : Method} {c : Code} {G : GG} {base : Nat} {A : Nat → Nat} {g0 : Hp} (hM : Mx G base p s m args meth c cX12_findsGroups 5 none RX12 "findsGroups") (o : Nat) (x1 : Int32) (x2 : Int32) (x3 : Int32) (x4 : Int32) (KH : Int32 → Hp → Prop) (K115 : Hp → Prop) (Q : Hp → Prop) (hKH : ∀ (y3 : Int32) (h : Hp) (H : Heap) (locs : List Loc) (ls : Array Slot), Cx2 G base A g0 A h s.heap H locs → lo_has ls 5 [(0, .ref (A o)), (1, .int x1), (2, .int x2), (3, .int y3)] → KH y3 h → W p l e rm_X12_findsGroups s m args below meth c H locs 0 0 (MQ below (va_Qv Q (PU2 G base A g0 A) (fun q => base ≤ q)) args s 0 0 (fun q => base ≤ q)) (F0 m 43 ls [])) (hK115 : ∀ (h : Hp) (H : Heap) (locs : List Loc) (ls : Array Slot), Cx2 G base A g0 A h s.heap H locs → lo_has ls 5 [(0, .ref (A o)), (1, .int x1), (2, .int x2)] → K115 h → W p l e rm_X12_findsGroups s m args below meth c H locs 0 0 (MQ below (va_Qv Q (PU2 G base A g0 A) (fun q => base ≤ q)) args s 0 0 (fun q => base ≤ q)) (F0 m 115 ls [])) (h : Hp) (H : Heap) (locs : List Loc) (ls : Array Slot) : Cx2 G base A g0 A h s.heap H locs → lo_has ls 5 [(0, .ref (A o)), (1, .int x1), (2, .int x2), (3, .int x3), (4, .int x4)] → wp_X12_findsGroups_J93 o x1 x2 x3 x4 KH K115 Q h → W p l e rm_X12_findsGroups s m args below meth c H locs 0 0 (MQ below (va_Qv Q (PU2 G base A g0 A) (fun q => base ≤ q)) args s 0 0 (fun q => base ≤ q)) (F0 m 93 ls []) := by
  intro hC hl hw
  unfold wp_X12_findsGroups_J93 at hw
  obtain ⟨hx, hb, hr, hml, hown, hts, hg, hs, hlk, hnm⟩ := id hM
  refine lv_aload_n hx hb dX12_findsGroups_93 rfl (lo_at hl 0 rfl) ?_
  refine lv_bipush (v := 8) hx hb dX12_findsGroups_94 (by decide) ?_
  refine lv_iload_n hx hb dX12_findsGroups_96 rfl (lo_at hl 2 rfl) ?_
  refine lv_imul hx hb dX12_findsGroups_97 ?_
  refine lv_iload_n hx hb dX12_findsGroups_98 rfl (lo_at hl 3 rfl) ?_
  refine lv_iadd hx hb dX12_findsGroups_99 ?_
  obtain ⟨k23, hw⟩ := hw
  refine s_putI hx hb hts hown hg hC fb_10_60 k23 rfl rfl mk_f_RX12_358 dX12_findsGroups_100 (fun h24 H locs eh24 hC => ?_)
  replace hw := hw h24 eh24
  refine lv_aload_n hx hb dX12_findsGroups_103 rfl (lo_at hl 0 rfl) ?_
  refine lv_iload hx hb dX12_findsGroups_104 (lo_at hl 4 rfl) ?_
  obtain ⟨k25, hw⟩ := hw
  refine s_putI hx hb hts hown hg hC fb_10_61 k25 rfl rfl mk_f_RX12_361 dX12_findsGroups_106 (fun h26 H locs eh26 hC => ?_)
  replace hw := hw h26 eh26
  obtain ⟨v27, ev27⟩ : ∃ y : Int32, y = x3 + (1 : Int32) := ⟨_, rfl⟩
  replace hw := hw v27 ev27
  refine lo_iinc (v := v27) (lv' := [(3, .int v27), (0, .ref (A o)), (1, .int x1), (2, .int x2), (4, .int x4)]) hx hb dX12_findsGroups_109 hl (k := 3) rfl (by rw [ev27]; rfl) (by decide) rfl (fun ls hl => ?_)
  refine lv_goto (tgt := 43) hx hb dX12_findsGroups_112 (by decide) ?_
  exact hKH v27 h26 H locs ls hC (lo_sub hl [1, 2, 3, 0] rfl) hw
set_option maxHeartbeats 4000000 in
set_option maxRecDepth 100000 in
theorem t_X12_findsGroups_L43 {p : Program} {l : Launch} {e : Env} {s : State} {m : MethodId} {args : Array Value} {below : List Frame} {meth : Method} {c : Code} {G : GG} {base : Nat} {A : Nat → Nat} {g0 : Hp} (hM : Mx G base p s m args meth c cX12_findsGroups 5 none RX12 "findsGroups") (o : Nat) (x1 : Int32) (x2 : Int32) (K115 : Hp → Prop) (Q : Hp → Prop) (hK115 : ∀ (h : Hp) (H : Heap) (locs : List Loc) (ls : Array Slot), Cx2 G base A g0 A h s.heap H locs → lo_has ls 5 [(0, .ref (A o)), (1, .int x1), (2, .int x2)] → K115 h → W p l e rm_X12_findsGroups s m args below meth c H locs 0 0 (MQ below (va_Qv Q (PU2 G base A g0 A) (fun q => base ≤ q)) args s 0 0 (fun q => base ≤ q)) (F0 m 115 ls [])) : ∀ (n : Nat) (x3 : Int32) (h : Hp) (H : Heap) (locs : List Loc) (ls : Array Slot), Cx2 G base A g0 A h s.heap H locs → lo_has ls 5 [(0, .ref (A o)), (1, .int x1), (2, .int x2), (3, .int x3)] → wp_X12_findsGroups_L43 o x1 x2 K115 Q n x3 h → W p l e rm_X12_findsGroups s m args below meth c H locs 0 0 (MQ below (va_Qv Q (PU2 G base A g0 A) (fun q => base ≤ q)) args s 0 0 (fun q => base ≤ q)) (F0 m 43 ls []) := by
  intro n
  induction n with
  | zero =>
    intro x3 h H locs ls hC hl hw
    rw [wp_X12_findsGroups_L43] at hw
    exact hw.elim
  | succ n ih =>
    intro x3 h H locs ls hC hl hw
    rw [wp_X12_findsGroups_L43] at hw
    obtain ⟨hx, hb, hr, hml, hown, hts, hg, hs, hlk, hnm⟩ := id hM
    refine lv_iload_n hx hb dX12_findsGroups_43 rfl (lo_at hl 3 rfl) ?_
    refine lv_bipush (v := 8) hx hb dX12_findsGroups_44 (by decide) ?_
    refine lv_icmp_ge (tgt := 115) hx hb dX12_findsGroups_46 (by decide) (fun c13 => ?_) (fun c13 => ?_)
    ·
      replace hw := (if_pos c13).mp hw
      exact hK115  h H locs ls hC (lo_sub hl [0, 1, 2] rfl) hw
    ·
      replace hw := (if_neg c13).mp hw
      refine lv_aload_n hx hb dX12_findsGroups_49 rfl (lo_at hl 0 rfl) ?_
      refine lv_iload_n hx hb dX12_findsGroups_50 rfl (lo_at hl 1 rfl) ?_
      refine lv_iload_n hx hb dX12_findsGroups_51 rfl (lo_at hl 2 rfl) ?_
      refine lv_iload_n hx hb dX12_findsGroups_52 rfl (lo_at hl 3 rfl) ?_
      obtain ⟨k14, hw⟩ := hw
      refine res2_i hC (run2_V (As := [.int x1, .int x2, .int x3]) (rest := []) hM hC hl.1.1 kv_RX12_364 (c_X12_bestOf l G base A o x1 x2 x3 h _ hw) (hc_10) k14 rfl rfl rfl ⟨Nat.le_of_ble_eq_true rfl, Nat.le_of_ble_eq_true rfl⟩ (Nat.le_of_ble_eq_true rfl) ⟨Nat.le_of_ble_eq_true rfl, Nat.le_of_ble_eq_true rfl⟩ dX12_findsGroups_53) (fun z16 h15 H locs hw hC => ?_)
      refine lo_istore (lv' := [(4, .int z16), (0, .ref (A o)), (1, .int x1), (2, .int x2), (3, .int x3)]) hx hb dX12_findsGroups_56 hl (by decide) rfl (fun ls hl => ?_)
      refine lv_iload hx hb dX12_findsGroups_58 (lo_at hl 0 rfl) ?_
      refine lv_iconst (v := -1) hx hb dX12_findsGroups_60 (by decide) ?_
      refine lv_icmp_ne (tgt := 67) hx hb dX12_findsGroups_61 (by decide) (fun c17 => ?_) (fun c17 => ?_)
      ·
        replace hw := (if_neg c17).mp hw
        refine lv_aload_n hx hb dX12_findsGroups_67 rfl (lo_at hl 1 rfl) ?_
        refine lv_iload_n hx hb dX12_findsGroups_68 rfl (lo_at hl 3 rfl) ?_
        refine lv_iload_n hx hb dX12_findsGroups_69 rfl (lo_at hl 4 rfl) ?_
        obtain ⟨k18, hw⟩ := hw
        refine res2_v hC (run2_V (As := [.int x2, .int x3]) (rest := []) hM hC hl.1.1 kv_RX12_367 (c_X12_joins l G base A o x2 x3 h15 _ hw) (hc_10) k18 rfl rfl rfl ⟨Nat.le_of_ble_eq_true rfl, Nat.le_of_ble_eq_true rfl⟩ (Nat.le_of_ble_eq_true rfl) ⟨Nat.le_of_ble_eq_true rfl, Nat.le_of_ble_eq_true rfl⟩ dX12_findsGroups_70) (fun h19 H locs hw hC => ?_)
        refine lv_aload_n hx hb dX12_findsGroups_73 rfl (lo_at hl 1 rfl) ?_
        obtain ⟨k21, hw⟩ := hw
        refine s_getI hx hb hts hown hg hC fb_10_60 k21 mk_f_RX12_358 dX12_findsGroups_74 ?_
        refine lv_iconst (v := -1) hx hb dX12_findsGroups_77 (by decide) ?_
        refine lv_icmp_eq (tgt := 93) hx hb dX12_findsGroups_78 (by decide) (fun c22 => ?_) (fun c22 => ?_)
        ·
          replace hw := (if_pos c22).mp hw
          exact t_X12_findsGroups_J93 hM o x1 x2 x3 z16 (wp_X12_findsGroups_L43 o x1 x2 K115 Q n) K115 Q ih hK115 h19 H locs ls hC (lo_sub hl [1, 2, 3, 4, 0] rfl) hw
        ·
          replace hw := (if_neg c22).mp hw
          refine lv_iload hx hb dX12_findsGroups_81 (lo_at hl 0 rfl) ?_
          refine lv_aload_n hx hb dX12_findsGroups_83 rfl (lo_at hl 1 rfl) ?_
          refine s_getI hx hb hts hown hg hC fb_10_61 k21 mk_f_RX12_361 dX12_findsGroups_84 ?_
          refine lv_icmp_lt (tgt := 93) hx hb dX12_findsGroups_87 (by decide) (fun c28 => ?_) (fun c28 => ?_)
          ·
            replace hw := (if_pos c28).mp hw
            exact t_X12_findsGroups_J93 hM o x1 x2 x3 z16 (wp_X12_findsGroups_L43 o x1 x2 K115 Q n) K115 Q ih hK115 h19 H locs ls hC (lo_sub hl [1, 2, 3, 4, 0] rfl) hw
          ·
            replace hw := (if_neg c28).mp hw
            refine lv_goto (tgt := 109) hx hb dX12_findsGroups_90 (by decide) ?_
            obtain ⟨v29, ev29⟩ : ∃ y : Int32, y = x3 + (1 : Int32) := ⟨_, rfl⟩
            replace hw := hw v29 ev29
            refine lo_iinc (v := v29) (lv' := [(3, .int v29), (4, .int z16), (0, .ref (A o)), (1, .int x1), (2, .int x2)]) hx hb dX12_findsGroups_109 hl (k := 4) rfl (by rw [ev29]; rfl) (by decide) rfl (fun ls hl => ?_)
            refine lv_goto (tgt := 43) hx hb dX12_findsGroups_112 (by decide) ?_
            exact ih v29 h19 H locs ls hC (lo_sub hl [2, 3, 4, 0] rfl) hw
      ·
        replace hw := (if_pos c17).mp hw
        refine lv_goto (tgt := 109) hx hb dX12_findsGroups_64 (by decide) ?_
        obtain ⟨v30, ev30⟩ : ∃ y : Int32, y = x3 + (1 : Int32) := ⟨_, rfl⟩
        replace hw := hw v30 ev30
        refine lo_iinc (v := v30) (lv' := [(3, .int v30), (4, .int z16), (0, .ref (A o)), (1, .int x1), (2, .int x2)]) hx hb dX12_findsGroups_109 hl (k := 4) rfl (by rw [ev30]; rfl) (by decide) rfl (fun ls hl => ?_)
        refine lv_goto (tgt := 43) hx hb dX12_findsGroups_112 (by decide) ?_
        exact ih v30 h15 H locs ls hC (lo_sub hl [2, 3, 4, 0] rfl) hw
set_option maxHeartbeats 4000000 in
set_option maxRecDepth 100000 in
theorem t_X12_findsGroups_L33 {p : Program} {l : Launch} {e : Env} {s : State} {m : MethodId} {args : Array Value} {below : List Frame} {meth : Method} {c : Code} {G : GG} {base : Nat} {A : Nat → Nat} {g0 : Hp} (hM : Mx G base p s m args meth c cX12_findsGroups 5 none RX12 "findsGroups") (o : Nat) (x1 : Int32) (K121 : Hp → Prop) (Q : Hp → Prop) (hK121 : ∀ (h : Hp) (H : Heap) (locs : List Loc) (ls : Array Slot), Cx2 G base A g0 A h s.heap H locs → lo_has ls 5 [] → K121 h → W p l e rm_X12_findsGroups s m args below meth c H locs 0 0 (MQ below (va_Qv Q (PU2 G base A g0 A) (fun q => base ≤ q)) args s 0 0 (fun q => base ≤ q)) (F0 m 121 ls [])) : ∀ (n : Nat) (x2 : Int32) (h : Hp) (H : Heap) (locs : List Loc) (ls : Array Slot), Cx2 G base A g0 A h s.heap H locs → lo_has ls 5 [(0, .ref (A o)), (1, .int x1), (2, .int x2)] → wp_X12_findsGroups_L33 o x1 K121 Q n x2 h → W p l e rm_X12_findsGroups s m args below meth c H locs 0 0 (MQ below (va_Qv Q (PU2 G base A g0 A) (fun q => base ≤ q)) args s 0 0 (fun q => base ≤ q)) (F0 m 33 ls []) := by
  intro n
  induction n with
  | zero =>
    intro x2 h H locs ls hC hl hw
    rw [wp_X12_findsGroups_L33] at hw
    exact hw.elim
  | succ n ih =>
    intro x2 h H locs ls hC hl hw
    rw [wp_X12_findsGroups_L33] at hw
    obtain ⟨hx, hb, hr, hml, hown, hts, hg, hs, hlk, hnm⟩ := id hM
    refine lv_iload_n hx hb dX12_findsGroups_33 rfl (lo_at hl 2 rfl) ?_
    refine lv_bipush (v := 8) hx hb dX12_findsGroups_34 (by decide) ?_
    refine lv_icmp_ge (tgt := 121) hx hb dX12_findsGroups_36 (by decide) (fun c11 => ?_) (fun c11 => ?_)
    ·
      replace hw := (if_pos c11).mp hw
      exact hK121  h H locs ls hC (lo_sub hl [] rfl) hw
    ·
      replace hw := (if_neg c11).mp hw
      refine lv_iload_n hx hb dX12_findsGroups_39 rfl (lo_at hl 2 rfl) ?_
      refine lv_iconst (v := 1) hx hb dX12_findsGroups_40 (by decide) ?_
      refine lv_iadd hx hb dX12_findsGroups_41 ?_
      refine lv_topi (fun v12 ev12 => ?_)
      replace hw := hw v12 ev12
      refine lo_istore_n (lv' := [(3, .int v12), (0, .ref (A o)), (1, .int x1), (2, .int x2)]) hx hb dX12_findsGroups_42 rfl hl (by decide) rfl (fun ls hl => ?_)
      refine t_X12_findsGroups_L43 hM o x1 x2 _ Q ?_ fuel v12 h H locs ls hC (lo_sub hl [1, 2, 3, 0] rfl) hw
      intro  h31 H locs ls hC hl hw
      obtain ⟨v32, ev32⟩ : ∃ y : Int32, y = x2 + (1 : Int32) := ⟨_, rfl⟩
      replace hw := hw v32 ev32
      refine lo_iinc (v := v32) (lv' := [(2, .int v32), (0, .ref (A o)), (1, .int x1)]) hx hb dX12_findsGroups_115 hl (k := 2) rfl (by rw [ev32]; rfl) (by decide) rfl (fun ls hl => ?_)
      refine lv_goto (tgt := 33) hx hb dX12_findsGroups_118 (by decide) ?_
      exact ih v32 h31 H locs ls hC (lo_sub hl [1, 2, 0] rfl) hw
set_option maxHeartbeats 4000000 in
set_option maxRecDepth 100000 in
theorem c_X12_findsGroups (l : Launch) (G : GG) (base : Nat) (A : Nat → Nat) (o : Nat) (x1 : Int32) (h : Hp) (Q : Hp → Prop) (hw : wp_X12_findsGroups o x1 h Q) : Met l yX12_findsGroups (ww yX12_findsGroups cX12_findsGroups 5 none) rm_X12_findsGroups (va_Pc [.ref (A o), .int x1] (PU2 G base A h A h)) (va_Qv Q (PU2 G base A h A) (fun q => base ≤ q)) 0 0 (fun q => base ≤ q) := by
  refine met2_of (own := RX12) (nm := "findsGroups") (by decide) rfl rfl (List.forall_mem_cons.mpr ⟨rfl, (List.forall_mem_cons.mpr ⟨rfl, (fun _ h => absurd h List.not_mem_nil)⟩)⟩) (Nat.le_of_ble_eq_true rfl) rfl ?_
  intro p e s m args below meth c H locs ls hM hC hl
  obtain ⟨hx, hb, hr, hml, hown, hts, hg, hs, hlk, hnm⟩ := id hM
  unfold wp_X12_findsGroups at hw
  refine lv_aload_n hx hb dX12_findsGroups_0 rfl (lo_at hl 0 rfl) ?_
  refine lv_iconst (v := -1) hx hb dX12_findsGroups_1 (by decide) ?_
  obtain ⟨k1, hw⟩ := hw
  refine s_putI hx hb hts hown hg hC fb_10_60 k1 rfl rfl mk_f_RX12_358 dX12_findsGroups_2 (fun h2 H locs eh2 hC => ?_)
  replace hw := hw h2 eh2
  refine lv_aload_n hx hb dX12_findsGroups_5 rfl (lo_at hl 0 rfl) ?_
  refine lv_iconst (v := -1) hx hb dX12_findsGroups_6 (by decide) ?_
  obtain ⟨k3, hw⟩ := hw
  refine s_putI hx hb hts hown hg hC fb_10_61 k3 rfl rfl mk_f_RX12_361 dX12_findsGroups_7 (fun h4 H locs eh4 hC => ?_)
  replace hw := hw h4 eh4
  refine lv_iconst (v := 0) hx hb dX12_findsGroups_10 (by decide) ?_
  refine lo_istore_n (lv' := [(2, .int ((0 : Int32))), (0, .ref (A o)), (1, .int x1)]) hx hb dX12_findsGroups_11 rfl hl (by decide) rfl (fun ls hl => ?_)
  refine t_X12_findsGroups_L12 hM o x1 _ Q ?_ fuel (0 : Int32) h4 H locs ls hC (lo_sub hl [1, 2, 0] rfl) hw
  intro  h10 H locs ls hC hl hw
  refine lv_iconst (v := 0) hx hb dX12_findsGroups_31 (by decide) ?_
  refine lo_istore_n (lv' := [(2, .int ((0 : Int32))), (0, .ref (A o)), (1, .int x1)]) hx hb dX12_findsGroups_32 rfl hl (by decide) rfl (fun ls hl => ?_)
  refine t_X12_findsGroups_L33 hM o x1 _ Q ?_ fuel (0 : Int32) h10 H locs ls hC (lo_sub hl [1, 2, 0] rfl) hw
  intro  h33 H locs ls hC hl hw
  exact ret2_v hM hC hw dX12_findsGroups_121
