abbrev rm_X12_findsGroups : Room := { frames := 6, cells := 0, slots := 0, locals := 159 }
def wp_X12_findsGroups_L12 (o : Nat) (x1 : Int32) (K31 : Hp → Prop) (Q : Hp → Prop) : Nat → Int32 → Hp → Prop
  | 0, _, _ => False
  | n + 1, x2, h => (if (8 : Int32) ≤ x2 then (K31 h) else (((hpK h o).1 = 20 + 10) ∧ (okA h (hpR h o 59) 1 x2 ∧ (∀ h8 : Hp, h8 = stI h (ad (hpR h o 59)) (x2).toNatClampNeg x2 → (∀ v9 : Int32, v9 = x2 + (1 : Int32) → (wp_X12_findsGroups_L12 o x1 K31 Q n v9 h8))))))
def wp_X12_findsGroups_J93 (o : Nat) (x1 : Int32) (x2 : Int32) (x3 : Int32) (x4 : Int32) (KH : Int32 → Hp → Prop) (K115 : Hp → Prop) (Q : Hp → Prop) (h : Hp) : Prop := ((hpK h o).1 = 20 + 10) ∧ (∀ h24 : Hp, h24 = stI h o 60 (((8 : Int32) * x2) + x3) → (((hpK h24 o).1 = 20 + 10) ∧ (∀ h26 : Hp, h26 = stI h24 o 61 x4 → (∀ v27 : Int32, v27 = x3 + (1 : Int32) → (KH v27 h26)))))
def wp_X12_findsGroups_L43 (o : Nat) (x1 : Int32) (x2 : Int32) (K115 : Hp → Prop) (Q : Hp → Prop) : Nat → Int32 → Hp → Prop
  | 0, _, _ => False
  | n + 1, x3, h => (if (8 : Int32) ≤ x3 then (K115 h) else (((hpK h o).1 = 20 + 10) ∧ (wp_X12_bestOf o x1 x2 x3 h (fun (z16 : Int32) (h15 : Hp) => (if z16 = (-1 : Int32) then (∀ v30 : Int32, v30 = x3 + (1 : Int32) → (wp_X12_findsGroups_L43 o x1 x2 K115 Q n v30 h15)) else (((hpK h15 o).1 = 20 + 10) ∧ (wp_X12_joins o x2 x3 h15 (fun (h19 : Hp) => ((hpK h19 o).1 = 20 + 10) ∧ ((if (hpI h19 o 60) = (-1 : Int32) then (wp_X12_findsGroups_J93 o x1 x2 x3 z16 (wp_X12_findsGroups_L43 o x1 x2 K115 Q n) K115 Q h19) else ((if z16 < (hpI h19 o 61) then (wp_X12_findsGroups_J93 o x1 x2 x3 z16 (wp_X12_findsGroups_L43 o x1 x2 K115 Q n) K115 Q h19) else (∀ v29 : Int32, v29 = x3 + (1 : Int32) → (wp_X12_findsGroups_L43 o x1 x2 K115 Q n v29 h19))))))))))))))
def wp_X12_findsGroups_L33 (o : Nat) (x1 : Int32) (K121 : Hp → Prop) (Q : Hp → Prop) : Nat → Int32 → Hp → Prop
  | 0, _, _ => False
  | n + 1, x2, h => (if (8 : Int32) ≤ x2 then (K121 h) else (∀ v12 : Int32, v12 = x2 + (1 : Int32) → (wp_X12_findsGroups_L43 o x1 x2 (fun (h31 : Hp) => ∀ v32 : Int32, v32 = x2 + (1 : Int32) → (wp_X12_findsGroups_L33 o x1 K121 Q n v32 h31)) Q fuel v12 h)))
def wp_X12_findsGroups (o : Nat) (x1 : Int32) (h : Hp) (Q : Hp → Prop) : Prop := ((hpK h o).1 = 20 + 10) ∧ (∀ h2 : Hp, h2 = stI h o 60 (-1 : Int32) → (((hpK h2 o).1 = 20 + 10) ∧ (∀ h4 : Hp, h4 = stI h2 o 61 (-1 : Int32) → (wp_X12_findsGroups_L12 o x1 (fun (h10 : Hp) => wp_X12_findsGroups_L33 o x1 (fun (h33 : Hp) => Q h33) Q fuel (0 : Int32) h10) Q fuel (0 : Int32) h4))))
set_option maxHeartbeats 4000000 in
set_option maxRecDepth 100000 in
theorem t_X12_findsGroups_L12 {p : Program} {l : Launch} {e : Env} {s : State} {m : MethodId} {args : Array Value} {below : List Frame} {meth : Method} {c : Code} {G : GG} {base : Nat} (hM : Mx G base p s m args meth c cX12_findsGroups 5 none RX12 "findsGroups") (o : Nat) (x1 : Int32) (K31 : Hp → Prop) (Q : Hp → Prop) (hK31 : ∀ (h : Hp) (H : Heap) (locs : List Loc) (ls : Array Slot), Cx G base h s.heap H locs → lo_has ls 5 [(0, .ref o), (1, .int x1)] → K31 h → W p l e rm_X12_findsGroups s m args below meth c H locs 0 0 (MQ below (va_Qv Q (PU G base) (fun q => base ≤ q)) args s 0 0 (fun q => base ≤ q)) (F0 m 31 ls [])) : ∀ (n : Nat) (x2 : Int32) (h : Hp) (H : Heap) (locs : List Loc) (ls : Array Slot), Cx G base h s.heap H locs → lo_has ls 5 [(0, .ref o), (1, .int x1), (2, .int x2)] → wp_X12_findsGroups_L12 o x1 K31 Q n x2 h → W p l e rm_X12_findsGroups s m args below meth c H locs 0 0 (MQ below (va_Qv Q (PU G base) (fun q => base ≤ q)) args s 0 0 (fun q => base ≤ q)) (F0 m 12 ls []) := by
  intro n
  induction n with
  | zero =>
    intro x2 h H locs ls hC hl hw
    rw [wp_X12_findsGroups_L12] at hw
    exact hw.elim
  | succ n ih =>
    intro x2 h H locs ls hC hl hw
    rw [wp_X12_findsGroups_L12] at hw
    obtain ⟨hx, hb, hr, hml, hown, hts, hg, hs, hlk, hnm⟩ := id hM
    refine lv_iload_n hx hb dX12_findsGroups_12 rfl (lo_at hl 2 rfl) ?_
    refine lv_bipush (v := 8) hx hb dX12_findsGroups_13 (by decide) ?_
    refine lv_icmp_ge (tgt := 31) hx hb dX12_findsGroups_15 (by decide) (fun c5 => ?_) (fun c5 => ?_)
    ·
      replace hw := (if_pos c5).mp hw
      exact hK31  h H locs ls hC (lo_sub hl [0, 1] rfl) hw
    ·
      replace hw := (if_neg c5).mp hw
      refine lv_aload_n hx hb dX12_findsGroups_18 rfl (lo_at hl 0 rfl) ?_
      obtain ⟨k6, hw⟩ := hw
      refine r_getR hx hb hts hown hg hC fb_10_59 k6 mk_f_RX12_129 dX12_findsGroups_19 ?_
      refine lv_iload_n hx hb dX12_findsGroups_22 rfl (lo_at hl 2 rfl) ?_
      refine lv_iload_n hx hb dX12_findsGroups_23 rfl (lo_at hl 2 rfl) ?_
      obtain ⟨k7, hw⟩ := hw
      refine rf_3 k7.1 ?_
      refine r_iast hx hb hg hC k7.2.1 k7.2.2 dX12_findsGroups_24 (fun h8 H locs eh8 hC => ?_)
      replace hw := hw h8 eh8
      obtain ⟨v9, ev9⟩ : ∃ y : Int32, y = x2 + (1 : Int32) := ⟨_, rfl⟩
      replace hw := hw v9 ev9
      refine lo_iinc (v := v9) (lv' := [(2, .int v9), (0, .ref o), (1, .int x1)]) hx hb dX12_findsGroups_25 hl (k := 2) rfl (by rw [ev9]; rfl) (by decide) rfl (fun ls hl => ?_)
      refine lv_goto (tgt := 12) hx hb dX12_findsGroups_28 (by decide) ?_
      exact ih v9 h8 H locs ls hC (lo_sub hl [1, 2, 0] rfl) hw
set_option maxHeartbeats 4000000 in
set_option maxRecDepth 100000 in
theorem t_X12_findsGroups_J93 {p : Program} {l : Launch} {e : Env} {s : State} {m : MethodId} {args : Array Value} {below : List Frame} {meth : Method} {c : Code} {G : GG} {base : Nat} (hM : Mx G base p s m args meth c cX12_findsGroups 5 none RX12 "findsGroups") (o : Nat) (x1 : Int32) (x2 : Int32) (x3 : Int32) (x4 : Int32) (KH : Int32 → Hp → Prop) (K115 : Hp → Prop) (Q : Hp → Prop) (hKH : ∀ (y3 : Int32) (h : Hp) (H : Heap) (locs : List Loc) (ls : Array Slot), Cx G base h s.heap H locs → lo_has ls 5 [(0, .ref o), (1, .int x1), (2, .int x2), (3, .int y3)] → KH y3 h → W p l e rm_X12_findsGroups s m args below meth c H locs 0 0 (MQ below (va_Qv Q (PU G base) (fun q => base ≤ q)) args s 0 0 (fun q => base ≤ q)) (F0 m 43 ls [])) (hK115 : ∀ (h : Hp) (H : Heap) (locs : List Loc) (ls : Array Slot), Cx G base h s.heap H locs → lo_has ls 5 [(0, .ref o), (1, .int x1), (2, .int x2)] → K115 h → W p l e rm_X12_findsGroups s m args below meth c H locs 0 0 (MQ below (va_Qv Q (PU G base) (fun q => base ≤ q)) args s 0 0 (fun q => base ≤ q)) (F0 m 115 ls [])) (h : Hp) (H : Heap) (locs : List Loc) (ls : Array Slot) : Cx G base h s.heap H locs → lo_has ls 5 [(0, .ref o), (1, .int x1), (2, .int x2), (3, .int x3), (4, .int x4)] → wp_X12_findsGroups_J93 o x1 x2 x3 x4 KH K115 Q h → W p l e rm_X12_findsGroups s m args below meth c H locs 0 0 (MQ below (va_Qv Q (PU G base) (fun q => base ≤ q)) args s 0 0 (fun q => base ≤ q)) (F0 m 93 ls []) := by
  intro hC hl hw
  unfold wp_X12_findsGroups_J93 at hw
  obtain ⟨hx, hb, hr, hml, hown, hts, hg, hs, hlk, hnm⟩ := id hM
  refine lv_aload_n hx hb dX12_findsGroups_93 rfl (lo_at hl 0 rfl) ?_
  refine lv_bipush (v := 8) hx hb dX12_findsGroups_94 (by decide) ?_
  refine lv_iload_n hx hb dX12_findsGroups_96 rfl (lo_at hl 2 rfl) ?_
  refine lv_imul hx hb dX12_findsGroups_97 ?_
  refine lv_iload_n hx hb dX12_findsGroups_98 rfl (lo_at hl 3 rfl) ?_
  refine lv_iadd hx hb dX12_findsGroups_99 ?_
  obtain ⟨k23, hw⟩ := hw
  refine r_putI hx hb hts hown hg hC fb_10_60 k23 rfl rfl mk_f_RX12_358 dX12_findsGroups_100 (fun h24 H locs eh24 hC => ?_)
  replace hw := hw h24 eh24
  refine lv_aload_n hx hb dX12_findsGroups_103 rfl (lo_at hl 0 rfl) ?_
  refine lv_iload hx hb dX12_findsGroups_104 (lo_at hl 4 rfl) ?_
  obtain ⟨k25, hw⟩ := hw
  refine r_putI hx hb hts hown hg hC fb_10_61 k25 rfl rfl mk_f_RX12_361 dX12_findsGroups_106 (fun h26 H locs eh26 hC => ?_)
  replace hw := hw h26 eh26
  obtain ⟨v27, ev27⟩ : ∃ y : Int32, y = x3 + (1 : Int32) := ⟨_, rfl⟩
  replace hw := hw v27 ev27
  refine lo_iinc (v := v27) (lv' := [(3, .int v27), (0, .ref o), (1, .int x1), (2, .int x2), (4, .int x4)]) hx hb dX12_findsGroups_109 hl (k := 3) rfl (by rw [ev27]; rfl) (by decide) rfl (fun ls hl => ?_)
  refine lv_goto (tgt := 43) hx hb dX12_findsGroups_112 (by decide) ?_
  exact hKH v27 h26 H locs ls hC (lo_sub hl [1, 2, 3, 0] rfl) hw
set_option maxHeartbeats 4000000 in
set_option maxRecDepth 100000 in
theorem t_X12_findsGroups_L43 {p : Program} {l : Launch} {e : Env} {s : State} {m : MethodId} {args : Array Value} {below : List Frame} {meth : Method} {c : Code} {G : GG} {base : Nat} (hM : Mx G base p s m args meth c cX12_findsGroups 5 none RX12 "findsGroups") (o : Nat) (x1 : Int32) (x2 : Int32) (K115 : Hp → Prop) (Q : Hp → Prop) (hK115 : ∀ (h : Hp) (H : Heap) (locs : List Loc) (ls : Array Slot), Cx G base h s.heap H locs → lo_has ls 5 [(0, .ref o), (1, .int x1), (2, .int x2)] → K115 h → W p l e rm_X12_findsGroups s m args below meth c H locs 0 0 (MQ below (va_Qv Q (PU G base) (fun q => base ≤ q)) args s 0 0 (fun q => base ≤ q)) (F0 m 115 ls [])) : ∀ (n : Nat) (x3 : Int32) (h : Hp) (H : Heap) (locs : List Loc) (ls : Array Slot), Cx G base h s.heap H locs → lo_has ls 5 [(0, .ref o), (1, .int x1), (2, .int x2), (3, .int x3)] → wp_X12_findsGroups_L43 o x1 x2 K115 Q n x3 h → W p l e rm_X12_findsGroups s m args below meth c H locs 0 0 (MQ below (va_Qv Q (PU G base) (fun q => base ≤ q)) args s 0 0 (fun q => base ≤ q)) (F0 m 43 ls []) := by
  intro n
  induction n with
  | zero =>
    intro x3 h H locs ls hC hl hw
    rw [wp_X12_findsGroups_L43] at hw
    exact hw.elim
  | succ n ih =>
    intro x3 h H locs ls hC hl hw
    rw [wp_X12_findsGroups_L43] at hw
    obtain ⟨hx, hb, hr, hml, hown, hts, hg, hs, hlk, hnm⟩ := id hM
    refine lv_iload_n hx hb dX12_findsGroups_43 rfl (lo_at hl 3 rfl) ?_
    refine lv_bipush (v := 8) hx hb dX12_findsGroups_44 (by decide) ?_
    refine lv_icmp_ge (tgt := 115) hx hb dX12_findsGroups_46 (by decide) (fun c13 => ?_) (fun c13 => ?_)
    ·
      replace hw := (if_pos c13).mp hw
      exact hK115  h H locs ls hC (lo_sub hl [0, 1, 2] rfl) hw
    ·
      replace hw := (if_neg c13).mp hw
      refine lv_aload_n hx hb dX12_findsGroups_49 rfl (lo_at hl 0 rfl) ?_
      refine lv_iload_n hx hb dX12_findsGroups_50 rfl (lo_at hl 1 rfl) ?_
      refine lv_iload_n hx hb dX12_findsGroups_51 rfl (lo_at hl 2 rfl) ?_
      refine lv_iload_n hx hb dX12_findsGroups_52 rfl (lo_at hl 3 rfl) ?_
      obtain ⟨k14, hw⟩ := hw
      refine res_i hC (run_V (As := [.int x1, .int x2, .int x3]) (rest := []) hM hC hl.1.1 kv_RX12_364 (c_X12_bestOf l G base o x1 x2 x3 h _ hw) (hc_10) k14 rfl rfl rfl ⟨Nat.le_of_ble_eq_true rfl, Nat.le_of_ble_eq_true rfl⟩ (Nat.le_of_ble_eq_true rfl) ⟨Nat.le_of_ble_eq_true rfl, Nat.le_of_ble_eq_true rfl⟩ dX12_findsGroups_53) (fun z16 h15 H locs hw hC => ?_)
      refine lo_istore (lv' := [(4, .int z16), (0, .ref o), (1, .int x1), (2, .int x2), (3, .int x3)]) hx hb dX12_findsGroups_56 hl (by decide) rfl (fun ls hl => ?_)
      refine lv_iload hx hb dX12_findsGroups_58 (lo_at hl 0 rfl) ?_
      refine lv_iconst (v := -1) hx hb dX12_findsGroups_60 (by decide) ?_
      refine lv_icmp_ne (tgt := 67) hx hb dX12_findsGroups_61 (by decide) (fun c17 => ?_) (fun c17 => ?_)
      ·
        replace hw := (if_neg c17).mp hw
        refine lv_aload_n hx hb dX12_findsGroups_67 rfl (lo_at hl 1 rfl) ?_
        refine lv_iload_n hx hb dX12_findsGroups_68 rfl (lo_at hl 3 rfl) ?_
        refine lv_iload_n hx hb dX12_findsGroups_69 rfl (lo_at hl 4 rfl) ?_
        obtain ⟨k18, hw⟩ := hw
        refine res_v hC (run_V (As := [.int x2, .int x3]) (rest := []) hM hC hl.1.1 kv_RX12_367 (c_X12_joins l G base o x2 x3 h15 _ hw) (hc_10) k18 rfl rfl rfl ⟨Nat.le_of_ble_eq_true rfl, Nat.le_of_ble_eq_true rfl⟩ (Nat.le_of_ble_eq_true rfl) ⟨Nat.le_of_ble_eq_true rfl, Nat.le_of_ble_eq_true rfl⟩ dX12_findsGroups_70) (fun h19 H locs hw hC => ?_)
        refine lv_aload_n hx hb dX12_findsGroups_73 rfl (lo_at hl 1 rfl) ?_
        obtain ⟨k21, hw⟩ := hw
        refine r_getI hx hb hts hown hg hC fb_10_60 k21 mk_f_RX12_358 dX12_findsGroups_74 ?_
        refine lv_iconst (v := -1) hx hb dX12_findsGroups_77 (by decide) ?_
        refine lv_icmp_eq (tgt := 93) hx hb dX12_findsGroups_78 (by decide) (fun c22 => ?_) (fun c22 => ?_)
        ·
          replace hw := (if_pos c22).mp hw
          exact t_X12_findsGroups_J93 hM o x1 x2 x3 z16 (wp_X12_findsGroups_L43 o x1 x2 K115 Q n) K115 Q ih hK115 h19 H locs ls hC (lo_sub hl [1, 2, 3, 4, 0] rfl) hw
        ·
          replace hw := (if_neg c22).mp hw
          refine lv_iload hx hb dX12_findsGroups_81 (lo_at hl 0 rfl) ?_
          refine lv_aload_n hx hb dX12_findsGroups_83 rfl (lo_at hl 1 rfl) ?_
          refine r_getI hx hb hts hown hg hC fb_10_61 k21 mk_f_RX12_361 dX12_findsGroups_84 ?_
          refine lv_icmp_lt (tgt := 93) hx hb dX12_findsGroups_87 (by decide) (fun c28 => ?_) (fun c28 => ?_)
          ·
            replace hw := (if_pos c28).mp hw
            exact t_X12_findsGroups_J93 hM o x1 x2 x3 z16 (wp_X12_findsGroups_L43 o x1 x2 K115 Q n) K115 Q ih hK115 h19 H locs ls hC (lo_sub hl [1, 2, 3, 4, 0] rfl) hw
          ·
            replace hw := (if_neg c28).mp hw
            refine lv_goto (tgt := 109) hx hb dX12_findsGroups_90 (by decide) ?_
            obtain ⟨v29, ev29⟩ : ∃ y : Int32, y = x3 + (1 : Int32) := ⟨_, rfl⟩
            replace hw := hw v29 ev29
            refine lo_iinc (v := v29) (lv' := [(3, .int v29), (4, .int z16), (0, .ref o), (1, .int x1), (2, .int x2)]) hx hb dX12_findsGroups_109 hl (k := 4) rfl (by rw [ev29]; rfl) (by decide) rfl (fun ls hl => ?_)
            refine lv_goto (tgt := 43) hx hb dX12_findsGroups_112 (by decide) ?_
            exact ih v29 h19 H locs ls hC (lo_sub hl [2, 3, 4, 0] rfl) hw
      ·
        replace hw := (if_pos c17).mp hw
        refine lv_goto (tgt := 109) hx hb dX12_findsGroups_64 (by decide) ?_
        obtain ⟨v30, ev30⟩ : ∃ y : Int32, y = x3 + (1 : Int32) := ⟨_, rfl⟩
        replace hw := hw v30 ev30
        refine lo_iinc (v := v30) (lv' := [(3, .int v30), (4, .int z16), (0, .ref o), (1, .int x1), (2, .int x2)]) hx hb dX12_findsGroups_109 hl (k := 4) rfl (by rw [ev30]; rfl) (by decide) rfl (fun ls hl => ?_)
        refine lv_goto (tgt := 43) hx hb dX12_findsGroups_112 (by decide) ?_
        exact ih v30 h15 H locs ls hC (lo_sub hl [2, 3, 4, 0] rfl) hw
set_option maxHeartbeats 4000000 in
set_option maxRecDepth 100000 in
theorem t_X12_findsGroups_L33 {p : Program} {l : Launch} {e : Env} {s : State} {m : MethodId} {args : Array Value} {below : List Frame} {meth : Method} {c : Code} {G : GG} {base : Nat} (hM : Mx G base p s m args meth c cX12_findsGroups 5 none RX12 "findsGroups") (o : Nat) (x1 : Int32) (K121 : Hp → Prop) (Q : Hp → Prop) (hK121 : ∀ (h : Hp) (H : Heap) (locs : List Loc) (ls : Array Slot), Cx G base h s.heap H locs → lo_has ls 5 [] → K121 h → W p l e rm_X12_findsGroups s m args below meth c H locs 0 0 (MQ below (va_Qv Q (PU G base) (fun q => base ≤ q)) args s 0 0 (fun q => base ≤ q)) (F0 m 121 ls [])) : ∀ (n : Nat) (x2 : Int32) (h : Hp) (H : Heap) (locs : List Loc) (ls : Array Slot), Cx G base h s.heap H locs → lo_has ls 5 [(0, .ref o), (1, .int x1), (2, .int x2)] → wp_X12_findsGroups_L33 o x1 K121 Q n x2 h → W p l e rm_X12_findsGroups s m args below meth c H locs 0 0 (MQ below (va_Qv Q (PU G base) (fun q => base ≤ q)) args s 0 0 (fun q => base ≤ q)) (F0 m 33 ls []) := by
  intro n
  induction n with
  | zero =>
    intro x2 h H locs ls hC hl hw
    rw [wp_X12_findsGroups_L33] at hw
    exact hw.elim
  | succ n ih =>
    intro x2 h H locs ls hC hl hw
    rw [wp_X12_findsGroups_L33] at hw
    obtain ⟨hx, hb, hr, hml, hown, hts, hg, hs, hlk, hnm⟩ := id hM
    refine lv_iload_n hx hb dX12_findsGroups_33 rfl (lo_at hl 2 rfl) ?_
    refine lv_bipush (v := 8) hx hb dX12_findsGroups_34 (by decide) ?_
    refine lv_icmp_ge (tgt := 121) hx hb dX12_findsGroups_36 (by decide) (fun c11 => ?_) (fun c11 => ?_)
    ·
      replace hw := (if_pos c11).mp hw
      exact hK121  h H locs ls hC (lo_sub hl [] rfl) hw
    ·
      replace hw := (if_neg c11).mp hw
      refine lv_iload_n hx hb dX12_findsGroups_39 rfl (lo_at hl 2 rfl) ?_
      refine lv_iconst (v := 1) hx hb dX12_findsGroups_40 (by decide) ?_
      refine lv_iadd hx hb dX12_findsGroups_41 ?_
      refine lv_topi (fun v12 ev12 => ?_)
      replace hw := hw v12 ev12
      refine lo_istore_n (lv' := [(3, .int v12), (0, .ref o), (1, .int x1), (2, .int x2)]) hx hb dX12_findsGroups_42 rfl hl (by decide) rfl (fun ls hl => ?_)
      refine t_X12_findsGroups_L43 hM o x1 x2 _ Q ?_ fuel v12 h H locs ls hC (lo_sub hl [1, 2, 3, 0] rfl) hw
      intro  h31 H locs ls hC hl hw
      obtain ⟨v32, ev32⟩ : ∃ y : Int32, y = x2 + (1 : Int32) := ⟨_, rfl⟩
      replace hw := hw v32 ev32
      refine lo_iinc (v := v32) (lv' := [(2, .int v32), (0, .ref o), (1, .int x1)]) hx hb dX12_findsGroups_115 hl (k := 2) rfl (by rw [ev32]; rfl) (by decide) rfl (fun ls hl => ?_)
      refine lv_goto (tgt := 33) hx hb dX12_findsGroups_118 (by decide) ?_
      exact ih v32 h31 H locs ls hC (lo_sub hl [1, 2, 0] rfl) hw
set_option maxHeartbeats 4000000 in
set_option maxRecDepth 100000 in
theorem c_X12_findsGroups (l : Launch) (G : GG) (base : Nat) (o : Nat) (x1 : Int32) (h : Hp) (Q : Hp → Prop) (hw : wp_X12_findsGroups o x1 h Q) : Met l yX12_findsGroups (ww yX12_findsGroups cX12_findsGroups 5 none) rm_X12_findsGroups (va_Pc [.ref o, .int x1] (PU G base h)) (va_Qv Q (PU G base) (fun q => base ≤ q)) 0 0 (fun q => base ≤ q) := by
  refine met_of (own := RX12) (nm := "findsGroups") (by decide) rfl rfl (List.forall_mem_cons.mpr ⟨rfl, (List.forall_mem_cons.mpr ⟨rfl, (fun _ h => absurd h List.not_mem_nil)⟩)⟩) (Nat.le_of_ble_eq_true rfl) rfl ?_
  intro p e s m below meth c ls hM hC hl
  obtain ⟨hx, hb, hr, hml, hown, hts, hg, hs, hlk, hnm⟩ := id hM
  obtain ⟨args, hargs⟩ : ∃ a : Array Value, a = ([.ref o, .int x1] : List Value).toArray := ⟨_, rfl⟩
  rw [← hargs] at hM hts ⊢
  obtain ⟨H, hH⟩ : ∃ H : Heap, H = s.heap := ⟨_, rfl⟩
  obtain ⟨locs, hlocs⟩ : ∃ x : List Loc, x = [] := ⟨_, rfl⟩
  have hC : Cx G base h s.heap H locs := by rw [hH, hlocs]; exact hC
  show W p l e rm_X12_findsGroups s m args below meth c s.heap [] 0 0 (MQ below (va_Qv Q (PU G base) (fun q => base ≤ q)) args s 0 0 (fun q => base ≤ q)) (F0 m 0 ls [])
  rw [← hlocs]
  have hgoal : W p l e rm_X12_findsGroups s m args below meth c H locs 0 0 (MQ below (va_Qv Q (PU G base) (fun q => base ≤ q)) args s 0 0 (fun q => base ≤ q)) (F0 m 0 ls []) := ?_
  · rw [hH] at hgoal; exact hgoal
  clear hH hlocs
  unfold wp_X12_findsGroups at hw
  refine lv_aload_n hx hb dX12_findsGroups_0 rfl (lo_at hl 0 rfl) ?_
  refine lv_iconst (v := -1) hx hb dX12_findsGroups_1 (by decide) ?_
  obtain ⟨k1, hw⟩ := hw
  refine r_putI hx hb hts hown hg hC fb_10_60 k1 rfl rfl mk_f_RX12_358 dX12_findsGroups_2 (fun h2 H locs eh2 hC => ?_)
  replace hw := hw h2 eh2
  refine lv_aload_n hx hb dX12_findsGroups_5 rfl (lo_at hl 0 rfl) ?_
  refine lv_iconst (v := -1) hx hb dX12_findsGroups_6 (by decide) ?_
  obtain ⟨k3, hw⟩ := hw
  refine r_putI hx hb hts hown hg hC fb_10_61 k3 rfl rfl mk_f_RX12_361 dX12_findsGroups_7 (fun h4 H locs eh4 hC => ?_)
  replace hw := hw h4 eh4
  refine lv_iconst (v := 0) hx hb dX12_findsGroups_10 (by decide) ?_
  refine lo_istore_n (lv' := [(2, .int ((0 : Int32))), (0, .ref o), (1, .int x1)]) hx hb dX12_findsGroups_11 rfl hl (by decide) rfl (fun ls hl => ?_)
  refine t_X12_findsGroups_L12 hM o x1 _ Q ?_ fuel (0 : Int32) h4 H locs ls hC (lo_sub hl [1, 2, 0] rfl) hw
  intro  h10 H locs ls hC hl hw
  refine lv_iconst (v := 0) hx hb dX12_findsGroups_31 (by decide) ?_
  refine lo_istore_n (lv' := [(2, .int ((0 : Int32))), (0, .ref o), (1, .int x1)]) hx hb dX12_findsGroups_32 rfl hl (by decide) rfl (fun ls hl => ?_)
  refine t_X12_findsGroups_L33 hM o x1 _ Q ?_ fuel (0 : Int32) h10 H locs ls hC (lo_sub hl [1, 2, 0] rfl) hw
  intro  h33 H locs ls hC hl hw
  exact ret_v hM hC hw dX12_findsGroups_121
abbrev rm_X12_joined : Room := { frames := 7, cells := 0, slots := 0, locals := 183 }
def wp_X12_joined_L101 (o : Nat) (K142 : Int32 → Hp → Prop) (Q : Int32 → Hp → Prop) : Nat → Int32 → Int32 → Hp → Prop
  | 0, _, _, _ => False
  | n + 1, x3, x4, h => (if (8 : Int32) ≤ x4 then (K142 x3 h) else (((hpK h o).1 = 20 + 10) ∧ (okA h (hpR h o 58) 2 x4 ∧ (∀ v20 : Int64, v20 = hpL h (ad (hpR h o 58)) (x4).toNatClampNeg → ((if (lg_cmp v20 (0 : Int64)) = 0 then (∀ v22 : Int32, v22 = x4 + (1 : Int32) → (wp_X12_joined_L101 o K142 Q n x3 v22 h)) else (okA h (hpR h o 59) 1 x4 ∧ (∀ v24 : Int32, v24 = hpI h (ad (hpR h o 59)) (x4).toNatClampNeg → ((if v24 = x4 then (∀ v27 : Int32, v27 = x3 + (1 : Int32) → (∀ v28 : Int32, v28 = x4 + (1 : Int32) → (wp_X12_joined_L101 o K142 Q n v27 v28 h))) else (∀ v26 : Int32, v26 = x4 + (1 : Int32) → (wp_X12_joined_L101 o K142 Q n x3 v26 h))))))))))))
def wp_X12_joined_J37 (o : Nat) (x1 : Int32) (x2 : Int32) (Q : Int32 → Hp → Prop) (h : Hp) : Prop := ((hpK h o).1 = 20 + 10) ∧ (wp_X12_findsGroups o x1 h (fun (h12 : Hp) => (if x2 = (1 : Int32) then (((hpK h12 o).1 = 20 + 10) ∧ (Q (hpI h12 o 60) h12)) else ((if x2 = (2 : Int32) then (((hpK h12 o).1 = 20 + 10) ∧ (Q (hpI h12 o 61) h12)) else ((if x2 < (10 : Int32) then (wp_X12_joined_L101 o (fun (y30 : Int32) (h29 : Hp) => Q y30 h29) Q fuel (0 : Int32) (0 : Int32) h12) else (((hpK h12 o).1 = 20 + 10) ∧ (okA h12 (hpR h12 o 58) 2 (x2 - (10 : Int32)) ∧ (∀ v33 : Int64, v33 = hpL h12 (ad (hpR h12 o 58)) (x2 - (10 : Int32)).toNatClampNeg → ((if (lg_cmp v33 (0 : Int64)) = 0 then (Q (-1 : Int32) h12) else (okA h12 (hpR h12 o 59) 1 (x2 - (10 : Int32)) ∧ (∀ v36 : Int32, v36 = hpI h12 (ad (hpR h12 o 59)) (x2 - (10 : Int32)).toNatClampNeg → (Q v36 h12)))))))))))))))
def wp_X12_joined (o : Nat) (x1 : Int32) (x2 : Int32) (h : Hp) (Q : Int32 → Hp → Prop) : Prop := ((hpK h o).1 = 20 + 10) ∧ (∀ h2 : Hp, h2 = stI h o 0 (0 : Int32) → (((hpK h2 o).1 = 20 + 10) ∧ (wp_X12_isLooker o x1 h2 (fun (z5 : Int32) (h4 : Hp) => (if z5 = 0 then (Q (-1 : Int32) h4) else (((hpK h4 o).1 = 20 + 10) ∧ (wp_X12_isIn o x2 (0 : Int32) (2 : Int32) h4 (fun (z9 : Int32) (h8 : Hp) => (if z9 = 0 then (((hpK h8 o).1 = 20 + 10) ∧ (wp_X12_isIn o x2 (10 : Int32) (17 : Int32) h8 (fun (z41 : Int32) (h40 : Hp) => (if z41 = 0 then (Q (-1 : Int32) h40) else (wp_X12_joined_J37 o x1 x2 Q h40))))) else (wp_X12_joined_J37 o x1 x2 Q h8))))))))))
set_option maxHeartbeats 4000000 in
set_option maxRecDepth 100000 in
theorem t_X12_joined_L101 {p : Program} {l : Launch} {e : Env} {s : State} {m : MethodId} {args : Array Value} {below : List Frame} {meth : Method} {c : Code} {G : GG} {base : Nat} (hM : Mx G base p s m args meth c cX12_joined 5 (some .int) RX12 "joined") (o : Nat) (K142 : Int32 → Hp → Prop) (Q : Int32 → Hp → Prop) (hK142 : ∀ (y3 : Int32) (h : Hp) (H : Heap) (locs : List Loc) (ls : Array Slot), Cx G base h s.heap H locs → lo_has ls 5 [(3, .int y3)] → K142 y3 h → W p l e rm_X12_joined s m args below meth c H locs 0 0 (MQ below (va_Qi Q (PU G base) (fun q => base ≤ q)) args s 0 0 (fun q => base ≤ q)) (F0 m 142 ls [])) : ∀ (n : Nat) (x3 : Int32) (x4 : Int32) (h : Hp) (H : Heap) (locs : List Loc) (ls : Array Slot), Cx G base h s.heap H locs → lo_has ls 5 [(0, .ref o), (3, .int x3), (4, .int x4)] → wp_X12_joined_L101 o K142 Q n x3 x4 h → W p l e rm_X12_joined s m args below meth c H locs 0 0 (MQ below (va_Qi Q (PU G base) (fun q => base ≤ q)) args s 0 0 (fun q => base ≤ q)) (F0 m 101 ls []) := by
  intro n
  induction n with
  | zero =>
    intro x3 x4 h H locs ls hC hl hw
    rw [wp_X12_joined_L101] at hw
    exact hw.elim
  | succ n ih =>
    intro x3 x4 h H locs ls hC hl hw
    rw [wp_X12_joined_L101] at hw
    obtain ⟨hx, hb, hr, hml, hown, hts, hg, hs, hlk, hnm⟩ := id hM
    refine lv_iload hx hb dX12_joined_101 (lo_at hl 2 rfl) ?_
    refine lv_bipush (v := 8) hx hb dX12_joined_103 (by decide) ?_
    refine lv_icmp_ge (tgt := 142) hx hb dX12_joined_105 (by decide) (fun c17 => ?_) (fun c17 => ?_)
    ·
      replace hw := (if_pos c17).mp hw
      exact hK142 x3 h H locs ls hC (lo_sub hl [1] rfl) hw
    ·
      replace hw := (if_neg c17).mp hw
      refine lv_aload_n hx hb dX12_joined_108 rfl (lo_at hl 0 rfl) ?_
      obtain ⟨k18, hw⟩ := hw
      refine r_getR hx hb hts hown hg hC fb_10_58 k18 mk_f_RX12_125 dX12_joined_109 ?_
      refine lv_iload hx hb dX12_joined_112 (lo_at hl 2 rfl) ?_
      obtain ⟨k19, hw⟩ := hw
      refine rf_2 k19.1 ?_
      refine r_lald hx hb hg hC k19.2.1 k19.2.2 dX12_joined_114 ?_
      refine lv_topl (fun v20 ev20 => ?_)
      replace hw := hw v20 ev20
      refine lv_lconst (v := 0) hx hb dX12_joined_115 (by decide) ?_
      refine W.lcmp hx hb dX12_joined_116 ?_
      refine lv_if_eq (tgt := 136) hx hb dX12_joined_117 (by decide) (fun c21 => ?_) (fun c21 => ?_)
      ·
        replace hw := (if_pos c21).mp hw
        obtain ⟨v22, ev22⟩ : ∃ y : Int32, y = x4 + (1 : Int32) := ⟨_, rfl⟩
        replace hw := hw v22 ev22
        refine lo_iinc (v := v22) (lv' := [(4, .int v22), (0, .ref o), (3, .int x3)]) hx hb dX12_joined_136 hl (k := 2) rfl (by rw [ev22]; rfl) (by decide) rfl (fun ls hl => ?_)
        refine lv_goto (tgt := 101) hx hb dX12_joined_139 (by decide) ?_
        exact ih x3 v22 h H locs ls hC (lo_sub hl [1, 2, 0] rfl) hw
      ·
        replace hw := (if_neg c21).mp hw
        refine lv_aload_n hx hb dX12_joined_120 rfl (lo_at hl 0 rfl) ?_
        refine r_getR hx hb hts hown hg hC fb_10_59 k18 mk_f_RX12_129 dX12_joined_121 ?_
        refine lv_iload hx hb dX12_joined_124 (lo_at hl 2 rfl) ?_
        obtain ⟨k23, hw⟩ := hw
        refine rf_2 k23.1 ?_
        refine r_iald hx hb hg hC k23.2.1 k23.2.2 dX12_joined_126 ?_
        refine lv_topi (fun v24 ev24 => ?_)
        replace hw := hw v24 ev24
        refine lv_iload hx hb dX12_joined_127 (lo_at hl 2 rfl) ?_
        refine lv_icmp_ne (tgt := 136) hx hb dX12_joined_129 (by decide) (fun c25 => ?_) (fun c25 => ?_)
        ·
          replace hw := (if_neg c25).mp hw
          obtain ⟨v26, ev26⟩ : ∃ y : Int32, y = x4 + (1 : Int32) := ⟨_, rfl⟩
          replace hw := hw v26 ev26
          refine lo_iinc (v := v26) (lv' := [(4, .int v26), (0, .ref o), (3, .int x3)]) hx hb dX12_joined_136 hl (k := 2) rfl (by rw [ev26]; rfl) (by decide) rfl (fun ls hl => ?_)
          refine lv_goto (tgt := 101) hx hb dX12_joined_139 (by decide) ?_
          exact ih x3 v26 h H locs ls hC (lo_sub hl [1, 2, 0] rfl) hw
        ·
          replace hw := (if_pos c25).mp hw
          refine lv_iload_n hx hb dX12_joined_132 rfl (lo_at hl 1 rfl) ?_
          refine lv_iconst (v := 1) hx hb dX12_joined_133 (by decide) ?_
          refine lv_iadd hx hb dX12_joined_134 ?_
          refine lv_topi (fun v27 ev27 => ?_)
          replace hw := hw v27 ev27
          refine lo_istore_n (lv' := [(3, .int v27), (0, .ref o), (4, .int x4)]) hx hb dX12_joined_135 rfl hl (by decide) rfl (fun ls hl => ?_)
          obtain ⟨v28, ev28⟩ : ∃ y : Int32, y = x4 + (1 : Int32) := ⟨_, rfl⟩
          replace hw := hw v28 ev28
          refine lo_iinc (v := v28) (lv' := [(4, .int v28), (3, .int v27), (0, .ref o)]) hx hb dX12_joined_136 hl (k := 2) rfl (by rw [ev28]; rfl) (by decide) rfl (fun ls hl => ?_)
          refine lv_goto (tgt := 101) hx hb dX12_joined_139 (by decide) ?_
          exact ih v27 v28 h H locs ls hC (lo_sub hl [2, 1, 0] rfl) hw
set_option maxHeartbeats 4000000 in
set_option maxRecDepth 100000 in
theorem t_X12_joined_J37 {p : Program} {l : Launch} {e : Env} {s : State} {m : MethodId} {args : Array Value} {below : List Frame} {meth : Method} {c : Code} {G : GG} {base : Nat} (hM : Mx G base p s m args meth c cX12_joined 5 (some .int) RX12 "joined") (o : Nat) (x1 : Int32) (x2 : Int32) (Q : Int32 → Hp → Prop) (h : Hp) (H : Heap) (locs : List Loc) (ls : Array Slot) : Cx G base h s.heap H locs → lo_has ls 5 [(0, .ref o), (1, .int x1), (2, .int x2)] → wp_X12_joined_J37 o x1 x2 Q h → W p l e rm_X12_joined s m args below meth c H locs 0 0 (MQ below (va_Qi Q (PU G base) (fun q => base ≤ q)) args s 0 0 (fun q => base ≤ q)) (F0 m 37 ls []) := by
  intro hC hl hw
  unfold wp_X12_joined_J37 at hw
  obtain ⟨hx, hb, hr, hml, hown, hts, hg, hs, hlk, hnm⟩ := id hM
  refine lv_aload_n hx hb dX12_joined_37 rfl (lo_at hl 0 rfl) ?_
  refine lv_iload_n hx hb dX12_joined_38 rfl (lo_at hl 1 rfl) ?_
  obtain ⟨k11, hw⟩ := hw
  refine res_v hC (run_V (As := [.int x1]) (rest := []) hM hC hl.1.1 kv_RX12_370 (c_X12_findsGroups l G base o x1 h _ hw) (hc_10) k11 rfl rfl rfl ⟨Nat.le_of_ble_eq_true rfl, Nat.le_of_ble_eq_true rfl⟩ (Nat.le_of_ble_eq_true rfl) ⟨Nat.le_of_ble_eq_true rfl, Nat.le_of_ble_eq_true rfl⟩ dX12_joined_39) (fun h12 H locs hw hC => ?_)
  refine lv_iload_n hx hb dX12_joined_42 rfl (lo_at hl 2 rfl) ?_
  refine lv_iconst (v := 1) hx hb dX12_joined_43 (by decide) ?_
  refine lv_icmp_ne (tgt := 52) hx hb dX12_joined_44 (by decide) (fun c14 => ?_) (fun c14 => ?_)
  ·
    replace hw := (if_neg c14).mp hw
    refine lv_iload_n hx hb dX12_joined_52 rfl (lo_at hl 2 rfl) ?_
    refine lv_iconst (v := 2) hx hb dX12_joined_53 (by decide) ?_
    refine lv_icmp_ne (tgt := 62) hx hb dX12_joined_54 (by decide) (fun c15 => ?_) (fun c15 => ?_)
    ·
      replace hw := (if_neg c15).mp hw
      refine lv_iload_n hx hb dX12_joined_62 rfl (lo_at hl 2 rfl) ?_
      refine lv_bipush (v := 10) hx hb dX12_joined_63 (by decide) ?_
      refine lv_icmp_lt (tgt := 96) hx hb dX12_joined_65 (by decide) (fun c16 => ?_) (fun c16 => ?_)
      ·
        replace hw := (if_pos c16).mp hw
        refine lv_iconst (v := 0) hx hb dX12_joined_96 (by decide) ?_
        refine lo_istore_n (lv' := [(3, .int ((0 : Int32))), (0, .ref o), (1, .int x1), (2, .int x2)]) hx hb dX12_joined_97 rfl hl (by decide) rfl (fun ls hl => ?_)
        refine lv_iconst (v := 0) hx hb dX12_joined_98 (by decide) ?_
        refine lo_istore (lv' := [(4, .int ((0 : Int32))), (3, .int ((0 : Int32))), (0, .ref o), (1, .int x1), (2, .int x2)]) hx hb dX12_joined_99 hl (by decide) rfl (fun ls hl => ?_)
        refine t_X12_joined_L101 hM o _ Q ?_ fuel (0 : Int32) (0 : Int32) h12 H locs ls hC (lo_sub hl [2, 1, 0] rfl) hw
        intro y30 h29 H locs ls hC hl hw
        refine lv_iload_n hx hb dX12_joined_142 rfl (lo_at hl 0 rfl) ?_
        exact ret_i hM hC hw dX12_joined_143
      ·
        replace hw := (if_neg c16).mp hw
        refine lv_aload_n hx hb dX12_joined_68 rfl (lo_at hl 0 rfl) ?_
        obtain ⟨k31, hw⟩ := hw
        refine r_getR hx hb hts hown hg hC fb_10_58 k31 mk_f_RX12_125 dX12_joined_69 ?_
        refine lv_iload_n hx hb dX12_joined_72 rfl (lo_at hl 2 rfl) ?_
        refine lv_bipush (v := 10) hx hb dX12_joined_73 (by decide) ?_
        refine lv_isub hx hb dX12_joined_75 ?_
        obtain ⟨k32, hw⟩ := hw
        refine rf_2 k32.1 ?_
        refine r_lald hx hb hg hC k32.2.1 k32.2.2 dX12_joined_76 ?_
        refine lv_topl (fun v33 ev33 => ?_)
        replace hw := hw v33 ev33
        refine lv_lconst (v := 0) hx hb dX12_joined_77 (by decide) ?_
        refine W.lcmp hx hb dX12_joined_78 ?_
        refine lv_if_ne (tgt := 86) hx hb dX12_joined_79 (by decide) (fun c34 => ?_) (fun c34 => ?_)
        ·
          replace hw := (if_neg c34).mp hw
          refine lv_aload_n hx hb dX12_joined_86 rfl (lo_at hl 0 rfl) ?_
          refine r_getR hx hb hts hown hg hC fb_10_59 k31 mk_f_RX12_129 dX12_joined_87 ?_
          refine lv_iload_n hx hb dX12_joined_90 rfl (lo_at hl 2 rfl) ?_
          refine lv_bipush (v := 10) hx hb dX12_joined_91 (by decide) ?_
          refine lv_isub hx hb dX12_joined_93 ?_
          obtain ⟨k35, hw⟩ := hw
          refine rf_2 k35.1 ?_
          refine r_iald hx hb hg hC k35.2.1 k35.2.2 dX12_joined_94 ?_
          refine lv_topi (fun v36 ev36 => ?_)
          replace hw := hw v36 ev36
          exact ret_i hM hC hw dX12_joined_95
        ·
          replace hw := (if_pos c34).mp hw
          refine lv_iconst (v := -1) hx hb dX12_joined_82 (by decide) ?_
          refine lv_goto (tgt := 95) hx hb dX12_joined_83 (by decide) ?_
          exact ret_i hM hC hw dX12_joined_95
    ·
      replace hw := (if_pos c15).mp hw
      refine lv_aload_n hx hb dX12_joined_57 rfl (lo_at hl 0 rfl) ?_
      obtain ⟨k37, hw⟩ := hw
      refine r_getI hx hb hts hown hg hC fb_10_61 k37 mk_f_RX12_361 dX12_joined_58 ?_
      exact ret_i hM hC hw dX12_joined_61
  ·
    replace hw := (if_pos c14).mp hw
    refine lv_aload_n hx hb dX12_joined_47 rfl (lo_at hl 0 rfl) ?_
    obtain ⟨k38, hw⟩ := hw
    refine r_getI hx hb hts hown hg hC fb_10_60 k38 mk_f_RX12_358 dX12_joined_48 ?_
    exact ret_i hM hC hw dX12_joined_51
set_option maxHeartbeats 4000000 in
set_option maxRecDepth 100000 in
theorem c_X12_joined (l : Launch) (G : GG) (base : Nat) (o : Nat) (x1 : Int32) (x2 : Int32) (h : Hp) (Q : Int32 → Hp → Prop) (hw : wp_X12_joined o x1 x2 h Q) : Met l yX12_joined (ww yX12_joined cX12_joined 5 (some .int)) rm_X12_joined (va_Pc [.ref o, .int x1, .int x2] (PU G base h)) (va_Qi Q (PU G base) (fun q => base ≤ q)) 0 0 (fun q => base ≤ q) := by
  refine met_of (own := RX12) (nm := "joined") (by decide) rfl rfl (List.forall_mem_cons.mpr ⟨rfl, (List.forall_mem_cons.mpr ⟨rfl, (List.forall_mem_cons.mpr ⟨rfl, (fun _ h => absurd h List.not_mem_nil)⟩)⟩)⟩) (Nat.le_of_ble_eq_true rfl) rfl ?_
  intro p e s m below meth c ls hM hC hl
  obtain ⟨hx, hb, hr, hml, hown, hts, hg, hs, hlk, hnm⟩ := id hM
  obtain ⟨args, hargs⟩ : ∃ a : Array Value, a = ([.ref o, .int x1, .int x2] : List Value).toArray := ⟨_, rfl⟩
  rw [← hargs] at hM hts ⊢
  obtain ⟨H, hH⟩ : ∃ H : Heap, H = s.heap := ⟨_, rfl⟩
  obtain ⟨locs, hlocs⟩ : ∃ x : List Loc, x = [] := ⟨_, rfl⟩
  have hC : Cx G base h s.heap H locs := by rw [hH, hlocs]; exact hC
  show W p l e rm_X12_joined s m args below meth c s.heap [] 0 0 (MQ below (va_Qi Q (PU G base) (fun q => base ≤ q)) args s 0 0 (fun q => base ≤ q)) (F0 m 0 ls [])
  rw [← hlocs]
  have hgoal : W p l e rm_X12_joined s m args below meth c H locs 0 0 (MQ below (va_Qi Q (PU G base) (fun q => base ≤ q)) args s 0 0 (fun q => base ≤ q)) (F0 m 0 ls []) := ?_
  · rw [hH] at hgoal; exact hgoal
  clear hH hlocs
  unfold wp_X12_joined at hw
  refine lv_aload_n hx hb dX12_joined_0 rfl (lo_at hl 0 rfl) ?_
  refine lv_iconst (v := 0) hx hb dX12_joined_1 (by decide) ?_
  obtain ⟨k1, hw⟩ := hw
  refine r_putI hx hb hts hown hg hC fb_10_0 k1 rfl rfl mk_f_RX12_132 dX12_joined_2 (fun h2 H locs eh2 hC => ?_)
  replace hw := hw h2 eh2
  refine lv_aload_n hx hb dX12_joined_5 rfl (lo_at hl 0 rfl) ?_
  refine lv_iload_n hx hb dX12_joined_6 rfl (lo_at hl 1 rfl) ?_
  obtain ⟨k3, hw⟩ := hw
  refine res_i hC (run_V (As := [.int x1]) (rest := []) hM hC hl.1.1 kv_RX12_309 (c_X12_isLooker l G base o x1 h2 _ hw) (hc_10) k3 rfl rfl rfl ⟨Nat.le_of_ble_eq_true rfl, Nat.le_of_ble_eq_true rfl⟩ (Nat.le_of_ble_eq_true rfl) ⟨Nat.le_of_ble_eq_true rfl, Nat.le_of_ble_eq_true rfl⟩ dX12_joined_7) (fun z5 h4 H locs hw hC => ?_)
  refine lv_if_eq (tgt := 35) hx hb dX12_joined_10 (by decide) (fun c6 => ?_) (fun c6 => ?_)
  ·
    replace hw := (if_pos c6).mp hw
    refine lv_iconst (v := -1) hx hb dX12_joined_35 (by decide) ?_
    exact ret_i hM hC hw dX12_joined_36
  ·
    replace hw := (if_neg c6).mp hw
    refine lv_aload_n hx hb dX12_joined_13 rfl (lo_at hl 0 rfl) ?_
    refine lv_iload_n hx hb dX12_joined_14 rfl (lo_at hl 2 rfl) ?_
    refine lv_iconst (v := 0) hx hb dX12_joined_15 (by decide) ?_
    refine lv_iconst (v := 2) hx hb dX12_joined_16 (by decide) ?_
    obtain ⟨k7, hw⟩ := hw
    refine res_i hC (run_V (As := [.int x2, .int ((0 : Int32)), .int ((2 : Int32))]) (rest := []) hM hC hl.1.1 kv_RX12_144 (c_X12_isIn l G base o x2 (0 : Int32) (2 : Int32) h4 _ hw) (hc_10) k7 rfl rfl rfl ⟨Nat.le_of_ble_eq_true rfl, Nat.le_of_ble_eq_true rfl⟩ (Nat.le_of_ble_eq_true rfl) ⟨Nat.le_of_ble_eq_true rfl, Nat.le_of_ble_eq_true rfl⟩ dX12_joined_17) (fun z9 h8 H locs hw hC => ?_)
    refine lv_if_ne (tgt := 37) hx hb dX12_joined_20 (by decide) (fun c10 => ?_) (fun c10 => ?_)
    ·
      replace hw := (if_neg c10).mp hw
      exact t_X12_joined_J37 hM o x1 x2 Q  h8 H locs ls hC (lo_sub hl [0, 1, 2] rfl) hw
    ·
      replace hw := (if_pos c10).mp hw
      refine lv_aload_n hx hb dX12_joined_23 rfl (lo_at hl 0 rfl) ?_
      refine lv_iload_n hx hb dX12_joined_24 rfl (lo_at hl 2 rfl) ?_
      refine lv_bipush (v := 10) hx hb dX12_joined_25 (by decide) ?_
      refine lv_bipush (v := 17) hx hb dX12_joined_27 (by decide) ?_
      obtain ⟨k39, hw⟩ := hw
      refine res_i hC (run_V (As := [.int x2, .int ((10 : Int32)), .int ((17 : Int32))]) (rest := []) hM hC hl.1.1 kv_RX12_144 (c_X12_isIn l G base o x2 (10 : Int32) (17 : Int32) h8 _ hw) (hc_10) k39 rfl rfl rfl ⟨Nat.le_of_ble_eq_true rfl, Nat.le_of_ble_eq_true rfl⟩ (Nat.le_of_ble_eq_true rfl) ⟨Nat.le_of_ble_eq_true rfl, Nat.le_of_ble_eq_true rfl⟩ dX12_joined_29) (fun z41 h40 H locs hw hC => ?_)
      refine lv_if_ne (tgt := 37) hx hb dX12_joined_32 (by decide) (fun c42 => ?_) (fun c42 => ?_)
      ·
        replace hw := (if_neg c42).mp hw
        exact t_X12_joined_J37 hM o x1 x2 Q  h40 H locs ls hC (lo_sub hl [0, 1, 2] rfl) hw
      ·
        replace hw := (if_pos c42).mp hw
        refine lv_iconst (v := -1) hx hb dX12_joined_35 (by decide) ?_
        exact ret_i hM hC hw dX12_joined_36
abbrev rm_X12_look : Room := { frames := 1, cells := 0, slots := 0, locals := 21 }
def wp_X12_look_L78 (o : Nat) (K104 : Int32 → Hp → Prop) (Q : Int32 → Hp → Prop) : Nat → Int32 → Int32 → Hp → Prop
  | 0, _, _, _ => False
  | n + 1, x2, x3, h => ((hpK h o).1 = 20 + 10) ∧ ((if (hpI h o 12) ≤ x3 then (K104 x2 h) else (wp_X12_isShot o x3 h (fun (z13 : Int32) (h12 : Hp) => (if z13 = 0 then (∀ v16 : Int32, v16 = x2 + (1 : Int32) → (∀ v17 : Int32, v17 = x3 + (1 : Int32) → (wp_X12_look_L78 o K104 Q n v16 v17 h12))) else (∀ v15 : Int32, v15 = x3 + (1 : Int32) → (wp_X12_look_L78 o K104 Q n x2 v15 h12)))))))
def wp_X12_look (o : Nat) (x1 : Int32) (h : Hp) (Q : Int32 → Hp → Prop) : Prop := ((hpK h o).1 = 20 + 10) ∧ (∀ h2 : Hp, h2 = stI h o 0 (0 : Int32) → ((if x1 = 0 then (((hpK h2 o).1 = 20 + 10) ∧ (Q (hpI h2 o 1) h2)) else ((if x1 = (1 : Int32) then (((hpK h2 o).1 = 20 + 10) ∧ (Q (hpI h2 o 5) h2)) else ((if x1 = (2 : Int32) then (((hpK h2 o).1 = 20 + 10) ∧ (Q (hpI h2 o 12) h2)) else ((if x1 = (3 : Int32) then (((hpK h2 o).1 = 20 + 10) ∧ (Q (hpI h2 o 45) h2)) else ((if x1 = (4 : Int32) then (((hpK h2 o).1 = 20 + 10) ∧ (Q (hpI h2 o 53) h2)) else ((if x1 = (5 : Int32) then (((hpK h2 o).1 = 20 + 10) ∧ (okA h2 (hpR h2 o 25) 1 (0 : Int32) ∧ (∀ v22 : Int32, v22 = hpI h2 (ad (hpR h2 o 25)) ((0 : Int32)).toNatClampNeg → (Q v22 h2)))) else ((if x1 = (6 : Int32) then (wp_X12_look_L78 o (fun (y19 : Int32) (h18 : Hp) => Q y19 h18) Q fuel (0 : Int32) (0 : Int32) h2) else (Q (-1 : Int32) h2))))))))))))))))
set_option maxHeartbeats 4000000 in
set_option maxRecDepth 100000 in
theorem t_X12_look_L78 {p : Program} {l : Launch} {e : Env} {s : State} {m : MethodId} {args : Array Value} {below : List Frame} {meth : Method} {c : Code} {G : GG} {base : Nat} (hM : Mx G base p s m args meth c cX12_look 4 (some .int) RX12 "look") (o : Nat) (K104 : Int32 → Hp → Prop) (Q : Int32 → Hp → Prop) (hK104 : ∀ (y2 : Int32) (h : Hp) (H : Heap) (locs : List Loc) (ls : Array Slot), Cx G base h s.heap H locs → lo_has ls 4 [(2, .int y2)] → K104 y2 h → W p l e rm_X12_look s m args below meth c H locs 0 0 (MQ below (va_Qi Q (PU G base) (fun q => base ≤ q)) args s 0 0 (fun q => base ≤ q)) (F0 m 104 ls [])) : ∀ (n : Nat) (x2 : Int32) (x3 : Int32) (h : Hp) (H : Heap) (locs : List Loc) (ls : Array Slot), Cx G base h s.heap H locs → lo_has ls 4 [(0, .ref o), (2, .int x2), (3, .int x3)] → wp_X12_look_L78 o K104 Q n x2 x3 h → W p l e rm_X12_look s m args below meth c H locs 0 0 (MQ below (va_Qi Q (PU G base) (fun q => base ≤ q)) args s 0 0 (fun q => base ≤ q)) (F0 m 78 ls []) := by
  intro n
  induction n with
  | zero =>
    intro x2 x3 h H locs ls hC hl hw
    rw [wp_X12_look_L78] at hw
    exact hw.elim
  | succ n ih =>
    intro x2 x3 h H locs ls hC hl hw
    rw [wp_X12_look_L78] at hw
    obtain ⟨hx, hb, hr, hml, hown, hts, hg, hs, hlk, hnm⟩ := id hM
    refine lv_iload_n hx hb dX12_look_78 rfl (lo_at hl 2 rfl) ?_
    refine lv_aload_n hx hb dX12_look_79 rfl (lo_at hl 0 rfl) ?_
    obtain ⟨k10, hw⟩ := hw
    refine r_getI hx hb hts hown hg hC fb_10_12 k10 mk_f_RX12_141 dX12_look_80 ?_
    refine lv_icmp_ge (tgt := 104) hx hb dX12_look_83 (by decide) (fun c11 => ?_) (fun c11 => ?_)
    ·
      replace hw := (if_pos c11).mp hw
      exact hK104 x2 h H locs ls hC (lo_sub hl [1] rfl) hw
    ·
      replace hw := (if_neg c11).mp hw
      refine lv_aload_n hx hb dX12_look_86 rfl (lo_at hl 0 rfl) ?_
      refine lv_iload_n hx hb dX12_look_87 rfl (lo_at hl 2 rfl) ?_
      refine res_i hC (run_V (As := [.int x3]) (rest := []) hM hC hl.1.1 kv_RX12_333 (c_X12_isShot l G base o x3 h _ hw) (hc_10) k10 rfl rfl rfl ⟨Nat.le_of_ble_eq_true rfl, Nat.le_of_ble_eq_true rfl⟩ (Nat.le_of_ble_eq_true rfl) ⟨Nat.le_of_ble_eq_true rfl, Nat.le_of_ble_eq_true rfl⟩ dX12_look_88) (fun z13 h12 H locs hw hC => ?_)
      refine lv_if_ne (tgt := 98) hx hb dX12_look_91 (by decide) (fun c14 => ?_) (fun c14 => ?_)
      ·
        replace hw := (if_neg c14).mp hw
        obtain ⟨v15, ev15⟩ : ∃ y : Int32, y = x3 + (1 : Int32) := ⟨_, rfl⟩
        replace hw := hw v15 ev15
        refine lo_iinc (v := v15) (lv' := [(3, .int v15), (0, .ref o), (2, .int x2)]) hx hb dX12_look_98 hl (k := 2) rfl (by rw [ev15]; rfl) (by decide) rfl (fun ls hl => ?_)
        refine lv_goto (tgt := 78) hx hb dX12_look_101 (by decide) ?_
        exact ih x2 v15 h12 H locs ls hC (lo_sub hl [1, 2, 0] rfl) hw
      ·
        replace hw := (if_pos c14).mp hw
        refine lv_iload_n hx hb dX12_look_94 rfl (lo_at hl 1 rfl) ?_
        refine lv_iconst (v := 1) hx hb dX12_look_95 (by decide) ?_
        refine lv_iadd hx hb dX12_look_96 ?_
        refine lv_topi (fun v16 ev16 => ?_)
        replace hw := hw v16 ev16
        refine lo_istore_n (lv' := [(2, .int v16), (0, .ref o), (3, .int x3)]) hx hb dX12_look_97 rfl hl (by decide) rfl (fun ls hl => ?_)
        obtain ⟨v17, ev17⟩ : ∃ y : Int32, y = x3 + (1 : Int32) := ⟨_, rfl⟩
        replace hw := hw v17 ev17
        refine lo_iinc (v := v17) (lv' := [(3, .int v17), (2, .int v16), (0, .ref o)]) hx hb dX12_look_98 hl (k := 2) rfl (by rw [ev17]; rfl) (by decide) rfl (fun ls hl => ?_)
        refine lv_goto (tgt := 78) hx hb dX12_look_101 (by decide) ?_
        exact ih v16 v17 h12 H locs ls hC (lo_sub hl [2, 1, 0] rfl) hw
set_option maxHeartbeats 4000000 in
set_option maxRecDepth 100000 in
theorem c_X12_look (l : Launch) (G : GG) (base : Nat) (o : Nat) (x1 : Int32) (h : Hp) (Q : Int32 → Hp → Prop) (hw : wp_X12_look o x1 h Q) : Met l yX12_look (ww yX12_look cX12_look 4 (some .int)) rm_X12_look (va_Pc [.ref o, .int x1] (PU G base h)) (va_Qi Q (PU G base) (fun q => base ≤ q)) 0 0 (fun q => base ≤ q) := by
  refine met_of (own := RX12) (nm := "look") (by decide) rfl rfl (List.forall_mem_cons.mpr ⟨rfl, (List.forall_mem_cons.mpr ⟨rfl, (fun _ h => absurd h List.not_mem_nil)⟩)⟩) (Nat.le_of_ble_eq_true rfl) rfl ?_
  intro p e s m below meth c ls hM hC hl
  obtain ⟨hx, hb, hr, hml, hown, hts, hg, hs, hlk, hnm⟩ := id hM
  obtain ⟨args, hargs⟩ : ∃ a : Array Value, a = ([.ref o, .int x1] : List Value).toArray := ⟨_, rfl⟩
  rw [← hargs] at hM hts ⊢
  obtain ⟨H, hH⟩ : ∃ H : Heap, H = s.heap := ⟨_, rfl⟩
  obtain ⟨locs, hlocs⟩ : ∃ x : List Loc, x = [] := ⟨_, rfl⟩
  have hC : Cx G base h s.heap H locs := by rw [hH, hlocs]; exact hC
  show W p l e rm_X12_look s m args below meth c s.heap [] 0 0 (MQ below (va_Qi Q (PU G base) (fun q => base ≤ q)) args s 0 0 (fun q => base ≤ q)) (F0 m 0 ls [])
  rw [← hlocs]
  have hgoal : W p l e rm_X12_look s m args below meth c H locs 0 0 (MQ below (va_Qi Q (PU G base) (fun q => base ≤ q)) args s 0 0 (fun q => base ≤ q)) (F0 m 0 ls []) := ?_
  · rw [hH] at hgoal; exact hgoal
  clear hH hlocs
  unfold wp_X12_look at hw
  refine lv_aload_n hx hb dX12_look_0 rfl (lo_at hl 0 rfl) ?_
  refine lv_iconst (v := 0) hx hb dX12_look_1 (by decide) ?_
  obtain ⟨k1, hw⟩ := hw
  refine r_putI hx hb hts hown hg hC fb_10_0 k1 rfl rfl mk_f_RX12_132 dX12_look_2 (fun h2 H locs eh2 hC => ?_)
  replace hw := hw h2 eh2
  refine lv_iload_n hx hb dX12_look_5 rfl (lo_at hl 1 rfl) ?_
  refine lv_if_ne (tgt := 14) hx hb dX12_look_6 (by decide) (fun c3 => ?_) (fun c3 => ?_)
  ·
    replace hw := (if_neg c3).mp hw
    refine lv_iload_n hx hb dX12_look_14 rfl (lo_at hl 1 rfl) ?_
    refine lv_iconst (v := 1) hx hb dX12_look_15 (by decide) ?_
    refine lv_icmp_ne (tgt := 24) hx hb dX12_look_16 (by decide) (fun c4 => ?_) (fun c4 => ?_)
    ·
      replace hw := (if_neg c4).mp hw
      refine lv_iload_n hx hb dX12_look_24 rfl (lo_at hl 1 rfl) ?_
      refine lv_iconst (v := 2) hx hb dX12_look_25 (by decide) ?_
      refine lv_icmp_ne (tgt := 34) hx hb dX12_look_26 (by decide) (fun c5 => ?_) (fun c5 => ?_)
      ·
        replace hw := (if_neg c5).mp hw
        refine lv_iload_n hx hb dX12_look_34 rfl (lo_at hl 1 rfl) ?_
        refine lv_iconst (v := 3) hx hb dX12_look_35 (by decide) ?_
        refine lv_icmp_ne (tgt := 44) hx hb dX12_look_36 (by decide) (fun c6 => ?_) (fun c6 => ?_)
        ·
          replace hw := (if_neg c6).mp hw
          refine lv_iload_n hx hb dX12_look_44 rfl (lo_at hl 1 rfl) ?_
          refine lv_iconst (v := 4) hx hb dX12_look_45 (by decide) ?_
          refine lv_icmp_ne (tgt := 54) hx hb dX12_look_46 (by decide) (fun c7 => ?_) (fun c7 => ?_)
          ·
            replace hw := (if_neg c7).mp hw
            refine lv_iload_n hx hb dX12_look_54 rfl (lo_at hl 1 rfl) ?_
            refine lv_iconst (v := 5) hx hb dX12_look_55 (by decide) ?_
            refine lv_icmp_ne (tgt := 66) hx hb dX12_look_56 (by decide) (fun c8 => ?_) (fun c8 => ?_)
            ·
              replace hw := (if_neg c8).mp hw
              refine lv_iload_n hx hb dX12_look_66 rfl (lo_at hl 1 rfl) ?_
              refine lv_bipush (v := 6) hx hb dX12_look_67 (by decide) ?_
              refine lv_icmp_eq (tgt := 74) hx hb dX12_look_69 (by decide) (fun c9 => ?_) (fun c9 => ?_)
              ·
                replace hw := (if_pos c9).mp hw
                refine lv_iconst (v := 0) hx hb dX12_look_74 (by decide) ?_
                refine lo_istore_n (lv' := [(2, .int ((0 : Int32))), (0, .ref o), (1, .int x1)]) hx hb dX12_look_75 rfl hl (by decide) rfl (fun ls hl => ?_)
                refine lv_iconst (v := 0) hx hb dX12_look_76 (by decide) ?_
                refine lo_istore_n (lv' := [(3, .int ((0 : Int32))), (2, .int ((0 : Int32))), (0, .ref o), (1, .int x1)]) hx hb dX12_look_77 rfl hl (by decide) rfl (fun ls hl => ?_)
                refine t_X12_look_L78 hM o _ Q ?_ fuel (0 : Int32) (0 : Int32) h2 H locs ls hC (lo_sub hl [2, 1, 0] rfl) hw
                intro y19 h18 H locs ls hC hl hw
                refine lv_iload_n hx hb dX12_look_104 rfl (lo_at hl 0 rfl) ?_
                exact ret_i hM hC hw dX12_look_105
              ·
                replace hw := (if_neg c9).mp hw
                refine lv_iconst (v := -1) hx hb dX12_look_72 (by decide) ?_
                exact ret_i hM hC hw dX12_look_73
            ·
              replace hw := (if_pos c8).mp hw
              refine lv_aload_n hx hb dX12_look_59 rfl (lo_at hl 0 rfl) ?_
              obtain ⟨k20, hw⟩ := hw
              refine r_getR hx hb hts hown hg hC fb_10_25 k20 mk_f_RX12_55 dX12_look_60 ?_
              refine lv_iconst (v := 0) hx hb dX12_look_63 (by decide) ?_
              obtain ⟨k21, hw⟩ := hw
              refine rf_2 k21.1 ?_
              refine r_iald hx hb hg hC k21.2.1 k21.2.2 dX12_look_64 ?_
              refine lv_topi (fun v22 ev22 => ?_)
              replace hw := hw v22 ev22
              exact ret_i hM hC hw dX12_look_65
          ·
            replace hw := (if_pos c7).mp hw
            refine lv_aload_n hx hb dX12_look_49 rfl (lo_at hl 0 rfl) ?_
            obtain ⟨k23, hw⟩ := hw
            refine r_getI hx hb hts hown hg hC fb_10_53 k23 mk_f_RX12_342 dX12_look_50 ?_
            exact ret_i hM hC hw dX12_look_53
        ·
          replace hw := (if_pos c6).mp hw
          refine lv_aload_n hx hb dX12_look_39 rfl (lo_at hl 0 rfl) ?_
          obtain ⟨k24, hw⟩ := hw
          refine r_getI hx hb hts hown hg hC fb_10_45 k24 mk_f_RX12_283 dX12_look_40 ?_
          exact ret_i hM hC hw dX12_look_43
      ·
        replace hw := (if_pos c5).mp hw
        refine lv_aload_n hx hb dX12_look_29 rfl (lo_at hl 0 rfl) ?_
        obtain ⟨k25, hw⟩ := hw
        refine r_getI hx hb hts hown hg hC fb_10_12 k25 mk_f_RX12_141 dX12_look_30 ?_
        exact ret_i hM hC hw dX12_look_33
    ·
      replace hw := (if_pos c4).mp hw
      refine lv_aload_n hx hb dX12_look_19 rfl (lo_at hl 0 rfl) ?_
      obtain ⟨k26, hw⟩ := hw
      refine r_getI hx hb hts hown hg hC fb_10_5 k26 mk_f_RX12_138 dX12_look_20 ?_
      exact ret_i hM hC hw dX12_look_23
  ·
    replace hw := (if_pos c3).mp hw
    refine lv_aload_n hx hb dX12_look_9 rfl (lo_at hl 0 rfl) ?_
    obtain ⟨k27, hw⟩ := hw
    refine r_getI hx hb hts hown hg hC fb_10_1 k27 mk_f_RX12_135 dX12_look_10 ?_
    exact ret_i hM hC hw dX12_look_13
abbrev rm_J6_bitCount_0f7a4 : Room := { frames := 0, cells := 0, slots := 0, locals := 0 }
def wp_J6_bitCount_0f7a4 (x0 : Int32) (h : Hp) (Q : Int32 → Hp → Prop) : Prop := ∀ v1 : Int32, v1 = x0 - ((((x0).toUInt32 >>> (((1 : Int32)).toUInt32 &&& Int32.toUInt32 31)).toInt32) &&& (1431655765 : Int32)) → (∀ v2 : Int32, v2 = (v1 &&& (858993459 : Int32)) + ((((v1).toUInt32 >>> (((2 : Int32)).toUInt32 &&& Int32.toUInt32 31)).toInt32) &&& (858993459 : Int32)) → (∀ v3 : Int32, v3 = (v2 + (((v2).toUInt32 >>> (((4 : Int32)).toUInt32 &&& Int32.toUInt32 31)).toInt32)) &&& (252645135 : Int32) → (∀ v4 : Int32, v4 = v3 + (((v3).toUInt32 >>> (((8 : Int32)).toUInt32 &&& Int32.toUInt32 31)).toInt32) → (∀ v5 : Int32, v5 = v4 + (((v4).toUInt32 >>> (((16 : Int32)).toUInt32 &&& Int32.toUInt32 31)).toInt32) → (Q (v5 &&& (63 : Int32)) h)))))
set_option maxHeartbeats 4000000 in
set_option maxRecDepth 100000 in
theorem c_J6_bitCount_0f7a4 (l : Launch) (G : GG) (base : Nat) (x0 : Int32) (h : Hp) (Q : Int32 → Hp → Prop) (hw : wp_J6_bitCount_0f7a4 x0 h Q) : Met l yJ6_bitCount_0f7a4 (ww yJ6_bitCount_0f7a4 cJ6_bitCount_0f7a4 1 (some .int)) rm_J6_bitCount_0f7a4 (va_Pc [.int x0] (PU G base h)) (va_Qi Q (PU G base) (fun q => base ≤ q)) 0 0 (fun q => base ≤ q) := by
  refine met_of (own := RJ6) (nm := "bitCount") (by decide) rfl rfl (List.forall_mem_cons.mpr ⟨rfl, (fun _ h => absurd h List.not_mem_nil)⟩) (Nat.le_of_ble_eq_true rfl) rfl ?_
  intro p e s m below meth c ls hM hC hl
  obtain ⟨hx, hb, hr, hml, hown, hts, hg, hs, hlk, hnm⟩ := id hM
  obtain ⟨args, hargs⟩ : ∃ a : Array Value, a = ([.int x0] : List Value).toArray := ⟨_, rfl⟩
  rw [← hargs] at hM hts ⊢
  obtain ⟨H, hH⟩ : ∃ H : Heap, H = s.heap := ⟨_, rfl⟩
  obtain ⟨locs, hlocs⟩ : ∃ x : List Loc, x = [] := ⟨_, rfl⟩
  have hC : Cx G base h s.heap H locs := by rw [hH, hlocs]; exact hC
  show W p l e rm_J6_bitCount_0f7a4 s m args below meth c s.heap [] 0 0 (MQ below (va_Qi Q (PU G base) (fun q => base ≤ q)) args s 0 0 (fun q => base ≤ q)) (F0 m 0 ls [])
  rw [← hlocs]
  have hgoal : W p l e rm_J6_bitCount_0f7a4 s m args below meth c H locs 0 0 (MQ below (va_Qi Q (PU G base) (fun q => base ≤ q)) args s 0 0 (fun q => base ≤ q)) (F0 m 0 ls []) := ?_
  · rw [hH] at hgoal; exact hgoal
  clear hH hlocs
  unfold wp_J6_bitCount_0f7a4 at hw
  refine lv_iload_n hx hb dJ6_bitCount_0f7a4_0 rfl (lo_at hl 0 rfl) ?_
  refine lv_iload_n hx hb dJ6_bitCount_0f7a4_1 rfl (lo_at hl 0 rfl) ?_
  refine lv_iconst (v := 1) hx hb dJ6_bitCount_0f7a4_2 (by decide) ?_
  refine lv_iushr hx hb dJ6_bitCount_0f7a4_3 (v := ((x0).toUInt32 >>> (((1 : Int32)).toUInt32 &&& Int32.toUInt32 31)).toInt32) rfl ?_
  refine lv_ldcw (v := 1431655765) hx hb hown (hts _ mk_k_RJ6_265) dJ6_bitCount_0f7a4_4 ?_
  refine lv_iand hx hb dJ6_bitCount_0f7a4_7 ?_
  refine lv_isub hx hb dJ6_bitCount_0f7a4_8 ?_
  refine lv_topi (fun v1 ev1 => ?_)
  replace hw := hw v1 ev1
  refine lo_istore_n (lv' := [(0, .int v1)]) hx hb dJ6_bitCount_0f7a4_9 rfl hl (by decide) rfl (fun ls hl => ?_)
  refine lv_iload_n hx hb dJ6_bitCount_0f7a4_10 rfl (lo_at hl 0 rfl) ?_
  refine lv_ldcw (v := 858993459) hx hb hown (hts _ mk_k_RJ6_266) dJ6_bitCount_0f7a4_11 ?_
  refine lv_iand hx hb dJ6_bitCount_0f7a4_14 ?_
  refine lv_iload_n hx hb dJ6_bitCount_0f7a4_15 rfl (lo_at hl 0 rfl) ?_
  refine lv_iconst (v := 2) hx hb dJ6_bitCount_0f7a4_16 (by decide) ?_
  refine lv_iushr hx hb dJ6_bitCount_0f7a4_17 (v := ((v1).toUInt32 >>> (((2 : Int32)).toUInt32 &&& Int32.toUInt32 31)).toInt32) rfl ?_
  refine lv_ldcw (v := 858993459) hx hb hown (hts _ mk_k_RJ6_266) dJ6_bitCount_0f7a4_18 ?_
  refine lv_iand hx hb dJ6_bitCount_0f7a4_21 ?_
  refine lv_iadd hx hb dJ6_bitCount_0f7a4_22 ?_
  refine lv_topi (fun v2 ev2 => ?_)
  replace hw := hw v2 ev2
  refine lo_istore_n (lv' := [(0, .int v2)]) hx hb dJ6_bitCount_0f7a4_23 rfl hl (by decide) rfl (fun ls hl => ?_)
  refine lv_iload_n hx hb dJ6_bitCount_0f7a4_24 rfl (lo_at hl 0 rfl) ?_
  refine lv_iload_n hx hb dJ6_bitCount_0f7a4_25 rfl (lo_at hl 0 rfl) ?_
  refine lv_iconst (v := 4) hx hb dJ6_bitCount_0f7a4_26 (by decide) ?_
  refine lv_iushr hx hb dJ6_bitCount_0f7a4_27 (v := ((v2).toUInt32 >>> (((4 : Int32)).toUInt32 &&& Int32.toUInt32 31)).toInt32) rfl ?_
  refine lv_iadd hx hb dJ6_bitCount_0f7a4_28 ?_
  refine lv_ldcw (v := 252645135) hx hb hown (hts _ mk_k_RJ6_267) dJ6_bitCount_0f7a4_29 ?_
  refine lv_iand hx hb dJ6_bitCount_0f7a4_32 ?_
  refine lv_topi (fun v3 ev3 => ?_)
  replace hw := hw v3 ev3
  refine lo_istore_n (lv' := [(0, .int v3)]) hx hb dJ6_bitCount_0f7a4_33 rfl hl (by decide) rfl (fun ls hl => ?_)
  refine lv_iload_n hx hb dJ6_bitCount_0f7a4_34 rfl (lo_at hl 0 rfl) ?_
  refine lv_iload_n hx hb dJ6_bitCount_0f7a4_35 rfl (lo_at hl 0 rfl) ?_
  refine lv_bipush (v := 8) hx hb dJ6_bitCount_0f7a4_36 (by decide) ?_
  refine lv_iushr hx hb dJ6_bitCount_0f7a4_38 (v := ((v3).toUInt32 >>> (((8 : Int32)).toUInt32 &&& Int32.toUInt32 31)).toInt32) rfl ?_
  refine lv_iadd hx hb dJ6_bitCount_0f7a4_39 ?_
  refine lv_topi (fun v4 ev4 => ?_)
  replace hw := hw v4 ev4
  refine lo_istore_n (lv' := [(0, .int v4)]) hx hb dJ6_bitCount_0f7a4_40 rfl hl (by decide) rfl (fun ls hl => ?_)
  refine lv_iload_n hx hb dJ6_bitCount_0f7a4_41 rfl (lo_at hl 0 rfl) ?_
  refine lv_iload_n hx hb dJ6_bitCount_0f7a4_42 rfl (lo_at hl 0 rfl) ?_
  refine lv_bipush (v := 16) hx hb dJ6_bitCount_0f7a4_43 (by decide) ?_
  refine lv_iushr hx hb dJ6_bitCount_0f7a4_45 (v := ((v4).toUInt32 >>> (((16 : Int32)).toUInt32 &&& Int32.toUInt32 31)).toInt32) rfl ?_
  refine lv_iadd hx hb dJ6_bitCount_0f7a4_46 ?_
  refine lv_topi (fun v5 ev5 => ?_)
  replace hw := hw v5 ev5
  refine lo_istore_n (lv' := [(0, .int v5)]) hx hb dJ6_bitCount_0f7a4_47 rfl hl (by decide) rfl (fun ls hl => ?_)
  refine lv_iload_n hx hb dJ6_bitCount_0f7a4_48 rfl (lo_at hl 0 rfl) ?_
  refine lv_bipush (v := 63) hx hb dJ6_bitCount_0f7a4_49 (by decide) ?_
  refine lv_iand hx hb dJ6_bitCount_0f7a4_51 ?_
  exact ret_i hM hC hw dJ6_bitCount_0f7a4_52
abbrev rm_J0_coder_7d493 : Room := { frames := 0, cells := 0, slots := 0, locals := 0 }
def wp_J0_coder_7d493 (o : Nat) (h : Hp) (Q : Int32 → Hp → Prop) : Prop := (if (1 : Int32) = 0 then (Q (1 : Int32) h) else ((o < 2) ∧ (Q (0 : Int32) h)))
set_option maxHeartbeats 4000000 in
set_option maxRecDepth 100000 in
theorem c_J0_coder_7d493 (l : Launch) (G : GG) (base : Nat) (o : Nat) (h : Hp) (Q : Int32 → Hp → Prop) (hw : wp_J0_coder_7d493 o h Q) : Met l yJ0_coder_7d493 (ww yJ0_coder_7d493 cJ0_coder_7d493 1 (some .byte)) rm_J0_coder_7d493 (va_Pc [.ref (G.2.2.1 o)] (PU G base h)) (va_Qi Q (PU G base) (fun q => base ≤ q)) 0 0 (fun q => base ≤ q) := by
  refine met_of (own := RJ0) (nm := "coder") (by decide) rfl rfl (List.forall_mem_cons.mpr ⟨rfl, (fun _ h => absurd h List.not_mem_nil)⟩) (Nat.le_of_ble_eq_true rfl) rfl ?_
  intro p e s m below meth c ls hM hC hl
  obtain ⟨hx, hb, hr, hml, hown, hts, hg, hs, hlk, hnm⟩ := id hM
  obtain ⟨args, hargs⟩ : ∃ a : Array Value, a = ([.ref (G.2.2.1 o)] : List Value).toArray := ⟨_, rfl⟩
  rw [← hargs] at hM hts ⊢
  obtain ⟨H, hH⟩ : ∃ H : Heap, H = s.heap := ⟨_, rfl⟩
  obtain ⟨locs, hlocs⟩ : ∃ x : List Loc, x = [] := ⟨_, rfl⟩
  have hC : Cx G base h s.heap H locs := by rw [hH, hlocs]; exact hC
  show W p l e rm_J0_coder_7d493 s m args below meth c s.heap [] 0 0 (MQ below (va_Qi Q (PU G base) (fun q => base ≤ q)) args s 0 0 (fun q => base ≤ q)) (F0 m 0 ls [])
  rw [← hlocs]
  have hgoal : W p l e rm_J0_coder_7d493 s m args below meth c H locs 0 0 (MQ below (va_Qi Q (PU G base) (fun q => base ≤ q)) args s 0 0 (fun q => base ≤ q)) (F0 m 0 ls []) := ?_
  · rw [hH] at hgoal; exact hgoal
  clear hH hlocs
  unfold wp_J0_coder_7d493 at hw
  refine va_gets (v := .int 1) hx hb hs.1.2.1 hC.2.2 hown (hts _ mk_f_RJ0_38) (fun _ h => h) dJ0_coder_7d493_0 ?_
  refine lv_if_eq (tgt := 13) hx hb dJ0_coder_7d493_3 (by decide) (fun c1 => ?_) (fun c1 => ?_)
  ·
    replace hw := (if_pos c1).mp hw
    refine lv_iconst (v := 1) hx hb dJ0_coder_7d493_13 (by decide) ?_
    exact ret_t hM hC rfl hw dJ0_coder_7d493_14
  ·
    replace hw := (if_neg c1).mp hw
    refine lv_aload_n hx hb dJ0_coder_7d493_6 rfl (lo_at hl 0 rfl) ?_
    obtain ⟨k2, hw⟩ := hw
    refine vk_getf hx hb (hs.1.1.1 _ k2).2.1 hC.2.2 hown (hts _ mk_f_RJ0_15) (fun _ h => h) dJ0_coder_7d493_7 ?_
    refine lv_goto (tgt := 14) hx hb dJ0_coder_7d493_10 (by decide) ?_
    exact ret_t hM hC rfl hw dJ0_coder_7d493_14
abbrev rm_J0_isLatin1_aae02 : Room := { frames := 0, cells := 0, slots := 0, locals := 0 }
def wp_J0_isLatin1_aae02 (o : Nat) (h : Hp) (Q : Int32 → Hp → Prop) : Prop := (if (1 : Int32) = 0 then (Q (0 : Int32) h) else ((o < 2) ∧ ((if (0 : Int32) = 0 then (Q (1 : Int32) h) else (Q (0 : Int32) h)))))
set_option maxHeartbeats 4000000 in
set_option maxRecDepth 100000 in
theorem c_J0_isLatin1_aae02 (l : Launch) (G : GG) (base : Nat) (o : Nat) (h : Hp) (Q : Int32 → Hp → Prop) (hw : wp_J0_isLatin1_aae02 o h Q) : Met l yJ0_isLatin1_aae02 (ww yJ0_isLatin1_aae02 cJ0_isLatin1_aae02 1 (some .boolean)) rm_J0_isLatin1_aae02 (va_Pc [.ref (G.2.2.1 o)] (PU G base h)) (va_Qi Q (PU G base) (fun q => base ≤ q)) 0 0 (fun q => base ≤ q) := by
  refine met_of (own := RJ0) (nm := "isLatin1") (by decide) rfl rfl (List.forall_mem_cons.mpr ⟨rfl, (fun _ h => absurd h List.not_mem_nil)⟩) (Nat.le_of_ble_eq_true rfl) rfl ?_
  intro p e s m below meth c ls hM hC hl
  obtain ⟨hx, hb, hr, hml, hown, hts, hg, hs, hlk, hnm⟩ := id hM
  obtain ⟨args, hargs⟩ : ∃ a : Array Value, a = ([.ref (G.2.2.1 o)] : List Value).toArray := ⟨_, rfl⟩
  rw [← hargs] at hM hts ⊢
  obtain ⟨H, hH⟩ : ∃ H : Heap, H = s.heap := ⟨_, rfl⟩
  obtain ⟨locs, hlocs⟩ : ∃ x : List Loc, x = [] := ⟨_, rfl⟩
  have hC : Cx G base h s.heap H locs := by rw [hH, hlocs]; exact hC
  show W p l e rm_J0_isLatin1_aae02 s m args below meth c s.heap [] 0 0 (MQ below (va_Qi Q (PU G base) (fun q => base ≤ q)) args s 0 0 (fun q => base ≤ q)) (F0 m 0 ls [])
  rw [← hlocs]
  have hgoal : W p l e rm_J0_isLatin1_aae02 s m args below meth c H locs 0 0 (MQ below (va_Qi Q (PU G base) (fun q => base ≤ q)) args s 0 0 (fun q => base ≤ q)) (F0 m 0 ls []) := ?_
  · rw [hH] at hgoal; exact hgoal
  clear hH hlocs
  unfold wp_J0_isLatin1_aae02 at hw
  refine va_gets (v := .int 1) hx hb hs.1.2.1 hC.2.2 hown (hts _ mk_f_RJ0_38) (fun _ h => h) dJ0_isLatin1_aae02_0 ?_
  refine lv_if_eq (tgt := 17) hx hb dJ0_isLatin1_aae02_3 (by decide) (fun c1 => ?_) (fun c1 => ?_)
  ·
    replace hw := (if_pos c1).mp hw
    refine lv_iconst (v := 0) hx hb dJ0_isLatin1_aae02_17 (by decide) ?_
    exact ret_z hM hC rfl hw dJ0_isLatin1_aae02_18
  ·
    replace hw := (if_neg c1).mp hw
    refine lv_aload_n hx hb dJ0_isLatin1_aae02_6 rfl (lo_at hl 0 rfl) ?_
    obtain ⟨k2, hw⟩ := hw
    refine vk_getf hx hb (hs.1.1.1 _ k2).2.1 hC.2.2 hown (hts _ mk_f_RJ0_15) (fun _ h => h) dJ0_isLatin1_aae02_7 ?_
    refine lv_if_ne (tgt := 17) hx hb dJ0_isLatin1_aae02_10 (by decide) (fun c3 => ?_) (fun c3 => ?_)
    ·
      replace hw := (if_neg c3).mp hw
      refine lv_iconst (v := 0) hx hb dJ0_isLatin1_aae02_17 (by decide) ?_
      exact ret_z hM hC rfl hw dJ0_isLatin1_aae02_18
    ·
      replace hw := (if_pos c3).mp hw
      refine lv_iconst (v := 1) hx hb dJ0_isLatin1_aae02_13 (by decide) ?_
      refine lv_goto (tgt := 18) hx hb dJ0_isLatin1_aae02_14 (by decide) ?_
      exact ret_z hM hC rfl hw dJ0_isLatin1_aae02_18
abbrev rm_J1_canEncode_9a6ad : Room := { frames := 0, cells := 0, slots := 0, locals := 0 }
def wp_J1_canEncode_9a6ad (x0 : Int32) (h : Hp) (Q : Int32 → Hp → Prop) : Prop := (if x0 < 0 then (Q (0 : Int32) h) else ((if (255 : Int32) < x0 then (Q (0 : Int32) h) else (Q (1 : Int32) h))))
set_option maxHeartbeats 4000000 in
set_option maxRecDepth 100000 in
theorem c_J1_canEncode_9a6ad (l : Launch) (G : GG) (base : Nat) (x0 : Int32) (h : Hp) (Q : Int32 → Hp → Prop) (hw : wp_J1_canEncode_9a6ad x0 h Q) : Met l yJ1_canEncode_9a6ad (ww yJ1_canEncode_9a6ad cJ1_canEncode_9a6ad 1 (some .boolean)) rm_J1_canEncode_9a6ad (va_Pc [.int x0] (PU G base h)) (va_Qi Q (PU G base) (fun q => base ≤ q)) 0 0 (fun q => base ≤ q) := by
  refine met_of (own := RJ1) (nm := "canEncode") (by decide) rfl rfl (List.forall_mem_cons.mpr ⟨rfl, (fun _ h => absurd h List.not_mem_nil)⟩) (Nat.le_of_ble_eq_true rfl) rfl ?_
  intro p e s m below meth c ls hM hC hl
  obtain ⟨hx, hb, hr, hml, hown, hts, hg, hs, hlk, hnm⟩ := id hM
  obtain ⟨args, hargs⟩ : ∃ a : Array Value, a = ([.int x0] : List Value).toArray := ⟨_, rfl⟩
  rw [← hargs] at hM hts ⊢
  obtain ⟨H, hH⟩ : ∃ H : Heap, H = s.heap := ⟨_, rfl⟩
  obtain ⟨locs, hlocs⟩ : ∃ x : List Loc, x = [] := ⟨_, rfl⟩
  have hC : Cx G base h s.heap H locs := by rw [hH, hlocs]; exact hC
  show W p l e rm_J1_canEncode_9a6ad s m args below meth c s.heap [] 0 0 (MQ below (va_Qi Q (PU G base) (fun q => base ≤ q)) args s 0 0 (fun q => base ≤ q)) (F0 m 0 ls [])
  rw [← hlocs]
  have hgoal : W p l e rm_J1_canEncode_9a6ad s m args below meth c H locs 0 0 (MQ below (va_Qi Q (PU G base) (fun q => base ≤ q)) args s 0 0 (fun q => base ≤ q)) (F0 m 0 ls []) := ?_
  · rw [hH] at hgoal; exact hgoal
  clear hH hlocs
  unfold wp_J1_canEncode_9a6ad at hw
  refine lv_iload_n hx hb dJ1_canEncode_9a6ad_0 rfl (lo_at hl 0 rfl) ?_
  refine lv_if_lt (tgt := 15) hx hb dJ1_canEncode_9a6ad_1 (by decide) (fun c1 => ?_) (fun c1 => ?_)
  ·
    replace hw := (if_pos c1).mp hw
    refine lv_iconst (v := 0) hx hb dJ1_canEncode_9a6ad_15 (by decide) ?_
    exact ret_z hM hC rfl hw dJ1_canEncode_9a6ad_16
  ·
    replace hw := (if_neg c1).mp hw
    refine lv_iload_n hx hb dJ1_canEncode_9a6ad_4 rfl (lo_at hl 0 rfl) ?_
    refine lv_sipush (v := 255) hx hb dJ1_canEncode_9a6ad_5 (by decide) ?_
    refine lv_icmp_gt (tgt := 15) hx hb dJ1_canEncode_9a6ad_8 (by decide) (fun c2 => ?_) (fun c2 => ?_)
    ·
      replace hw := (if_pos c2).mp hw
      refine lv_iconst (v := 0) hx hb dJ1_canEncode_9a6ad_15 (by decide) ?_
      exact ret_z hM hC rfl hw dJ1_canEncode_9a6ad_16
    ·
      replace hw := (if_neg c2).mp hw
      refine lv_iconst (v := 1) hx hb dJ1_canEncode_9a6ad_11 (by decide) ?_
      refine lv_goto (tgt := 16) hx hb dJ1_canEncode_9a6ad_12 (by decide) ?_
      exact ret_z hM hC rfl hw dJ1_canEncode_9a6ad_16
abbrev rm_J1_indexOfChar_4cfef : Room := { frames := 0, cells := 0, slots := 0, locals := 0 }
def wp_J1_indexOfChar_4cfef_L7 (i0 : Nat) (x3 : Int32) (x4 : Int32) (K22 : Int32 → Hp → Prop) (K31 : Hp → Prop) (Q : Int32 → Hp → Prop) : Nat → Int32 → Hp → Prop
  | 0, _, _ => False
  | n + 1, x5, h => (if x3 ≤ x5 then (K31 h) else ((i0 < 2) ∧ (vp_in x5 (lnJ.getD i0 0) ∧ (∀ v5 : Int32, v5 = (byJ.getD i0 []).getD (x5).toNatClampNeg 0 → ((if v5 = x4 then (K22 x5 h) else (∀ v7 : Int32, v7 = x5 + (1 : Int32) → (wp_J1_indexOfChar_4cfef_L7 i0 x3 x4 K22 K31 Q n v7 h))))))))
def wp_J1_indexOfChar_4cfef (i0 : Nat) (x1 : Int32) (x2 : Int32) (x3 : Int32) (h : Hp) (Q : Int32 → Hp → Prop) : Prop := ∀ v1 : Int32, v1 = (x1).toInt8.toInt32 → (wp_J1_indexOfChar_4cfef_L7 i0 x3 v1 (fun (y9 : Int32) (h8 : Hp) => Q y9 h8) (fun (h10 : Hp) => Q (-1 : Int32) h10) Q fuel x2 h)
set_option maxHeartbeats 4000000 in
set_option maxRecDepth 100000 in
theorem t_J1_indexOfChar_4cfef_L7 {p : Program} {l : Launch} {e : Env} {s : State} {m : MethodId} {args : Array Value} {below : List Frame} {meth : Method} {c : Code} {G : GG} {base : Nat} (hM : Mx G base p s m args meth c cJ1_indexOfChar_4cfef 6 (some .int) RJ1 "indexOfChar") (i0 : Nat) (x3 : Int32) (x4 : Int32) (K22 : Int32 → Hp → Prop) (K31 : Hp → Prop) (Q : Int32 → Hp → Prop) (hK22 : ∀ (y5 : Int32) (h : Hp) (H : Heap) (locs : List Loc) (ls : Array Slot), Cx G base h s.heap H locs → lo_has ls 6 [(5, .int y5)] → K22 y5 h → W p l e rm_J1_indexOfChar_4cfef s m args below meth c H locs 0 0 (MQ below (va_Qi Q (PU G base) (fun q => base ≤ q)) args s 0 0 (fun q => base ≤ q)) (F0 m 22 ls [])) (hK31 : ∀ (h : Hp) (H : Heap) (locs : List Loc) (ls : Array Slot), Cx G base h s.heap H locs → lo_has ls 6 [] → K31 h → W p l e rm_J1_indexOfChar_4cfef s m args below meth c H locs 0 0 (MQ below (va_Qi Q (PU G base) (fun q => base ≤ q)) args s 0 0 (fun q => base ≤ q)) (F0 m 31 ls [])) : ∀ (n : Nat) (x5 : Int32) (h : Hp) (H : Heap) (locs : List Loc) (ls : Array Slot), Cx G base h s.heap H locs → lo_has ls 6 [(0, .ref (G.2.2.2 i0)), (3, .int x3), (4, .int x4), (5, .int x5)] → wp_J1_indexOfChar_4cfef_L7 i0 x3 x4 K22 K31 Q n x5 h → W p l e rm_J1_indexOfChar_4cfef s m args below meth c H locs 0 0 (MQ below (va_Qi Q (PU G base) (fun q => base ≤ q)) args s 0 0 (fun q => base ≤ q)) (F0 m 7 ls []) := by
  intro n
  induction n with
  | zero =>
    intro x5 h H locs ls hC hl hw
    rw [wp_J1_indexOfChar_4cfef_L7] at hw
    exact hw.elim
  | succ n ih =>
    intro x5 h H locs ls hC hl hw
    rw [wp_J1_indexOfChar_4cfef_L7] at hw
    obtain ⟨hx, hb, hr, hml, hown, hts, hg, hs, hlk, hnm⟩ := id hM
    refine lv_iload hx hb dJ1_indexOfChar_4cfef_7 (lo_at hl 3 rfl) ?_
    refine lv_iload_n hx hb dJ1_indexOfChar_4cfef_9 rfl (lo_at hl 1 rfl) ?_
    refine lv_icmp_ge (tgt := 31) hx hb dJ1_indexOfChar_4cfef_10 (by decide) (fun c2 => ?_) (fun c2 => ?_)
    ·
      replace hw := (if_pos c2).mp hw
      exact hK31  h H locs ls hC (lo_sub hl [] rfl) hw
    ·
      replace hw := (if_neg c2).mp hw
      refine lv_aload_n hx hb dJ1_indexOfChar_4cfef_13 rfl (lo_at hl 0 rfl) ?_
      refine lv_iload hx hb dJ1_indexOfChar_4cfef_14 (lo_at hl 3 rfl) ?_
      obtain ⟨k3, hw⟩ := hw
      obtain ⟨k4, hw⟩ := hw
      refine va_tb hx hb (hs.1.1.1 _ k3).2.2.2 hC.2.2 k4 (v := .int ((byJ.getD i0 []).getD (x5).toNatClampNeg 0)) rfl dJ1_indexOfChar_4cfef_16 ?_
      refine lv_topi (fun v5 ev5 => ?_)
      replace hw := hw v5 ev5
      refine lv_iload hx hb dJ1_indexOfChar_4cfef_17 (lo_at hl 2 rfl) ?_
      refine lv_icmp_ne (tgt := 25) hx hb dJ1_indexOfChar_4cfef_19 (by decide) (fun c6 => ?_) (fun c6 => ?_)
      ·
        replace hw := (if_neg c6).mp hw
        obtain ⟨v7, ev7⟩ : ∃ y : Int32, y = x5 + (1 : Int32) := ⟨_, rfl⟩
        replace hw := hw v7 ev7
        refine lo_iinc (v := v7) (lv' := [(5, .int v7), (0, .ref (G.2.2.2 i0)), (3, .int x3), (4, .int x4)]) hx hb dJ1_indexOfChar_4cfef_25 hl (k := 3) rfl (by rw [ev7]; rfl) (by decide) rfl (fun ls hl => ?_)
        refine lv_goto (tgt := 7) hx hb dJ1_indexOfChar_4cfef_28 (by decide) ?_
        exact ih v7 h H locs ls hC (lo_sub hl [1, 2, 3, 0] rfl) hw
      ·
        replace hw := (if_pos c6).mp hw
        exact hK22 x5 h H locs ls hC (lo_sub hl [3] rfl) hw
set_option maxHeartbeats 4000000 in
set_option maxRecDepth 100000 in
theorem c_J1_indexOfChar_4cfef (l : Launch) (G : GG) (base : Nat) (i0 : Nat) (x1 : Int32) (x2 : Int32) (x3 : Int32) (h : Hp) (Q : Int32 → Hp → Prop) (hw : wp_J1_indexOfChar_4cfef i0 x1 x2 x3 h Q) : Met l yJ1_indexOfChar_4cfef (ww yJ1_indexOfChar_4cfef cJ1_indexOfChar_4cfef 6 (some .int)) rm_J1_indexOfChar_4cfef (va_Pc [.ref (G.2.2.2 i0), .int x1, .int x2, .int x3] (PU G base h)) (va_Qi Q (PU G base) (fun q => base ≤ q)) 0 0 (fun q => base ≤ q) := by
  refine met_of (own := RJ1) (nm := "indexOfChar") (by decide) rfl rfl (List.forall_mem_cons.mpr ⟨rfl, (List.forall_mem_cons.mpr ⟨rfl, (List.forall_mem_cons.mpr ⟨rfl, (List.forall_mem_cons.mpr ⟨rfl, (fun _ h => absurd h List.not_mem_nil)⟩)⟩)⟩)⟩) (Nat.le_of_ble_eq_true rfl) rfl ?_
  intro p e s m below meth c ls hM hC hl
  obtain ⟨hx, hb, hr, hml, hown, hts, hg, hs, hlk, hnm⟩ := id hM
  obtain ⟨args, hargs⟩ : ∃ a : Array Value, a = ([.ref (G.2.2.2 i0), .int x1, .int x2, .int x3] : List Value).toArray := ⟨_, rfl⟩
  rw [← hargs] at hM hts ⊢
  obtain ⟨H, hH⟩ : ∃ H : Heap, H = s.heap := ⟨_, rfl⟩
  obtain ⟨locs, hlocs⟩ : ∃ x : List Loc, x = [] := ⟨_, rfl⟩
  have hC : Cx G base h s.heap H locs := by rw [hH, hlocs]; exact hC
  show W p l e rm_J1_indexOfChar_4cfef s m args below meth c s.heap [] 0 0 (MQ below (va_Qi Q (PU G base) (fun q => base ≤ q)) args s 0 0 (fun q => base ≤ q)) (F0 m 0 ls [])
  rw [← hlocs]
  have hgoal : W p l e rm_J1_indexOfChar_4cfef s m args below meth c H locs 0 0 (MQ below (va_Qi Q (PU G base) (fun q => base ≤ q)) args s 0 0 (fun q => base ≤ q)) (F0 m 0 ls []) := ?_
  · rw [hH] at hgoal; exact hgoal
  clear hH hlocs
  unfold wp_J1_indexOfChar_4cfef at hw
  refine lv_iload_n hx hb dJ1_indexOfChar_4cfef_0 rfl (lo_at hl 1 rfl) ?_
  refine lv_i2b hx hb dJ1_indexOfChar_4cfef_1 (v := (x1).toInt8.toInt32) rfl ?_
  refine lv_topi (fun v1 ev1 => ?_)
  replace hw := hw v1 ev1
  refine lo_istore (lv' := [(4, .int v1), (0, .ref (G.2.2.2 i0)), (1, .int x1), (2, .int x2), (3, .int x3)]) hx hb dJ1_indexOfChar_4cfef_2 hl (by decide) rfl (fun ls hl => ?_)
  refine lv_iload_n hx hb dJ1_indexOfChar_4cfef_4 rfl (lo_at hl 3 rfl) ?_
  refine lo_istore (lv' := [(5, .int x2), (4, .int v1), (0, .ref (G.2.2.2 i0)), (1, .int x1), (2, .int x2), (3, .int x3)]) hx hb dJ1_indexOfChar_4cfef_5 hl (by decide) rfl (fun ls hl => ?_)
  refine t_J1_indexOfChar_4cfef_L7 hM i0 x3 v1 _ _ Q ?_ ?_ fuel x2 h H locs ls hC (lo_sub hl [2, 5, 1, 0] rfl) hw
  ·
    intro y9 h8 H locs ls hC hl hw
    refine lv_iload hx hb dJ1_indexOfChar_4cfef_22 (lo_at hl 0 rfl) ?_
    exact ret_i hM hC hw dJ1_indexOfChar_4cfef_24
  ·
    intro  h10 H locs ls hC hl hw
    refine lv_iconst (v := -1) hx hb dJ1_indexOfChar_4cfef_31 (by decide) ?_
    exact ret_i hM hC hw dJ1_indexOfChar_4cfef_32
abbrev rm_J7_fill_53178 : Room := { frames := 0, cells := 0, slots := 0, locals := 0 }
def wp_J7_fill_53178_L5 (r0 : Option Nat) (x1 : Int32) (x3 : Int32) (K20 : Hp → Prop) (Q : Hp → Prop) : Nat → Int32 → Hp → Prop
  | 0, _, _ => False
  | n + 1, x2, h => (if x3 ≤ x2 then (K20 h) else (okA h r0 1 x2 ∧ (∀ h5 : Hp, h5 = stI h (ad r0) (x2).toNatClampNeg x1 → (∀ v6 : Int32, v6 = x2 + (1 : Int32) → (wp_J7_fill_53178_L5 r0 x1 x3 K20 Q n v6 h5)))))
def wp_J7_fill_53178 (r0 : Option Nat) (x1 : Int32) (h : Hp) (Q : Hp → Prop) : Prop := okN h r0 1 ∧ (∀ v2 : Int32, v2 = nI (hpK h (ad r0)).2 → (wp_J7_fill_53178_L5 r0 x1 v2 (fun (h7 : Hp) => Q h7) Q fuel (0 : Int32) h))
set_option maxHeartbeats 4000000 in
set_option maxRecDepth 100000 in
theorem t_J7_fill_53178_L5 {p : Program} {l : Launch} {e : Env} {s : State} {m : MethodId} {args : Array Value} {below : List Frame} {meth : Method} {c : Code} {G : GG} {base : Nat} (hM : Mx G base p s m args meth c cJ7_fill_53178 4 none RJ7 "fill") (r0 : Option Nat) (x1 : Int32) (x3 : Int32) (K20 : Hp → Prop) (Q : Hp → Prop) (hK20 : ∀ (h : Hp) (H : Heap) (locs : List Loc) (ls : Array Slot), Cx G base h s.heap H locs → lo_has ls 4 [] → K20 h → W p l e rm_J7_fill_53178 s m args below meth c H locs 0 0 (MQ below (va_Qv Q (PU G base) (fun q => base ≤ q)) args s 0 0 (fun q => base ≤ q)) (F0 m 20 ls [])) : ∀ (n : Nat) (x2 : Int32) (h : Hp) (H : Heap) (locs : List Loc) (ls : Array Slot), Cx G base h s.heap H locs → lo_has ls 4 [(0, va_rf r0), (1, .int x1), (2, .int x2), (3, .int x3)] → wp_J7_fill_53178_L5 r0 x1 x3 K20 Q n x2 h → W p l e rm_J7_fill_53178 s m args below meth c H locs 0 0 (MQ below (va_Qv Q (PU G base) (fun q => base ≤ q)) args s 0 0 (fun q => base ≤ q)) (F0 m 5 ls []) := by
  intro n
  induction n with
  | zero =>
    intro x2 h H locs ls hC hl hw
    rw [wp_J7_fill_53178_L5] at hw
    exact hw.elim
  | succ n ih =>
    intro x2 h H locs ls hC hl hw
    rw [wp_J7_fill_53178_L5] at hw
    obtain ⟨hx, hb, hr, hml, hown, hts, hg, hs, hlk, hnm⟩ := id hM
    refine lv_iload_n hx hb dJ7_fill_53178_5 rfl (lo_at hl 2 rfl) ?_
    refine lv_iload_n hx hb dJ7_fill_53178_6 rfl (lo_at hl 3 rfl) ?_
    refine lv_icmp_ge (tgt := 20) hx hb dJ7_fill_53178_7 (by decide) (fun c3 => ?_) (fun c3 => ?_)
    ·
      replace hw := (if_pos c3).mp hw
      exact hK20  h H locs ls hC (lo_sub hl [] rfl) hw
    ·
      replace hw := (if_neg c3).mp hw
      refine lo_aload_n (r := r0) hx hb dJ7_fill_53178_10 rfl (lo_at hl 0 rfl) ?_
      refine lv_iload_n hx hb dJ7_fill_53178_11 rfl (lo_at hl 2 rfl) ?_
      refine lv_iload_n hx hb dJ7_fill_53178_12 rfl (lo_at hl 1 rfl) ?_
      obtain ⟨k4, hw⟩ := hw
      refine rf_3 k4.1 ?_
      refine r_iast hx hb hg hC k4.2.1 k4.2.2 dJ7_fill_53178_13 (fun h5 H locs eh5 hC => ?_)
      replace hw := hw h5 eh5
      obtain ⟨v6, ev6⟩ : ∃ y : Int32, y = x2 + (1 : Int32) := ⟨_, rfl⟩
      replace hw := hw v6 ev6
      refine lo_iinc (v := v6) (lv' := [(2, .int v6), (0, va_rf r0), (1, .int x1), (3, .int x3)]) hx hb dJ7_fill_53178_14 hl (k := 2) rfl (by rw [ev6]; rfl) (by decide) rfl (fun ls hl => ?_)
      refine lv_goto (tgt := 5) hx hb dJ7_fill_53178_17 (by decide) ?_
      exact ih v6 h5 H locs ls hC (lo_sub hl [1, 2, 0, 3] rfl) hw
set_option maxHeartbeats 4000000 in
set_option maxRecDepth 100000 in
theorem c_J7_fill_53178 (l : Launch) (G : GG) (base : Nat) (r0 : Option Nat) (x1 : Int32) (h : Hp) (Q : Hp → Prop) (hw : wp_J7_fill_53178 r0 x1 h Q) : Met l yJ7_fill_53178 (ww yJ7_fill_53178 cJ7_fill_53178 4 none) rm_J7_fill_53178 (va_Pc [va_rf r0, .int x1] (PU G base h)) (va_Qv Q (PU G base) (fun q => base ≤ q)) 0 0 (fun q => base ≤ q) := by
  refine met_of (own := RJ7) (nm := "fill") (by decide) rfl rfl (List.forall_mem_cons.mpr ⟨va_rf_cat _, (List.forall_mem_cons.mpr ⟨rfl, (fun _ h => absurd h List.not_mem_nil)⟩)⟩) (Nat.le_of_ble_eq_true rfl) rfl ?_
  intro p e s m below meth c ls hM hC hl
  obtain ⟨hx, hb, hr, hml, hown, hts, hg, hs, hlk, hnm⟩ := id hM
  obtain ⟨args, hargs⟩ : ∃ a : Array Value, a = ([va_rf r0, .int x1] : List Value).toArray := ⟨_, rfl⟩
  rw [← hargs] at hM hts ⊢
  obtain ⟨H, hH⟩ : ∃ H : Heap, H = s.heap := ⟨_, rfl⟩
  obtain ⟨locs, hlocs⟩ : ∃ x : List Loc, x = [] := ⟨_, rfl⟩
  have hC : Cx G base h s.heap H locs := by rw [hH, hlocs]; exact hC
  show W p l e rm_J7_fill_53178 s m args below meth c s.heap [] 0 0 (MQ below (va_Qv Q (PU G base) (fun q => base ≤ q)) args s 0 0 (fun q => base ≤ q)) (F0 m 0 ls [])
  rw [← hlocs]
  have hgoal : W p l e rm_J7_fill_53178 s m args below meth c H locs 0 0 (MQ below (va_Qv Q (PU G base) (fun q => base ≤ q)) args s 0 0 (fun q => base ≤ q)) (F0 m 0 ls []) := ?_
  · rw [hH] at hgoal; exact hgoal
  clear hH hlocs
  unfold wp_J7_fill_53178 at hw
  refine lv_iconst (v := 0) hx hb dJ7_fill_53178_0 (by decide) ?_
  refine lo_istore_n (lv' := [(2, .int ((0 : Int32))), (0, va_rf r0), (1, .int x1)]) hx hb dJ7_fill_53178_1 rfl hl (by decide) rfl (fun ls hl => ?_)
  refine lo_aload_n (r := r0) hx hb dJ7_fill_53178_2 rfl (lo_at hl 1 rfl) ?_
  obtain ⟨k1, hw⟩ := hw
  refine rf_1 k1.1 ?_
  refine r_alen hx hb hg hC k1.2 dJ7_fill_53178_3 ?_
  refine lv_topi (fun v2 ev2 => ?_)
  replace hw := hw v2 ev2
  refine lo_istore_n (lv' := [(3, .int v2), (2, .int ((0 : Int32))), (0, va_rf r0), (1, .int x1)]) hx hb dJ7_fill_53178_4 rfl hl (by decide) rfl (fun ls hl => ?_)
  refine t_J7_fill_53178_L5 hM r0 x1 v2 _ Q ?_ fuel (0 : Int32) h H locs ls hC (lo_sub hl [2, 3, 1, 0] rfl) hw
  intro  h7 H locs ls hC hl hw
  exact ret_v hM hC hw dJ7_fill_53178_20
abbrev rm_J3_checkIndex_8e157 : Room := { frames := 0, cells := 0, slots := 0, locals := 0 }
def wp_J3_checkIndex_8e157 (x0 : Int32) (x1 : Int32) (r2 : Option Nat) (h : Hp) (Q : Int32 → Hp → Prop) : Prop := (if x0 < 0 then (False) else ((if x0 < x1 then (Q x0 h) else (False))))
set_option maxHeartbeats 4000000 in
set_option maxRecDepth 100000 in
theorem c_J3_checkIndex_8e157 (l : Launch) (G : GG) (base : Nat) (x0 : Int32) (x1 : Int32) (r2 : Option Nat) (h : Hp) (Q : Int32 → Hp → Prop) (hw : wp_J3_checkIndex_8e157 x0 x1 r2 h Q) : Met l yJ3_checkIndex_8e157 (ww yJ3_checkIndex_8e157 cJ3_checkIndex_8e157 3 (some .int)) rm_J3_checkIndex_8e157 (va_Pc [.int x0, .int x1, va_rf r2] (PU G base h)) (va_Qi Q (PU G base) (fun q => base ≤ q)) 0 0 (fun q => base ≤ q) := by
  refine met_of (own := RJ3) (nm := "checkIndex") (by decide) rfl rfl (List.forall_mem_cons.mpr ⟨rfl, (List.forall_mem_cons.mpr ⟨rfl, (List.forall_mem_cons.mpr ⟨va_rf_cat _, (fun _ h => absurd h List.not_mem_nil)⟩)⟩)⟩) (Nat.le_of_ble_eq_true rfl) rfl ?_
  intro p e s m below meth c ls hM hC hl
  obtain ⟨hx, hb, hr, hml, hown, hts, hg, hs, hlk, hnm⟩ := id hM
  obtain ⟨args, hargs⟩ : ∃ a : Array Value, a = ([.int x0, .int x1, va_rf r2] : List Value).toArray := ⟨_, rfl⟩
  rw [← hargs] at hM hts ⊢
  obtain ⟨H, hH⟩ : ∃ H : Heap, H = s.heap := ⟨_, rfl⟩
  obtain ⟨locs, hlocs⟩ : ∃ x : List Loc, x = [] := ⟨_, rfl⟩
  have hC : Cx G base h s.heap H locs := by rw [hH, hlocs]; exact hC
  show W p l e rm_J3_checkIndex_8e157 s m args below meth c s.heap [] 0 0 (MQ below (va_Qi Q (PU G base) (fun q => base ≤ q)) args s 0 0 (fun q => base ≤ q)) (F0 m 0 ls [])
  rw [← hlocs]
  have hgoal : W p l e rm_J3_checkIndex_8e157 s m args below meth c H locs 0 0 (MQ below (va_Qi Q (PU G base) (fun q => base ≤ q)) args s 0 0 (fun q => base ≤ q)) (F0 m 0 ls []) := ?_
  · rw [hH] at hgoal; exact hgoal
  clear hH hlocs
  unfold wp_J3_checkIndex_8e157 at hw
  refine lv_iload_n hx hb dJ3_checkIndex_8e157_0 rfl (lo_at hl 0 rfl) ?_
  refine lv_if_lt (tgt := 9) hx hb dJ3_checkIndex_8e157_1 (by decide) (fun c1 => ?_) (fun c1 => ?_)
  ·
    replace hw := (if_pos c1).mp hw
    refine lo_aload_n (r := r2) hx hb dJ3_checkIndex_8e157_9 rfl (lo_at hl 2 rfl) ?_
    refine lv_iload_n hx hb dJ3_checkIndex_8e157_10 rfl (lo_at hl 0 rfl) ?_
    refine lv_iload_n hx hb dJ3_checkIndex_8e157_11 rfl (lo_at hl 1 rfl) ?_
    exact hw.elim
  ·
    replace hw := (if_neg c1).mp hw
    refine lv_iload_n hx hb dJ3_checkIndex_8e157_4 rfl (lo_at hl 0 rfl) ?_
    refine lv_iload_n hx hb dJ3_checkIndex_8e157_5 rfl (lo_at hl 1 rfl) ?_
    refine lv_icmp_lt (tgt := 16) hx hb dJ3_checkIndex_8e157_6 (by decide) (fun c2 => ?_) (fun c2 => ?_)
    ·
      replace hw := (if_pos c2).mp hw
      refine lv_iload_n hx hb dJ3_checkIndex_8e157_16 rfl (lo_at hl 0 rfl) ?_
      exact ret_i hM hC hw dJ3_checkIndex_8e157_17
    ·
      replace hw := (if_neg c2).mp hw
      refine lo_aload_n (r := r2) hx hb dJ3_checkIndex_8e157_9 rfl (lo_at hl 2 rfl) ?_
      refine lv_iload_n hx hb dJ3_checkIndex_8e157_10 rfl (lo_at hl 0 rfl) ?_
      refine lv_iload_n hx hb dJ3_checkIndex_8e157_11 rfl (lo_at hl 1 rfl) ?_
      exact hw.elim
abbrev rm_X3_init : Room := { frames := 2, cells := 8, slots := 2305, locals := 40 }
def wp_X3_init (o : Nat) (x1 : Int32) (h : Hp) (Q : Hp → Prop) : Prop := ∀ (q1 : Nat) (h2 : Hp), (hpK h q1).1 = 0 → h2 = alc h q1 (20 + 5) 0 → (((hpK h2 q1).1 = 20 + 5) ∧ (wp_X7_init q1 h2 (fun (h5 : Hp) => ((hpK h5 o).1 = 20 + 2) ∧ (∀ h8 : Hp, h8 = stR h5 o 1 (some q1) → (∀ (q9 : Nat) (h10 : Hp), (hpK h8 q9).1 = 0 → h10 = alc h8 q9 1 1600 → (((hpK h10 o).1 = 20 + 2) ∧ (∀ h13 : Hp, h13 = stR h10 o 2 (some q9) → (((hpK h13 o).1 = 20 + 2) ∧ (∀ h15 : Hp, h15 = stI h13 o 0 x1 → (Q h15))))))))))
set_option maxHeartbeats 4000000 in
set_option maxRecDepth 100000 in
theorem c_X3_init (l : Launch) (G : GG) (base : Nat) (o : Nat) (x1 : Int32) (h : Hp) (Q : Hp → Prop) (hw : wp_X3_init o x1 h Q) : Met l yX3_init (ww yX3_init cX3_init 2 none) rm_X3_init (va_Pc [.ref o, .int x1] (PU G base h)) (va_Qv Q (PU G base) (fun q => base ≤ q)) 8 2305 (fun q => base ≤ q) := by
  refine met_of (own := RX3) (nm := "<init>") (by decide) rfl rfl (List.forall_mem_cons.mpr ⟨rfl, (List.forall_mem_cons.mpr ⟨rfl, (fun _ h => absurd h List.not_mem_nil)⟩)⟩) (Nat.le_of_ble_eq_true rfl) rfl ?_
  intro p e s m below meth c ls hM hC hl
  obtain ⟨hx, hb, hr, hml, hown, hts, hg, hs, hlk, hnm⟩ := id hM
  obtain ⟨args, hargs⟩ : ∃ a : Array Value, a = ([.ref o, .int x1] : List Value).toArray := ⟨_, rfl⟩
  rw [← hargs] at hM hts ⊢
  obtain ⟨H, hH⟩ : ∃ H : Heap, H = s.heap := ⟨_, rfl⟩
  obtain ⟨locs, hlocs⟩ : ∃ x : List Loc, x = [] := ⟨_, rfl⟩
  have hC : Cx G base h s.heap H locs := by rw [hH, hlocs]; exact hC
  show W p l e rm_X3_init s m args below meth c s.heap [] 0 0 (MQ below (va_Qv Q (PU G base) (fun q => base ≤ q)) args s 8 2305 (fun q => base ≤ q)) (F0 m 0 ls [])
  rw [← hlocs]
  have hgoal : W p l e rm_X3_init s m args below meth c H locs 0 0 (MQ below (va_Qv Q (PU G base) (fun q => base ≤ q)) args s 8 2305 (fun q => base ≤ q)) (F0 m 0 ls []) := ?_
  · rw [hH] at hgoal; exact hgoal
  clear hH hlocs
  unfold wp_X3_init at hw
  refine lv_aload_n hx hb dX3_init_0 rfl (lo_at hl 0 rfl) ?_
  refine r_oi hx hb hown (hts _ mk_m_RX3_3) (hts _ mk_oi_i) (hts _ mk_oi_c) (by rw [hml]; exact hl.1.1) dX3_init_1 (Nat.le_of_ble_eq_true rfl) (Nat.le_of_ble_eq_true rfl) ?_
  refine lv_aload_n hx hb dX3_init_4 rfl (lo_at hl 0 rfl) ?_
  refine r_new hx hb hts hown hg hC cb_5 df_5 mk_c_RX3_9 mk_ins_OneBarrel_Text mk_ini_OneBarrel_Text (Nat.le_of_ble_eq_true rfl) (Nat.le_of_ble_eq_true rfl) dX3_init_5 (fun q1 h2 H k3 eh2 hC => ?_)
  replace hw := hw q1 h2 k3 eh2
  refine W.widen (k := 1) (n := 9) (Nat.le_of_ble_eq_true rfl) (Nat.le_of_ble_eq_true rfl) ?_
  refine lv_dup hx hb dX3_init_8 rfl ?_
  obtain ⟨k4, hw⟩ := hw
  refine res_v hC (run_IN (As := []) (rest := [.ref q1, .ref o]) hM hC hl.1.1 kv_RX3_11 (c_X7_init l G base q1 h2 _ hw) rfl rfl rfl ⟨Nat.le_of_ble_eq_true rfl, Nat.le_of_ble_eq_true rfl⟩ (Nat.le_of_ble_eq_true rfl) ⟨Nat.le_of_ble_eq_true rfl, Nat.le_of_ble_eq_true rfl⟩ dX3_init_9) (fun h5 H locs hw hC => ?_)
  refine W.widen (k := 7) (n := 705) (Nat.le_of_ble_eq_true rfl) (Nat.le_of_ble_eq_true rfl) ?_
  obtain ⟨k7, hw⟩ := hw
  refine r_putR (v := some q1) hx hb hts hown hg hC fb_2_1 k7 (nv_o) (fv_o) mk_f_RX3_12 dX3_init_12 (fun h8 H locs eh8 hC => ?_)
  replace hw := hw h8 eh8
  refine lv_aload_n hx hb dX3_init_15 rfl (lo_at hl 0 rfl) ?_
  refine lv_sipush (v := 1600) hx hb dX3_init_16 (by decide) ?_
  refine r_newI (N := 1600) hx hb hts mk_arc_int hg hC (by decide) rfl (by decide) (Nat.le_of_ble_eq_true rfl) (Nat.le_of_ble_eq_true rfl) dX3_init_19 (fun q9 h10 H k11 eh10 hC => ?_)
  replace hw := hw q9 h10 k11 eh10
  refine W.widen (k := 8) (n := 2305) (Nat.le_of_ble_eq_true rfl) (Nat.le_of_ble_eq_true rfl) ?_
  obtain ⟨k12, hw⟩ := hw
  refine r_putFR (v := some q9) hx hb hts hown hnm hg hC fb_2_2 k12 (nv_a) (fv_a) mk_f_RX3_18 dX3_init_21 (fun h13 H locs eh13 hC => ?_)
  replace hw := hw h13 eh13
  refine lv_aload_n hx hb dX3_init_24 rfl (lo_at hl 0 rfl) ?_
  refine lv_iload_n hx hb dX3_init_25 rfl (lo_at hl 1 rfl) ?_
  obtain ⟨k14, hw⟩ := hw
  refine r_putFI hx hb hts hown hnm hg hC fb_2_0 k14 rfl rfl mk_f_RX3_22 dX3_init_26 (fun h15 H locs eh15 hC => ?_)
  replace hw := hw h15 eh15
  exact ret_v hM hC hw dX3_init_29
abbrev rm_X5_init : Room := { frames := 2, cells := 7, slots := 705, locals := 40 }
def wp_X5_init (o : Nat) (r1 : Option Nat) (h : Hp) (Q : Hp → Prop) : Prop := ((hpK h o).1 = 20 + 4) ∧ (∀ h2 : Hp, h2 = stI h o 1 (-1 : Int32) → (∀ (q3 : Nat) (h4 : Hp), (hpK h2 q3).1 = 0 → h4 = alc h2 q3 (20 + 5) 0 → (((hpK h4 q3).1 = 20 + 5) ∧ (wp_X7_init q3 h4 (fun (h7 : Hp) => ((hpK h7 o).1 = 20 + 4) ∧ (∀ h10 : Hp, h10 = stR h7 o 3 (some q3) → (((hpK h10 o).1 = 20 + 4) ∧ (∀ h12 : Hp, h12 = stR h10 o 2 r1 → (Q h12)))))))))
set_option maxHeartbeats 4000000 in
set_option maxRecDepth 100000 in
theorem c_X5_init (l : Launch) (G : GG) (base : Nat) (o : Nat) (r1 : Option Nat) (h : Hp) (Q : Hp → Prop) (hw : wp_X5_init o r1 h Q) : Met l yX5_init (ww yX5_init cX5_init 2 none) rm_X5_init (va_Pc [.ref o, va_rf r1] (PU G base h)) (va_Qv Q (PU G base) (fun q => base ≤ q)) 7 705 (fun q => base ≤ q) := by
  refine met_of (own := RX5) (nm := "<init>") (by decide) rfl rfl (List.forall_mem_cons.mpr ⟨rfl, (List.forall_mem_cons.mpr ⟨va_rf_cat _, (fun _ h => absurd h List.not_mem_nil)⟩)⟩) (Nat.le_of_ble_eq_true rfl) rfl ?_
  intro p e s m below meth c ls hM hC hl
  obtain ⟨hx, hb, hr, hml, hown, hts, hg, hs, hlk, hnm⟩ := id hM
  obtain ⟨args, hargs⟩ : ∃ a : Array Value, a = ([.ref o, va_rf r1] : List Value).toArray := ⟨_, rfl⟩
  rw [← hargs] at hM hts ⊢
  obtain ⟨H, hH⟩ : ∃ H : Heap, H = s.heap := ⟨_, rfl⟩
  obtain ⟨locs, hlocs⟩ : ∃ x : List Loc, x = [] := ⟨_, rfl⟩
  have hC : Cx G base h s.heap H locs := by rw [hH, hlocs]; exact hC
  show W p l e rm_X5_init s m args below meth c s.heap [] 0 0 (MQ below (va_Qv Q (PU G base) (fun q => base ≤ q)) args s 7 705 (fun q => base ≤ q)) (F0 m 0 ls [])
  rw [← hlocs]
  have hgoal : W p l e rm_X5_init s m args below meth c H locs 0 0 (MQ below (va_Qv Q (PU G base) (fun q => base ≤ q)) args s 7 705 (fun q => base ≤ q)) (F0 m 0 ls []) := ?_
  · rw [hH] at hgoal; exact hgoal
  clear hH hlocs
  unfold wp_X5_init at hw
  refine lv_aload_n hx hb dX5_init_0 rfl (lo_at hl 0 rfl) ?_
  refine r_oi hx hb hown (hts _ mk_m_RX5_3) (hts _ mk_oi_i) (hts _ mk_oi_c) (by rw [hml]; exact hl.1.1) dX5_init_1 (Nat.le_of_ble_eq_true rfl) (Nat.le_of_ble_eq_true rfl) ?_
  refine lv_aload_n hx hb dX5_init_4 rfl (lo_at hl 0 rfl) ?_
  refine lv_iconst (v := -1) hx hb dX5_init_5 (by decide) ?_
  obtain ⟨k1, hw⟩ := hw
  refine r_putI hx hb hts hown hg hC fb_4_1 k1 rfl rfl mk_f_RX5_9 dX5_init_6 (fun h2 H locs eh2 hC => ?_)
  replace hw := hw h2 eh2
  refine lv_aload_n hx hb dX5_init_9 rfl (lo_at hl 0 rfl) ?_
  refine r_new hx hb hts hown hg hC cb_5 df_5 mk_c_RX5_15 mk_ins_OneBarrel_Text mk_ini_OneBarrel_Text (Nat.le_of_ble_eq_true rfl) (Nat.le_of_ble_eq_true rfl) dX5_init_10 (fun q3 h4 H k5 eh4 hC => ?_)
  replace hw := hw q3 h4 k5 eh4
  refine W.widen (k := 1) (n := 9) (Nat.le_of_ble_eq_true rfl) (Nat.le_of_ble_eq_true rfl) ?_
  refine lv_dup hx hb dX5_init_13 rfl ?_
  obtain ⟨k6, hw⟩ := hw
  refine res_v hC (run_IN (As := []) (rest := [.ref q3, .ref o]) hM hC hl.1.1 kv_RX5_17 (c_X7_init l G base q3 h4 _ hw) rfl rfl rfl ⟨Nat.le_of_ble_eq_true rfl, Nat.le_of_ble_eq_true rfl⟩ (Nat.le_of_ble_eq_true rfl) ⟨Nat.le_of_ble_eq_true rfl, Nat.le_of_ble_eq_true rfl⟩ dX5_init_14) (fun h7 H locs hw hC => ?_)
  refine W.widen (k := 7) (n := 705) (Nat.le_of_ble_eq_true rfl) (Nat.le_of_ble_eq_true rfl) ?_
  obtain ⟨k9, hw⟩ := hw
  refine r_putR (v := some q3) hx hb hts hown hg hC fb_4_3 k9 (nv_o) (fv_o) mk_f_RX5_18 dX5_init_17 (fun h10 H locs eh10 hC => ?_)
  replace hw := hw h10 eh10
  refine lv_aload_n hx hb dX5_init_20 rfl (lo_at hl 0 rfl) ?_
  refine lo_aload_n (r := r1) hx hb dX5_init_21 rfl (lo_at hl 1 rfl) ?_
  obtain ⟨k11, hw⟩ := hw
  refine r_putFR (v := r1) hx hb hts hown hnm hg hC fb_4_2 k11 (nv_o) (fv_o) mk_f_RX5_22 dX5_init_22 (fun h12 H locs eh12 hC => ?_)
  replace hw := hw h12 eh12
  exact ret_v hM hC hw dX5_init_25
def wp_X5_readBoth_L7 (C : Nat → Int32 → Hp → (Hp → Prop) → Prop) (o : Nat) (x1 : Int32) (K55 : Hp → Prop) (Q : Hp → Prop) : Nat → Int32 → Hp → Prop
  | 0, _, _ => False
  | n + 1, x2, h => (if (600 : Int32) ≤ x2 then (K55 h) else (((hpK h o).1 = 20 + 4) ∧ (wp_X5_kind o h (fun (z7 : Int32) (h6 : Hp) => (if z7 = (257 : Int32) then (((hpK h6 o).1 = 20 + 4) ∧ (∀ h10 : Hp, h10 = stI h6 o 5 ((hpI h6 o 5) + (1 : Int32)) → (((hpK h10 o).1 = 20 + 4) ∧ (C o x1 h10 (fun (h12 : Hp) => ((hpK h12 o).1 = 20 + 4) ∧ (okO h12 (hpR h12 o 3) 5 ∧ (wp_X7_put (ad (hpR h12 o 3)) (257 : Int32) h12 (fun (h16 : Hp) => ∀ v18 : Int32, v18 = x2 + (1 : Int32) → (wp_X5_readBoth_L7 C o x1 K55 Q n v18 h16))))))))) else (K55 h6))))))
def wp_X5_readBoth (C : Nat → Int32 → Hp → (Hp → Prop) → Prop) (o : Nat) (x1 : Int32) (h : Hp) (Q : Hp → Prop) : Prop := ((hpK h o).1 = 20 + 4) ∧ (C o x1 h (fun (h2 : Hp) => wp_X5_readBoth_L7 C o x1 (fun (h19 : Hp) => Q h19) Q fuel (0 : Int32) h2))
set_option maxHeartbeats 4000000 in
set_option maxRecDepth 100000 in
theorem t_X5_readBoth_L7 {p : Program} {l : Launch} {e : Env} {s : State} {m : MethodId} {args : Array Value} {below : List Frame} {meth : Method} {c : Code} {G : GG} {base : Nat} (hM : Mx G base p s m args meth c cX5_readBoth 3 none RX5 "readBoth") (d : Nat) (C : Nat → Int32 → Hp → (Hp → Prop) → Prop) (hCl : ∀ (o : Nat) (x : Int32) (h : Hp) (Q : Hp → Prop), C o x h Q → Met l yX5_readClaim (ww yX5_readClaim cX5_readClaim 4 none) (rm_claim d) (va_Pc [.ref o, .int x] (PU G base h)) (va_Qv Q (PU G base) (fun q => base ≤ q)) 0 0 (fun q => base ≤ q)) (o : Nat) (x1 : Int32) (K55 : Hp → Prop) (Q : Hp → Prop) (hK55 : ∀ (h : Hp) (H : Heap) (locs : List Loc) (ls : Array Slot), Cx G base h s.heap H locs → lo_has ls 3 [] → K55 h → W p l e (rm_X5_readBoth d) s m args below meth c H locs 0 0 (MQ below (va_Qv Q (PU G base) (fun q => base ≤ q)) args s 0 0 (fun q => base ≤ q)) (F0 m 55 ls [])) : ∀ (n : Nat) (x2 : Int32) (h : Hp) (H : Heap) (locs : List Loc) (ls : Array Slot), Cx G base h s.heap H locs → lo_has ls 3 [(0, .ref o), (1, .int x1), (2, .int x2)] → wp_X5_readBoth_L7 C o x1 K55 Q n x2 h → W p l e (rm_X5_readBoth d) s m args below meth c H locs 0 0 (MQ below (va_Qv Q (PU G base) (fun q => base ≤ q)) args s 0 0 (fun q => base ≤ q)) (F0 m 7 ls []) := by
  intro n
  induction n with
  | zero =>
    intro x2 h H locs ls hC hl hw
    rw [wp_X5_readBoth_L7] at hw
    exact hw.elim
  | succ n ih =>
    intro x2 h H locs ls hC hl hw
    rw [wp_X5_readBoth_L7] at hw
    obtain ⟨hx, hb, hr, hml, hown, hts, hg, hs, hlk, hnm⟩ := id hM
    refine lv_iload_n hx hb dX5_readBoth_7 rfl (lo_at hl 2 rfl) ?_
    refine lv_sipush (v := 600) hx hb dX5_readBoth_8 (by decide) ?_
    refine lv_icmp_ge (tgt := 55) hx hb dX5_readBoth_11 (by decide) (fun c4 => ?_) (fun c4 => ?_)
    ·
      replace hw := (if_pos c4).mp hw
      exact hK55  h H locs ls hC (lo_sub hl [] rfl) hw
    ·
      replace hw := (if_neg c4).mp hw
      refine lv_aload_n hx hb dX5_readBoth_14 rfl (lo_at hl 0 rfl) ?_
      obtain ⟨k5, hw⟩ := hw
      refine res_i hC (run_V (As := []) (rest := []) hM hC hl.1.1 kv_RX5_44 (c_X5_kind l G base o h _ hw) (hc_4) k5 rfl rfl rfl (by dsimp only [rm_claim, rm_X5_readBoth, rm_X5_readEither, rm_X5_readClaim, rm_X5_kind]; omega) (Nat.le_of_ble_eq_true rfl) ⟨Nat.le_of_ble_eq_true rfl, Nat.le_of_ble_eq_true rfl⟩ dX5_readBoth_15) (fun z7 h6 H locs hw hC => ?_)
      refine lv_sipush (v := 257) hx hb dX5_readBoth_18 (by decide) ?_
      refine lv_icmp_ne (tgt := 55) hx hb dX5_readBoth_21 (by decide) (fun c8 => ?_) (fun c8 => ?_)
      ·
        replace hw := (if_neg c8).mp hw
        exact hK55  h6 H locs ls hC (lo_sub hl [] rfl) hw
      ·
        replace hw := (if_pos c8).mp hw
        refine lv_aload_n hx hb dX5_readBoth_24 rfl (lo_at hl 0 rfl) ?_
        refine lv_dup hx hb dX5_readBoth_25 rfl ?_
        obtain ⟨k9, hw⟩ := hw
        refine r_getI hx hb hts hown hg hC fb_4_5 k9 mk_f_RX5_30 dX5_readBoth_26 ?_
        refine lv_iconst (v := 1) hx hb dX5_readBoth_29 (by decide) ?_
        refine lv_iadd hx hb dX5_readBoth_30 ?_
        refine r_putI hx hb hts hown hg hC fb_4_5 k9 rfl rfl mk_f_RX5_30 dX5_readBoth_31 (fun h10 H locs eh10 hC => ?_)
        replace hw := hw h10 eh10
        refine lv_aload_n hx hb dX5_readBoth_34 rfl (lo_at hl 0 rfl) ?_
        refine lv_iload_n hx hb dX5_readBoth_35 rfl (lo_at hl 1 rfl) ?_
        obtain ⟨k11, hw⟩ := hw
        refine res_v hC (run_V (As := [.int x1]) (rest := []) hM hC hl.1.1 kv_RX5_97 (hCl o x1 h10 _ hw) (hc_4) k11 rfl rfl rfl (by dsimp only [rm_claim, rm_X5_readBoth, rm_X5_readEither, rm_X5_readClaim]; omega) (Nat.le_of_ble_eq_true rfl) ⟨Nat.le_of_ble_eq_true rfl, Nat.le_of_ble_eq_true rfl⟩ dX5_readBoth_36) (fun h12 H locs hw hC => ?_)
        refine lv_aload_n hx hb dX5_readBoth_39 rfl (lo_at hl 0 rfl) ?_
        obtain ⟨k14, hw⟩ := hw
        refine r_getR hx hb hts hown hg hC fb_4_3 k14 mk_f_RX5_18 dX5_readBoth_40 ?_
        refine lv_sipush (v := 257) hx hb dX5_readBoth_43 (by decide) ?_
        obtain ⟨k15, hw⟩ := hw
        refine rf_2 k15.1 ?_
        refine res_v hC (run_V (As := [.int ((257 : Int32))]) (rest := []) hM hC hl.1.1 kv_RX5_94 (c_X7_put l G base (ad (hpR h12 o 3)) (257 : Int32) h12 _ hw) (hc_5) k15.2 rfl rfl rfl (by dsimp only [rm_claim, rm_X5_readBoth, rm_X5_readEither, rm_X5_readClaim, rm_X7_put]; omega) (Nat.le_of_ble_eq_true rfl) ⟨Nat.le_of_ble_eq_true rfl, Nat.le_of_ble_eq_true rfl⟩ dX5_readBoth_46) (fun h16 H locs hw hC => ?_)
        obtain ⟨v18, ev18⟩ : ∃ y : Int32, y = x2 + (1 : Int32) := ⟨_, rfl⟩
        replace hw := hw v18 ev18
        refine lo_iinc (v := v18) (lv' := [(2, .int v18), (0, .ref o), (1, .int x1)]) hx hb dX5_readBoth_49 hl (k := 2) rfl (by rw [ev18]; rfl) (by decide) rfl (fun ls hl => ?_)
        refine lv_goto (tgt := 7) hx hb dX5_readBoth_52 (by decide) ?_
        exact ih v18 h16 H locs ls hC (lo_sub hl [1, 2, 0] rfl) hw
set_option maxHeartbeats 4000000 in
set_option maxRecDepth 100000 in
theorem c_X5_readBoth (l : Launch) (G : GG) (base : Nat) (d : Nat) (C : Nat → Int32 → Hp → (Hp → Prop) → Prop) (hCl : ∀ (o : Nat) (x : Int32) (h : Hp) (Q : Hp → Prop), C o x h Q → Met l yX5_readClaim (ww yX5_readClaim cX5_readClaim 4 none) (rm_claim d) (va_Pc [.ref o, .int x] (PU G base h)) (va_Qv Q (PU G base) (fun q => base ≤ q)) 0 0 (fun q => base ≤ q)) (o : Nat) (x1 : Int32) (h : Hp) (Q : Hp → Prop) (hw : wp_X5_readBoth C o x1 h Q) : Met l yX5_readBoth (ww yX5_readBoth cX5_readBoth 3 none) (rm_X5_readBoth d) (va_Pc [.ref o, .int x1] (PU G base h)) (va_Qv Q (PU G base) (fun q => base ≤ q)) 0 0 (fun q => base ≤ q) := by
  refine met_of (own := RX5) (nm := "readBoth") (by decide) rfl rfl (List.forall_mem_cons.mpr ⟨rfl, (List.forall_mem_cons.mpr ⟨rfl, (fun _ h => absurd h List.not_mem_nil)⟩)⟩) (Nat.le_of_ble_eq_true rfl) rfl ?_
  intro p e s m below meth c ls hM hC hl
  obtain ⟨hx, hb, hr, hml, hown, hts, hg, hs, hlk, hnm⟩ := id hM
  obtain ⟨args, hargs⟩ : ∃ a : Array Value, a = ([.ref o, .int x1] : List Value).toArray := ⟨_, rfl⟩
  rw [← hargs] at hM hts ⊢
  obtain ⟨H, hH⟩ : ∃ H : Heap, H = s.heap := ⟨_, rfl⟩
  obtain ⟨locs, hlocs⟩ : ∃ x : List Loc, x = [] := ⟨_, rfl⟩
  have hC : Cx G base h s.heap H locs := by rw [hH, hlocs]; exact hC
  show W p l e (rm_X5_readBoth d) s m args below meth c s.heap [] 0 0 (MQ below (va_Qv Q (PU G base) (fun q => base ≤ q)) args s 0 0 (fun q => base ≤ q)) (F0 m 0 ls [])
  rw [← hlocs]
  have hgoal : W p l e (rm_X5_readBoth d) s m args below meth c H locs 0 0 (MQ below (va_Qv Q (PU G base) (fun q => base ≤ q)) args s 0 0 (fun q => base ≤ q)) (F0 m 0 ls []) := ?_
  · rw [hH] at hgoal; exact hgoal
  clear hH hlocs
  unfold wp_X5_readBoth at hw
  refine lv_aload_n hx hb dX5_readBoth_0 rfl (lo_at hl 0 rfl) ?_
  refine lv_iload_n hx hb dX5_readBoth_1 rfl (lo_at hl 1 rfl) ?_
  obtain ⟨k1, hw⟩ := hw
  refine res_v hC (run_V (As := [.int x1]) (rest := []) hM hC hl.1.1 kv_RX5_97 (hCl o x1 h _ hw) (hc_4) k1 rfl rfl rfl (by dsimp only [rm_claim, rm_X5_readBoth, rm_X5_readEither, rm_X5_readClaim]; omega) (Nat.le_of_ble_eq_true rfl) ⟨Nat.le_of_ble_eq_true rfl, Nat.le_of_ble_eq_true rfl⟩ dX5_readBoth_2) (fun h2 H locs hw hC => ?_)
  refine lv_iconst (v := 0) hx hb dX5_readBoth_5 (by decide) ?_
  refine lo_istore_n (lv' := [(2, .int ((0 : Int32))), (0, .ref o), (1, .int x1)]) hx hb dX5_readBoth_6 rfl hl (by decide) rfl (fun ls hl => ?_)
  refine t_X5_readBoth_L7 hM d C hCl o x1 _ Q ?_ fuel (0 : Int32) h2 H locs ls hC (lo_sub hl [1, 2, 0] rfl) hw
  intro  h19 H locs ls hC hl hw
  exact ret_v hM hC hw dX5_readBoth_55
