abbrev rm_X11_makeGroups : Room := { frames := 7, cells := 0, slots := 0, locals := 197 }
def wp_X11_makeGroups_L2 (o : Nat) (r1 : Option Nat) (K24 : Hp → Prop) (Q : Hp → Prop) : Nat → Int32 → Hp → Prop
  | 0, _, _ => False
  | n + 1, x2, h => (if (8 : Int32) ≤ x2 then (K24 h) else (((hpK h o).1 = 20 + 9) ∧ (okO h (hpR h o 15) 8 ∧ (okA h (hpR h (ad (hpR h o 15)) 5) 1 x2 ∧ (∀ h5 : Hp, h5 = stI h (ad (hpR h (ad (hpR h o 15)) 5)) (x2).toNatClampNeg x2 → (∀ v6 : Int32, v6 = x2 + (1 : Int32) → (wp_X11_makeGroups_L2 o r1 K24 Q n v6 h5)))))))
def wp_X11_makeGroups_L36 (o : Nat) (r1 : Option Nat) (x2 : Int32) (K105 : Hp → Prop) (Q : Hp → Prop) : Nat → Int32 → Hp → Prop
  | 0, _, _ => False
  | n + 1, x3, h => (if (8 : Int32) ≤ x3 then (K105 h) else (((hpK h o).1 = 20 + 9) ∧ (okO h (hpR h o 15) 8 ∧ (okA h (hpR h (ad (hpR h o 15)) 5) 1 x2 ∧ (∀ v14 : Int32, v14 = hpI h (ad (hpR h (ad (hpR h o 15)) 5)) (x2).toNatClampNeg → (okA h (hpR h (ad (hpR h o 15)) 5) 1 x3 ∧ (∀ v16 : Int32, v16 = hpI h (ad (hpR h (ad (hpR h o 15)) 5)) (x3).toNatClampNeg → ((if v14 = v16 then (∀ v18 : Int32, v18 = x3 + (1 : Int32) → (wp_X11_makeGroups_L36 o r1 x2 K105 Q n v18 h)) else (wp_X11_strengthOf o r1 x2 x3 h (fun (z20 : Int32) (h19 : Hp) => (if z20 = (-1 : Int32) then (∀ v22 : Int32, v22 = x3 + (1 : Int32) → (wp_X11_makeGroups_L36 o r1 x2 K105 Q n v22 h19)) else (((hpK h19 o).1 = 20 + 9) ∧ (okO h19 (hpR h19 o 15) 8 ∧ (okA h19 (hpR h19 (ad (hpR h19 o 15)) 5) 1 x2 ∧ (∀ v26 : Int32, v26 = hpI h19 (ad (hpR h19 (ad (hpR h19 o 15)) 5)) (x2).toNatClampNeg → (okA h19 (hpR h19 (ad (hpR h19 o 15)) 5) 1 x3 ∧ (∀ v28 : Int32, v28 = hpI h19 (ad (hpR h19 (ad (hpR h19 o 15)) 5)) (x3).toNatClampNeg → (wp_X10_uniteGroups (ad (hpR h19 o 15)) v26 v28 h19 (fun (h29 : Hp) => ∀ v31 : Int32, v31 = x3 + (1 : Int32) → (wp_X11_makeGroups_L36 o r1 x2 K105 Q n v31 h29)))))))))))))))))))))
def wp_X11_makeGroups_L26 (o : Nat) (r1 : Option Nat) (K111 : Hp → Prop) (Q : Hp → Prop) : Nat → Int32 → Hp → Prop
  | 0, _, _ => False
  | n + 1, x2, h => (if (8 : Int32) ≤ x2 then (K111 h) else (∀ v9 : Int32, v9 = x2 + (1 : Int32) → (wp_X11_makeGroups_L36 o r1 x2 (fun (h32 : Hp) => ∀ v33 : Int32, v33 = x2 + (1 : Int32) → (wp_X11_makeGroups_L26 o r1 K111 Q n v33 h32)) Q fuel v9 h)))
def wp_X11_makeGroups (o : Nat) (r1 : Option Nat) (h : Hp) (Q : Hp → Prop) : Prop := wp_X11_makeGroups_L2 o r1 (fun (h7 : Hp) => wp_X11_makeGroups_L26 o r1 (fun (h34 : Hp) => Q h34) Q fuel (0 : Int32) h7) Q fuel (0 : Int32) h
set_option maxHeartbeats 4000000 in
set_option maxRecDepth 100000 in
theorem t_X11_makeGroups_L2 {p : Program} {l : Launch} {e : Env} {s : State} {m : MethodId} {args : Array Value} {below : List Frame} {meth : Method} {c : Code} {G : GG} {base : Nat} (hM : Mx G base p s m args meth c cX11_makeGroups 4 none RX11 "makeGroups") (o : Nat) (r1 : Option Nat) (K24 : Hp → Prop) (Q : Hp → Prop) (hK24 : ∀ (h : Hp) (H : Heap) (locs : List Loc) (ls : Array Slot), Cx G base h s.heap H locs → lo_has ls 4 [(0, .ref o), (1, va_rf r1)] → K24 h → W p l e rm_X11_makeGroups s m args below meth c H locs 0 0 (MQ below (va_Qv Q (PU G base) (fun q => base ≤ q)) args s 0 0 (fun q => base ≤ q)) (F0 m 24 ls [])) : ∀ (n : Nat) (x2 : Int32) (h : Hp) (H : Heap) (locs : List Loc) (ls : Array Slot), Cx G base h s.heap H locs → lo_has ls 4 [(0, .ref o), (1, va_rf r1), (2, .int x2)] → wp_X11_makeGroups_L2 o r1 K24 Q n x2 h → W p l e rm_X11_makeGroups s m args below meth c H locs 0 0 (MQ below (va_Qv Q (PU G base) (fun q => base ≤ q)) args s 0 0 (fun q => base ≤ q)) (F0 m 2 ls []) := by
  intro n
  induction n with
  | zero =>
    intro x2 h H locs ls hC hl hw
    rw [wp_X11_makeGroups_L2] at hw
    exact hw.elim
  | succ n ih =>
    intro x2 h H locs ls hC hl hw
    rw [wp_X11_makeGroups_L2] at hw
    obtain ⟨hx, hb, hr, hml, hown, hts, hg, hs, hlk, hnm⟩ := id hM
    refine lv_iload_n hx hb dX11_makeGroups_2 rfl (lo_at hl 2 rfl) ?_
    refine lv_bipush (v := 8) hx hb dX11_makeGroups_3 (by decide) ?_
    refine lv_icmp_ge (tgt := 24) hx hb dX11_makeGroups_5 (by decide) (fun c1 => ?_) (fun c1 => ?_)
    ·
      replace hw := (if_pos c1).mp hw
      exact hK24  h H locs ls hC (lo_sub hl [0, 1] rfl) hw
    ·
      replace hw := (if_neg c1).mp hw
      refine lv_aload_n hx hb dX11_makeGroups_8 rfl (lo_at hl 0 rfl) ?_
      obtain ⟨k2, hw⟩ := hw
      refine r_getR hx hb hts hown hg hC fb_9_15 k2 mk_f_RX11_69 dX11_makeGroups_9 ?_
      obtain ⟨k3, hw⟩ := hw
      refine rf_1 k3.1 ?_
      refine r_getR hx hb hts hown hg hC fb_8_5 k3.2 mk_f_RX11_299 dX11_makeGroups_12 ?_
      refine lv_iload_n hx hb dX11_makeGroups_15 rfl (lo_at hl 2 rfl) ?_
      refine lv_iload_n hx hb dX11_makeGroups_16 rfl (lo_at hl 2 rfl) ?_
      obtain ⟨k4, hw⟩ := hw
      refine rf_3 k4.1 ?_
      refine r_iast hx hb hg hC k4.2.1 k4.2.2 dX11_makeGroups_17 (fun h5 H locs eh5 hC => ?_)
      replace hw := hw h5 eh5
      obtain ⟨v6, ev6⟩ : ∃ y : Int32, y = x2 + (1 : Int32) := ⟨_, rfl⟩
      replace hw := hw v6 ev6
      refine lo_iinc (v := v6) (lv' := [(2, .int v6), (0, .ref o), (1, va_rf r1)]) hx hb dX11_makeGroups_18 hl (k := 2) rfl (by rw [ev6]; rfl) (by decide) rfl (fun ls hl => ?_)
      refine lv_goto (tgt := 2) hx hb dX11_makeGroups_21 (by decide) ?_
      exact ih v6 h5 H locs ls hC (lo_sub hl [1, 2, 0] rfl) hw
set_option maxHeartbeats 4000000 in
set_option maxRecDepth 100000 in
theorem t_X11_makeGroups_L36 {p : Program} {l : Launch} {e : Env} {s : State} {m : MethodId} {args : Array Value} {below : List Frame} {meth : Method} {c : Code} {G : GG} {base : Nat} (hM : Mx G base p s m args meth c cX11_makeGroups 4 none RX11 "makeGroups") (o : Nat) (r1 : Option Nat) (x2 : Int32) (K105 : Hp → Prop) (Q : Hp → Prop) (hK105 : ∀ (h : Hp) (H : Heap) (locs : List Loc) (ls : Array Slot), Cx G base h s.heap H locs → lo_has ls 4 [(0, .ref o), (1, va_rf r1), (2, .int x2)] → K105 h → W p l e rm_X11_makeGroups s m args below meth c H locs 0 0 (MQ below (va_Qv Q (PU G base) (fun q => base ≤ q)) args s 0 0 (fun q => base ≤ q)) (F0 m 105 ls [])) : ∀ (n : Nat) (x3 : Int32) (h : Hp) (H : Heap) (locs : List Loc) (ls : Array Slot), Cx G base h s.heap H locs → lo_has ls 4 [(0, .ref o), (1, va_rf r1), (2, .int x2), (3, .int x3)] → wp_X11_makeGroups_L36 o r1 x2 K105 Q n x3 h → W p l e rm_X11_makeGroups s m args below meth c H locs 0 0 (MQ below (va_Qv Q (PU G base) (fun q => base ≤ q)) args s 0 0 (fun q => base ≤ q)) (F0 m 36 ls []) := by
  intro n
  induction n with
  | zero =>
    intro x3 h H locs ls hC hl hw
    rw [wp_X11_makeGroups_L36] at hw
    exact hw.elim
  | succ n ih =>
    intro x3 h H locs ls hC hl hw
    rw [wp_X11_makeGroups_L36] at hw
    obtain ⟨hx, hb, hr, hml, hown, hts, hg, hs, hlk, hnm⟩ := id hM
    refine lv_iload_n hx hb dX11_makeGroups_36 rfl (lo_at hl 3 rfl) ?_
    refine lv_bipush (v := 8) hx hb dX11_makeGroups_37 (by decide) ?_
    refine lv_icmp_ge (tgt := 105) hx hb dX11_makeGroups_39 (by decide) (fun c10 => ?_) (fun c10 => ?_)
    ·
      replace hw := (if_pos c10).mp hw
      exact hK105  h H locs ls hC (lo_sub hl [0, 1, 2] rfl) hw
    ·
      replace hw := (if_neg c10).mp hw
      refine lv_aload_n hx hb dX11_makeGroups_42 rfl (lo_at hl 0 rfl) ?_
      obtain ⟨k11, hw⟩ := hw
      refine r_getR hx hb hts hown hg hC fb_9_15 k11 mk_f_RX11_69 dX11_makeGroups_43 ?_
      obtain ⟨k12, hw⟩ := hw
      refine rf_1 k12.1 ?_
      refine r_getR hx hb hts hown hg hC fb_8_5 k12.2 mk_f_RX11_299 dX11_makeGroups_46 ?_
      refine lv_iload_n hx hb dX11_makeGroups_49 rfl (lo_at hl 2 rfl) ?_
      obtain ⟨k13, hw⟩ := hw
      refine rf_2 k13.1 ?_
      refine r_iald hx hb hg hC k13.2.1 k13.2.2 dX11_makeGroups_50 ?_
      refine lv_topi (fun v14 ev14 => ?_)
      replace hw := hw v14 ev14
      refine lv_aload_n hx hb dX11_makeGroups_51 rfl (lo_at hl 0 rfl) ?_
      refine r_getR hx hb hts hown hg hC fb_9_15 k11 mk_f_RX11_69 dX11_makeGroups_52 ?_
      refine rf_1 k12.1 ?_
      refine r_getR hx hb hts hown hg hC fb_8_5 k12.2 mk_f_RX11_299 dX11_makeGroups_55 ?_
      refine lv_iload_n hx hb dX11_makeGroups_58 rfl (lo_at hl 3 rfl) ?_
      obtain ⟨k15, hw⟩ := hw
      refine rf_2 k15.1 ?_
      refine r_iald hx hb hg hC k15.2.1 k15.2.2 dX11_makeGroups_59 ?_
      refine lv_topi (fun v16 ev16 => ?_)
      replace hw := hw v16 ev16
      refine lv_icmp_eq (tgt := 99) hx hb dX11_makeGroups_60 (by decide) (fun c17 => ?_) (fun c17 => ?_)
      ·
        replace hw := (if_pos c17).mp hw
        obtain ⟨v18, ev18⟩ : ∃ y : Int32, y = x3 + (1 : Int32) := ⟨_, rfl⟩
        replace hw := hw v18 ev18
        refine lo_iinc (v := v18) (lv' := [(3, .int v18), (0, .ref o), (1, va_rf r1), (2, .int x2)]) hx hb dX11_makeGroups_99 hl (k := 3) rfl (by rw [ev18]; rfl) (by decide) rfl (fun ls hl => ?_)
        refine lv_goto (tgt := 36) hx hb dX11_makeGroups_102 (by decide) ?_
        exact ih v18 h H locs ls hC (lo_sub hl [1, 2, 3, 0] rfl) hw
      ·
        replace hw := (if_neg c17).mp hw
        refine lv_aload_n hx hb dX11_makeGroups_63 rfl (lo_at hl 0 rfl) ?_
        refine lo_aload_n (r := r1) hx hb dX11_makeGroups_64 rfl (lo_at hl 1 rfl) ?_
        refine lv_iload_n hx hb dX11_makeGroups_65 rfl (lo_at hl 2 rfl) ?_
        refine lv_iload_n hx hb dX11_makeGroups_66 rfl (lo_at hl 3 rfl) ?_
        refine res_i hC (run_V (As := [va_rf r1, .int x2, .int x3]) (rest := []) hM hC hl.1.1 kv_RX11_335 (c_X11_strengthOf l G base o r1 x2 x3 h _ hw) (hc_9) k11 rfl rfl rfl ⟨Nat.le_of_ble_eq_true rfl, Nat.le_of_ble_eq_true rfl⟩ (Nat.le_of_ble_eq_true rfl) ⟨Nat.le_of_ble_eq_true rfl, Nat.le_of_ble_eq_true rfl⟩ dX11_makeGroups_67) (fun z20 h19 H locs hw hC => ?_)
        refine lv_iconst (v := -1) hx hb dX11_makeGroups_70 (by decide) ?_
        refine lv_icmp_eq (tgt := 99) hx hb dX11_makeGroups_71 (by decide) (fun c21 => ?_) (fun c21 => ?_)
        ·
          replace hw := (if_pos c21).mp hw
          obtain ⟨v22, ev22⟩ : ∃ y : Int32, y = x3 + (1 : Int32) := ⟨_, rfl⟩
          replace hw := hw v22 ev22
          refine lo_iinc (v := v22) (lv' := [(3, .int v22), (0, .ref o), (1, va_rf r1), (2, .int x2)]) hx hb dX11_makeGroups_99 hl (k := 3) rfl (by rw [ev22]; rfl) (by decide) rfl (fun ls hl => ?_)
          refine lv_goto (tgt := 36) hx hb dX11_makeGroups_102 (by decide) ?_
          exact ih v22 h19 H locs ls hC (lo_sub hl [1, 2, 3, 0] rfl) hw
        ·
          replace hw := (if_neg c21).mp hw
          refine lv_aload_n hx hb dX11_makeGroups_74 rfl (lo_at hl 0 rfl) ?_
          obtain ⟨k23, hw⟩ := hw
          refine r_getR hx hb hts hown hg hC fb_9_15 k23 mk_f_RX11_69 dX11_makeGroups_75 ?_
          refine lv_aload_n hx hb dX11_makeGroups_78 rfl (lo_at hl 0 rfl) ?_
          refine r_getR hx hb hts hown hg hC fb_9_15 k23 mk_f_RX11_69 dX11_makeGroups_79 ?_
          obtain ⟨k24, hw⟩ := hw
          refine rf_1 k24.1 ?_
          refine r_getR hx hb hts hown hg hC fb_8_5 k24.2 mk_f_RX11_299 dX11_makeGroups_82 ?_
          refine lv_iload_n hx hb dX11_makeGroups_85 rfl (lo_at hl 2 rfl) ?_
          obtain ⟨k25, hw⟩ := hw
          refine rf_2 k25.1 ?_
          refine r_iald hx hb hg hC k25.2.1 k25.2.2 dX11_makeGroups_86 ?_
          refine lv_topi (fun v26 ev26 => ?_)
          replace hw := hw v26 ev26
          refine lv_aload_n hx hb dX11_makeGroups_87 rfl (lo_at hl 0 rfl) ?_
          refine r_getR hx hb hts hown hg hC fb_9_15 k23 mk_f_RX11_69 dX11_makeGroups_88 ?_
          refine rf_1 k24.1 ?_
          refine r_getR hx hb hts hown hg hC fb_8_5 k24.2 mk_f_RX11_299 dX11_makeGroups_91 ?_
          refine lv_iload_n hx hb dX11_makeGroups_94 rfl (lo_at hl 3 rfl) ?_
          obtain ⟨k27, hw⟩ := hw
          refine rf_2 k27.1 ?_
          refine r_iald hx hb hg hC k27.2.1 k27.2.2 dX11_makeGroups_95 ?_
          refine lv_topi (fun v28 ev28 => ?_)
          replace hw := hw v28 ev28
          refine rf_3 k24.1 ?_
          refine res_v hC (run_V (As := [.int v26, .int v28]) (rest := []) hM hC hl.1.1 kv_RX11_339 (c_X10_uniteGroups l G base (ad (hpR h19 o 15)) v26 v28 h19 _ hw) (hc_8) k24.2 rfl rfl rfl ⟨Nat.le_of_ble_eq_true rfl, Nat.le_of_ble_eq_true rfl⟩ (Nat.le_of_ble_eq_true rfl) ⟨Nat.le_of_ble_eq_true rfl, Nat.le_of_ble_eq_true rfl⟩ dX11_makeGroups_96) (fun h29 H locs hw hC => ?_)
          obtain ⟨v31, ev31⟩ : ∃ y : Int32, y = x3 + (1 : Int32) := ⟨_, rfl⟩
          replace hw := hw v31 ev31
          refine lo_iinc (v := v31) (lv' := [(3, .int v31), (0, .ref o), (1, va_rf r1), (2, .int x2)]) hx hb dX11_makeGroups_99 hl (k := 3) rfl (by rw [ev31]; rfl) (by decide) rfl (fun ls hl => ?_)
          refine lv_goto (tgt := 36) hx hb dX11_makeGroups_102 (by decide) ?_
          exact ih v31 h29 H locs ls hC (lo_sub hl [1, 2, 3, 0] rfl) hw
set_option maxHeartbeats 4000000 in
set_option maxRecDepth 100000 in
theorem t_X11_makeGroups_L26 {p : Program} {l : Launch} {e : Env} {s : State} {m : MethodId} {args : Array Value} {below : List Frame} {meth : Method} {c : Code} {G : GG} {base : Nat} (hM : Mx G base p s m args meth c cX11_makeGroups 4 none RX11 "makeGroups") (o : Nat) (r1 : Option Nat) (K111 : Hp → Prop) (Q : Hp → Prop) (hK111 : ∀ (h : Hp) (H : Heap) (locs : List Loc) (ls : Array Slot), Cx G base h s.heap H locs → lo_has ls 4 [] → K111 h → W p l e rm_X11_makeGroups s m args below meth c H locs 0 0 (MQ below (va_Qv Q (PU G base) (fun q => base ≤ q)) args s 0 0 (fun q => base ≤ q)) (F0 m 111 ls [])) : ∀ (n : Nat) (x2 : Int32) (h : Hp) (H : Heap) (locs : List Loc) (ls : Array Slot), Cx G base h s.heap H locs → lo_has ls 4 [(0, .ref o), (1, va_rf r1), (2, .int x2)] → wp_X11_makeGroups_L26 o r1 K111 Q n x2 h → W p l e rm_X11_makeGroups s m args below meth c H locs 0 0 (MQ below (va_Qv Q (PU G base) (fun q => base ≤ q)) args s 0 0 (fun q => base ≤ q)) (F0 m 26 ls []) := by
  intro n
  induction n with
  | zero =>
    intro x2 h H locs ls hC hl hw
    rw [wp_X11_makeGroups_L26] at hw
    exact hw.elim
  | succ n ih =>
    intro x2 h H locs ls hC hl hw
    rw [wp_X11_makeGroups_L26] at hw
    obtain ⟨hx, hb, hr, hml, hown, hts, hg, hs, hlk, hnm⟩ := id hM
    refine lv_iload_n hx hb dX11_makeGroups_26 rfl (lo_at hl 2 rfl) ?_
    refine lv_bipush (v := 8) hx hb dX11_makeGroups_27 (by decide) ?_
    refine lv_icmp_ge (tgt := 111) hx hb dX11_makeGroups_29 (by decide) (fun c8 => ?_) (fun c8 => ?_)
    ·
      replace hw := (if_pos c8).mp hw
      exact hK111  h H locs ls hC (lo_sub hl [] rfl) hw
    ·
      replace hw := (if_neg c8).mp hw
      refine lv_iload_n hx hb dX11_makeGroups_32 rfl (lo_at hl 2 rfl) ?_
      refine lv_iconst (v := 1) hx hb dX11_makeGroups_33 (by decide) ?_
      refine lv_iadd hx hb dX11_makeGroups_34 ?_
      refine lv_topi (fun v9 ev9 => ?_)
      replace hw := hw v9 ev9
      refine lo_istore_n (lv' := [(3, .int v9), (0, .ref o), (1, va_rf r1), (2, .int x2)]) hx hb dX11_makeGroups_35 rfl hl (by decide) rfl (fun ls hl => ?_)
      refine t_X11_makeGroups_L36 hM o r1 x2 _ Q ?_ fuel v9 h H locs ls hC (lo_sub hl [1, 2, 3, 0] rfl) hw
      intro  h32 H locs ls hC hl hw
      obtain ⟨v33, ev33⟩ : ∃ y : Int32, y = x2 + (1 : Int32) := ⟨_, rfl⟩
      replace hw := hw v33 ev33
      refine lo_iinc (v := v33) (lv' := [(2, .int v33), (0, .ref o), (1, va_rf r1)]) hx hb dX11_makeGroups_105 hl (k := 2) rfl (by rw [ev33]; rfl) (by decide) rfl (fun ls hl => ?_)
      refine lv_goto (tgt := 26) hx hb dX11_makeGroups_108 (by decide) ?_
      exact ih v33 h32 H locs ls hC (lo_sub hl [1, 2, 0] rfl) hw
set_option maxHeartbeats 4000000 in
set_option maxRecDepth 100000 in
theorem c_X11_makeGroups (l : Launch) (G : GG) (base : Nat) (o : Nat) (r1 : Option Nat) (h : Hp) (Q : Hp → Prop) (hw : wp_X11_makeGroups o r1 h Q) : Met l yX11_makeGroups (ww yX11_makeGroups cX11_makeGroups 4 none) rm_X11_makeGroups (va_Pc [.ref o, va_rf r1] (PU G base h)) (va_Qv Q (PU G base) (fun q => base ≤ q)) 0 0 (fun q => base ≤ q) := by
  refine met_of (own := RX11) (nm := "makeGroups") (by decide) rfl rfl (List.forall_mem_cons.mpr ⟨rfl, (List.forall_mem_cons.mpr ⟨va_rf_cat _, (fun _ h => absurd h List.not_mem_nil)⟩)⟩) (Nat.le_of_ble_eq_true rfl) rfl ?_
  intro p e s m below meth c ls hM hC hl
  obtain ⟨hx, hb, hr, hml, hown, hts, hg, hs, hlk, hnm⟩ := id hM
  obtain ⟨args, hargs⟩ : ∃ a : Array Value, a = ([.ref o, va_rf r1] : List Value).toArray := ⟨_, rfl⟩
  rw [← hargs] at hM hts ⊢
  obtain ⟨H, hH⟩ : ∃ H : Heap, H = s.heap := ⟨_, rfl⟩
  obtain ⟨locs, hlocs⟩ : ∃ x : List Loc, x = [] := ⟨_, rfl⟩
  have hC : Cx G base h s.heap H locs := by rw [hH, hlocs]; exact hC
  show W p l e rm_X11_makeGroups s m args below meth c s.heap [] 0 0 (MQ below (va_Qv Q (PU G base) (fun q => base ≤ q)) args s 0 0 (fun q => base ≤ q)) (F0 m 0 ls [])
  rw [← hlocs]
  have hgoal : W p l e rm_X11_makeGroups s m args below meth c H locs 0 0 (MQ below (va_Qv Q (PU G base) (fun q => base ≤ q)) args s 0 0 (fun q => base ≤ q)) (F0 m 0 ls []) := ?_
  · rw [hH] at hgoal; exact hgoal
  clear hH hlocs
  unfold wp_X11_makeGroups at hw
  refine lv_iconst (v := 0) hx hb dX11_makeGroups_0 (by decide) ?_
  refine lo_istore_n (lv' := [(2, .int ((0 : Int32))), (0, .ref o), (1, va_rf r1)]) hx hb dX11_makeGroups_1 rfl hl (by decide) rfl (fun ls hl => ?_)
  refine t_X11_makeGroups_L2 hM o r1 _ Q ?_ fuel (0 : Int32) h H locs ls hC (lo_sub hl [1, 2, 0] rfl) hw
  intro  h7 H locs ls hC hl hw
  refine lv_iconst (v := 0) hx hb dX11_makeGroups_24 (by decide) ?_
  refine lo_istore_n (lv' := [(2, .int ((0 : Int32))), (0, .ref o), (1, va_rf r1)]) hx hb dX11_makeGroups_25 rfl hl (by decide) rfl (fun ls hl => ?_)
  refine t_X11_makeGroups_L26 hM o r1 _ Q ?_ fuel (0 : Int32) h7 H locs ls hC (lo_sub hl [1, 2, 0] rfl) hw
  intro  h34 H locs ls hC hl hw
  exact ret_v hM hC hw dX11_makeGroups_111
abbrev rm_X5_readLine : Room := { frames := 165, cells := 0, slots := 0, locals := 3502 }
def wp_X5_readLine_J104 (o : Nat) (Q : Hp → Prop) (h : Hp) : Prop := ((hpK h o).1 = 20 + 4) ∧ (wp_X5_expect o (59 : Int32) h (fun (h32 : Hp) => ((hpK h32 o).1 = 20 + 4) ∧ (okO h32 (hpR h32 o 3) 5 ∧ (wp_X7_finishLine (ad (hpR h32 o 3)) h32 (fun (h36 : Hp) => Q h36)))))
def wp_X5_readLine (o : Nat) (h : Hp) (Q : Hp → Prop) : Prop := ((hpK h o).1 = 20 + 4) ∧ (wp_X5_kind o h (fun (z3 : Int32) (h2 : Hp) => ((hpK h2 o).1 = 20 + 4) ∧ (wp_X5_isHead o z3 h2 (fun (z6 : Int32) (h5 : Hp) => (if z6 = 0 then (((hpK h5 o).1 = 20 + 4) ∧ (wp_X5_refuse o (1 : Int32) h5 (fun (h49 : Hp) => Q h49))) else (((hpK h5 o).1 = 20 + 4) ∧ (okO h5 (hpR h5 o 3) 5 ∧ (wp_X7_isFull (ad (hpR h5 o 3)) h5 (fun (z11 : Int32) (h10 : Hp) => (if z11 = 0 then (((hpK h10 o).1 = 20 + 4) ∧ (∀ h14 : Hp, h14 = stI h10 o 5 ((hpI h10 o 5) + (1 : Int32)) → (((hpK h14 o).1 = 20 + 4) ∧ (okO h14 (hpR h14 o 3) 5 ∧ (wp_X7_beginLine (ad (hpR h14 o 3)) z3 h14 (fun (h17 : Hp) => ((hpK h17 o).1 = 20 + 4) ∧ ((if (hpI h17 o 4) = 0 then (wp_X5_readEither (wpR_claim 12) o (0 : Int32) h17 (fun (h43 : Hp) => wp_X5_readLine_J104 o Q h43)) else (wp_X5_readSum o h17 (fun (h21 : Hp) => ((hpK h21 o).1 = 20 + 4) ∧ (okO h21 (hpR h21 o 3) 5 ∧ (wp_X7_beginClaim (ad (hpR h21 o 3)) h21 (fun (h25 : Hp) => ((hpK h25 o).1 = 20 + 4) ∧ (wp_X5_kind o h25 (fun (z29 : Int32) (h28 : Hp) => (if z29 = (259 : Int32) then (((hpK h28 o).1 = 20 + 4) ∧ (∀ h39 : Hp, h39 = stI h28 o 5 ((hpI h28 o 5) + (1 : Int32)) → (((hpK h39 o).1 = 20 + 4) ∧ (wp_X5_readEither (wpR_claim 12) o (0 : Int32) h39 (fun (h41 : Hp) => wp_X5_readLine_J104 o Q h41))))) else (wp_X5_readLine_J104 o Q h28))))))))))))))))) else (((hpK h10 o).1 = 20 + 4) ∧ (wp_X5_refuse o (3 : Int32) h10 (fun (h46 : Hp) => Q h46)))))))))))))
set_option maxHeartbeats 4000000 in
set_option maxRecDepth 100000 in
theorem t_X5_readLine_J104 {p : Program} {l : Launch} {e : Env} {s : State} {m : MethodId} {args : Array Value} {below : List Frame} {meth : Method} {c : Code} {G : GG} {base : Nat} (hM : Mx G base p s m args meth c cX5_readLine 2 none RX5 "readLine") (o : Nat) (Q : Hp → Prop) (h : Hp) (H : Heap) (locs : List Loc) (ls : Array Slot) : Cx G base h s.heap H locs → lo_has ls 2 [(0, .ref o)] → wp_X5_readLine_J104 o Q h → W p l e rm_X5_readLine s m args below meth c H locs 0 0 (MQ below (va_Qv Q (PU G base) (fun q => base ≤ q)) args s 0 0 (fun q => base ≤ q)) (F0 m 104 ls []) := by
  intro hC hl hw
  unfold wp_X5_readLine_J104 at hw
  obtain ⟨hx, hb, hr, hml, hown, hts, hg, hs, hlk, hnm⟩ := id hM
  refine lv_aload_n hx hb dX5_readLine_104 rfl (lo_at hl 0 rfl) ?_
  refine lv_bipush (v := 59) hx hb dX5_readLine_105 (by decide) ?_
  obtain ⟨k31, hw⟩ := hw
  refine res_v hC (run_V (As := [.int ((59 : Int32))]) (rest := []) hM hC hl.1.1 kv_RX5_85 (c_X5_expect l G base o (59 : Int32) h _ hw) (hc_4) k31 rfl rfl rfl ⟨Nat.le_of_ble_eq_true rfl, Nat.le_of_ble_eq_true rfl⟩ (Nat.le_of_ble_eq_true rfl) ⟨Nat.le_of_ble_eq_true rfl, Nat.le_of_ble_eq_true rfl⟩ dX5_readLine_107) (fun h32 H locs hw hC => ?_)
  refine lv_aload_n hx hb dX5_readLine_110 rfl (lo_at hl 0 rfl) ?_
  obtain ⟨k34, hw⟩ := hw
  refine r_getR hx hb hts hown hg hC fb_4_3 k34 mk_f_RX5_18 dX5_readLine_111 ?_
  obtain ⟨k35, hw⟩ := hw
  refine rf_1 k35.1 ?_
  refine res_v hC (run_V (As := []) (rest := []) hM hC hl.1.1 kv_RX5_88 (c_X7_finishLine l G base (ad (hpR h32 o 3)) h32 _ hw) (hc_5) k35.2 rfl rfl rfl ⟨Nat.le_of_ble_eq_true rfl, Nat.le_of_ble_eq_true rfl⟩ (Nat.le_of_ble_eq_true rfl) ⟨Nat.le_of_ble_eq_true rfl, Nat.le_of_ble_eq_true rfl⟩ dX5_readLine_114) (fun h36 H locs hw hC => ?_)
  exact ret_v hM hC hw dX5_readLine_117
set_option maxHeartbeats 4000000 in
set_option maxRecDepth 100000 in
theorem c_X5_readLine (l : Launch) (G : GG) (base : Nat) (o : Nat) (h : Hp) (Q : Hp → Prop) (hw : wp_X5_readLine o h Q) : Met l yX5_readLine (ww yX5_readLine cX5_readLine 2 none) rm_X5_readLine (va_Pc [.ref o] (PU G base h)) (va_Qv Q (PU G base) (fun q => base ≤ q)) 0 0 (fun q => base ≤ q) := by
  refine met_of (own := RX5) (nm := "readLine") (by decide) rfl rfl (List.forall_mem_cons.mpr ⟨rfl, (fun _ h => absurd h List.not_mem_nil)⟩) (Nat.le_of_ble_eq_true rfl) rfl ?_
  intro p e s m below meth c ls hM hC hl
  obtain ⟨hx, hb, hr, hml, hown, hts, hg, hs, hlk, hnm⟩ := id hM
  obtain ⟨args, hargs⟩ : ∃ a : Array Value, a = ([.ref o] : List Value).toArray := ⟨_, rfl⟩
  rw [← hargs] at hM hts ⊢
  obtain ⟨H, hH⟩ : ∃ H : Heap, H = s.heap := ⟨_, rfl⟩
  obtain ⟨locs, hlocs⟩ : ∃ x : List Loc, x = [] := ⟨_, rfl⟩
  have hC : Cx G base h s.heap H locs := by rw [hH, hlocs]; exact hC
  show W p l e rm_X5_readLine s m args below meth c s.heap [] 0 0 (MQ below (va_Qv Q (PU G base) (fun q => base ≤ q)) args s 0 0 (fun q => base ≤ q)) (F0 m 0 ls [])
  rw [← hlocs]
  have hgoal : W p l e rm_X5_readLine s m args below meth c H locs 0 0 (MQ below (va_Qv Q (PU G base) (fun q => base ≤ q)) args s 0 0 (fun q => base ≤ q)) (F0 m 0 ls []) := ?_
  · rw [hH] at hgoal; exact hgoal
  clear hH hlocs
  unfold wp_X5_readLine at hw
  refine lv_aload_n hx hb dX5_readLine_0 rfl (lo_at hl 0 rfl) ?_
  obtain ⟨k1, hw⟩ := hw
  refine res_i hC (run_V (As := []) (rest := []) hM hC hl.1.1 kv_RX5_44 (c_X5_kind l G base o h _ hw) (hc_4) k1 rfl rfl rfl ⟨Nat.le_of_ble_eq_true rfl, Nat.le_of_ble_eq_true rfl⟩ (Nat.le_of_ble_eq_true rfl) ⟨Nat.le_of_ble_eq_true rfl, Nat.le_of_ble_eq_true rfl⟩ dX5_readLine_1) (fun z3 h2 H locs hw hC => ?_)
  refine lo_istore_n (lv' := [(1, .int z3), (0, .ref o)]) hx hb dX5_readLine_4 rfl hl (by decide) rfl (fun ls hl => ?_)
  refine lv_aload_n hx hb dX5_readLine_5 rfl (lo_at hl 1 rfl) ?_
  refine lv_iload_n hx hb dX5_readLine_6 rfl (lo_at hl 0 rfl) ?_
  obtain ⟨k4, hw⟩ := hw
  refine res_i hC (run_V (As := [.int z3]) (rest := []) hM hC hl.1.1 kv_RX5_65 (c_X5_isHead l G base o z3 h2 _ hw) (hc_4) k4 rfl rfl rfl ⟨Nat.le_of_ble_eq_true rfl, Nat.le_of_ble_eq_true rfl⟩ (Nat.le_of_ble_eq_true rfl) ⟨Nat.le_of_ble_eq_true rfl, Nat.le_of_ble_eq_true rfl⟩ dX5_readLine_7) (fun z6 h5 H locs hw hC => ?_)
  refine lv_if_ne (tgt := 19) hx hb dX5_readLine_10 (by decide) (fun c7 => ?_) (fun c7 => ?_)
  ·
    replace hw := (if_neg c7).mp hw
    refine lv_aload_n hx hb dX5_readLine_19 rfl (lo_at hl 1 rfl) ?_
    obtain ⟨k8, hw⟩ := hw
    refine r_getR hx hb hts hown hg hC fb_4_3 k8 mk_f_RX5_18 dX5_readLine_20 ?_
    obtain ⟨k9, hw⟩ := hw
    refine rf_1 k9.1 ?_
    refine res_i hC (run_V (As := []) (rest := []) hM hC hl.1.1 kv_RX5_69 (c_X7_isFull l G base (ad (hpR h5 o 3)) h5 _ hw) (hc_5) k9.2 rfl rfl rfl ⟨Nat.le_of_ble_eq_true rfl, Nat.le_of_ble_eq_true rfl⟩ (Nat.le_of_ble_eq_true rfl) ⟨Nat.le_of_ble_eq_true rfl, Nat.le_of_ble_eq_true rfl⟩ dX5_readLine_23) (fun z11 h10 H locs hw hC => ?_)
    refine lv_if_eq (tgt := 35) hx hb dX5_readLine_26 (by decide) (fun c12 => ?_) (fun c12 => ?_)
    ·
      replace hw := (if_pos c12).mp hw
      refine lv_aload_n hx hb dX5_readLine_35 rfl (lo_at hl 1 rfl) ?_
      refine lv_dup hx hb dX5_readLine_36 rfl ?_
      obtain ⟨k13, hw⟩ := hw
      refine r_getI hx hb hts hown hg hC fb_4_5 k13 mk_f_RX5_30 dX5_readLine_37 ?_
      refine lv_iconst (v := 1) hx hb dX5_readLine_40 (by decide) ?_
      refine lv_iadd hx hb dX5_readLine_41 ?_
      refine r_putI hx hb hts hown hg hC fb_4_5 k13 rfl rfl mk_f_RX5_30 dX5_readLine_42 (fun h14 H locs eh14 hC => ?_)
      replace hw := hw h14 eh14
      refine lv_aload_n hx hb dX5_readLine_45 rfl (lo_at hl 1 rfl) ?_
      obtain ⟨k15, hw⟩ := hw
      refine r_getR hx hb hts hown hg hC fb_4_3 k15 mk_f_RX5_18 dX5_readLine_46 ?_
      refine lv_iload_n hx hb dX5_readLine_49 rfl (lo_at hl 0 rfl) ?_
      obtain ⟨k16, hw⟩ := hw
      refine rf_2 k16.1 ?_
      refine res_v hC (run_V (As := [.int z3]) (rest := []) hM hC hl.1.1 kv_RX5_73 (c_X7_beginLine l G base (ad (hpR h14 o 3)) z3 h14 _ hw) (hc_5) k16.2 rfl rfl rfl ⟨Nat.le_of_ble_eq_true rfl, Nat.le_of_ble_eq_true rfl⟩ (Nat.le_of_ble_eq_true rfl) ⟨Nat.le_of_ble_eq_true rfl, Nat.le_of_ble_eq_true rfl⟩ dX5_readLine_50) (fun h17 H locs hw hC => ?_)
      refine lv_aload_n hx hb dX5_readLine_53 rfl (lo_at hl 1 rfl) ?_
      obtain ⟨k19, hw⟩ := hw
      refine r_getI hx hb hts hown hg hC fb_4_4 k19 mk_f_RX5_26 dX5_readLine_54 ?_
      refine lv_if_ne (tgt := 68) hx hb dX5_readLine_57 (by decide) (fun c20 => ?_) (fun c20 => ?_)
      ·
        replace hw := (if_neg c20).mp hw
        refine lv_aload_n hx hb dX5_readLine_68 rfl (lo_at hl 1 rfl) ?_
        refine res_v hC (run_V (As := []) (rest := []) hM hC hl.1.1 kv_RX5_79 (c_X5_readSum l G base o h17 _ hw) (hc_4) k19 rfl rfl rfl ⟨Nat.le_of_ble_eq_true rfl, Nat.le_of_ble_eq_true rfl⟩ (Nat.le_of_ble_eq_true rfl) ⟨Nat.le_of_ble_eq_true rfl, Nat.le_of_ble_eq_true rfl⟩ dX5_readLine_69) (fun h21 H locs hw hC => ?_)
        refine lv_aload_n hx hb dX5_readLine_72 rfl (lo_at hl 1 rfl) ?_
        obtain ⟨k23, hw⟩ := hw
        refine r_getR hx hb hts hown hg hC fb_4_3 k23 mk_f_RX5_18 dX5_readLine_73 ?_
        obtain ⟨k24, hw⟩ := hw
        refine rf_1 k24.1 ?_
        refine res_v hC (run_V (As := []) (rest := []) hM hC hl.1.1 kv_RX5_82 (c_X7_beginClaim l G base (ad (hpR h21 o 3)) h21 _ hw) (hc_5) k24.2 rfl rfl rfl ⟨Nat.le_of_ble_eq_true rfl, Nat.le_of_ble_eq_true rfl⟩ (Nat.le_of_ble_eq_true rfl) ⟨Nat.le_of_ble_eq_true rfl, Nat.le_of_ble_eq_true rfl⟩ dX5_readLine_76) (fun h25 H locs hw hC => ?_)
        refine lv_aload_n hx hb dX5_readLine_79 rfl (lo_at hl 1 rfl) ?_
        obtain ⟨k27, hw⟩ := hw
        refine res_i hC (run_V (As := []) (rest := []) hM hC hl.1.1 kv_RX5_44 (c_X5_kind l G base o h25 _ hw) (hc_4) k27 rfl rfl rfl ⟨Nat.le_of_ble_eq_true rfl, Nat.le_of_ble_eq_true rfl⟩ (Nat.le_of_ble_eq_true rfl) ⟨Nat.le_of_ble_eq_true rfl, Nat.le_of_ble_eq_true rfl⟩ dX5_readLine_80) (fun z29 h28 H locs hw hC => ?_)
        refine lv_sipush (v := 259) hx hb dX5_readLine_83 (by decide) ?_
        refine lv_icmp_ne (tgt := 104) hx hb dX5_readLine_86 (by decide) (fun c30 => ?_) (fun c30 => ?_)
        ·
          replace hw := (if_neg c30).mp hw
          exact t_X5_readLine_J104 hM o Q  h28 H locs ls hC (lo_sub hl [1] rfl) hw
        ·
          replace hw := (if_pos c30).mp hw
          refine lv_aload_n hx hb dX5_readLine_89 rfl (lo_at hl 1 rfl) ?_
          refine lv_dup hx hb dX5_readLine_90 rfl ?_
          obtain ⟨k38, hw⟩ := hw
          refine r_getI hx hb hts hown hg hC fb_4_5 k38 mk_f_RX5_30 dX5_readLine_91 ?_
          refine lv_iconst (v := 1) hx hb dX5_readLine_94 (by decide) ?_
          refine lv_iadd hx hb dX5_readLine_95 ?_
          refine r_putI hx hb hts hown hg hC fb_4_5 k38 rfl rfl mk_f_RX5_30 dX5_readLine_96 (fun h39 H locs eh39 hC => ?_)
          replace hw := hw h39 eh39
          refine lv_aload_n hx hb dX5_readLine_99 rfl (lo_at hl 1 rfl) ?_
          refine lv_iconst (v := 0) hx hb dX5_readLine_100 (by decide) ?_
          obtain ⟨k40, hw⟩ := hw
          refine res_v hC (run_V (As := [.int ((0 : Int32))]) (rest := []) hM hC hl.1.1 kv_RX5_76 (c_X5_readEither l G base 12 (wpR_claim 12) (cR_claim l G base 12) o (0 : Int32) h39 _ hw) (hc_4) k40 rfl rfl rfl ⟨Nat.le_of_ble_eq_true rfl, Nat.le_of_ble_eq_true rfl⟩ (Nat.le_of_ble_eq_true rfl) ⟨Nat.le_of_ble_eq_true rfl, Nat.le_of_ble_eq_true rfl⟩ dX5_readLine_101) (fun h41 H locs hw hC => ?_)
          exact t_X5_readLine_J104 hM o Q  h41 H locs ls hC (lo_sub hl [1] rfl) hw
      ·
        replace hw := (if_pos c20).mp hw
        refine lv_aload_n hx hb dX5_readLine_60 rfl (lo_at hl 1 rfl) ?_
        refine lv_iconst (v := 0) hx hb dX5_readLine_61 (by decide) ?_
        refine res_v hC (run_V (As := [.int ((0 : Int32))]) (rest := []) hM hC hl.1.1 kv_RX5_76 (c_X5_readEither l G base 12 (wpR_claim 12) (cR_claim l G base 12) o (0 : Int32) h17 _ hw) (hc_4) k19 rfl rfl rfl ⟨Nat.le_of_ble_eq_true rfl, Nat.le_of_ble_eq_true rfl⟩ (Nat.le_of_ble_eq_true rfl) ⟨Nat.le_of_ble_eq_true rfl, Nat.le_of_ble_eq_true rfl⟩ dX5_readLine_62) (fun h43 H locs hw hC => ?_)
        refine lv_goto (tgt := 104) hx hb dX5_readLine_65 (by decide) ?_
        exact t_X5_readLine_J104 hM o Q  h43 H locs ls hC (lo_sub hl [1] rfl) hw
    ·
      replace hw := (if_neg c12).mp hw
      refine lv_aload_n hx hb dX5_readLine_29 rfl (lo_at hl 1 rfl) ?_
      refine lv_iconst (v := 3) hx hb dX5_readLine_30 (by decide) ?_
      obtain ⟨k45, hw⟩ := hw
      refine res_v hC (run_V (As := [.int ((3 : Int32))]) (rest := []) hM hC hl.1.1 kv_RX5_61 (c_X5_refuse l G base o (3 : Int32) h10 _ hw) (hc_4) k45 rfl rfl rfl ⟨Nat.le_of_ble_eq_true rfl, Nat.le_of_ble_eq_true rfl⟩ (Nat.le_of_ble_eq_true rfl) ⟨Nat.le_of_ble_eq_true rfl, Nat.le_of_ble_eq_true rfl⟩ dX5_readLine_31) (fun h46 H locs hw hC => ?_)
      exact ret_v hM hC hw dX5_readLine_34
  ·
    replace hw := (if_pos c7).mp hw
    refine lv_aload_n hx hb dX5_readLine_13 rfl (lo_at hl 1 rfl) ?_
    refine lv_iconst (v := 1) hx hb dX5_readLine_14 (by decide) ?_
    obtain ⟨k48, hw⟩ := hw
    refine res_v hC (run_V (As := [.int ((1 : Int32))]) (rest := []) hM hC hl.1.1 kv_RX5_61 (c_X5_refuse l G base o (1 : Int32) h5 _ hw) (hc_4) k48 rfl rfl rfl ⟨Nat.le_of_ble_eq_true rfl, Nat.le_of_ble_eq_true rfl⟩ (Nat.le_of_ble_eq_true rfl) ⟨Nat.le_of_ble_eq_true rfl, Nat.le_of_ble_eq_true rfl⟩ dX5_readLine_15) (fun h49 H locs hw hC => ?_)
    exact ret_v hM hC hw dX5_readLine_18
abbrev rm_X8_kindAt : Room := { frames := 6, cells := 0, slots := 0, locals := 134 }
def wp_X8_kindAt (o : Nat) (x1 : Int32) (h : Hp) (Q : Int32 → Hp → Prop) : Prop := ((hpK h o).1 = 20 + 6) ∧ (okA h (hpR h o 0) 1 x1 ∧ (∀ v3 : Int32, v3 = hpI h (ad (hpR h o 0)) (x1).toNatClampNeg → (wp_X8_sortOf v3 h (fun (z5 : Int32) (h4 : Hp) => (if z5 = (1 : Int32) then (((hpK h4 o).1 = 20 + 6) ∧ (wp_X8_runFrom o x1 h4 (fun (z26 : Int32) (h25 : Hp) => ((hpK h25 o).1 = 20 + 6) ∧ (wp_X8_wordKind o x1 z26 h25 (fun (z29 : Int32) (h28 : Hp) => Q z29 h28))))) else ((if z5 = (2 : Int32) then (((hpK h4 o).1 = 20 + 6) ∧ (wp_X8_runFrom o x1 h4 (fun (z20 : Int32) (h19 : Hp) => ((hpK h19 o).1 = 20 + 6) ∧ (wp_X8_numberKind o x1 z20 h19 (fun (z23 : Int32) (h22 : Hp) => Q z23 h22))))) else (((hpK h4 o).1 = 20 + 6) ∧ (okA h4 (hpR h4 o 0) 1 x1 ∧ (∀ v10 : Int32, v10 = hpI h4 (ad (hpR h4 o 0)) (x1).toNatClampNeg → ((1 < 2) ∧ (wp_J0_indexOf_0f7a4 1 (((v10).toUInt32 % 65536).toInt32) h4 (fun (z13 : Int32) (h12 : Hp) => (if z13 < 0 then (Q (1 : Int32) h12) else (((hpK h12 o).1 = 20 + 6) ∧ (okA h12 (hpR h12 o 0) 1 x1 ∧ (∀ v17 : Int32, v17 = hpI h12 (ad (hpR h12 o 0)) (x1).toNatClampNeg → (Q v17 h12))))))))))))))))))
set_option maxHeartbeats 4000000 in
set_option maxRecDepth 100000 in
theorem c_X8_kindAt (l : Launch) (G : GG) (base : Nat) (o : Nat) (x1 : Int32) (h : Hp) (Q : Int32 → Hp → Prop) (hw : wp_X8_kindAt o x1 h Q) : Met l yX8_kindAt (ww yX8_kindAt cX8_kindAt 3 (some .int)) rm_X8_kindAt (va_Pc [.ref o, .int x1] (PU G base h)) (va_Qi Q (PU G base) (fun q => base ≤ q)) 0 0 (fun q => base ≤ q) := by
  refine met_of (own := RX8) (nm := "kindAt") (by decide) rfl rfl (List.forall_mem_cons.mpr ⟨rfl, (List.forall_mem_cons.mpr ⟨rfl, (fun _ h => absurd h List.not_mem_nil)⟩)⟩) (Nat.le_of_ble_eq_true rfl) rfl ?_
  intro p e s m below meth c ls hM hC hl
  obtain ⟨hx, hb, hr, hml, hown, hts, hg, hs, hlk, hnm⟩ := id hM
  obtain ⟨args, hargs⟩ : ∃ a : Array Value, a = ([.ref o, .int x1] : List Value).toArray := ⟨_, rfl⟩
  rw [← hargs] at hM hts ⊢
  obtain ⟨H, hH⟩ : ∃ H : Heap, H = s.heap := ⟨_, rfl⟩
  obtain ⟨locs, hlocs⟩ : ∃ x : List Loc, x = [] := ⟨_, rfl⟩
  have hC : Cx G base h s.heap H locs := by rw [hH, hlocs]; exact hC
  show W p l e rm_X8_kindAt s m args below meth c s.heap [] 0 0 (MQ below (va_Qi Q (PU G base) (fun q => base ≤ q)) args s 0 0 (fun q => base ≤ q)) (F0 m 0 ls [])
  rw [← hlocs]
  have hgoal : W p l e rm_X8_kindAt s m args below meth c H locs 0 0 (MQ below (va_Qi Q (PU G base) (fun q => base ≤ q)) args s 0 0 (fun q => base ≤ q)) (F0 m 0 ls []) := ?_
  · rw [hH] at hgoal; exact hgoal
  clear hH hlocs
  unfold wp_X8_kindAt at hw
  refine lv_aload_n hx hb dX8_kindAt_0 rfl (lo_at hl 0 rfl) ?_
  obtain ⟨k1, hw⟩ := hw
  refine r_getR hx hb hts hown hg hC fb_6_0 k1 mk_f_RX8_9 dX8_kindAt_1 ?_
  refine lv_iload_n hx hb dX8_kindAt_4 rfl (lo_at hl 1 rfl) ?_
  obtain ⟨k2, hw⟩ := hw
  refine rf_2 k2.1 ?_
  refine r_iald hx hb hg hC k2.2.1 k2.2.2 dX8_kindAt_5 ?_
  refine lv_topi (fun v3 ev3 => ?_)
  replace hw := hw v3 ev3
  refine res_i hC (run_S (As := [.int v3]) (rest := []) hM hC hl.1.1 kv_RX8_36 (c_X8_sortOf l G base v3 h _ hw) rfl rfl rfl ⟨Nat.le_of_ble_eq_true rfl, Nat.le_of_ble_eq_true rfl⟩ (Nat.le_of_ble_eq_true rfl) ⟨Nat.le_of_ble_eq_true rfl, Nat.le_of_ble_eq_true rfl⟩ dX8_kindAt_6) (fun z5 h4 H locs hw hC => ?_)
  refine lo_istore_n (lv' := [(2, .int z5), (0, .ref o), (1, .int x1)]) hx hb dX8_kindAt_9 rfl hl (by decide) rfl (fun ls hl => ?_)
  refine lv_iload_n hx hb dX8_kindAt_10 rfl (lo_at hl 0 rfl) ?_
  refine lv_iconst (v := 1) hx hb dX8_kindAt_11 (by decide) ?_
  refine lv_icmp_ne (tgt := 26) hx hb dX8_kindAt_12 (by decide) (fun c6 => ?_) (fun c6 => ?_)
  ·
    replace hw := (if_neg c6).mp hw
    refine lv_iload_n hx hb dX8_kindAt_26 rfl (lo_at hl 0 rfl) ?_
    refine lv_iconst (v := 2) hx hb dX8_kindAt_27 (by decide) ?_
    refine lv_icmp_ne (tgt := 42) hx hb dX8_kindAt_28 (by decide) (fun c7 => ?_) (fun c7 => ?_)
    ·
      replace hw := (if_neg c7).mp hw
      refine va_ldcS hx hb hown hs.2.2.1 dX8_kindAt_42 ?_
      refine lv_aload_n hx hb dX8_kindAt_44 rfl (lo_at hl 1 rfl) ?_
      obtain ⟨k8, hw⟩ := hw
      refine r_getR hx hb hts hown hg hC fb_6_0 k8 mk_f_RX8_9 dX8_kindAt_45 ?_
      refine lv_iload_n hx hb dX8_kindAt_48 rfl (lo_at hl 2 rfl) ?_
      obtain ⟨k9, hw⟩ := hw
      refine rf_2 k9.1 ?_
      refine r_iald hx hb hg hC k9.2.1 k9.2.2 dX8_kindAt_49 ?_
      refine lv_topi (fun v10 ev10 => ?_)
      replace hw := hw v10 ev10
      refine lv_i2c hx hb dX8_kindAt_50 (v := ((v10).toUInt32 % 65536).toInt32) rfl ?_
      obtain ⟨k11, hw⟩ := hw
      refine res_i hC (run_VS (As := [.int (((v10).toUInt32 % 65536).toInt32)]) (rest := []) hM hC hl.1.1 kv_RX8_51 (c_J0_indexOf_0f7a4 l G base 1 (((v10).toUInt32 % 65536).toInt32) h4 _ hw) k11 rfl rfl rfl ⟨Nat.le_of_ble_eq_true rfl, Nat.le_of_ble_eq_true rfl⟩ (Nat.le_of_ble_eq_true rfl) ⟨Nat.le_of_ble_eq_true rfl, Nat.le_of_ble_eq_true rfl⟩ dX8_kindAt_51) (fun z13 h12 H locs hw hC => ?_)
      refine lv_if_lt (tgt := 66) hx hb dX8_kindAt_54 (by decide) (fun c14 => ?_) (fun c14 => ?_)
      ·
        replace hw := (if_pos c14).mp hw
        refine lv_iconst (v := 1) hx hb dX8_kindAt_66 (by decide) ?_
        exact ret_i hM hC hw dX8_kindAt_67
      ·
        replace hw := (if_neg c14).mp hw
        refine lv_aload_n hx hb dX8_kindAt_57 rfl (lo_at hl 1 rfl) ?_
        obtain ⟨k15, hw⟩ := hw
        refine r_getR hx hb hts hown hg hC fb_6_0 k15 mk_f_RX8_9 dX8_kindAt_58 ?_
        refine lv_iload_n hx hb dX8_kindAt_61 rfl (lo_at hl 2 rfl) ?_
        obtain ⟨k16, hw⟩ := hw
        refine rf_2 k16.1 ?_
        refine r_iald hx hb hg hC k16.2.1 k16.2.2 dX8_kindAt_62 ?_
        refine lv_topi (fun v17 ev17 => ?_)
        replace hw := hw v17 ev17
        refine lv_goto (tgt := 67) hx hb dX8_kindAt_63 (by decide) ?_
        exact ret_i hM hC hw dX8_kindAt_67
    ·
      replace hw := (if_pos c7).mp hw
      refine lv_aload_n hx hb dX8_kindAt_31 rfl (lo_at hl 1 rfl) ?_
      refine lv_iload_n hx hb dX8_kindAt_32 rfl (lo_at hl 2 rfl) ?_
      refine lv_aload_n hx hb dX8_kindAt_33 rfl (lo_at hl 1 rfl) ?_
      refine lv_iload_n hx hb dX8_kindAt_34 rfl (lo_at hl 2 rfl) ?_
      obtain ⟨k18, hw⟩ := hw
      refine res_i hC (run_V (As := [.int x1]) (rest := [.int x1, .ref o]) hM hC hl.1.1 kv_RX8_39 (c_X8_runFrom l G base o x1 h4 _ hw) (hc_6) k18 rfl rfl rfl ⟨Nat.le_of_ble_eq_true rfl, Nat.le_of_ble_eq_true rfl⟩ (Nat.le_of_ble_eq_true rfl) ⟨Nat.le_of_ble_eq_true rfl, Nat.le_of_ble_eq_true rfl⟩ dX8_kindAt_35) (fun z20 h19 H locs hw hC => ?_)
      obtain ⟨k21, hw⟩ := hw
      refine res_i hC (run_V (As := [.int x1, .int z20]) (rest := []) hM hC hl.1.1 kv_RX8_46 (c_X8_numberKind l G base o x1 z20 h19 _ hw) (hc_6) k21 rfl rfl rfl ⟨Nat.le_of_ble_eq_true rfl, Nat.le_of_ble_eq_true rfl⟩ (Nat.le_of_ble_eq_true rfl) ⟨Nat.le_of_ble_eq_true rfl, Nat.le_of_ble_eq_true rfl⟩ dX8_kindAt_38) (fun z23 h22 H locs hw hC => ?_)
      exact ret_i hM hC hw dX8_kindAt_41
  ·
    replace hw := (if_pos c6).mp hw
    refine lv_aload_n hx hb dX8_kindAt_15 rfl (lo_at hl 1 rfl) ?_
    refine lv_iload_n hx hb dX8_kindAt_16 rfl (lo_at hl 2 rfl) ?_
    refine lv_aload_n hx hb dX8_kindAt_17 rfl (lo_at hl 1 rfl) ?_
    refine lv_iload_n hx hb dX8_kindAt_18 rfl (lo_at hl 2 rfl) ?_
    obtain ⟨k24, hw⟩ := hw
    refine res_i hC (run_V (As := [.int x1]) (rest := [.int x1, .ref o]) hM hC hl.1.1 kv_RX8_39 (c_X8_runFrom l G base o x1 h4 _ hw) (hc_6) k24 rfl rfl rfl ⟨Nat.le_of_ble_eq_true rfl, Nat.le_of_ble_eq_true rfl⟩ (Nat.le_of_ble_eq_true rfl) ⟨Nat.le_of_ble_eq_true rfl, Nat.le_of_ble_eq_true rfl⟩ dX8_kindAt_19) (fun z26 h25 H locs hw hC => ?_)
    obtain ⟨k27, hw⟩ := hw
    refine res_i hC (run_V (As := [.int x1, .int z26]) (rest := []) hM hC hl.1.1 kv_RX8_42 (c_X8_wordKind l G base o x1 z26 h25 _ hw) (hc_6) k27 rfl rfl rfl ⟨Nat.le_of_ble_eq_true rfl, Nat.le_of_ble_eq_true rfl⟩ (Nat.le_of_ble_eq_true rfl) ⟨Nat.le_of_ble_eq_true rfl, Nat.le_of_ble_eq_true rfl⟩ dX8_kindAt_22) (fun z29 h28 H locs hw hC => ?_)
    exact ret_i hM hC hw dX8_kindAt_25
abbrev rm_X11_counted : Room := { frames := 7, cells := 0, slots := 0, locals := 194 }
def wp_X11_counted_L29 (o : Nat) (x2 : Int32) (x3 : Int32) (r4 : Option Nat) (K65 : Int32 → Hp → Prop) (Q : Int32 → Hp → Prop) : Nat → Int32 → Int32 → Hp → Prop
  | 0, _, _, _ => False
  | n + 1, x5, x6, h => ((hpK h o).1 = 20 + 9) ∧ ((if (hpI h o 10) ≤ x6 then (K65 x5 h) else (okA h (hpR h o 9) 6 x6 ∧ (wp_X11_gradeOf o r4 (hpR h (ad (hpR h o 9)) (x6).toNatClampNeg) x2 h (fun (z11 : Int32) (h10 : Hp) => (if z11 = x3 then (∀ v14 : Int32, v14 = x5 + (1 : Int32) → (∀ v15 : Int32, v15 = x6 + (1 : Int32) → (wp_X11_counted_L29 o x2 x3 r4 K65 Q n v14 v15 h10))) else (∀ v13 : Int32, v13 = x6 + (1 : Int32) → (wp_X11_counted_L29 o x2 x3 r4 K65 Q n x5 v13 h10))))))))
def wp_X11_counted (o : Nat) (x1 : Int32) (x2 : Int32) (x3 : Int32) (h : Hp) (Q : Int32 → Hp → Prop) : Prop := ((hpK h o).1 = 20 + 9) ∧ (wp_X11_lookerAt o x1 h (fun (z3 : Option Nat) (h2 : Hp) => (if z3 = none then (Q (-1 : Int32) h2) else ((if x3 < 0 then (Q (-1 : Int32) h2) else ((if x3 ≤ (2 : Int32) then (wp_X11_counted_L29 o x2 x3 z3 (fun (y17 : Int32) (h16 : Hp) => Q y17 h16) Q fuel (0 : Int32) (0 : Int32) h2) else (Q (-1 : Int32) h2))))))))
set_option maxHeartbeats 4000000 in
set_option maxRecDepth 100000 in
theorem t_X11_counted_L29 {p : Program} {l : Launch} {e : Env} {s : State} {m : MethodId} {args : Array Value} {below : List Frame} {meth : Method} {c : Code} {G : GG} {base : Nat} (hM : Mx G base p s m args meth c cX11_counted 7 (some .int) RX11 "counted") (o : Nat) (x2 : Int32) (x3 : Int32) (r4 : Option Nat) (K65 : Int32 → Hp → Prop) (Q : Int32 → Hp → Prop) (hK65 : ∀ (y5 : Int32) (h : Hp) (H : Heap) (locs : List Loc) (ls : Array Slot), Cx G base h s.heap H locs → lo_has ls 7 [(5, .int y5)] → K65 y5 h → W p l e rm_X11_counted s m args below meth c H locs 0 0 (MQ below (va_Qi Q (PU G base) (fun q => base ≤ q)) args s 0 0 (fun q => base ≤ q)) (F0 m 65 ls [])) : ∀ (n : Nat) (x5 : Int32) (x6 : Int32) (h : Hp) (H : Heap) (locs : List Loc) (ls : Array Slot), Cx G base h s.heap H locs → lo_has ls 7 [(0, .ref o), (2, .int x2), (3, .int x3), (4, va_rf r4), (5, .int x5), (6, .int x6)] → wp_X11_counted_L29 o x2 x3 r4 K65 Q n x5 x6 h → W p l e rm_X11_counted s m args below meth c H locs 0 0 (MQ below (va_Qi Q (PU G base) (fun q => base ≤ q)) args s 0 0 (fun q => base ≤ q)) (F0 m 29 ls []) := by
  intro n
  induction n with
  | zero =>
    intro x5 x6 h H locs ls hC hl hw
    rw [wp_X11_counted_L29] at hw
    exact hw.elim
  | succ n ih =>
    intro x5 x6 h H locs ls hC hl hw
    rw [wp_X11_counted_L29] at hw
    obtain ⟨hx, hb, hr, hml, hown, hts, hg, hs, hlk, hnm⟩ := id hM
    refine lv_iload hx hb dX11_counted_29 (lo_at hl 5 rfl) ?_
    refine lv_aload_n hx hb dX11_counted_31 rfl (lo_at hl 0 rfl) ?_
    obtain ⟨k7, hw⟩ := hw
    refine r_getI hx hb hts hown hg hC fb_9_10 k7 mk_f_RX11_258 dX11_counted_32 ?_
    refine lv_icmp_ge (tgt := 65) hx hb dX11_counted_35 (by decide) (fun c8 => ?_) (fun c8 => ?_)
    ·
      replace hw := (if_pos c8).mp hw
      exact hK65 x5 h H locs ls hC (lo_sub hl [4] rfl) hw
    ·
      replace hw := (if_neg c8).mp hw
      refine lv_aload_n hx hb dX11_counted_38 rfl (lo_at hl 0 rfl) ?_
      refine lo_aload (r := r4) hx hb dX11_counted_39 (lo_at hl 3 rfl) ?_
      refine lv_aload_n hx hb dX11_counted_41 rfl (lo_at hl 0 rfl) ?_
      refine r_getR hx hb hts hown hg hC fb_9_9 k7 mk_f_RX11_35 dX11_counted_42 ?_
      refine lv_iload hx hb dX11_counted_45 (lo_at hl 5 rfl) ?_
      obtain ⟨k9, hw⟩ := hw
      refine rf_2 k9.1 ?_
      refine r_aald (kd := 6) (t0 := 5) hx hb hg hC k9.2.1 (by decide) rfl k9.2.2 dX11_counted_47 ?_
      refine lv_iload_n hx hb dX11_counted_48 rfl (lo_at hl 1 rfl) ?_
      refine res_i hC (run_V (As := [va_rf r4, va_rf (hpR h (ad (hpR h o 9)) (x6).toNatClampNeg), .int x2]) (rest := []) hM hC hl.1.1 kv_RX11_264 (c_X11_gradeOf l G base o r4 (hpR h (ad (hpR h o 9)) (x6).toNatClampNeg) x2 h _ hw) (hc_9) k7 rfl rfl rfl ⟨Nat.le_of_ble_eq_true rfl, Nat.le_of_ble_eq_true rfl⟩ (Nat.le_of_ble_eq_true rfl) ⟨Nat.le_of_ble_eq_true rfl, Nat.le_of_ble_eq_true rfl⟩ dX11_counted_49) (fun z11 h10 H locs hw hC => ?_)
      refine lv_iload_n hx hb dX11_counted_52 rfl (lo_at hl 2 rfl) ?_
      refine lv_icmp_ne (tgt := 59) hx hb dX11_counted_53 (by decide) (fun c12 => ?_) (fun c12 => ?_)
      ·
        replace hw := (if_neg c12).mp hw
        obtain ⟨v13, ev13⟩ : ∃ y : Int32, y = x6 + (1 : Int32) := ⟨_, rfl⟩
        replace hw := hw v13 ev13
        refine lo_iinc (v := v13) (lv' := [(6, .int v13), (0, .ref o), (2, .int x2), (3, .int x3), (4, va_rf r4), (5, .int x5)]) hx hb dX11_counted_59 hl (k := 5) rfl (by rw [ev13]; rfl) (by decide) rfl (fun ls hl => ?_)
        refine lv_goto (tgt := 29) hx hb dX11_counted_62 (by decide) ?_
        exact ih x5 v13 h10 H locs ls hC (lo_sub hl [1, 2, 3, 4, 5, 0] rfl) hw
      ·
        replace hw := (if_pos c12).mp hw
        obtain ⟨v14, ev14⟩ : ∃ y : Int32, y = x5 + (1 : Int32) := ⟨_, rfl⟩
        replace hw := hw v14 ev14
        refine lo_iinc (v := v14) (lv' := [(5, .int v14), (0, .ref o), (2, .int x2), (3, .int x3), (4, va_rf r4), (6, .int x6)]) hx hb dX11_counted_56 hl (k := 4) rfl (by rw [ev14]; rfl) (by decide) rfl (fun ls hl => ?_)
        obtain ⟨v15, ev15⟩ : ∃ y : Int32, y = x6 + (1 : Int32) := ⟨_, rfl⟩
        replace hw := hw v15 ev15
        refine lo_iinc (v := v15) (lv' := [(6, .int v15), (5, .int v14), (0, .ref o), (2, .int x2), (3, .int x3), (4, va_rf r4)]) hx hb dX11_counted_59 hl (k := 5) rfl (by rw [ev15]; rfl) (by decide) rfl (fun ls hl => ?_)
        refine lv_goto (tgt := 29) hx hb dX11_counted_62 (by decide) ?_
        exact ih v14 v15 h10 H locs ls hC (lo_sub hl [2, 3, 4, 5, 1, 0] rfl) hw
set_option maxHeartbeats 4000000 in
set_option maxRecDepth 100000 in
theorem c_X11_counted (l : Launch) (G : GG) (base : Nat) (o : Nat) (x1 : Int32) (x2 : Int32) (x3 : Int32) (h : Hp) (Q : Int32 → Hp → Prop) (hw : wp_X11_counted o x1 x2 x3 h Q) : Met l yX11_counted (ww yX11_counted cX11_counted 7 (some .int)) rm_X11_counted (va_Pc [.ref o, .int x1, .int x2, .int x3] (PU G base h)) (va_Qi Q (PU G base) (fun q => base ≤ q)) 0 0 (fun q => base ≤ q) := by
  refine met_of (own := RX11) (nm := "counted") (by decide) rfl rfl (List.forall_mem_cons.mpr ⟨rfl, (List.forall_mem_cons.mpr ⟨rfl, (List.forall_mem_cons.mpr ⟨rfl, (List.forall_mem_cons.mpr ⟨rfl, (fun _ h => absurd h List.not_mem_nil)⟩)⟩)⟩)⟩) (Nat.le_of_ble_eq_true rfl) rfl ?_
  intro p e s m below meth c ls hM hC hl
  obtain ⟨hx, hb, hr, hml, hown, hts, hg, hs, hlk, hnm⟩ := id hM
  obtain ⟨args, hargs⟩ : ∃ a : Array Value, a = ([.ref o, .int x1, .int x2, .int x3] : List Value).toArray := ⟨_, rfl⟩
  rw [← hargs] at hM hts ⊢
  obtain ⟨H, hH⟩ : ∃ H : Heap, H = s.heap := ⟨_, rfl⟩
  obtain ⟨locs, hlocs⟩ : ∃ x : List Loc, x = [] := ⟨_, rfl⟩
  have hC : Cx G base h s.heap H locs := by rw [hH, hlocs]; exact hC
  show W p l e rm_X11_counted s m args below meth c s.heap [] 0 0 (MQ below (va_Qi Q (PU G base) (fun q => base ≤ q)) args s 0 0 (fun q => base ≤ q)) (F0 m 0 ls [])
  rw [← hlocs]
  have hgoal : W p l e rm_X11_counted s m args below meth c H locs 0 0 (MQ below (va_Qi Q (PU G base) (fun q => base ≤ q)) args s 0 0 (fun q => base ≤ q)) (F0 m 0 ls []) := ?_
  · rw [hH] at hgoal; exact hgoal
  clear hH hlocs
  unfold wp_X11_counted at hw
  refine lv_aload_n hx hb dX11_counted_0 rfl (lo_at hl 0 rfl) ?_
  refine lv_iload_n hx hb dX11_counted_1 rfl (lo_at hl 1 rfl) ?_
  obtain ⟨k1, hw⟩ := hw
  refine res_q hC (run_V (As := [.int x1]) (rest := []) hM hC hl.1.1 kv_RX11_144 (c_X11_lookerAt l G base o x1 h _ hw) (hc_9) k1 rfl rfl rfl ⟨Nat.le_of_ble_eq_true rfl, Nat.le_of_ble_eq_true rfl⟩ (Nat.le_of_ble_eq_true rfl) ⟨Nat.le_of_ble_eq_true rfl, Nat.le_of_ble_eq_true rfl⟩ dX11_counted_2) (fun z3 h2 H locs hw hC => ?_)
  refine lo_astore (r := z3) (lv' := [(4, va_rf z3), (0, .ref o), (1, .int x1), (2, .int x2), (3, .int x3)]) hx hb dX11_counted_5 hl (by decide) rfl (fun ls hl => ?_)
  refine lo_aload (r := z3) hx hb dX11_counted_7 (lo_at hl 0 rfl) ?_
  refine lo_ifnull (r := z3) (tgt := 21) hx hb dX11_counted_9 (by decide) (fun c4 => ?_) (fun c4 => ?_)
  ·
    replace hw := (if_pos c4).mp hw
    refine lv_iconst (v := -1) hx hb dX11_counted_21 (by decide) ?_
    exact ret_i hM hC hw dX11_counted_22
  ·
    replace hw := (if_neg c4).mp hw
    refine lv_iload_n hx hb dX11_counted_12 rfl (lo_at hl 4 rfl) ?_
    refine lv_if_lt (tgt := 21) hx hb dX11_counted_13 (by decide) (fun c5 => ?_) (fun c5 => ?_)
    ·
      replace hw := (if_pos c5).mp hw
      refine lv_iconst (v := -1) hx hb dX11_counted_21 (by decide) ?_
      exact ret_i hM hC hw dX11_counted_22
    ·
      replace hw := (if_neg c5).mp hw
      refine lv_iload_n hx hb dX11_counted_16 rfl (lo_at hl 4 rfl) ?_
      refine lv_iconst (v := 2) hx hb dX11_counted_17 (by decide) ?_
      refine lv_icmp_le (tgt := 23) hx hb dX11_counted_18 (by decide) (fun c6 => ?_) (fun c6 => ?_)
      ·
        replace hw := (if_pos c6).mp hw
        refine lv_iconst (v := 0) hx hb dX11_counted_23 (by decide) ?_
        refine lo_istore (lv' := [(5, .int ((0 : Int32))), (4, va_rf z3), (0, .ref o), (1, .int x1), (2, .int x2), (3, .int x3)]) hx hb dX11_counted_24 hl (by decide) rfl (fun ls hl => ?_)
        refine lv_iconst (v := 0) hx hb dX11_counted_26 (by decide) ?_
        refine lo_istore (lv' := [(6, .int ((0 : Int32))), (5, .int ((0 : Int32))), (4, va_rf z3), (0, .ref o), (1, .int x1), (2, .int x2), (3, .int x3)]) hx hb dX11_counted_27 hl (by decide) rfl (fun ls hl => ?_)
        refine t_X11_counted_L29 hM o x2 x3 z3 _ Q ?_ fuel (0 : Int32) (0 : Int32) h2 H locs ls hC (lo_sub hl [3, 5, 6, 2, 1, 0] rfl) hw
        intro y17 h16 H locs ls hC hl hw
        refine lv_iload hx hb dX11_counted_65 (lo_at hl 0 rfl) ?_
        exact ret_i hM hC hw dX11_counted_67
      ·
        replace hw := (if_neg c6).mp hw
        refine lv_iconst (v := -1) hx hb dX11_counted_21 (by decide) ?_
        exact ret_i hM hC hw dX11_counted_22
abbrev rm_X11_round : Room := { frames := 8, cells := 0, slots := 0, locals := 218 }
def wp_X11_round (o : Nat) (x1 : Int32) (x2 : Int32) (h : Hp) (Q : Int32 → Hp → Prop) : Prop := (if x1 ≤ 0 then (Q (-1 : Int32) h) else (((hpK h o).1 = 20 + 9) ∧ ((if ((1 : Int32) <<< ((hpI h o 8) &&& 31)) ≤ x1 then (Q (-1 : Int32) h) else ((if x2 < 0 then (Q (-1 : Int32) h) else ((if x2 ≤ (1 : Int32) then (wp_X11_markMisled o h (fun (h6 : Hp) => ((hpK h6 o).1 = 20 + 9) ∧ (wp_X11_cheapestRound o x1 h6 (fun (z10 : Int32) (h9 : Hp) => (if x2 = 0 then (Q z10 h9) else ((if z10 = (-1 : Int32) then (Q z10 h9) else (((hpK h9 o).1 = 20 + 9) ∧ (wp_X11_hoursOf o z10 h9 (fun (z15 : Int32) (h14 : Hp) => Q z15 h14)))))))))) else (Q (-1 : Int32) h)))))))))
set_option maxHeartbeats 4000000 in
set_option maxRecDepth 100000 in
theorem c_X11_round (l : Launch) (G : GG) (base : Nat) (o : Nat) (x1 : Int32) (x2 : Int32) (h : Hp) (Q : Int32 → Hp → Prop) (hw : wp_X11_round o x1 x2 h Q) : Met l yX11_round (ww yX11_round cX11_round 4 (some .int)) rm_X11_round (va_Pc [.ref o, .int x1, .int x2] (PU G base h)) (va_Qi Q (PU G base) (fun q => base ≤ q)) 0 0 (fun q => base ≤ q) := by
  refine met_of (own := RX11) (nm := "round") (by decide) rfl rfl (List.forall_mem_cons.mpr ⟨rfl, (List.forall_mem_cons.mpr ⟨rfl, (List.forall_mem_cons.mpr ⟨rfl, (fun _ h => absurd h List.not_mem_nil)⟩)⟩)⟩) (Nat.le_of_ble_eq_true rfl) rfl ?_
  intro p e s m below meth c ls hM hC hl
  obtain ⟨hx, hb, hr, hml, hown, hts, hg, hs, hlk, hnm⟩ := id hM
  obtain ⟨args, hargs⟩ : ∃ a : Array Value, a = ([.ref o, .int x1, .int x2] : List Value).toArray := ⟨_, rfl⟩
  rw [← hargs] at hM hts ⊢
  obtain ⟨H, hH⟩ : ∃ H : Heap, H = s.heap := ⟨_, rfl⟩
  obtain ⟨locs, hlocs⟩ : ∃ x : List Loc, x = [] := ⟨_, rfl⟩
  have hC : Cx G base h s.heap H locs := by rw [hH, hlocs]; exact hC
  show W p l e rm_X11_round s m args below meth c s.heap [] 0 0 (MQ below (va_Qi Q (PU G base) (fun q => base ≤ q)) args s 0 0 (fun q => base ≤ q)) (F0 m 0 ls [])
  rw [← hlocs]
  have hgoal : W p l e rm_X11_round s m args below meth c H locs 0 0 (MQ below (va_Qi Q (PU G base) (fun q => base ≤ q)) args s 0 0 (fun q => base ≤ q)) (F0 m 0 ls []) := ?_
  · rw [hH] at hgoal; exact hgoal
  clear hH hlocs
  unfold wp_X11_round at hw
  refine lv_iload_n hx hb dX11_round_0 rfl (lo_at hl 1 rfl) ?_
  refine lv_if_le (tgt := 23) hx hb dX11_round_1 (by decide) (fun c1 => ?_) (fun c1 => ?_)
  ·
    replace hw := (if_pos c1).mp hw
    refine lv_iconst (v := -1) hx hb dX11_round_23 (by decide) ?_
    exact ret_i hM hC hw dX11_round_24
  ·
    replace hw := (if_neg c1).mp hw
    refine lv_iload_n hx hb dX11_round_4 rfl (lo_at hl 1 rfl) ?_
    refine lv_iconst (v := 1) hx hb dX11_round_5 (by decide) ?_
    refine lv_aload_n hx hb dX11_round_6 rfl (lo_at hl 0 rfl) ?_
    obtain ⟨k2, hw⟩ := hw
    refine r_getI hx hb hts hown hg hC fb_9_8 k2 mk_f_RX11_195 dX11_round_7 ?_
    refine lv_ishl hx hb dX11_round_10 ?_
    refine lv_icmp_ge (tgt := 23) hx hb dX11_round_11 (by decide) (fun c3 => ?_) (fun c3 => ?_)
    ·
      replace hw := (if_pos c3).mp hw
      refine lv_iconst (v := -1) hx hb dX11_round_23 (by decide) ?_
      exact ret_i hM hC hw dX11_round_24
    ·
      replace hw := (if_neg c3).mp hw
      refine lv_iload_n hx hb dX11_round_14 rfl (lo_at hl 2 rfl) ?_
      refine lv_if_lt (tgt := 23) hx hb dX11_round_15 (by decide) (fun c4 => ?_) (fun c4 => ?_)
      ·
        replace hw := (if_pos c4).mp hw
        refine lv_iconst (v := -1) hx hb dX11_round_23 (by decide) ?_
        exact ret_i hM hC hw dX11_round_24
      ·
        replace hw := (if_neg c4).mp hw
        refine lv_iload_n hx hb dX11_round_18 rfl (lo_at hl 2 rfl) ?_
        refine lv_iconst (v := 1) hx hb dX11_round_19 (by decide) ?_
        refine lv_icmp_le (tgt := 25) hx hb dX11_round_20 (by decide) (fun c5 => ?_) (fun c5 => ?_)
        ·
          replace hw := (if_pos c5).mp hw
          refine lv_aload_n hx hb dX11_round_25 rfl (lo_at hl 0 rfl) ?_
          refine res_v hC (run_V (As := []) (rest := []) hM hC hl.1.1 kv_RX11_268 (c_X11_markMisled l G base o h _ hw) (hc_9) k2 rfl rfl rfl ⟨Nat.le_of_ble_eq_true rfl, Nat.le_of_ble_eq_true rfl⟩ (Nat.le_of_ble_eq_true rfl) ⟨Nat.le_of_ble_eq_true rfl, Nat.le_of_ble_eq_true rfl⟩ dX11_round_26) (fun h6 H locs hw hC => ?_)
          refine lv_aload_n hx hb dX11_round_29 rfl (lo_at hl 0 rfl) ?_
          refine lv_iload_n hx hb dX11_round_30 rfl (lo_at hl 1 rfl) ?_
          obtain ⟨k8, hw⟩ := hw
          refine res_i hC (run_V (As := [.int x1]) (rest := []) hM hC hl.1.1 kv_RX11_271 (c_X11_cheapestRound l G base o x1 h6 _ hw) (hc_9) k8 rfl rfl rfl ⟨Nat.le_of_ble_eq_true rfl, Nat.le_of_ble_eq_true rfl⟩ (Nat.le_of_ble_eq_true rfl) ⟨Nat.le_of_ble_eq_true rfl, Nat.le_of_ble_eq_true rfl⟩ dX11_round_31) (fun z10 h9 H locs hw hC => ?_)
          refine lo_istore_n (lv' := [(3, .int z10), (0, .ref o), (1, .int x1), (2, .int x2)]) hx hb dX11_round_34 rfl hl (by decide) rfl (fun ls hl => ?_)
          refine lv_iload_n hx hb dX11_round_35 rfl (lo_at hl 3 rfl) ?_
          refine lv_if_eq (tgt := 44) hx hb dX11_round_36 (by decide) (fun c11 => ?_) (fun c11 => ?_)
          ·
            replace hw := (if_pos c11).mp hw
            refine lv_iload_n hx hb dX11_round_44 rfl (lo_at hl 0 rfl) ?_
            refine lv_goto (tgt := 53) hx hb dX11_round_45 (by decide) ?_
            exact ret_i hM hC hw dX11_round_53
          ·
            replace hw := (if_neg c11).mp hw
            refine lv_iload_n hx hb dX11_round_39 rfl (lo_at hl 0 rfl) ?_
            refine lv_iconst (v := -1) hx hb dX11_round_40 (by decide) ?_
            refine lv_icmp_ne (tgt := 48) hx hb dX11_round_41 (by decide) (fun c12 => ?_) (fun c12 => ?_)
            ·
              replace hw := (if_neg c12).mp hw
              refine lv_aload_n hx hb dX11_round_48 rfl (lo_at hl 1 rfl) ?_
              refine lv_iload_n hx hb dX11_round_49 rfl (lo_at hl 0 rfl) ?_
              obtain ⟨k13, hw⟩ := hw
              refine res_i hC (run_V (As := [.int z10]) (rest := []) hM hC hl.1.1 kv_RX11_274 (c_X11_hoursOf l G base o z10 h9 _ hw) (hc_9) k13 rfl rfl rfl ⟨Nat.le_of_ble_eq_true rfl, Nat.le_of_ble_eq_true rfl⟩ (Nat.le_of_ble_eq_true rfl) ⟨Nat.le_of_ble_eq_true rfl, Nat.le_of_ble_eq_true rfl⟩ dX11_round_50) (fun z15 h14 H locs hw hC => ?_)
              exact ret_i hM hC hw dX11_round_53
            ·
              replace hw := (if_pos c12).mp hw
              refine lv_iload_n hx hb dX11_round_44 rfl (lo_at hl 0 rfl) ?_
              refine lv_goto (tgt := 53) hx hb dX11_round_45 (by decide) ?_
              exact ret_i hM hC hw dX11_round_53
        ·
          replace hw := (if_neg c5).mp hw
          refine lv_iconst (v := -1) hx hb dX11_round_23 (by decide) ?_
          exact ret_i hM hC hw dX11_round_24
abbrev rm_X11_joined : Room := { frames := 8, cells := 0, slots := 0, locals := 223 }
def wp_X11_joined_J22 (o : Nat) (x2 : Int32) (r3 : Option Nat) (Q : Int32 → Hp → Prop) (h : Hp) : Prop := ((hpK h o).1 = 20 + 9) ∧ (wp_X11_weakest o r3 h (fun (z8 : Int32) (h7 : Hp) => (if z8 = (-1 : Int32) then (Q (-1 : Int32) h7) else ((if x2 = (1 : Int32) then (Q (z8 - z8 / (64 : Int32) * (64 : Int32)) h7) else (Q (z8 / (64 : Int32)) h7))))))
def wp_X11_joined (o : Nat) (x1 : Int32) (x2 : Int32) (h : Hp) (Q : Int32 → Hp → Prop) : Prop := ((hpK h o).1 = 20 + 9) ∧ (wp_X11_lookerAt o x1 h (fun (z3 : Option Nat) (h2 : Hp) => (if z3 = none then (Q (-1 : Int32) h2) else ((if x2 = (1 : Int32) then (wp_X11_joined_J22 o x2 z3 Q h2) else ((if x2 = (2 : Int32) then (wp_X11_joined_J22 o x2 z3 Q h2) else ((if x2 = 0 then (((hpK h2 o).1 = 20 + 9) ∧ (wp_X11_makeGroups o z3 h2 (fun (h27 : Hp) => ((hpK h27 o).1 = 20 + 9) ∧ (wp_X11_groupCount o h27 (fun (z31 : Int32) (h30 : Hp) => Q z31 h30))))) else (∀ v13 : Int32, v13 = x2 - (10 : Int32) → ((if v13 < 0 then (Q (-1 : Int32) h2) else ((if (8 : Int32) ≤ v13 then (Q (-1 : Int32) h2) else (((hpK h2 o).1 = 20 + 9) ∧ (okA h2 (hpR h2 o 11) 2 v13 ∧ (∀ v18 : Int64, v18 = hpL h2 (ad (hpR h2 o 11)) (v13).toNatClampNeg → ((if (lg_cmp v18 (0 : Int64)) = 0 then (Q (-1 : Int32) h2) else (wp_X11_makeGroups o z3 h2 (fun (h20 : Hp) => ((hpK h20 o).1 = 20 + 9) ∧ (okO h20 (hpR h20 o 15) 8 ∧ (okA h20 (hpR h20 (ad (hpR h20 o 15)) 5) 1 v13 ∧ (∀ v25 : Int32, v25 = hpI h20 (ad (hpR h20 (ad (hpR h20 o 15)) 5)) (v13).toNatClampNeg → (Q v25 h20)))))))))))))))))))))))))
set_option maxHeartbeats 4000000 in
set_option maxRecDepth 100000 in
theorem t_X11_joined_J22 {p : Program} {l : Launch} {e : Env} {s : State} {m : MethodId} {args : Array Value} {below : List Frame} {meth : Method} {c : Code} {G : GG} {base : Nat} (hM : Mx G base p s m args meth c cX11_joined 5 (some .int) RX11 "joined") (o : Nat) (x2 : Int32) (r3 : Option Nat) (Q : Int32 → Hp → Prop) (h : Hp) (H : Heap) (locs : List Loc) (ls : Array Slot) : Cx G base h s.heap H locs → lo_has ls 5 [(0, .ref o), (2, .int x2), (3, va_rf r3)] → wp_X11_joined_J22 o x2 r3 Q h → W p l e rm_X11_joined s m args below meth c H locs 0 0 (MQ below (va_Qi Q (PU G base) (fun q => base ≤ q)) args s 0 0 (fun q => base ≤ q)) (F0 m 22 ls []) := by
  intro hC hl hw
  unfold wp_X11_joined_J22 at hw
  obtain ⟨hx, hb, hr, hml, hown, hts, hg, hs, hlk, hnm⟩ := id hM
  refine lv_aload_n hx hb dX11_joined_22 rfl (lo_at hl 0 rfl) ?_
  refine lo_aload_n (r := r3) hx hb dX11_joined_23 rfl (lo_at hl 2 rfl) ?_
  obtain ⟨k6, hw⟩ := hw
  refine res_i hC (run_V (As := [va_rf r3]) (rest := []) hM hC hl.1.1 kv_RX11_288 (c_X11_weakest l G base o r3 h _ hw) (hc_9) k6 rfl rfl rfl ⟨Nat.le_of_ble_eq_true rfl, Nat.le_of_ble_eq_true rfl⟩ (Nat.le_of_ble_eq_true rfl) ⟨Nat.le_of_ble_eq_true rfl, Nat.le_of_ble_eq_true rfl⟩ dX11_joined_24) (fun z8 h7 H locs hw hC => ?_)
  refine lo_istore (lv' := [(4, .int z8), (0, .ref o), (2, .int x2), (3, va_rf r3)]) hx hb dX11_joined_27 hl (by decide) rfl (fun ls hl => ?_)
  refine lv_iload hx hb dX11_joined_29 (lo_at hl 0 rfl) ?_
  refine lv_iconst (v := -1) hx hb dX11_joined_31 (by decide) ?_
  refine lv_icmp_ne (tgt := 39) hx hb dX11_joined_32 (by decide) (fun c9 => ?_) (fun c9 => ?_)
  ·
    replace hw := (if_neg c9).mp hw
    refine lv_iload_n hx hb dX11_joined_39 rfl (lo_at hl 2 rfl) ?_
    refine lv_iconst (v := 1) hx hb dX11_joined_40 (by decide) ?_
    refine lv_icmp_ne (tgt := 52) hx hb dX11_joined_41 (by decide) (fun c10 => ?_) (fun c10 => ?_)
    ·
      replace hw := (if_neg c10).mp hw
      refine lv_iload hx hb dX11_joined_52 (lo_at hl 0 rfl) ?_
      refine lv_bipush (v := 64) hx hb dX11_joined_54 (by decide) ?_
      refine lv_idiv hx hb dX11_joined_56 (by decide) ?_
      exact ret_i hM hC hw dX11_joined_57
    ·
      replace hw := (if_pos c10).mp hw
      refine lv_iload hx hb dX11_joined_44 (lo_at hl 0 rfl) ?_
      refine lv_bipush (v := 64) hx hb dX11_joined_46 (by decide) ?_
      refine lv_irem hx hb dX11_joined_48 (by decide) ?_
      refine lv_goto (tgt := 57) hx hb dX11_joined_49 (by decide) ?_
      exact ret_i hM hC hw dX11_joined_57
  ·
    replace hw := (if_pos c9).mp hw
    refine lv_iconst (v := -1) hx hb dX11_joined_35 (by decide) ?_
    refine lv_goto (tgt := 57) hx hb dX11_joined_36 (by decide) ?_
    exact ret_i hM hC hw dX11_joined_57
set_option maxHeartbeats 4000000 in
set_option maxRecDepth 100000 in
theorem c_X11_joined (l : Launch) (G : GG) (base : Nat) (o : Nat) (x1 : Int32) (x2 : Int32) (h : Hp) (Q : Int32 → Hp → Prop) (hw : wp_X11_joined o x1 x2 h Q) : Met l yX11_joined (ww yX11_joined cX11_joined 5 (some .int)) rm_X11_joined (va_Pc [.ref o, .int x1, .int x2] (PU G base h)) (va_Qi Q (PU G base) (fun q => base ≤ q)) 0 0 (fun q => base ≤ q) := by
  refine met_of (own := RX11) (nm := "joined") (by decide) rfl rfl (List.forall_mem_cons.mpr ⟨rfl, (List.forall_mem_cons.mpr ⟨rfl, (List.forall_mem_cons.mpr ⟨rfl, (fun _ h => absurd h List.not_mem_nil)⟩)⟩)⟩) (Nat.le_of_ble_eq_true rfl) rfl ?_
  intro p e s m below meth c ls hM hC hl
  obtain ⟨hx, hb, hr, hml, hown, hts, hg, hs, hlk, hnm⟩ := id hM
  obtain ⟨args, hargs⟩ : ∃ a : Array Value, a = ([.ref o, .int x1, .int x2] : List Value).toArray := ⟨_, rfl⟩
  rw [← hargs] at hM hts ⊢
  obtain ⟨H, hH⟩ : ∃ H : Heap, H = s.heap := ⟨_, rfl⟩
  obtain ⟨locs, hlocs⟩ : ∃ x : List Loc, x = [] := ⟨_, rfl⟩
  have hC : Cx G base h s.heap H locs := by rw [hH, hlocs]; exact hC
  show W p l e rm_X11_joined s m args below meth c s.heap [] 0 0 (MQ below (va_Qi Q (PU G base) (fun q => base ≤ q)) args s 0 0 (fun q => base ≤ q)) (F0 m 0 ls [])
  rw [← hlocs]
  have hgoal : W p l e rm_X11_joined s m args below meth c H locs 0 0 (MQ below (va_Qi Q (PU G base) (fun q => base ≤ q)) args s 0 0 (fun q => base ≤ q)) (F0 m 0 ls []) := ?_
  · rw [hH] at hgoal; exact hgoal
  clear hH hlocs
  unfold wp_X11_joined at hw
  refine lv_aload_n hx hb dX11_joined_0 rfl (lo_at hl 0 rfl) ?_
  refine lv_iload_n hx hb dX11_joined_1 rfl (lo_at hl 1 rfl) ?_
  obtain ⟨k1, hw⟩ := hw
  refine res_q hC (run_V (As := [.int x1]) (rest := []) hM hC hl.1.1 kv_RX11_144 (c_X11_lookerAt l G base o x1 h _ hw) (hc_9) k1 rfl rfl rfl ⟨Nat.le_of_ble_eq_true rfl, Nat.le_of_ble_eq_true rfl⟩ (Nat.le_of_ble_eq_true rfl) ⟨Nat.le_of_ble_eq_true rfl, Nat.le_of_ble_eq_true rfl⟩ dX11_joined_2) (fun z3 h2 H locs hw hC => ?_)
  refine lo_astore_n (r := z3) (lv' := [(3, va_rf z3), (0, .ref o), (1, .int x1), (2, .int x2)]) hx hb dX11_joined_5 rfl hl (by decide) rfl (fun ls hl => ?_)
  refine lo_aload_n (r := z3) hx hb dX11_joined_6 rfl (lo_at hl 0 rfl) ?_
  refine lo_ifnonnull (r := z3) (tgt := 12) hx hb dX11_joined_7 (by decide) (fun c4 => ?_) (fun c4 => ?_)
  ·
    replace hw := (if_neg c4).mp hw
    refine lv_iload_n hx hb dX11_joined_12 rfl (lo_at hl 3 rfl) ?_
    refine lv_iconst (v := 1) hx hb dX11_joined_13 (by decide) ?_
    refine lv_icmp_eq (tgt := 22) hx hb dX11_joined_14 (by decide) (fun c5 => ?_) (fun c5 => ?_)
    ·
      replace hw := (if_pos c5).mp hw
      exact t_X11_joined_J22 hM o x2 z3 Q  h2 H locs ls hC (lo_sub hl [1, 3, 0] rfl) hw
    ·
      replace hw := (if_neg c5).mp hw
      refine lv_iload_n hx hb dX11_joined_17 rfl (lo_at hl 3 rfl) ?_
      refine lv_iconst (v := 2) hx hb dX11_joined_18 (by decide) ?_
      refine lv_icmp_ne (tgt := 58) hx hb dX11_joined_19 (by decide) (fun c11 => ?_) (fun c11 => ?_)
      ·
        replace hw := (if_neg c11).mp hw
        refine lv_iload_n hx hb dX11_joined_58 rfl (lo_at hl 3 rfl) ?_
        refine lv_if_ne (tgt := 72) hx hb dX11_joined_59 (by decide) (fun c12 => ?_) (fun c12 => ?_)
        ·
          replace hw := (if_neg c12).mp hw
          refine lv_iload_n hx hb dX11_joined_72 rfl (lo_at hl 3 rfl) ?_
          refine lv_bipush (v := 10) hx hb dX11_joined_73 (by decide) ?_
          refine lv_isub hx hb dX11_joined_75 ?_
          refine lv_topi (fun v13 ev13 => ?_)
          replace hw := hw v13 ev13
          refine lo_istore (lv' := [(4, .int v13), (3, va_rf z3), (0, .ref o), (1, .int x1), (2, .int x2)]) hx hb dX11_joined_76 hl (by decide) rfl (fun ls hl => ?_)
          refine lv_iload hx hb dX11_joined_78 (lo_at hl 0 rfl) ?_
          refine lv_if_lt (tgt := 102) hx hb dX11_joined_80 (by decide) (fun c14 => ?_) (fun c14 => ?_)
          ·
            replace hw := (if_pos c14).mp hw
            refine lv_iconst (v := -1) hx hb dX11_joined_102 (by decide) ?_
            exact ret_i hM hC hw dX11_joined_103
          ·
            replace hw := (if_neg c14).mp hw
            refine lv_iload hx hb dX11_joined_83 (lo_at hl 0 rfl) ?_
            refine lv_bipush (v := 8) hx hb dX11_joined_85 (by decide) ?_
            refine lv_icmp_ge (tgt := 102) hx hb dX11_joined_87 (by decide) (fun c15 => ?_) (fun c15 => ?_)
            ·
              replace hw := (if_pos c15).mp hw
              refine lv_iconst (v := -1) hx hb dX11_joined_102 (by decide) ?_
              exact ret_i hM hC hw dX11_joined_103
            ·
              replace hw := (if_neg c15).mp hw
              refine lv_aload_n hx hb dX11_joined_90 rfl (lo_at hl 2 rfl) ?_
              obtain ⟨k16, hw⟩ := hw
              refine r_getR hx hb hts hown hg hC fb_9_11 k16 mk_f_RX11_39 dX11_joined_91 ?_
              refine lv_iload hx hb dX11_joined_94 (lo_at hl 0 rfl) ?_
              obtain ⟨k17, hw⟩ := hw
              refine rf_2 k17.1 ?_
              refine r_lald hx hb hg hC k17.2.1 k17.2.2 dX11_joined_96 ?_
              refine lv_topl (fun v18 ev18 => ?_)
              replace hw := hw v18 ev18
              refine lv_lconst (v := 0) hx hb dX11_joined_97 (by decide) ?_
              refine W.lcmp hx hb dX11_joined_98 ?_
              refine lv_if_ne (tgt := 104) hx hb dX11_joined_99 (by decide) (fun c19 => ?_) (fun c19 => ?_)
              ·
                replace hw := (if_neg c19).mp hw
                refine lv_aload_n hx hb dX11_joined_104 rfl (lo_at hl 2 rfl) ?_
                refine lo_aload_n (r := z3) hx hb dX11_joined_105 rfl (lo_at hl 1 rfl) ?_
                refine res_v hC (run_V (As := [va_rf z3]) (rest := []) hM hC hl.1.1 kv_RX11_292 (c_X11_makeGroups l G base o z3 h2 _ hw) (hc_9) k16 rfl rfl rfl ⟨Nat.le_of_ble_eq_true rfl, Nat.le_of_ble_eq_true rfl⟩ (Nat.le_of_ble_eq_true rfl) ⟨Nat.le_of_ble_eq_true rfl, Nat.le_of_ble_eq_true rfl⟩ dX11_joined_106) (fun h20 H locs hw hC => ?_)
                refine lv_aload_n hx hb dX11_joined_109 rfl (lo_at hl 2 rfl) ?_
                obtain ⟨k22, hw⟩ := hw
                refine r_getR hx hb hts hown hg hC fb_9_15 k22 mk_f_RX11_69 dX11_joined_110 ?_
                obtain ⟨k23, hw⟩ := hw
                refine rf_1 k23.1 ?_
                refine r_getR hx hb hts hown hg hC fb_8_5 k23.2 mk_f_RX11_299 dX11_joined_113 ?_
                refine lv_iload hx hb dX11_joined_116 (lo_at hl 0 rfl) ?_
                obtain ⟨k24, hw⟩ := hw
                refine rf_2 k24.1 ?_
                refine r_iald hx hb hg hC k24.2.1 k24.2.2 dX11_joined_118 ?_
                refine lv_topi (fun v25 ev25 => ?_)
                replace hw := hw v25 ev25
                exact ret_i hM hC hw dX11_joined_119
              ·
                replace hw := (if_pos c19).mp hw
                refine lv_iconst (v := -1) hx hb dX11_joined_102 (by decide) ?_
                exact ret_i hM hC hw dX11_joined_103
        ·
          replace hw := (if_pos c12).mp hw
          refine lv_aload_n hx hb dX11_joined_62 rfl (lo_at hl 1 rfl) ?_
          refine lo_aload_n (r := z3) hx hb dX11_joined_63 rfl (lo_at hl 0 rfl) ?_
          obtain ⟨k26, hw⟩ := hw
          refine res_v hC (run_V (As := [va_rf z3]) (rest := []) hM hC hl.1.1 kv_RX11_292 (c_X11_makeGroups l G base o z3 h2 _ hw) (hc_9) k26 rfl rfl rfl ⟨Nat.le_of_ble_eq_true rfl, Nat.le_of_ble_eq_true rfl⟩ (Nat.le_of_ble_eq_true rfl) ⟨Nat.le_of_ble_eq_true rfl, Nat.le_of_ble_eq_true rfl⟩ dX11_joined_64) (fun h27 H locs hw hC => ?_)
          refine lv_aload_n hx hb dX11_joined_67 rfl (lo_at hl 1 rfl) ?_
          obtain ⟨k29, hw⟩ := hw
          refine res_i hC (run_V (As := []) (rest := []) hM hC hl.1.1 kv_RX11_296 (c_X11_groupCount l G base o h27 _ hw) (hc_9) k29 rfl rfl rfl ⟨Nat.le_of_ble_eq_true rfl, Nat.le_of_ble_eq_true rfl⟩ (Nat.le_of_ble_eq_true rfl) ⟨Nat.le_of_ble_eq_true rfl, Nat.le_of_ble_eq_true rfl⟩ dX11_joined_68) (fun z31 h30 H locs hw hC => ?_)
          exact ret_i hM hC hw dX11_joined_71
      ·
        replace hw := (if_pos c11).mp hw
        exact t_X11_joined_J22 hM o x2 z3 Q  h2 H locs ls hC (lo_sub hl [1, 3, 0] rfl) hw
  ·
    replace hw := (if_pos c4).mp hw
    refine lv_iconst (v := -1) hx hb dX11_joined_10 (by decide) ?_
    exact ret_i hM hC hw dX11_joined_11
abbrev rm_X8_scan : Room := { frames := 7, cells := 0, slots := 0, locals := 156 }
def wp_X8_scan_L7 (o : Nat) (K63 : Hp → Prop) (Q : Hp → Prop) : Nat → Int32 → Hp → Prop
  | 0, _, _ => False
  | n + 1, x1, h => ((hpK h o).1 = 20 + 6) ∧ ((if (hpI h o 1) ≤ x1 then (K63 h) else (wp_X8_isStart o x1 h (fun (z6 : Int32) (h5 : Hp) => (if z6 = 0 then (∀ v8 : Int32, v8 = x1 + (1 : Int32) → (wp_X8_scan_L7 o K63 Q n v8 h5)) else (((hpK h5 o).1 = 20 + 6) ∧ (wp_X8_kindAt o x1 h5 (fun (z11 : Int32) (h10 : Hp) => okA h10 (hpR h5 o 2) 1 (hpI h5 o 4) ∧ (∀ h13 : Hp, h13 = stI h10 (ad (hpR h5 o 2)) (hpI h5 o 4).toNatClampNeg z11 → (((hpK h13 o).1 = 20 + 6) ∧ (okA h13 (hpR h13 o 3) 1 (hpI h13 o 4) ∧ (∀ h16 : Hp, h16 = stI h13 (ad (hpR h13 o 3)) (hpI h13 o 4).toNatClampNeg x1 → (((hpK h16 o).1 = 20 + 6) ∧ (∀ h18 : Hp, h18 = stI h16 o 4 ((hpI h16 o 4) + (1 : Int32)) → (∀ v19 : Int32, v19 = x1 + (1 : Int32) → (wp_X8_scan_L7 o K63 Q n v19 h18))))))))))))))))
def wp_X8_scan (o : Nat) (h : Hp) (Q : Hp → Prop) : Prop := ((hpK h o).1 = 20 + 6) ∧ (∀ h2 : Hp, h2 = stI h o 4 (0 : Int32) → (wp_X8_scan_L7 o (fun (h20 : Hp) => ((hpK h20 o).1 = 20 + 6) ∧ (okA h20 (hpR h20 o 2) 1 (hpI h20 o 4) ∧ (∀ h23 : Hp, h23 = stI h20 (ad (hpR h20 o 2)) (hpI h20 o 4).toNatClampNeg (0 : Int32) → (((hpK h23 o).1 = 20 + 6) ∧ (okA h23 (hpR h23 o 3) 1 (hpI h23 o 4) ∧ (∀ h26 : Hp, h26 = stI h23 (ad (hpR h23 o 3)) (hpI h23 o 4).toNatClampNeg (hpI h23 o 1) → (Q h26))))))) Q fuel (0 : Int32) h2))
set_option maxHeartbeats 4000000 in
set_option maxRecDepth 100000 in
theorem t_X8_scan_L7 {p : Program} {l : Launch} {e : Env} {s : State} {m : MethodId} {args : Array Value} {below : List Frame} {meth : Method} {c : Code} {G : GG} {base : Nat} (hM : Mx G base p s m args meth c cX8_scan 2 none RX8 "scan") (o : Nat) (K63 : Hp → Prop) (Q : Hp → Prop) (hK63 : ∀ (h : Hp) (H : Heap) (locs : List Loc) (ls : Array Slot), Cx G base h s.heap H locs → lo_has ls 2 [(0, .ref o)] → K63 h → W p l e rm_X8_scan s m args below meth c H locs 0 0 (MQ below (va_Qv Q (PU G base) (fun q => base ≤ q)) args s 0 0 (fun q => base ≤ q)) (F0 m 63 ls [])) : ∀ (n : Nat) (x1 : Int32) (h : Hp) (H : Heap) (locs : List Loc) (ls : Array Slot), Cx G base h s.heap H locs → lo_has ls 2 [(0, .ref o), (1, .int x1)] → wp_X8_scan_L7 o K63 Q n x1 h → W p l e rm_X8_scan s m args below meth c H locs 0 0 (MQ below (va_Qv Q (PU G base) (fun q => base ≤ q)) args s 0 0 (fun q => base ≤ q)) (F0 m 7 ls []) := by
  intro n
  induction n with
  | zero =>
    intro x1 h H locs ls hC hl hw
    rw [wp_X8_scan_L7] at hw
    exact hw.elim
  | succ n ih =>
    intro x1 h H locs ls hC hl hw
    rw [wp_X8_scan_L7] at hw
    obtain ⟨hx, hb, hr, hml, hown, hts, hg, hs, hlk, hnm⟩ := id hM
    refine lv_iload_n hx hb dX8_scan_7 rfl (lo_at hl 1 rfl) ?_
    refine lv_aload_n hx hb dX8_scan_8 rfl (lo_at hl 0 rfl) ?_
    obtain ⟨k3, hw⟩ := hw
    refine r_getI hx hb hts hown hg hC fb_6_1 k3 mk_f_RX8_21 dX8_scan_9 ?_
    refine lv_icmp_ge (tgt := 63) hx hb dX8_scan_12 (by decide) (fun c4 => ?_) (fun c4 => ?_)
    ·
      replace hw := (if_pos c4).mp hw
      exact hK63  h H locs ls hC (lo_sub hl [0] rfl) hw
    ·
      replace hw := (if_neg c4).mp hw
      refine lv_aload_n hx hb dX8_scan_15 rfl (lo_at hl 0 rfl) ?_
      refine lv_iload_n hx hb dX8_scan_16 rfl (lo_at hl 1 rfl) ?_
      refine res_i hC (run_V (As := [.int x1]) (rest := []) hM hC hl.1.1 kv_RX8_28 (c_X8_isStart l G base o x1 h _ hw) (hc_6) k3 rfl rfl rfl ⟨Nat.le_of_ble_eq_true rfl, Nat.le_of_ble_eq_true rfl⟩ (Nat.le_of_ble_eq_true rfl) ⟨Nat.le_of_ble_eq_true rfl, Nat.le_of_ble_eq_true rfl⟩ dX8_scan_17) (fun z6 h5 H locs hw hC => ?_)
      refine lv_if_eq (tgt := 57) hx hb dX8_scan_20 (by decide) (fun c7 => ?_) (fun c7 => ?_)
      ·
        replace hw := (if_pos c7).mp hw
        obtain ⟨v8, ev8⟩ : ∃ y : Int32, y = x1 + (1 : Int32) := ⟨_, rfl⟩
        replace hw := hw v8 ev8
        refine lo_iinc (v := v8) (lv' := [(1, .int v8), (0, .ref o)]) hx hb dX8_scan_57 hl (k := 1) rfl (by rw [ev8]; rfl) (by decide) rfl (fun ls hl => ?_)
        refine lv_goto (tgt := 7) hx hb dX8_scan_60 (by decide) ?_
        exact ih v8 h5 H locs ls hC (lo_sub hl [1, 0] rfl) hw
      ·
        replace hw := (if_neg c7).mp hw
        refine lv_aload_n hx hb dX8_scan_23 rfl (lo_at hl 0 rfl) ?_
        obtain ⟨k9, hw⟩ := hw
        refine r_getR hx hb hts hown hg hC fb_6_2 k9 mk_f_RX8_15 dX8_scan_24 ?_
        refine lv_aload_n hx hb dX8_scan_27 rfl (lo_at hl 0 rfl) ?_
        refine r_getI hx hb hts hown hg hC fb_6_4 k9 mk_f_RX8_25 dX8_scan_28 ?_
        refine lv_aload_n hx hb dX8_scan_31 rfl (lo_at hl 0 rfl) ?_
        refine lv_iload_n hx hb dX8_scan_32 rfl (lo_at hl 1 rfl) ?_
        refine res_i hC (run_V (As := [.int x1]) (rest := [.int (hpI h5 o 4), va_rf (hpR h5 o 2)]) hM hC hl.1.1 kv_RX8_32 (c_X8_kindAt l G base o x1 h5 _ hw) (hc_6) k9 rfl rfl rfl ⟨Nat.le_of_ble_eq_true rfl, Nat.le_of_ble_eq_true rfl⟩ (rest_le (List.forall_mem_cons.mpr ⟨rfl, (List.forall_mem_cons.mpr ⟨va_rf_cat _, (fun _ h => absurd h List.not_mem_nil)⟩)⟩) (Nat.le_of_ble_eq_true rfl)) ⟨Nat.le_of_ble_eq_true rfl, Nat.le_of_ble_eq_true rfl⟩ dX8_scan_33) (fun z11 h10 H locs hw hC => ?_)
        obtain ⟨k12, hw⟩ := hw
        refine rf_3 k12.1 ?_
        refine r_iast hx hb hg hC k12.2.1 k12.2.2 dX8_scan_36 (fun h13 H locs eh13 hC => ?_)
        replace hw := hw h13 eh13
        refine lv_aload_n hx hb dX8_scan_37 rfl (lo_at hl 0 rfl) ?_
        obtain ⟨k14, hw⟩ := hw
        refine r_getR hx hb hts hown hg hC fb_6_3 k14 mk_f_RX8_18 dX8_scan_38 ?_
        refine lv_aload_n hx hb dX8_scan_41 rfl (lo_at hl 0 rfl) ?_
        refine r_getI hx hb hts hown hg hC fb_6_4 k14 mk_f_RX8_25 dX8_scan_42 ?_
        refine lv_iload_n hx hb dX8_scan_45 rfl (lo_at hl 1 rfl) ?_
        obtain ⟨k15, hw⟩ := hw
        refine rf_3 k15.1 ?_
        refine r_iast hx hb hg hC k15.2.1 k15.2.2 dX8_scan_46 (fun h16 H locs eh16 hC => ?_)
        replace hw := hw h16 eh16
        refine lv_aload_n hx hb dX8_scan_47 rfl (lo_at hl 0 rfl) ?_
        refine lv_dup hx hb dX8_scan_48 rfl ?_
        obtain ⟨k17, hw⟩ := hw
        refine r_getI hx hb hts hown hg hC fb_6_4 k17 mk_f_RX8_25 dX8_scan_49 ?_
        refine lv_iconst (v := 1) hx hb dX8_scan_52 (by decide) ?_
        refine lv_iadd hx hb dX8_scan_53 ?_
        refine r_putI hx hb hts hown hg hC fb_6_4 k17 rfl rfl mk_f_RX8_25 dX8_scan_54 (fun h18 H locs eh18 hC => ?_)
        replace hw := hw h18 eh18
        obtain ⟨v19, ev19⟩ : ∃ y : Int32, y = x1 + (1 : Int32) := ⟨_, rfl⟩
        replace hw := hw v19 ev19
        refine lo_iinc (v := v19) (lv' := [(1, .int v19), (0, .ref o)]) hx hb dX8_scan_57 hl (k := 1) rfl (by rw [ev19]; rfl) (by decide) rfl (fun ls hl => ?_)
        refine lv_goto (tgt := 7) hx hb dX8_scan_60 (by decide) ?_
        exact ih v19 h18 H locs ls hC (lo_sub hl [1, 0] rfl) hw
set_option maxHeartbeats 4000000 in
set_option maxRecDepth 100000 in
theorem c_X8_scan (l : Launch) (G : GG) (base : Nat) (o : Nat) (h : Hp) (Q : Hp → Prop) (hw : wp_X8_scan o h Q) : Met l yX8_scan (ww yX8_scan cX8_scan 2 none) rm_X8_scan (va_Pc [.ref o] (PU G base h)) (va_Qv Q (PU G base) (fun q => base ≤ q)) 0 0 (fun q => base ≤ q) := by
  refine met_of (own := RX8) (nm := "scan") (by decide) rfl rfl (List.forall_mem_cons.mpr ⟨rfl, (fun _ h => absurd h List.not_mem_nil)⟩) (Nat.le_of_ble_eq_true rfl) rfl ?_
  intro p e s m below meth c ls hM hC hl
  obtain ⟨hx, hb, hr, hml, hown, hts, hg, hs, hlk, hnm⟩ := id hM
  obtain ⟨args, hargs⟩ : ∃ a : Array Value, a = ([.ref o] : List Value).toArray := ⟨_, rfl⟩
  rw [← hargs] at hM hts ⊢
  obtain ⟨H, hH⟩ : ∃ H : Heap, H = s.heap := ⟨_, rfl⟩
  obtain ⟨locs, hlocs⟩ : ∃ x : List Loc, x = [] := ⟨_, rfl⟩
  have hC : Cx G base h s.heap H locs := by rw [hH, hlocs]; exact hC
  show W p l e rm_X8_scan s m args below meth c s.heap [] 0 0 (MQ below (va_Qv Q (PU G base) (fun q => base ≤ q)) args s 0 0 (fun q => base ≤ q)) (F0 m 0 ls [])
  rw [← hlocs]
  have hgoal : W p l e rm_X8_scan s m args below meth c H locs 0 0 (MQ below (va_Qv Q (PU G base) (fun q => base ≤ q)) args s 0 0 (fun q => base ≤ q)) (F0 m 0 ls []) := ?_
  · rw [hH] at hgoal; exact hgoal
  clear hH hlocs
  unfold wp_X8_scan at hw
  refine lv_aload_n hx hb dX8_scan_0 rfl (lo_at hl 0 rfl) ?_
  refine lv_iconst (v := 0) hx hb dX8_scan_1 (by decide) ?_
  obtain ⟨k1, hw⟩ := hw
  refine r_putI hx hb hts hown hg hC fb_6_4 k1 rfl rfl mk_f_RX8_25 dX8_scan_2 (fun h2 H locs eh2 hC => ?_)
  replace hw := hw h2 eh2
  refine lv_iconst (v := 0) hx hb dX8_scan_5 (by decide) ?_
  refine lo_istore_n (lv' := [(1, .int ((0 : Int32))), (0, .ref o)]) hx hb dX8_scan_6 rfl hl (by decide) rfl (fun ls hl => ?_)
  refine t_X8_scan_L7 hM o _ Q ?_ fuel (0 : Int32) h2 H locs ls hC (lo_sub hl [1, 0] rfl) hw
  intro  h20 H locs ls hC hl hw
  refine lv_aload_n hx hb dX8_scan_63 rfl (lo_at hl 0 rfl) ?_
  obtain ⟨k21, hw⟩ := hw
  refine r_getR hx hb hts hown hg hC fb_6_2 k21 mk_f_RX8_15 dX8_scan_64 ?_
  refine lv_aload_n hx hb dX8_scan_67 rfl (lo_at hl 0 rfl) ?_
  refine r_getI hx hb hts hown hg hC fb_6_4 k21 mk_f_RX8_25 dX8_scan_68 ?_
  refine lv_iconst (v := 0) hx hb dX8_scan_71 (by decide) ?_
  obtain ⟨k22, hw⟩ := hw
  refine rf_3 k22.1 ?_
  refine r_iast hx hb hg hC k22.2.1 k22.2.2 dX8_scan_72 (fun h23 H locs eh23 hC => ?_)
  replace hw := hw h23 eh23
  refine lv_aload_n hx hb dX8_scan_73 rfl (lo_at hl 0 rfl) ?_
  obtain ⟨k24, hw⟩ := hw
  refine r_getR hx hb hts hown hg hC fb_6_3 k24 mk_f_RX8_18 dX8_scan_74 ?_
  refine lv_aload_n hx hb dX8_scan_77 rfl (lo_at hl 0 rfl) ?_
  refine r_getI hx hb hts hown hg hC fb_6_4 k24 mk_f_RX8_25 dX8_scan_78 ?_
  refine lv_aload_n hx hb dX8_scan_81 rfl (lo_at hl 0 rfl) ?_
  refine r_getI hx hb hts hown hg hC fb_6_1 k24 mk_f_RX8_21 dX8_scan_82 ?_
  obtain ⟨k25, hw⟩ := hw
  refine rf_3 k25.1 ?_
  refine r_iast hx hb hg hC k25.2.1 k25.2.2 dX8_scan_85 (fun h26 H locs eh26 hC => ?_)
  replace hw := hw h26 eh26
  exact ret_v hM hC hw dX8_scan_86
abbrev rm_X5_read : Room := { frames := 166, cells := 0, slots := 0, locals := 3523 }
def wp_X5_read_L36 (o : Nat) (K66 : Hp → Prop) (Q : Int32 → Hp → Prop) : Nat → Int32 → Hp → Prop
  | 0, _, _ => False
  | n + 1, x2, h => (if (16 : Int32) < x2 then (K66 h) else (((hpK h o).1 = 20 + 4) ∧ ((if (hpI h o 0) = 0 then (wp_X5_kind o h (fun (z22 : Int32) (h21 : Hp) => (if z22 = 0 then (K66 h21) else (((hpK h21 o).1 = 20 + 4) ∧ (wp_X5_readLine o h21 (fun (h25 : Hp) => ∀ v27 : Int32, v27 = x2 + (1 : Int32) → (wp_X5_read_L36 o K66 Q n v27 h25))))))) else (K66 h)))))
def wp_X5_read (o : Nat) (x1 : Int32) (h : Hp) (Q : Int32 → Hp → Prop) : Prop := ((hpK h o).1 = 20 + 4) ∧ (okZ x1 ∧ (∀ h2 : Hp, h2 = stI h o 4 x1 → (((hpK h2 o).1 = 20 + 4) ∧ (∀ h5 : Hp, h5 = stI h2 o 5 (0 : Int32) → (((hpK h5 o).1 = 20 + 4) ∧ (∀ h7 : Hp, h7 = stI h5 o 0 (0 : Int32) → (((hpK h7 o).1 = 20 + 4) ∧ (∀ h9 : Hp, h9 = stI h7 o 1 (-1 : Int32) → (((hpK h9 o).1 = 20 + 4) ∧ (okO h9 (hpR h9 o 2) 6 ∧ (wp_X8_scan (ad (hpR h9 o 2)) h9 (fun (h12 : Hp) => ((hpK h12 o).1 = 20 + 4) ∧ (okO h12 (hpR h12 o 3) 5 ∧ (wp_X7_clear (ad (hpR h12 o 3)) h12 (fun (h16 : Hp) => wp_X5_read_L36 o (fun (h28 : Hp) => ((hpK h28 o).1 = 20 + 4) ∧ (okO h28 (hpR h28 o 2) 6 ∧ (∀ h31 : Hp, h31 = stI h28 (ad (hpR h28 o 2)) 1 (0 : Int32) → (((hpK h31 o).1 = 20 + 4) ∧ ((if (hpI h31 o 0) = 0 then (Q (1 : Int32) h31) else (Q (0 : Int32) h31))))))) Q fuel (0 : Int32) h16)))))))))))))))
set_option maxHeartbeats 4000000 in
set_option maxRecDepth 100000 in
theorem t_X5_read_L36 {p : Program} {l : Launch} {e : Env} {s : State} {m : MethodId} {args : Array Value} {below : List Frame} {meth : Method} {c : Code} {G : GG} {base : Nat} (hM : Mx G base p s m args meth c cX5_read 3 (some .boolean) RX5 "read") (o : Nat) (K66 : Hp → Prop) (Q : Int32 → Hp → Prop) (hK66 : ∀ (h : Hp) (H : Heap) (locs : List Loc) (ls : Array Slot), Cx G base h s.heap H locs → lo_has ls 3 [(0, .ref o)] → K66 h → W p l e rm_X5_read s m args below meth c H locs 0 0 (MQ below (va_Qi Q (PU G base) (fun q => base ≤ q)) args s 0 0 (fun q => base ≤ q)) (F0 m 66 ls [])) : ∀ (n : Nat) (x2 : Int32) (h : Hp) (H : Heap) (locs : List Loc) (ls : Array Slot), Cx G base h s.heap H locs → lo_has ls 3 [(0, .ref o), (2, .int x2)] → wp_X5_read_L36 o K66 Q n x2 h → W p l e rm_X5_read s m args below meth c H locs 0 0 (MQ below (va_Qi Q (PU G base) (fun q => base ≤ q)) args s 0 0 (fun q => base ≤ q)) (F0 m 36 ls []) := by
  intro n
  induction n with
  | zero =>
    intro x2 h H locs ls hC hl hw
    rw [wp_X5_read_L36] at hw
    exact hw.elim
  | succ n ih =>
    intro x2 h H locs ls hC hl hw
    rw [wp_X5_read_L36] at hw
    obtain ⟨hx, hb, hr, hml, hown, hts, hg, hs, hlk, hnm⟩ := id hM
    refine lv_iload_n hx hb dX5_read_36 rfl (lo_at hl 1 rfl) ?_
    refine lv_bipush (v := 16) hx hb dX5_read_37 (by decide) ?_
    refine lv_icmp_gt (tgt := 66) hx hb dX5_read_39 (by decide) (fun c18 => ?_) (fun c18 => ?_)
    ·
      replace hw := (if_pos c18).mp hw
      exact hK66  h H locs ls hC (lo_sub hl [0] rfl) hw
    ·
      replace hw := (if_neg c18).mp hw
      refine lv_aload_n hx hb dX5_read_42 rfl (lo_at hl 0 rfl) ?_
      obtain ⟨k19, hw⟩ := hw
      refine r_getI hx hb hts hown hg hC fb_4_0 k19 mk_f_RX5_33 dX5_read_43 ?_
      refine lv_if_ne (tgt := 66) hx hb dX5_read_46 (by decide) (fun c20 => ?_) (fun c20 => ?_)
      ·
        replace hw := (if_neg c20).mp hw
        exact hK66  h H locs ls hC (lo_sub hl [0] rfl) hw
      ·
        replace hw := (if_pos c20).mp hw
        refine lv_aload_n hx hb dX5_read_49 rfl (lo_at hl 0 rfl) ?_
        refine res_i hC (run_V (As := []) (rest := []) hM hC hl.1.1 kv_RX5_44 (c_X5_kind l G base o h _ hw) (hc_4) k19 rfl rfl rfl ⟨Nat.le_of_ble_eq_true rfl, Nat.le_of_ble_eq_true rfl⟩ (Nat.le_of_ble_eq_true rfl) ⟨Nat.le_of_ble_eq_true rfl, Nat.le_of_ble_eq_true rfl⟩ dX5_read_50) (fun z22 h21 H locs hw hC => ?_)
        refine lv_if_eq (tgt := 66) hx hb dX5_read_53 (by decide) (fun c23 => ?_) (fun c23 => ?_)
        ·
          replace hw := (if_pos c23).mp hw
          exact hK66  h21 H locs ls hC (lo_sub hl [0] rfl) hw
        ·
          replace hw := (if_neg c23).mp hw
          refine lv_aload_n hx hb dX5_read_56 rfl (lo_at hl 0 rfl) ?_
          obtain ⟨k24, hw⟩ := hw
          refine res_v hC (run_V (As := []) (rest := []) hM hC hl.1.1 kv_RX5_48 (c_X5_readLine l G base o h21 _ hw) (hc_4) k24 rfl rfl rfl ⟨Nat.le_of_ble_eq_true rfl, Nat.le_of_ble_eq_true rfl⟩ (Nat.le_of_ble_eq_true rfl) ⟨Nat.le_of_ble_eq_true rfl, Nat.le_of_ble_eq_true rfl⟩ dX5_read_57) (fun h25 H locs hw hC => ?_)
          obtain ⟨v27, ev27⟩ : ∃ y : Int32, y = x2 + (1 : Int32) := ⟨_, rfl⟩
          replace hw := hw v27 ev27
          refine lo_iinc (v := v27) (lv' := [(2, .int v27), (0, .ref o)]) hx hb dX5_read_60 hl (k := 1) rfl (by rw [ev27]; rfl) (by decide) rfl (fun ls hl => ?_)
          refine lv_goto (tgt := 36) hx hb dX5_read_63 (by decide) ?_
          exact ih v27 h25 H locs ls hC (lo_sub hl [1, 0] rfl) hw
set_option maxHeartbeats 4000000 in
set_option maxRecDepth 100000 in
theorem c_X5_read (l : Launch) (G : GG) (base : Nat) (o : Nat) (x1 : Int32) (h : Hp) (Q : Int32 → Hp → Prop) (hw : wp_X5_read o x1 h Q) : Met l yX5_read (ww yX5_read cX5_read 3 (some .boolean)) rm_X5_read (va_Pc [.ref o, .int x1] (PU G base h)) (va_Qi Q (PU G base) (fun q => base ≤ q)) 0 0 (fun q => base ≤ q) := by
  refine met_of (own := RX5) (nm := "read") (by decide) rfl rfl (List.forall_mem_cons.mpr ⟨rfl, (List.forall_mem_cons.mpr ⟨rfl, (fun _ h => absurd h List.not_mem_nil)⟩)⟩) (Nat.le_of_ble_eq_true rfl) rfl ?_
  intro p e s m below meth c ls hM hC hl
  obtain ⟨hx, hb, hr, hml, hown, hts, hg, hs, hlk, hnm⟩ := id hM
  obtain ⟨args, hargs⟩ : ∃ a : Array Value, a = ([.ref o, .int x1] : List Value).toArray := ⟨_, rfl⟩
  rw [← hargs] at hM hts ⊢
  obtain ⟨H, hH⟩ : ∃ H : Heap, H = s.heap := ⟨_, rfl⟩
  obtain ⟨locs, hlocs⟩ : ∃ x : List Loc, x = [] := ⟨_, rfl⟩
  have hC : Cx G base h s.heap H locs := by rw [hH, hlocs]; exact hC
  show W p l e rm_X5_read s m args below meth c s.heap [] 0 0 (MQ below (va_Qi Q (PU G base) (fun q => base ≤ q)) args s 0 0 (fun q => base ≤ q)) (F0 m 0 ls [])
  rw [← hlocs]
  have hgoal : W p l e rm_X5_read s m args below meth c H locs 0 0 (MQ below (va_Qi Q (PU G base) (fun q => base ≤ q)) args s 0 0 (fun q => base ≤ q)) (F0 m 0 ls []) := ?_
  · rw [hH] at hgoal; exact hgoal
  clear hH hlocs
  unfold wp_X5_read at hw
  refine lv_aload_n hx hb dX5_read_0 rfl (lo_at hl 0 rfl) ?_
  refine lv_iload_n hx hb dX5_read_1 rfl (lo_at hl 1 rfl) ?_
  obtain ⟨k1, hw⟩ := hw
  obtain ⟨k3, hw⟩ := hw
  refine r_putI hx hb hts hown hg hC fb_4_4 k1 k3.1 k3.2 mk_f_RX5_26 dX5_read_2 (fun h2 H locs eh2 hC => ?_)
  replace hw := hw h2 eh2
  refine lv_aload_n hx hb dX5_read_5 rfl (lo_at hl 0 rfl) ?_
  refine lv_iconst (v := 0) hx hb dX5_read_6 (by decide) ?_
  obtain ⟨k4, hw⟩ := hw
  refine r_putI hx hb hts hown hg hC fb_4_5 k4 rfl rfl mk_f_RX5_30 dX5_read_7 (fun h5 H locs eh5 hC => ?_)
  replace hw := hw h5 eh5
  refine lv_aload_n hx hb dX5_read_10 rfl (lo_at hl 0 rfl) ?_
  refine lv_iconst (v := 0) hx hb dX5_read_11 (by decide) ?_
  obtain ⟨k6, hw⟩ := hw
  refine r_putI hx hb hts hown hg hC fb_4_0 k6 rfl rfl mk_f_RX5_33 dX5_read_12 (fun h7 H locs eh7 hC => ?_)
  replace hw := hw h7 eh7
  refine lv_aload_n hx hb dX5_read_15 rfl (lo_at hl 0 rfl) ?_
  refine lv_iconst (v := -1) hx hb dX5_read_16 (by decide) ?_
  obtain ⟨k8, hw⟩ := hw
  refine r_putI hx hb hts hown hg hC fb_4_1 k8 rfl rfl mk_f_RX5_9 dX5_read_17 (fun h9 H locs eh9 hC => ?_)
  replace hw := hw h9 eh9
  refine lv_aload_n hx hb dX5_read_20 rfl (lo_at hl 0 rfl) ?_
  obtain ⟨k10, hw⟩ := hw
  refine r_getR hx hb hts hown hg hC fb_4_2 k10 mk_f_RX5_22 dX5_read_21 ?_
  obtain ⟨k11, hw⟩ := hw
  refine rf_1 k11.1 ?_
  refine res_v hC (run_V (As := []) (rest := []) hM hC hl.1.1 kv_RX5_36 (c_X8_scan l G base (ad (hpR h9 o 2)) h9 _ hw) (hc_6) k11.2 rfl rfl rfl ⟨Nat.le_of_ble_eq_true rfl, Nat.le_of_ble_eq_true rfl⟩ (Nat.le_of_ble_eq_true rfl) ⟨Nat.le_of_ble_eq_true rfl, Nat.le_of_ble_eq_true rfl⟩ dX5_read_24) (fun h12 H locs hw hC => ?_)
  refine lv_aload_n hx hb dX5_read_27 rfl (lo_at hl 0 rfl) ?_
  obtain ⟨k14, hw⟩ := hw
  refine r_getR hx hb hts hown hg hC fb_4_3 k14 mk_f_RX5_18 dX5_read_28 ?_
  obtain ⟨k15, hw⟩ := hw
  refine rf_1 k15.1 ?_
  refine res_v hC (run_V (As := []) (rest := []) hM hC hl.1.1 kv_RX5_41 (c_X7_clear l G base (ad (hpR h12 o 3)) h12 _ hw) (hc_5) k15.2 rfl rfl rfl ⟨Nat.le_of_ble_eq_true rfl, Nat.le_of_ble_eq_true rfl⟩ (Nat.le_of_ble_eq_true rfl) ⟨Nat.le_of_ble_eq_true rfl, Nat.le_of_ble_eq_true rfl⟩ dX5_read_31) (fun h16 H locs hw hC => ?_)
  refine lv_iconst (v := 0) hx hb dX5_read_34 (by decide) ?_
  refine lo_istore_n (lv' := [(2, .int ((0 : Int32))), (0, .ref o), (1, .int x1)]) hx hb dX5_read_35 rfl hl (by decide) rfl (fun ls hl => ?_)
  refine t_X5_read_L36 hM o _ Q ?_ fuel (0 : Int32) h16 H locs ls hC (lo_sub hl [1, 0] rfl) hw
  intro  h28 H locs ls hC hl hw
  refine lv_aload_n hx hb dX5_read_66 rfl (lo_at hl 0 rfl) ?_
  obtain ⟨k29, hw⟩ := hw
  refine r_getR hx hb hts hown hg hC fb_4_2 k29 mk_f_RX5_22 dX5_read_67 ?_
  refine lv_iconst (v := 0) hx hb dX5_read_70 (by decide) ?_
  obtain ⟨k30, hw⟩ := hw
  refine rf_2 k30.1 ?_
  refine r_putI hx hb hts hown hg hC fb_6_1 k30.2 rfl rfl mk_f_RX5_51 dX5_read_71 (fun h31 H locs eh31 hC => ?_)
  replace hw := hw h31 eh31
  refine lv_aload_n hx hb dX5_read_74 rfl (lo_at hl 0 rfl) ?_
  obtain ⟨k32, hw⟩ := hw
  refine r_getI hx hb hts hown hg hC fb_4_0 k32 mk_f_RX5_33 dX5_read_75 ?_
  refine lv_if_ne (tgt := 85) hx hb dX5_read_78 (by decide) (fun c33 => ?_) (fun c33 => ?_)
  ·
    replace hw := (if_neg c33).mp hw
    refine lv_iconst (v := 0) hx hb dX5_read_85 (by decide) ?_
    exact ret_z hM hC rfl hw dX5_read_86
  ·
    replace hw := (if_pos c33).mp hw
    refine lv_iconst (v := 1) hx hb dX5_read_81 (by decide) ?_
    refine lv_goto (tgt := 86) hx hb dX5_read_82 (by decide) ?_
    exact ret_z hM hC rfl hw dX5_read_86
abbrev rm_X11_laws : Room := { frames := 167, cells := 0, slots := 0, locals := 3545 }
def wp_X11_laws (o : Nat) (h : Hp) (Q : Int32 → Hp → Prop) : Prop := ((hpK h o).1 = 20 + 9) ∧ (okO h (hpR h o 13) 4 ∧ (wp_X5_read (ad (hpR h o 13)) (1 : Int32) h (fun (z4 : Int32) (h3 : Hp) => (if z4 = 0 then (Q (-1 : Int32) h3) else (((hpK h3 o).1 = 20 + 9) ∧ (okO h3 (hpR h3 o 13) 4 ∧ (wp_X5_exchange (ad (hpR h3 o 13)) (hpR h3 o 14) h3 (fun (z9 : Option Nat) (h8 : Hp) => ((hpK h8 o).1 = 20 + 9) ∧ (∀ h11 : Hp, h11 = stR h8 o 14 z9 → (((hpK h11 o).1 = 20 + 9) ∧ (okO h11 (hpR h11 o 14) 5 ∧ (Q (hpI h11 (ad (hpR h11 o 14)) 7) h11))))))))))))
set_option maxHeartbeats 4000000 in
set_option maxRecDepth 100000 in
theorem c_X11_laws (l : Launch) (G : GG) (base : Nat) (o : Nat) (h : Hp) (Q : Int32 → Hp → Prop) (hw : wp_X11_laws o h Q) : Met l yX11_laws (ww yX11_laws cX11_laws 1 (some .int)) rm_X11_laws (va_Pc [.ref o] (PU G base h)) (va_Qi Q (PU G base) (fun q => base ≤ q)) 0 0 (fun q => base ≤ q) := by
  refine met_of (own := RX11) (nm := "laws") (by decide) rfl rfl (List.forall_mem_cons.mpr ⟨rfl, (fun _ h => absurd h List.not_mem_nil)⟩) (Nat.le_of_ble_eq_true rfl) rfl ?_
  intro p e s m below meth c ls hM hC hl
  obtain ⟨hx, hb, hr, hml, hown, hts, hg, hs, hlk, hnm⟩ := id hM
  obtain ⟨args, hargs⟩ : ∃ a : Array Value, a = ([.ref o] : List Value).toArray := ⟨_, rfl⟩
  rw [← hargs] at hM hts ⊢
  obtain ⟨H, hH⟩ : ∃ H : Heap, H = s.heap := ⟨_, rfl⟩
  obtain ⟨locs, hlocs⟩ : ∃ x : List Loc, x = [] := ⟨_, rfl⟩
  have hC : Cx G base h s.heap H locs := by rw [hH, hlocs]; exact hC
  show W p l e rm_X11_laws s m args below meth c s.heap [] 0 0 (MQ below (va_Qi Q (PU G base) (fun q => base ≤ q)) args s 0 0 (fun q => base ≤ q)) (F0 m 0 ls [])
  rw [← hlocs]
  have hgoal : W p l e rm_X11_laws s m args below meth c H locs 0 0 (MQ below (va_Qi Q (PU G base) (fun q => base ≤ q)) args s 0 0 (fun q => base ≤ q)) (F0 m 0 ls []) := ?_
  · rw [hH] at hgoal; exact hgoal
  clear hH hlocs
  unfold wp_X11_laws at hw
  refine lv_aload_n hx hb dX11_laws_0 rfl (lo_at hl 0 rfl) ?_
  obtain ⟨k1, hw⟩ := hw
  refine r_getR hx hb hts hown hg hC fb_9_13 k1 mk_f_RX11_55 dX11_laws_1 ?_
  refine lv_iconst (v := 1) hx hb dX11_laws_4 (by decide) ?_
  obtain ⟨k2, hw⟩ := hw
  refine rf_2 k2.1 ?_
  refine res_i hC (run_V (As := [.int ((1 : Int32))]) (rest := []) hM hC hl.1.1 kv_RX11_169 (c_X5_read l G base (ad (hpR h o 13)) (1 : Int32) h _ hw) (hc_4) k2.2 rfl rfl rfl ⟨Nat.le_of_ble_eq_true rfl, Nat.le_of_ble_eq_true rfl⟩ (Nat.le_of_ble_eq_true rfl) ⟨Nat.le_of_ble_eq_true rfl, Nat.le_of_ble_eq_true rfl⟩ dX11_laws_5) (fun z4 h3 H locs hw hC => ?_)
  refine lv_if_ne (tgt := 13) hx hb dX11_laws_8 (by decide) (fun c5 => ?_) (fun c5 => ?_)
  ·
    replace hw := (if_neg c5).mp hw
    refine lv_aload_n hx hb dX11_laws_13 rfl (lo_at hl 0 rfl) ?_
    refine lv_aload_n hx hb dX11_laws_14 rfl (lo_at hl 0 rfl) ?_
    obtain ⟨k6, hw⟩ := hw
    refine r_getR hx hb hts hown hg hC fb_9_13 k6 mk_f_RX11_55 dX11_laws_15 ?_
    refine lv_aload_n hx hb dX11_laws_18 rfl (lo_at hl 0 rfl) ?_
    refine r_getR hx hb hts hown hg hC fb_9_14 k6 mk_f_RX11_62 dX11_laws_19 ?_
    obtain ⟨k7, hw⟩ := hw
    refine rf_2 k7.1 ?_
    refine res_q hC (run_V (As := [va_rf (hpR h3 o 14)]) (rest := [.ref o]) hM hC hl.1.1 kv_RX11_173 (c_X5_exchange l G base (ad (hpR h3 o 13)) (hpR h3 o 14) h3 _ hw) (hc_4) k7.2 rfl rfl rfl ⟨Nat.le_of_ble_eq_true rfl, Nat.le_of_ble_eq_true rfl⟩ (Nat.le_of_ble_eq_true rfl) ⟨Nat.le_of_ble_eq_true rfl, Nat.le_of_ble_eq_true rfl⟩ dX11_laws_22) (fun z9 h8 H locs hw hC => ?_)
    obtain ⟨k10, hw⟩ := hw
    refine r_putR (v := z9) hx hb hts hown hg hC fb_9_14 k10 (nv_o) (fv_o) mk_f_RX11_62 dX11_laws_25 (fun h11 H locs eh11 hC => ?_)
    replace hw := hw h11 eh11
    refine lv_aload_n hx hb dX11_laws_28 rfl (lo_at hl 0 rfl) ?_
    obtain ⟨k12, hw⟩ := hw
    refine r_getR hx hb hts hown hg hC fb_9_14 k12 mk_f_RX11_62 dX11_laws_29 ?_
    obtain ⟨k13, hw⟩ := hw
    refine rf_1 k13.1 ?_
    refine r_getI hx hb hts hown hg hC fb_5_7 k13.2 mk_f_RX11_177 dX11_laws_32 ?_
    exact ret_i hM hC hw dX11_laws_35
  ·
    replace hw := (if_pos c5).mp hw
    refine lv_iconst (v := -1) hx hb dX11_laws_11 (by decide) ?_
    exact ret_i hM hC hw dX11_laws_12
