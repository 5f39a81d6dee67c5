abbrev rm_X7_value : Room := { frames := 1, cells := 0, slots := 0, locals := 22 }
set_option maxRecDepth 100000 in
def wp_X7_value_J34 (o : Nat) (x2 : Int32) (r3 : Option Nat) (x4 : Int32) (x5 : Int32) (x6 : Int32) (KH : Int32 → Int32 → Hp → Prop) (K155 : Int32 → Hp → Prop) (Q : Int32 → Hp → Prop) (h : Hp) : Prop := (if (32 : Int32) ≤ x4 then (∀ v7 : Int32, v7 = x5 + (1 : Int32) → (KH x4 v7 h)) else (((hpK h o).1 = 20 + 5) ∧ ((if 0 ≤ x6 then (okA h r3 1 (x6 - (265 : Int32)) ∧ (∀ v11 : Int32, v11 = hpI h (ad r3) (x6 - (265 : Int32)).toNatClampNeg → (okA h (hpR h o 5) 1 x4 ∧ (∀ h13 : Hp, h13 = stI h (ad (hpR h o 5)) (x4).toNatClampNeg v11 → (∀ v14 : Int32, v14 = x4 + (1 : Int32) → (∀ v15 : Int32, v15 = x5 + (1 : Int32) → (KH v14 v15 h13))))))) else (okA h (hpR h o 5) 1 x4 ∧ (∀ h17 : Hp, h17 = stI h (ad (hpR h o 5)) (x4).toNatClampNeg (x6 ^^^ (-1 : Int32)) → (∀ v18 : Int32, v18 = x4 + (1 : Int32) → (∀ v19 : Int32, v19 = x5 + (1 : Int32) → (KH v18 v19 h17)))))))))
set_option maxRecDepth 100000 in
def wp_X7_value_L6 (o : Nat) (x2 : Int32) (r3 : Option Nat) (K155 : Int32 → Hp → Prop) (Q : Int32 → Hp → Prop) : Nat → Int32 → Int32 → Hp → Prop
  | 0, _, _, _ => False
  | n + 1, x4, x5, h => (if x2 ≤ x5 then (K155 x4 h) else (((hpK h o).1 = 20 + 5) ∧ (okA h (hpR h o 4) 1 x5 ∧ (∀ v4 : Int32, v4 = hpI h (ad (hpR h o 4)) (x5).toNatClampNeg → ((if v4 < 0 then (wp_X7_value_J34 o x2 r3 x4 x5 v4 (wp_X7_value_L6 o x2 r3 K155 Q n) K155 Q h) else ((if v4 < (265 : Int32) then ((if v4 = (258 : Int32) then ((if x4 ≤ 0 then (∀ v35 : Int32, v35 = x5 + (1 : Int32) → (wp_X7_value_L6 o x2 r3 K155 Q n x4 v35 h)) else (okA h (hpR h o 5) 1 (x4 - (1 : Int32)) ∧ (∀ v37 : Int32, v37 = hpI h (ad (hpR h o 5)) (x4 - (1 : Int32)).toNatClampNeg → (okA h (hpR h o 5) 1 (x4 - (1 : Int32)) ∧ (∀ h39 : Hp, h39 = stI h (ad (hpR h o 5)) (x4 - (1 : Int32)).toNatClampNeg ((1 : Int32) - v37) → (∀ v40 : Int32, v40 = x5 + (1 : Int32) → (wp_X7_value_L6 o x2 r3 K155 Q n x4 v40 h39)))))))) else ((if x4 ≤ (1 : Int32) then (∀ v23 : Int32, v23 = x5 + (1 : Int32) → (wp_X7_value_L6 o x2 r3 K155 Q n x4 v23 h)) else (∀ v24 : Int32, v24 = x4 + (-1 : Int32) → (okA h (hpR h o 5) 1 (v24 - (1 : Int32)) ∧ (∀ v26 : Int32, v26 = hpI h (ad (hpR h o 5)) (v24 - (1 : Int32)).toNatClampNeg → (okA h (hpR h o 5) 1 v24 ∧ (∀ v28 : Int32, v28 = hpI h (ad (hpR h o 5)) (v24).toNatClampNeg → (wp_X7_combined v4 v26 v28 h (fun (z30 : Int32) (h29 : Hp) => okA h29 (hpR h o 5) 1 (v24 - (1 : Int32)) ∧ (∀ h32 : Hp, h32 = stI h29 (ad (hpR h o 5)) (v24 - (1 : Int32)).toNatClampNeg z30 → (∀ v33 : Int32, v33 = x5 + (1 : Int32) → (wp_X7_value_L6 o x2 r3 K155 Q n v24 v33 h32)))))))))))))) else (wp_X7_value_J34 o x2 r3 x4 x5 v4 (wp_X7_value_L6 o x2 r3 K155 Q n) K155 Q h)))))))))
set_option maxRecDepth 100000 in
def wp_X7_value (o : Nat) (x1 : Int32) (x2 : Int32) (r3 : Option Nat) (h : Hp) (Q : Int32 → Hp → Prop) : Prop := wp_X7_value_L6 o x2 r3 (fun (y42 : Int32) (h41 : Hp) => (if y42 ≤ 0 then (Q (0 : Int32) h41) else (((hpK h41 o).1 = 20 + 5) ∧ (okA h41 (hpR h41 o 5) 1 (y42 - (1 : Int32)) ∧ (∀ v46 : Int32, v46 = hpI h41 (ad (hpR h41 o 5)) (y42 - (1 : Int32)).toNatClampNeg → (Q v46 h41)))))) Q fuel (0 : Int32) x1 h
set_option maxHeartbeats 4000000 in
set_option maxRecDepth 100000 in
theorem t_X7_value_J34 {p : Program} {l : Launch} {e : Env} {s : State} {m : MethodId} {args : Array Value} {below : List Frame} {meth : Method} {c : Code} {G : GG} {base : Nat} {A : Nat → Nat} {g0 : Hp} (hM : Mx G base p s m args meth c cX7_value 7 (some .int) RX7 "value") (o : Nat) (x2 : Int32) (r3 : Option Nat) (x4 : Int32) (x5 : Int32) (x6 : Int32) (KH : Int32 → Int32 → Hp → Prop) (K155 : Int32 → Hp → Prop) (Q : Int32 → Hp → Prop) (hKH : ∀ (y4 : Int32) (y5 : Int32) (h : Hp) (H : Heap) (locs : List Loc) (ls : Array Slot), Cx2 G base A g0 A h s.heap H locs → lo_has ls 7 [(0, .ref (A o)), (2, .int x2), (3, va_rf (Option.map A r3)), (4, .int y4), (5, .int y5)] → KH y4 y5 h → W p l e rm_X7_value s m args below meth c H locs 0 0 (MQ below (va_Qi Q (PU2 G base A g0 A) (fun q => base ≤ q)) args s 0 0 (fun q => base ≤ q)) (F0 m 6 ls [])) (hK155 : ∀ (y4 : Int32) (h : Hp) (H : Heap) (locs : List Loc) (ls : Array Slot), Cx2 G base A g0 A h s.heap H locs → lo_has ls 7 [(0, .ref (A o)), (4, .int y4)] → K155 y4 h → W p l e rm_X7_value s m args below meth c H locs 0 0 (MQ below (va_Qi Q (PU2 G base A g0 A) (fun q => base ≤ q)) args s 0 0 (fun q => base ≤ q)) (F0 m 155 ls [])) (h : Hp) (H : Heap) (locs : List Loc) (ls : Array Slot) : Cx2 G base A g0 A h s.heap H locs → lo_has ls 7 [(0, .ref (A o)), (2, .int x2), (3, va_rf (Option.map A r3)), (4, .int x4), (5, .int x5), (6, .int x6)] → wp_X7_value_J34 o x2 r3 x4 x5 x6 KH K155 Q h → W p l e rm_X7_value s m args below meth c H locs 0 0 (MQ below (va_Qi Q (PU2 G base A g0 A) (fun q => base ≤ q)) args s 0 0 (fun q => base ≤ q)) (F0 m 34 ls []) := by
  intro hC hl hw
  unfold wp_X7_value_J34 at hw
  obtain ⟨hx, hb, hr, hml, hown, hts, hg, hs, hlk, hnm⟩ := id hM
  refine lv_iload hx hb dX7_value_34 (lo_at hl 3 rfl) ?_
  refine lv_bipush (v := 32) hx hb dX7_value_36 (by decide) ?_
  refine lv_icmp_ge (tgt := 149) hx hb dX7_value_38 (by decide) (fun c6 => ?_) (fun c6 => ?_)
  ·
    replace hw := (if_pos c6).mp hw
    obtain ⟨v7, ev7⟩ : ∃ y : Int32, y = x5 + (1 : Int32) := ⟨_, rfl⟩
    replace hw := hw v7 ev7
    refine lo_iinc (v := v7) (lv' := [(5, .int v7), (0, .ref (A o)), (2, .int x2), (3, va_rf (Option.map A r3)), (4, .int x4), (6, .int x6)]) hx hb dX7_value_149 hl (k := 4) rfl (by rw [ev7]; rfl) (by decide) rfl (fun ls hl => ?_)
    refine lv_goto (tgt := 6) hx hb dX7_value_152 (by decide) ?_
    exact hKH x4 v7 h H locs ls hC (lo_sub hl [1, 2, 3, 4, 0] rfl) hw
  ·
    replace hw := (if_neg c6).mp hw
    refine lv_aload_n hx hb dX7_value_41 rfl (lo_at hl 0 rfl) ?_
    obtain ⟨k8, hw⟩ := hw
    refine s_getR hx hb hts hown hg hC fb_5_5 k8 mk_f_RX7_27 dX7_value_42 ?_
    refine lv_iload hx hb dX7_value_45 (lo_at hl 3 rfl) ?_
    refine lv_iload hx hb dX7_value_47 (lo_at hl 5 rfl) ?_
    refine lv_if_ge (tgt := 59) hx hb dX7_value_49 (by decide) (fun c9 => ?_) (fun c9 => ?_)
    ·
      replace hw := (if_pos c9).mp hw
      refine lo_aload_n (r := Option.map A r3) hx hb dX7_value_59 rfl (lo_at hl 2 rfl) ?_
      refine lv_iload hx hb dX7_value_60 (lo_at hl 5 rfl) ?_
      refine lv_sipush (v := 265) hx hb dX7_value_62 (by decide) ?_
      refine lv_isub hx hb dX7_value_65 ?_
      obtain ⟨k10, hw⟩ := hw
      refine sf_2 k10.1 ?_
      refine s_iald hx hb hg hC k10.2.1 k10.2.2 dX7_value_66 ?_
      refine lv_topi (fun v11 ev11 => ?_)
      replace hw := hw v11 ev11
      obtain ⟨k12, hw⟩ := hw
      refine sf_3 k12.1 ?_
      refine s_iast hx hb hg hC k12.2.1 k12.2.2 dX7_value_67 (fun h13 H locs eh13 hC => ?_)
      replace hw := hw h13 eh13
      obtain ⟨v14, ev14⟩ : ∃ y : Int32, y = x4 + (1 : Int32) := ⟨_, rfl⟩
      replace hw := hw v14 ev14
      refine lo_iinc (v := v14) (lv' := [(4, .int v14), (0, .ref (A o)), (2, .int x2), (3, va_rf (Option.map A r3)), (5, .int x5), (6, .int x6)]) hx hb dX7_value_68 hl (k := 3) rfl (by rw [ev14]; rfl) (by decide) rfl (fun ls hl => ?_)
      refine lv_goto (tgt := 149) hx hb dX7_value_71 (by decide) ?_
      obtain ⟨v15, ev15⟩ : ∃ y : Int32, y = x5 + (1 : Int32) := ⟨_, rfl⟩
      replace hw := hw v15 ev15
      refine lo_iinc (v := v15) (lv' := [(5, .int v15), (4, .int v14), (0, .ref (A o)), (2, .int x2), (3, va_rf (Option.map A r3)), (6, .int x6)]) hx hb dX7_value_149 hl (k := 4) rfl (by rw [ev15]; rfl) (by decide) rfl (fun ls hl => ?_)
      refine lv_goto (tgt := 6) hx hb dX7_value_152 (by decide) ?_
      exact hKH v14 v15 h13 H locs ls hC (lo_sub hl [2, 3, 4, 1, 0] rfl) hw
    ·
      replace hw := (if_neg c9).mp hw
      refine lv_iload hx hb dX7_value_52 (lo_at hl 5 rfl) ?_
      refine lv_iconst (v := -1) hx hb dX7_value_54 (by decide) ?_
      refine lv_ixor hx hb dX7_value_55 ?_
      refine lv_goto (tgt := 67) hx hb dX7_value_56 (by decide) ?_
      obtain ⟨k16, hw⟩ := hw
      refine sf_3 k16.1 ?_
      refine s_iast hx hb hg hC k16.2.1 k16.2.2 dX7_value_67 (fun h17 H locs eh17 hC => ?_)
      replace hw := hw h17 eh17
      obtain ⟨v18, ev18⟩ : ∃ y : Int32, y = x4 + (1 : Int32) := ⟨_, rfl⟩
      replace hw := hw v18 ev18
      refine lo_iinc (v := v18) (lv' := [(4, .int v18), (0, .ref (A o)), (2, .int x2), (3, va_rf (Option.map A r3)), (5, .int x5), (6, .int x6)]) hx hb dX7_value_68 hl (k := 3) rfl (by rw [ev18]; rfl) (by decide) rfl (fun ls hl => ?_)
      refine lv_goto (tgt := 149) hx hb dX7_value_71 (by decide) ?_
      obtain ⟨v19, ev19⟩ : ∃ y : Int32, y = x5 + (1 : Int32) := ⟨_, rfl⟩
      replace hw := hw v19 ev19
      refine lo_iinc (v := v19) (lv' := [(5, .int v19), (4, .int v18), (0, .ref (A o)), (2, .int x2), (3, va_rf (Option.map A r3)), (6, .int x6)]) hx hb dX7_value_149 hl (k := 4) rfl (by rw [ev19]; rfl) (by decide) rfl (fun ls hl => ?_)
      refine lv_goto (tgt := 6) hx hb dX7_value_152 (by decide) ?_
      exact hKH v18 v19 h17 H locs ls hC (lo_sub hl [2, 3, 4, 1, 0] rfl) hw
set_option maxHeartbeats 4000000 in
set_option maxRecDepth 100000 in
theorem t_X7_value_L6 {p : Program} {l : Launch} {e : Env} {s : State} {m : MethodId} {args : Array Value} {below : List Frame} {meth : Method} {c : Code} {G : GG} {base : Nat} {A : Nat → Nat} {g0 : Hp} (hM : Mx G base p s m args meth c cX7_value 7 (some .int) RX7 "value") (o : Nat) (x2 : Int32) (r3 : Option Nat) (K155 : Int32 → Hp → Prop) (Q : Int32 → Hp → Prop) (hK155 : ∀ (y4 : Int32) (h : Hp) (H : Heap) (locs : List Loc) (ls : Array Slot), Cx2 G base A g0 A h s.heap H locs → lo_has ls 7 [(0, .ref (A o)), (4, .int y4)] → K155 y4 h → W p l e rm_X7_value s m args below meth c H locs 0 0 (MQ below (va_Qi Q (PU2 G base A g0 A) (fun q => base ≤ q)) args s 0 0 (fun q => base ≤ q)) (F0 m 155 ls [])) : ∀ (n : Nat) (x4 : Int32) (x5 : Int32) (h : Hp) (H : Heap) (locs : List Loc) (ls : Array Slot), Cx2 G base A g0 A h s.heap H locs → lo_has ls 7 [(0, .ref (A o)), (2, .int x2), (3, va_rf (Option.map A r3)), (4, .int x4), (5, .int x5)] → wp_X7_value_L6 o x2 r3 K155 Q n x4 x5 h → W p l e rm_X7_value s m args below meth c H locs 0 0 (MQ below (va_Qi Q (PU2 G base A g0 A) (fun q => base ≤ q)) args s 0 0 (fun q => base ≤ q)) (F0 m 6 ls []) := by
  intro n
  induction n with
  | zero =>
    intro x4 x5 h H locs ls hC hl hw
    rw [wp_X7_value_L6] at hw
    exact hw.elim
  | succ n ih =>
    intro x4 x5 h H locs ls hC hl hw
    rw [wp_X7_value_L6] at hw
    obtain ⟨hx, hb, hr, hml, hown, hts, hg, hs, hlk, hnm⟩ := id hM
    refine lv_iload hx hb dX7_value_6 (lo_at hl 4 rfl) ?_
    refine lv_iload_n hx hb dX7_value_8 rfl (lo_at hl 1 rfl) ?_
    refine lv_icmp_ge (tgt := 155) hx hb dX7_value_9 (by decide) (fun c1 => ?_) (fun c1 => ?_)
    ·
      replace hw := (if_pos c1).mp hw
      exact hK155 x4 h H locs ls hC (lo_sub hl [0, 3] rfl) hw
    ·
      replace hw := (if_neg c1).mp hw
      refine lv_aload_n hx hb dX7_value_12 rfl (lo_at hl 0 rfl) ?_
      obtain ⟨k2, hw⟩ := hw
      refine s_getR hx hb hts hown hg hC fb_5_4 k2 mk_f_RX7_24 dX7_value_13 ?_
      refine lv_iload hx hb dX7_value_16 (lo_at hl 4 rfl) ?_
      obtain ⟨k3, hw⟩ := hw
      refine sf_2 k3.1 ?_
      refine s_iald hx hb hg hC k3.2.1 k3.2.2 dX7_value_18 ?_
      refine lv_topi (fun v4 ev4 => ?_)
      replace hw := hw v4 ev4
      refine lo_istore (lv' := [(6, .int v4), (0, .ref (A o)), (2, .int x2), (3, va_rf (Option.map A r3)), (4, .int x4), (5, .int x5)]) hx hb dX7_value_19 hl (by decide) rfl (fun ls hl => ?_)
      refine lv_iload hx hb dX7_value_21 (lo_at hl 0 rfl) ?_
      refine lv_if_lt (tgt := 34) hx hb dX7_value_23 (by decide) (fun c5 => ?_) (fun c5 => ?_)
      ·
        replace hw := (if_pos c5).mp hw
        exact t_X7_value_J34 hM o x2 r3 x4 x5 v4 (wp_X7_value_L6 o x2 r3 K155 Q n) K155 Q ih hK155 h H locs ls hC (lo_sub hl [1, 2, 3, 4, 5, 0] rfl) hw
      ·
        replace hw := (if_neg c5).mp hw
        refine lv_iload hx hb dX7_value_26 (lo_at hl 0 rfl) ?_
        refine lv_sipush (v := 265) hx hb dX7_value_28 (by decide) ?_
        refine lv_icmp_lt (tgt := 74) hx hb dX7_value_31 (by decide) (fun c20 => ?_) (fun c20 => ?_)
        ·
          replace hw := (if_pos c20).mp hw
          refine lv_iload hx hb dX7_value_74 (lo_at hl 0 rfl) ?_
          refine lv_sipush (v := 258) hx hb dX7_value_76 (by decide) ?_
          refine lv_icmp_ne (tgt := 110) hx hb dX7_value_79 (by decide) (fun c21 => ?_) (fun c21 => ?_)
          ·
            replace hw := (if_neg c21).mp hw
            refine lv_iload hx hb dX7_value_110 (lo_at hl 4 rfl) ?_
            refine lv_iconst (v := 1) hx hb dX7_value_112 (by decide) ?_
            refine lv_icmp_le (tgt := 149) hx hb dX7_value_113 (by decide) (fun c22 => ?_) (fun c22 => ?_)
            ·
              replace hw := (if_pos c22).mp hw
              obtain ⟨v23, ev23⟩ : ∃ y : Int32, y = x5 + (1 : Int32) := ⟨_, rfl⟩
              replace hw := hw v23 ev23
              refine lo_iinc (v := v23) (lv' := [(5, .int v23), (6, .int v4), (0, .ref (A o)), (2, .int x2), (3, va_rf (Option.map A r3)), (4, .int x4)]) hx hb dX7_value_149 hl (k := 5) rfl (by rw [ev23]; rfl) (by decide) rfl (fun ls hl => ?_)
              refine lv_goto (tgt := 6) hx hb dX7_value_152 (by decide) ?_
              exact ih x4 v23 h H locs ls hC (lo_sub hl [2, 3, 4, 5, 0] rfl) hw
            ·
              replace hw := (if_neg c22).mp hw
              obtain ⟨v24, ev24⟩ : ∃ y : Int32, y = x4 + (-1 : Int32) := ⟨_, rfl⟩
              replace hw := hw v24 ev24
              refine lo_iinc (v := v24) (lv' := [(4, .int v24), (6, .int v4), (0, .ref (A o)), (2, .int x2), (3, va_rf (Option.map A r3)), (5, .int x5)]) hx hb dX7_value_116 hl (k := 4) rfl (by rw [ev24]; rfl) (by decide) rfl (fun ls hl => ?_)
              refine lv_aload_n hx hb dX7_value_119 rfl (lo_at hl 2 rfl) ?_
              refine s_getR hx hb hts hown hg hC fb_5_5 k2 mk_f_RX7_27 dX7_value_120 ?_
              refine lv_iload hx hb dX7_value_123 (lo_at hl 0 rfl) ?_
              refine lv_iconst (v := 1) hx hb dX7_value_125 (by decide) ?_
              refine lv_isub hx hb dX7_value_126 ?_
              refine lv_iload hx hb dX7_value_127 (lo_at hl 1 rfl) ?_
              refine lv_aload_n hx hb dX7_value_129 rfl (lo_at hl 2 rfl) ?_
              refine s_getR hx hb hts hown hg hC fb_5_5 k2 mk_f_RX7_27 dX7_value_130 ?_
              refine lv_iload hx hb dX7_value_133 (lo_at hl 0 rfl) ?_
              refine lv_iconst (v := 1) hx hb dX7_value_135 (by decide) ?_
              refine lv_isub hx hb dX7_value_136 ?_
              obtain ⟨k25, hw⟩ := hw
              refine sf_2 k25.1 ?_
              refine s_iald hx hb hg hC k25.2.1 k25.2.2 dX7_value_137 ?_
              refine lv_topi (fun v26 ev26 => ?_)
              replace hw := hw v26 ev26
              refine lv_aload_n hx hb dX7_value_138 rfl (lo_at hl 2 rfl) ?_
              refine s_getR hx hb hts hown hg hC fb_5_5 k2 mk_f_RX7_27 dX7_value_139 ?_
              refine lv_iload hx hb dX7_value_142 (lo_at hl 0 rfl) ?_
              obtain ⟨k27, hw⟩ := hw
              refine sf_2 k27.1 ?_
              refine s_iald hx hb hg hC k27.2.1 k27.2.2 dX7_value_144 ?_
              refine lv_topi (fun v28 ev28 => ?_)
              replace hw := hw v28 ev28
              refine res2_i hC (run2_S (As := [.int v4, .int v26, .int v28]) (rest := [.int (v24 - (1 : Int32)), va_rf (Option.map A (hpR h o 5))]) hM hC hl.1.1 kv_RX7_85 (c_X7_combined l G base A v4 v26 v28 h _ hw) rfl rfl rfl ⟨Nat.le_of_ble_eq_true rfl, Nat.le_of_ble_eq_true rfl⟩ (rest_le (List.forall_mem_cons.mpr ⟨rfl, (List.forall_mem_cons.mpr ⟨va_rf_cat _, (fun _ h => absurd h List.not_mem_nil)⟩)⟩) (Nat.le_of_ble_eq_true rfl)) ⟨Nat.le_of_ble_eq_true rfl, Nat.le_of_ble_eq_true rfl⟩ dX7_value_145) (fun z30 h29 H locs hw hC => ?_)
              obtain ⟨k31, hw⟩ := hw
              refine sf_3 k31.1 ?_
              refine s_iast hx hb hg hC k31.2.1 k31.2.2 dX7_value_148 (fun h32 H locs eh32 hC => ?_)
              replace hw := hw h32 eh32
              obtain ⟨v33, ev33⟩ : ∃ y : Int32, y = x5 + (1 : Int32) := ⟨_, rfl⟩
              replace hw := hw v33 ev33
              refine lo_iinc (v := v33) (lv' := [(5, .int v33), (4, .int v24), (6, .int v4), (0, .ref (A o)), (2, .int x2), (3, va_rf (Option.map A r3))]) hx hb dX7_value_149 hl (k := 5) rfl (by rw [ev33]; rfl) (by decide) rfl (fun ls hl => ?_)
              refine lv_goto (tgt := 6) hx hb dX7_value_152 (by decide) ?_
              exact ih v24 v33 h32 H locs ls hC (lo_sub hl [3, 4, 5, 1, 0] rfl) hw
          ·
            replace hw := (if_pos c21).mp hw
            refine lv_iload hx hb dX7_value_82 (lo_at hl 4 rfl) ?_
            refine lv_if_le (tgt := 149) hx hb dX7_value_84 (by decide) (fun c34 => ?_) (fun c34 => ?_)
            ·
              replace hw := (if_pos c34).mp hw
              obtain ⟨v35, ev35⟩ : ∃ y : Int32, y = x5 + (1 : Int32) := ⟨_, rfl⟩
              replace hw := hw v35 ev35
              refine lo_iinc (v := v35) (lv' := [(5, .int v35), (6, .int v4), (0, .ref (A o)), (2, .int x2), (3, va_rf (Option.map A r3)), (4, .int x4)]) hx hb dX7_value_149 hl (k := 5) rfl (by rw [ev35]; rfl) (by decide) rfl (fun ls hl => ?_)
              refine lv_goto (tgt := 6) hx hb dX7_value_152 (by decide) ?_
              exact ih x4 v35 h H locs ls hC (lo_sub hl [2, 3, 4, 5, 0] rfl) hw
            ·
              replace hw := (if_neg c34).mp hw
              refine lv_aload_n hx hb dX7_value_87 rfl (lo_at hl 1 rfl) ?_
              refine s_getR hx hb hts hown hg hC fb_5_5 k2 mk_f_RX7_27 dX7_value_88 ?_
              refine lv_iload hx hb dX7_value_91 (lo_at hl 4 rfl) ?_
              refine lv_iconst (v := 1) hx hb dX7_value_93 (by decide) ?_
              refine lv_isub hx hb dX7_value_94 ?_
              refine lv_iconst (v := 1) hx hb dX7_value_95 (by decide) ?_
              refine lv_aload_n hx hb dX7_value_96 rfl (lo_at hl 1 rfl) ?_
              refine s_getR hx hb hts hown hg hC fb_5_5 k2 mk_f_RX7_27 dX7_value_97 ?_
              refine lv_iload hx hb dX7_value_100 (lo_at hl 4 rfl) ?_
              refine lv_iconst (v := 1) hx hb dX7_value_102 (by decide) ?_
              refine lv_isub hx hb dX7_value_103 ?_
              obtain ⟨k36, hw⟩ := hw
              refine sf_2 k36.1 ?_
              refine s_iald hx hb hg hC k36.2.1 k36.2.2 dX7_value_104 ?_
              refine lv_topi (fun v37 ev37 => ?_)
              replace hw := hw v37 ev37
              refine lv_isub hx hb dX7_value_105 ?_
              obtain ⟨k38, hw⟩ := hw
              refine sf_3 k38.1 ?_
              refine s_iast hx hb hg hC k38.2.1 k38.2.2 dX7_value_106 (fun h39 H locs eh39 hC => ?_)
              replace hw := hw h39 eh39
              refine lv_goto (tgt := 149) hx hb dX7_value_107 (by decide) ?_
              obtain ⟨v40, ev40⟩ : ∃ y : Int32, y = x5 + (1 : Int32) := ⟨_, rfl⟩
              replace hw := hw v40 ev40
              refine lo_iinc (v := v40) (lv' := [(5, .int v40), (6, .int v4), (0, .ref (A o)), (2, .int x2), (3, va_rf (Option.map A r3)), (4, .int x4)]) hx hb dX7_value_149 hl (k := 5) rfl (by rw [ev40]; rfl) (by decide) rfl (fun ls hl => ?_)
              refine lv_goto (tgt := 6) hx hb dX7_value_152 (by decide) ?_
              exact ih x4 v40 h39 H locs ls hC (lo_sub hl [2, 3, 4, 5, 0] rfl) hw
        ·
          replace hw := (if_neg c20).mp hw
          exact t_X7_value_J34 hM o x2 r3 x4 x5 v4 (wp_X7_value_L6 o x2 r3 K155 Q n) K155 Q ih hK155 h H locs ls hC (lo_sub hl [1, 2, 3, 4, 5, 0] rfl) hw
set_option maxHeartbeats 4000000 in
set_option maxRecDepth 100000 in
theorem c_X7_value (l : Launch) (G : GG) (base : Nat) (A : Nat → Nat) (o : Nat) (x1 : Int32) (x2 : Int32) (r3 : Option Nat) (h : Hp) (Q : Int32 → Hp → Prop) (hw : wp_X7_value o x1 x2 r3 h Q) : Met l yX7_value (ww yX7_value cX7_value 7 (some .int)) rm_X7_value (va_Pc [.ref (A o), .int x1, .int x2, va_rf (Option.map A r3)] (PU2 G base A h A h)) (va_Qi Q (PU2 G base A h A) (fun q => base ≤ q)) 0 0 (fun q => base ≤ q) := by
  refine met2_of (own := RX7) (nm := "value") (by decide) rfl rfl (List.forall_mem_cons.mpr ⟨rfl, (List.forall_mem_cons.mpr ⟨rfl, (List.forall_mem_cons.mpr ⟨rfl, (List.forall_mem_cons.mpr ⟨va_rf_cat _, (fun _ h => absurd h List.not_mem_nil)⟩)⟩)⟩)⟩) (Nat.le_of_ble_eq_true rfl) rfl ?_
  intro p e s m args below meth c H locs ls hM hC hl
  obtain ⟨hx, hb, hr, hml, hown, hts, hg, hs, hlk, hnm⟩ := id hM
  unfold wp_X7_value at hw
  refine lv_iconst (v := 0) hx hb dX7_value_0 (by decide) ?_
  refine lo_istore (lv' := [(4, .int ((0 : Int32))), (0, .ref (A o)), (1, .int x1), (2, .int x2), (3, va_rf (Option.map A r3))]) hx hb dX7_value_1 hl (by decide) rfl (fun ls hl => ?_)
  refine lv_iload_n hx hb dX7_value_3 rfl (lo_at hl 2 rfl) ?_
  refine lo_istore (lv' := [(5, .int x1), (4, .int ((0 : Int32))), (0, .ref (A o)), (1, .int x1), (2, .int x2), (3, va_rf (Option.map A r3))]) hx hb dX7_value_4 hl (by decide) rfl (fun ls hl => ?_)
  refine t_X7_value_L6 hM o x2 r3 _ Q ?_ fuel (0 : Int32) x1 h H locs ls hC (lo_sub hl [2, 4, 5, 1, 0] rfl) hw
  intro y42 h41 H locs ls hC hl hw
  refine lv_iload hx hb dX7_value_155 (lo_at hl 1 rfl) ?_
  refine lv_if_le (tgt := 172) hx hb dX7_value_157 (by decide) (fun c43 => ?_) (fun c43 => ?_)
  ·
    replace hw := (if_pos c43).mp hw
    refine lv_iconst (v := 0) hx hb dX7_value_172 (by decide) ?_
    exact ret2_i hM hC hw dX7_value_173
  ·
    replace hw := (if_neg c43).mp hw
    refine lv_aload_n hx hb dX7_value_160 rfl (lo_at hl 0 rfl) ?_
    obtain ⟨k44, hw⟩ := hw
    refine s_getR hx hb hts hown hg hC fb_5_5 k44 mk_f_RX7_27 dX7_value_161 ?_
    refine lv_iload hx hb dX7_value_164 (lo_at hl 1 rfl) ?_
    refine lv_iconst (v := 1) hx hb dX7_value_166 (by decide) ?_
    refine lv_isub hx hb dX7_value_167 ?_
    obtain ⟨k45, hw⟩ := hw
    refine sf_2 k45.1 ?_
    refine s_iald hx hb hg hC k45.2.1 k45.2.2 dX7_value_168 ?_
    refine lv_topi (fun v46 ev46 => ?_)
    replace hw := hw v46 ev46
    refine lv_goto (tgt := 173) hx hb dX7_value_169 (by decide) ?_
    exact ret2_i hM hC hw dX7_value_173
abbrev rm_X8_isStart : Room := { frames := 1, cells := 0, slots := 0, locals := 20 }
set_option maxRecDepth 100000 in
def wp_X8_isStart (o : Nat) (x1 : Int32) (h : Hp) (Q : Int32 → Hp → Prop) : Prop := ((hpK h o).1 = 20 + 6) ∧ (okA h (hpR h o 0) 1 x1 ∧ (∀ v3 : Int32, v3 = hpI h (ad (hpR h o 0)) (x1).toNatClampNeg → (wp_X8_sortOf v3 h (fun (z5 : Int32) (h4 : Hp) => (if z5 = (3 : Int32) then (Q (1 : Int32) h4) else ((if z5 = 0 then (Q (0 : Int32) h4) else ((if x1 = 0 then (Q (1 : Int32) h4) else (((hpK h4 o).1 = 20 + 6) ∧ (okA h4 (hpR h4 o 0) 1 (x1 - (1 : Int32)) ∧ (∀ v11 : Int32, v11 = hpI h4 (ad (hpR h4 o 0)) (x1 - (1 : Int32)).toNatClampNeg → (wp_X8_sortOf v11 h4 (fun (z13 : Int32) (h12 : Hp) => (if z13 = z5 then (Q (0 : Int32) h12) else (Q (1 : Int32) h12))))))))))))))))
set_option maxHeartbeats 4000000 in
set_option maxRecDepth 100000 in
theorem c_X8_isStart (l : Launch) (G : GG) (base : Nat) (A : Nat → Nat) (o : Nat) (x1 : Int32) (h : Hp) (Q : Int32 → Hp → Prop) (hw : wp_X8_isStart o x1 h Q) : Met l yX8_isStart (ww yX8_isStart cX8_isStart 3 (some .boolean)) rm_X8_isStart (va_Pc [.ref (A o), .int x1] (PU2 G base A h A h)) (va_Qi Q (PU2 G base A h A) (fun q => base ≤ q)) 0 0 (fun q => base ≤ q) := by
  refine met2_of (own := RX8) (nm := "isStart") (by decide) rfl rfl (List.forall_mem_cons.mpr ⟨rfl, (List.forall_mem_cons.mpr ⟨rfl, (fun _ h => absurd h List.not_mem_nil)⟩)⟩) (Nat.le_of_ble_eq_true rfl) rfl ?_
  intro p e s m args below meth c H locs ls hM hC hl
  obtain ⟨hx, hb, hr, hml, hown, hts, hg, hs, hlk, hnm⟩ := id hM
  unfold wp_X8_isStart at hw
  refine lv_aload_n hx hb dX8_isStart_0 rfl (lo_at hl 0 rfl) ?_
  obtain ⟨k1, hw⟩ := hw
  refine s_getR hx hb hts hown hg hC fb_6_0 k1 mk_f_RX8_9 dX8_isStart_1 ?_
  refine lv_iload_n hx hb dX8_isStart_4 rfl (lo_at hl 1 rfl) ?_
  obtain ⟨k2, hw⟩ := hw
  refine sf_2 k2.1 ?_
  refine s_iald hx hb hg hC k2.2.1 k2.2.2 dX8_isStart_5 ?_
  refine lv_topi (fun v3 ev3 => ?_)
  replace hw := hw v3 ev3
  refine res2_i hC (run2_S (As := [.int v3]) (rest := []) hM hC hl.1.1 kv_RX8_36 (c_X8_sortOf l G base A v3 h _ hw) rfl rfl rfl ⟨Nat.le_of_ble_eq_true rfl, Nat.le_of_ble_eq_true rfl⟩ (Nat.le_of_ble_eq_true rfl) ⟨Nat.le_of_ble_eq_true rfl, Nat.le_of_ble_eq_true rfl⟩ dX8_isStart_6) (fun z5 h4 H locs hw hC => ?_)
  refine lo_istore_n (lv' := [(2, .int z5), (0, .ref (A o)), (1, .int x1)]) hx hb dX8_isStart_9 rfl hl (by decide) rfl (fun ls hl => ?_)
  refine lv_iload_n hx hb dX8_isStart_10 rfl (lo_at hl 0 rfl) ?_
  refine lv_iconst (v := 3) hx hb dX8_isStart_11 (by decide) ?_
  refine lv_icmp_eq (tgt := 38) hx hb dX8_isStart_12 (by decide) (fun c6 => ?_) (fun c6 => ?_)
  ·
    replace hw := (if_pos c6).mp hw
    refine lv_iconst (v := 1) hx hb dX8_isStart_38 (by decide) ?_
    refine lv_goto (tgt := 43) hx hb dX8_isStart_39 (by decide) ?_
    exact ret2_t hM hC rfl hw dX8_isStart_43
  ·
    replace hw := (if_neg c6).mp hw
    refine lv_iload_n hx hb dX8_isStart_15 rfl (lo_at hl 0 rfl) ?_
    refine lv_if_eq (tgt := 42) hx hb dX8_isStart_16 (by decide) (fun c7 => ?_) (fun c7 => ?_)
    ·
      replace hw := (if_pos c7).mp hw
      refine lv_iconst (v := 0) hx hb dX8_isStart_42 (by decide) ?_
      exact ret2_t hM hC rfl hw dX8_isStart_43
    ·
      replace hw := (if_neg c7).mp hw
      refine lv_iload_n hx hb dX8_isStart_19 rfl (lo_at hl 2 rfl) ?_
      refine lv_if_eq (tgt := 38) hx hb dX8_isStart_20 (by decide) (fun c8 => ?_) (fun c8 => ?_)
      ·
        replace hw := (if_pos c8).mp hw
        refine lv_iconst (v := 1) hx hb dX8_isStart_38 (by decide) ?_
        refine lv_goto (tgt := 43) hx hb dX8_isStart_39 (by decide) ?_
        exact ret2_t hM hC rfl hw dX8_isStart_43
      ·
        replace hw := (if_neg c8).mp hw
        refine lv_aload_n hx hb dX8_isStart_23 rfl (lo_at hl 1 rfl) ?_
        obtain ⟨k9, hw⟩ := hw
        refine s_getR hx hb hts hown hg hC fb_6_0 k9 mk_f_RX8_9 dX8_isStart_24 ?_
        refine lv_iload_n hx hb dX8_isStart_27 rfl (lo_at hl 2 rfl) ?_
        refine lv_iconst (v := 1) hx hb dX8_isStart_28 (by decide) ?_
        refine lv_isub hx hb dX8_isStart_29 ?_
        obtain ⟨k10, hw⟩ := hw
        refine sf_2 k10.1 ?_
        refine s_iald hx hb hg hC k10.2.1 k10.2.2 dX8_isStart_30 ?_
        refine lv_topi (fun v11 ev11 => ?_)
        replace hw := hw v11 ev11
        refine res2_i hC (run2_S (As := [.int v11]) (rest := []) hM hC hl.1.1 kv_RX8_36 (c_X8_sortOf l G base A v11 h4 _ hw) rfl rfl rfl ⟨Nat.le_of_ble_eq_true rfl, Nat.le_of_ble_eq_true rfl⟩ (Nat.le_of_ble_eq_true rfl) ⟨Nat.le_of_ble_eq_true rfl, Nat.le_of_ble_eq_true rfl⟩ dX8_isStart_31) (fun z13 h12 H locs hw hC => ?_)
        refine lv_iload_n hx hb dX8_isStart_34 rfl (lo_at hl 0 rfl) ?_
        refine lv_icmp_eq (tgt := 42) hx hb dX8_isStart_35 (by decide) (fun c14 => ?_) (fun c14 => ?_)
        ·
          replace hw := (if_pos c14).mp hw
          refine lv_iconst (v := 0) hx hb dX8_isStart_42 (by decide) ?_
          exact ret2_t hM hC rfl hw dX8_isStart_43
        ·
          replace hw := (if_neg c14).mp hw
          refine lv_iconst (v := 1) hx hb dX8_isStart_38 (by decide) ?_
          refine lv_goto (tgt := 43) hx hb dX8_isStart_39 (by decide) ?_
          exact ret2_t hM hC rfl hw dX8_isStart_43
abbrev rm_X9_init : Room := { frames := 1, cells := 1, slots := 32, locals := 23 }
set_option maxRecDepth 100000 in
def wp_X9_init (o : Nat) (x1 : Int32) (h : Hp) (Q : Hp → Prop) : Prop := okP h (some o) ∧ (∃ q1 : Nat, (hpK h q1).1 = 0 ∧ (∀ h2 : Hp, h2 = alc h q1 1 32 → (((hpK h2 o).1 = 20 + 7) ∧ (okP h2 (some q1) ∧ (∀ h8 : Hp, h8 = stR h2 o 0 (some q1) → (((hpK h8 o).1 = 20 + 7) ∧ (∀ h11 : Hp, h11 = stI h8 o 1 x1 → (((hpK h11 o).1 = 20 + 7) ∧ (wp_J7_fill_53178 (hpR h11 o 0) (32 : Int32) h11 (fun (h13 : Hp) => Q h13))))))))))
set_option maxHeartbeats 4000000 in
set_option maxRecDepth 100000 in
theorem c_X9_init (l : Launch) (G : GG) (base : Nat) (A : Nat → Nat) (o : Nat) (x1 : Int32) (h : Hp) (Q : Hp → Prop) (hw : wp_X9_init o x1 h Q) : Met l yX9_init (ww yX9_init cX9_init 2 none) rm_X9_init (va_Pc [.ref (A o), .int x1] (PU2 G base A h A h)) (va_Qv (fun (u : (Nat → Nat) × Hp) => Q u.2) (fun u t => PU2 G base A h u.1 u.2 t) (fun q => base ≤ q)) 1 32 (fun q => base ≤ q) := by
  refine met2_of (own := RX9) (nm := "<init>") (by decide) rfl rfl (List.forall_mem_cons.mpr ⟨rfl, (List.forall_mem_cons.mpr ⟨rfl, (fun _ h => absurd h List.not_mem_nil)⟩)⟩) (Nat.le_of_ble_eq_true rfl) rfl ?_
  intro p e s m args below meth c H locs ls hM hC hl
  obtain ⟨hx, hb, hr, hml, hown, hts, hg, hs, hlk, hnm⟩ := id hM
  unfold wp_X9_init at hw
  refine lv_aload_n hx hb dX9_init_0 rfl (lo_at hl 0 rfl) ?_
  refine r_oi hx hb hown (hts _ mk_m_RX9_3) (hts _ mk_oi_i) (hts _ mk_oi_c) (by rw [hml]; exact hl.1.1) dX9_init_1 (Nat.le_of_ble_eq_true rfl) (Nat.le_of_ble_eq_true rfl) ?_
  refine lv_aload_n hx hb dX9_init_4 rfl (lo_at hl 0 rfl) ?_
  refine lv_bipush (v := 32) hx hb dX9_init_5 (by decide) ?_
  obtain ⟨k4, hw⟩ := hw
  obtain ⟨q1, k3, hw⟩ := hw
  refine s_newI (N := 32) hx hb hts mk_arc_int hg hC q1 k3 (by decide) rfl (by decide) (Nat.le_of_ble_eq_true rfl) (Nat.le_of_ble_eq_true rfl) dX9_init_7 (fun A5 h2 H eh2 hE hC => ?_)
  replace hw := hw h2 eh2
  have e6 : A o = A5 o := ((hE _ (k4 _ rfl)).2).symm
  try rw [e6] at hl
  try rw [e6]
  refine W.widen (k := 1) (n := 32) (Nat.le_of_ble_eq_true rfl) (Nat.le_of_ble_eq_true rfl) ?_
  obtain ⟨k7, hw⟩ := hw
  obtain ⟨k9, hw⟩ := hw
  refine s_putFR (v := some q1) hx hb hts hown hnm hg hC fb_7_0 k7 k9 (nv_a) (fv_a) mk_f_RX9_9 dX9_init_9 (fun h8 H locs eh8 hC => ?_)
  replace hw := hw h8 eh8
  refine lv_aload_n hx hb dX9_init_12 rfl (lo_at hl 0 rfl) ?_
  refine lv_iload_n hx hb dX9_init_13 rfl (lo_at hl 1 rfl) ?_
  obtain ⟨k10, hw⟩ := hw
  refine s_putI hx hb hts hown hg hC fb_7_1 k10 rfl rfl mk_f_RX9_15 dX9_init_14 (fun h11 H locs eh11 hC => ?_)
  replace hw := hw h11 eh11
  refine lv_aload_n hx hb dX9_init_17 rfl (lo_at hl 0 rfl) ?_
  obtain ⟨k12, hw⟩ := hw
  refine s_getR hx hb hts hown hg hC fb_7_0 k12 mk_f_RX9_9 dX9_init_18 ?_
  refine lv_bipush (v := 32) hx hb dX9_init_21 (by decide) ?_
  refine res2_v hC (run2_S (As := [va_rf (Option.map A5 (hpR h11 o 0)), .int ((32 : Int32))]) (rest := []) hM hC hl.1.1 kv_RX9_19 (c_J7_fill_53178 l G base A5 (hpR h11 o 0) (32 : Int32) h11 _ hw) rfl rfl rfl ⟨Nat.le_of_ble_eq_true rfl, Nat.le_of_ble_eq_true rfl⟩ (Nat.le_of_ble_eq_true rfl) ⟨Nat.le_of_ble_eq_true rfl, Nat.le_of_ble_eq_true rfl⟩ dX9_init_23) (fun h13 H locs hw hC => ?_)
  exact ret2_va hM hC hw dX9_init_26
abbrev rm_X11_init : Room := { frames := 3, cells := 32, slots := 3539, locals := 61 }
set_option maxRecDepth 100000 in
def wp_X11_init (o : Nat) (h : Hp) (Q : Hp → Prop) : Prop := okP h (some o) ∧ (∃ q1 : Nat, (hpK h q1).1 = 0 ∧ (∀ h2 : Hp, h2 = alc h q1 10 6 → (((hpK h2 o).1 = 20 + 9) ∧ (okP h2 (some q1) ∧ (∀ h8 : Hp, h8 = stR h2 o 0 (some q1) → (okP h8 (some o) ∧ (∃ q10 : Nat, (hpK h8 q10).1 = 0 ∧ (∀ h11 : Hp, h11 = alc h8 q10 4 16 → (((hpK h11 o).1 = 20 + 9) ∧ (okP h11 (some q10) ∧ (∀ h17 : Hp, h17 = stR h11 o 2 (some q10) → (okP h17 (some o) ∧ (∃ q19 : Nat, (hpK h17 q19).1 = 0 ∧ (∀ h20 : Hp, h20 = alc h17 q19 3 40 → (((hpK h20 o).1 = 20 + 9) ∧ (okP h20 (some q19) ∧ (∀ h26 : Hp, h26 = stR h20 o 4 (some q19) → (okP h26 (some o) ∧ (∃ q28 : Nat, (hpK h26 q28).1 = 0 ∧ (∀ h29 : Hp, h29 = alc h26 q28 5 6 → (((hpK h29 o).1 = 20 + 9) ∧ (okP h29 (some q28) ∧ (∀ h35 : Hp, h35 = stR h29 o 7 (some q28) → (okP h35 (some o) ∧ (∃ q37 : Nat, (hpK h35 q37).1 = 0 ∧ (∀ h38 : Hp, h38 = alc h35 q37 6 10 → (((hpK h38 o).1 = 20 + 9) ∧ (okP h38 (some q37) ∧ (∀ h44 : Hp, h44 = stR h38 o 9 (some q37) → (okP h44 (some o) ∧ (∃ q46 : Nat, (hpK h44 q46).1 = 0 ∧ (∀ h47 : Hp, h47 = alc h44 q46 2 8 → (((hpK h47 o).1 = 20 + 9) ∧ (okP h47 (some q46) ∧ (∀ h53 : Hp, h53 = stR h47 o 11 (some q46) → (okP h53 (some o) ∧ (∃ q55 : Nat, (hpK h53 q55).1 = 0 ∧ (∀ h56 : Hp, h56 = alc h53 q55 (20 + 6) 0 → (((hpK h56 q55).1 = 20 + 6) ∧ (okP h56 (some o) ∧ (okP h56 (some q55) ∧ (wp_X8_init q55 h56 (fun (h64 : Hp) => ((hpK h64 o).1 = 20 + 9) ∧ (okP h64 (some q55) ∧ (∀ h70 : Hp, h70 = stR h64 o 12 (some q55) → (okP h70 (some o) ∧ (∃ q72 : Nat, (hpK h70 q72).1 = 0 ∧ (∀ h73 : Hp, h73 = alc h70 q72 (20 + 4) 0 → (((hpK h73 o).1 = 20 + 9) ∧ (((hpK h73 q72).1 = 20 + 4) ∧ (okP h73 (some o) ∧ (okP h73 (some q72) ∧ (wp_X5_init q72 (hpR h73 o 12) h73 (fun (h82 : Hp) => ((hpK h82 o).1 = 20 + 9) ∧ (okP h82 (some q72) ∧ (∀ h88 : Hp, h88 = stR h82 o 13 (some q72) → (okP h88 (some o) ∧ (∃ q90 : Nat, (hpK h88 q90).1 = 0 ∧ (∀ h91 : Hp, h91 = alc h88 q90 (20 + 5) 0 → (((hpK h91 q90).1 = 20 + 5) ∧ (okP h91 (some o) ∧ (okP h91 (some q90) ∧ (wp_X7_init q90 h91 (fun (h99 : Hp) => ((hpK h99 o).1 = 20 + 9) ∧ (okP h99 (some q90) ∧ (∀ h105 : Hp, h105 = stR h99 o 14 (some q90) → (okP h105 (some o) ∧ (∃ q107 : Nat, (hpK h105 q107).1 = 0 ∧ (∀ h108 : Hp, h108 = alc h105 q107 (20 + 8) 0 → (((hpK h108 q107).1 = 20 + 8) ∧ (okP h108 (some o) ∧ (okP h108 (some q107) ∧ (wp_X10_init q107 h108 (fun (h116 : Hp) => ((hpK h116 o).1 = 20 + 9) ∧ (okP h116 (some q107) ∧ (∀ h122 : Hp, h122 = stR h116 o 15 (some q107) → (Q h122)))))))))))))))))))))))))))))))))))))))))))))))))))))))))))))))))))))))))))))
set_option maxHeartbeats 4000000 in
set_option maxRecDepth 100000 in
theorem c_X11_init (l : Launch) (G : GG) (base : Nat) (A : Nat → Nat) (o : Nat) (h : Hp) (Q : Hp → Prop) (hw : wp_X11_init o h Q) : Met l yX11_init (ww yX11_init cX11_init 1 none) rm_X11_init (va_Pc [.ref (A o)] (PU2 G base A h A h)) (va_Qv (fun (u : (Nat → Nat) × Hp) => Q u.2) (fun u t => PU2 G base A h u.1 u.2 t) (fun q => base ≤ q)) 32 3539 (fun q => base ≤ q) := by
  refine met2_of (own := RX11) (nm := "<init>") (by decide) rfl rfl (List.forall_mem_cons.mpr ⟨rfl, (fun _ h => absurd h List.not_mem_nil)⟩) (Nat.le_of_ble_eq_true rfl) rfl ?_
  intro p e s m args below meth c H locs ls hM hC hl
  obtain ⟨hx, hb, hr, hml, hown, hts, hg, hs, hlk, hnm⟩ := id hM
  unfold wp_X11_init at hw
  refine lv_aload_n hx hb dX11_init_0 rfl (lo_at hl 0 rfl) ?_
  refine r_oi hx hb hown (hts _ mk_m_RX11_3) (hts _ mk_oi_i) (hts _ mk_oi_c) (by rw [hml]; exact hl.1.1) dX11_init_1 (Nat.le_of_ble_eq_true rfl) (Nat.le_of_ble_eq_true rfl) ?_
  refine lv_aload_n hx hb dX11_init_4 rfl (lo_at hl 0 rfl) ?_
  refine lv_bipush (v := 6) hx hb dX11_init_5 (by decide) ?_
  obtain ⟨k4, hw⟩ := hw
  obtain ⟨q1, k3, hw⟩ := hw
  refine s_newA (N := 6) (kd := 10) (t0 := 6) hx hb hts hown mk_c_RX11_9 (hs.2.2.2.2.1 _ (by simp)) hg hC q1 k3 (by decide) rfl (by decide) rfl (by decide) (Nat.le_of_ble_eq_true rfl) (Nat.le_of_ble_eq_true rfl) dX11_init_7 (fun A5 h2 H eh2 hE hC => ?_)
  replace hw := hw h2 eh2
  have e6 : A o = A5 o := ((hE _ (k4 _ rfl)).2).symm
  try rw [e6] at hl
  try rw [e6]
  refine W.widen (k := 1) (n := 6) (Nat.le_of_ble_eq_true rfl) (Nat.le_of_ble_eq_true rfl) ?_
  obtain ⟨k7, hw⟩ := hw
  obtain ⟨k9, hw⟩ := hw
  refine s_putFR (v := some q1) hx hb hts hown hnm hg hC fb_9_0 k7 k9 (nv_a) (fv_a) mk_f_RX11_11 dX11_init_10 (fun h8 H locs eh8 hC => ?_)
  replace hw := hw h8 eh8
  refine lv_aload_n hx hb dX11_init_13 rfl (lo_at hl 0 rfl) ?_
  refine lv_bipush (v := 16) hx hb dX11_init_14 (by decide) ?_
  obtain ⟨k13, hw⟩ := hw
  obtain ⟨q10, k12, hw⟩ := hw
  refine s_newA (N := 16) (kd := 4) (t0 := 3) hx hb hts hown mk_c_RX11_15 (hs.2.2.2.2.1 _ (by simp)) hg hC q10 k12 (by decide) rfl (by decide) rfl (by decide) (Nat.le_of_ble_eq_true rfl) (Nat.le_of_ble_eq_true rfl) dX11_init_16 (fun A14 h11 H eh11 hE hC => ?_)
  replace hw := hw h11 eh11
  have e15 : A5 o = A14 o := ((hE _ (k13 _ rfl)).2).symm
  try rw [e15] at hl
  try rw [e15]
  refine W.widen (k := 2) (n := 22) (Nat.le_of_ble_eq_true rfl) (Nat.le_of_ble_eq_true rfl) ?_
  obtain ⟨k16, hw⟩ := hw
  obtain ⟨k18, hw⟩ := hw
  refine s_putFR (v := some q10) hx hb hts hown hnm hg hC fb_9_2 k16 k18 (nv_a) (fv_a) mk_f_RX11_17 dX11_init_19 (fun h17 H locs eh17 hC => ?_)
  replace hw := hw h17 eh17
  refine lv_aload_n hx hb dX11_init_22 rfl (lo_at hl 0 rfl) ?_
  refine lv_bipush (v := 40) hx hb dX11_init_23 (by decide) ?_
  obtain ⟨k22, hw⟩ := hw
  obtain ⟨q19, k21, hw⟩ := hw
  refine s_newA (N := 40) (kd := 3) (t0 := 2) hx hb hts hown mk_c_RX11_21 (hs.2.2.2.2.1 _ (by simp)) hg hC q19 k21 (by decide) rfl (by decide) rfl (by decide) (Nat.le_of_ble_eq_true rfl) (Nat.le_of_ble_eq_true rfl) dX11_init_25 (fun A23 h20 H eh20 hE hC => ?_)
  replace hw := hw h20 eh20
  have e24 : A14 o = A23 o := ((hE _ (k22 _ rfl)).2).symm
  try rw [e24] at hl
  try rw [e24]
  refine W.widen (k := 3) (n := 62) (Nat.le_of_ble_eq_true rfl) (Nat.le_of_ble_eq_true rfl) ?_
  obtain ⟨k25, hw⟩ := hw
  obtain ⟨k27, hw⟩ := hw
  refine s_putFR (v := some q19) hx hb hts hown hnm hg hC fb_9_4 k25 k27 (nv_a) (fv_a) mk_f_RX11_23 dX11_init_28 (fun h26 H locs eh26 hC => ?_)
  replace hw := hw h26 eh26
  refine lv_aload_n hx hb dX11_init_31 rfl (lo_at hl 0 rfl) ?_
  refine lv_bipush (v := 6) hx hb dX11_init_32 (by decide) ?_
  obtain ⟨k31, hw⟩ := hw
  obtain ⟨q28, k30, hw⟩ := hw
  refine s_newA (N := 6) (kd := 5) (t0 := 4) hx hb hts hown mk_c_RX11_27 (hs.2.2.2.2.1 _ (by simp)) hg hC q28 k30 (by decide) rfl (by decide) rfl (by decide) (Nat.le_of_ble_eq_true rfl) (Nat.le_of_ble_eq_true rfl) dX11_init_34 (fun A32 h29 H eh29 hE hC => ?_)
  replace hw := hw h29 eh29
  have e33 : A23 o = A32 o := ((hE _ (k31 _ rfl)).2).symm
  try rw [e33] at hl
  try rw [e33]
  refine W.widen (k := 4) (n := 68) (Nat.le_of_ble_eq_true rfl) (Nat.le_of_ble_eq_true rfl) ?_
  obtain ⟨k34, hw⟩ := hw
  obtain ⟨k36, hw⟩ := hw
  refine s_putFR (v := some q28) hx hb hts hown hnm hg hC fb_9_7 k34 k36 (nv_a) (fv_a) mk_f_RX11_29 dX11_init_37 (fun h35 H locs eh35 hC => ?_)
  replace hw := hw h35 eh35
  refine lv_aload_n hx hb dX11_init_40 rfl (lo_at hl 0 rfl) ?_
  refine lv_bipush (v := 10) hx hb dX11_init_41 (by decide) ?_
  obtain ⟨k40, hw⟩ := hw
  obtain ⟨q37, k39, hw⟩ := hw
  refine s_newA (N := 10) (kd := 6) (t0 := 5) hx hb hts hown mk_c_RX11_33 (hs.2.2.2.2.1 _ (by simp)) hg hC q37 k39 (by decide) rfl (by decide) rfl (by decide) (Nat.le_of_ble_eq_true rfl) (Nat.le_of_ble_eq_true rfl) dX11_init_43 (fun A41 h38 H eh38 hE hC => ?_)
  replace hw := hw h38 eh38
  have e42 : A32 o = A41 o := ((hE _ (k40 _ rfl)).2).symm
  try rw [e42] at hl
  try rw [e42]
  refine W.widen (k := 5) (n := 78) (Nat.le_of_ble_eq_true rfl) (Nat.le_of_ble_eq_true rfl) ?_
  obtain ⟨k43, hw⟩ := hw
  obtain ⟨k45, hw⟩ := hw
  refine s_putFR (v := some q37) hx hb hts hown hnm hg hC fb_9_9 k43 k45 (nv_a) (fv_a) mk_f_RX11_35 dX11_init_46 (fun h44 H locs eh44 hC => ?_)
  replace hw := hw h44 eh44
  refine lv_aload_n hx hb dX11_init_49 rfl (lo_at hl 0 rfl) ?_
  refine lv_bipush (v := 8) hx hb dX11_init_50 (by decide) ?_
  obtain ⟨k49, hw⟩ := hw
  obtain ⟨q46, k48, hw⟩ := hw
  refine s_newL (N := 8) hx hb hts mk_arc_long hg hC q46 k48 (by decide) rfl (by decide) (Nat.le_of_ble_eq_true rfl) (Nat.le_of_ble_eq_true rfl) dX11_init_52 (fun A50 h47 H eh47 hE hC => ?_)
  replace hw := hw h47 eh47
  have e51 : A41 o = A50 o := ((hE _ (k49 _ rfl)).2).symm
  try rw [e51] at hl
  try rw [e51]
  refine W.widen (k := 6) (n := 86) (Nat.le_of_ble_eq_true rfl) (Nat.le_of_ble_eq_true rfl) ?_
  obtain ⟨k52, hw⟩ := hw
  obtain ⟨k54, hw⟩ := hw
  refine s_putFR (v := some q46) hx hb hts hown hnm hg hC fb_9_11 k52 k54 (nv_a) (fv_a) mk_f_RX11_39 dX11_init_54 (fun h53 H locs eh53 hC => ?_)
  replace hw := hw h53 eh53
  refine lv_aload_n hx hb dX11_init_57 rfl (lo_at hl 0 rfl) ?_
  obtain ⟨k58, hw⟩ := hw
  obtain ⟨q55, k57, hw⟩ := hw
  refine s_new hx hb hts hown hg hC cb_6 df_6 mk_c_RX11_43 mk_ins_OneBarrel_Tokens mk_ini_OneBarrel_Tokens q55 k57 (Nat.le_of_ble_eq_true rfl) (Nat.le_of_ble_eq_true rfl) dX11_init_58 (fun A59 h56 H eh56 hE hC => ?_)
  replace hw := hw h56 eh56
  have e60 : A50 o = A59 o := ((hE _ (k58 _ rfl)).2).symm
  try rw [e60] at hl
  try rw [e60]
  refine W.widen (k := 7) (n := 91) (Nat.le_of_ble_eq_true rfl) (Nat.le_of_ble_eq_true rfl) ?_
  refine lv_dup hx hb dX11_init_61 rfl ?_
  obtain ⟨k61, hw⟩ := hw
  obtain ⟨k62, hw⟩ := hw
  obtain ⟨k63, hw⟩ := hw
  refine res2_va hC (run2_IN (As := []) (rest := [.ref (A59 q55), .ref (A59 o)]) hM hC hl.1.1 kv_RX11_45 (c_X8_init l G base A59 q55 h56 _ hw) rfl rfl rfl ⟨Nat.le_of_ble_eq_true rfl, Nat.le_of_ble_eq_true rfl⟩ (Nat.le_of_ble_eq_true rfl) ⟨Nat.le_of_ble_eq_true rfl, Nat.le_of_ble_eq_true rfl⟩ dX11_init_62) (fun A66 h64 H locs hw hE hC => ?_)
  have e67 : A59 o = A66 o := ((hE _ (k62 _ rfl)).2).symm
  try rw [e67] at hl
  try rw [e67]
  have e68 : A59 q55 = A66 q55 := ((hE _ (k63 _ rfl)).2).symm
  try rw [e68] at hl
  try rw [e68]
  refine W.widen (k := 10) (n := 1893) (Nat.le_of_ble_eq_true rfl) (Nat.le_of_ble_eq_true rfl) ?_
  obtain ⟨k69, hw⟩ := hw
  obtain ⟨k71, hw⟩ := hw
  refine s_putFR (v := some q55) hx hb hts hown hnm hg hC fb_9_12 k69 k71 (nv_o) (fv_o) mk_f_RX11_46 dX11_init_65 (fun h70 H locs eh70 hC => ?_)
  replace hw := hw h70 eh70
  refine lv_aload_n hx hb dX11_init_68 rfl (lo_at hl 0 rfl) ?_
  obtain ⟨k75, hw⟩ := hw
  obtain ⟨q72, k74, hw⟩ := hw
  refine s_new hx hb hts hown hg hC cb_4 df_4 mk_c_RX11_50 mk_ins_OneBarrel_Reader mk_ini_OneBarrel_Reader q72 k74 (Nat.le_of_ble_eq_true rfl) (Nat.le_of_ble_eq_true rfl) dX11_init_69 (fun A76 h73 H eh73 hE hC => ?_)
  replace hw := hw h73 eh73
  have e77 : A66 o = A76 o := ((hE _ (k75 _ rfl)).2).symm
  try rw [e77] at hl
  try rw [e77]
  refine W.widen (k := 11) (n := 1899) (Nat.le_of_ble_eq_true rfl) (Nat.le_of_ble_eq_true rfl) ?_
  refine lv_dup hx hb dX11_init_72 rfl ?_
  refine lv_aload_n hx hb dX11_init_73 rfl (lo_at hl 0 rfl) ?_
  obtain ⟨k78, hw⟩ := hw
  refine s_getR hx hb hts hown hg hC fb_9_12 k78 mk_f_RX11_46 dX11_init_74 ?_
  obtain ⟨k79, hw⟩ := hw
  obtain ⟨k80, hw⟩ := hw
  obtain ⟨k81, hw⟩ := hw
  refine res2_va hC (run2_I (As := [va_rf (Option.map A76 (hpR h73 o 12))]) (rest := [.ref (A76 q72), .ref (A76 o)]) hM hC hl.1.1 kv_RX11_52 (c_X5_init l G base A76 q72 (hpR h73 o 12) h73 _ hw) rfl rfl rfl ⟨Nat.le_of_ble_eq_true rfl, Nat.le_of_ble_eq_true rfl⟩ (Nat.le_of_ble_eq_true rfl) ⟨Nat.le_of_ble_eq_true rfl, Nat.le_of_ble_eq_true rfl⟩ dX11_init_77) (fun A84 h82 H locs hw hE hC => ?_)
  have e85 : A76 o = A84 o := ((hE _ (k80 _ rfl)).2).symm
  try rw [e85] at hl
  try rw [e85]
  have e86 : A76 q72 = A84 q72 := ((hE _ (k81 _ rfl)).2).symm
  try rw [e86] at hl
  try rw [e86]
  refine W.widen (k := 18) (n := 2604) (Nat.le_of_ble_eq_true rfl) (Nat.le_of_ble_eq_true rfl) ?_
  obtain ⟨k87, hw⟩ := hw
  obtain ⟨k89, hw⟩ := hw
  refine s_putFR (v := some q72) hx hb hts hown hnm hg hC fb_9_13 k87 k89 (nv_o) (fv_o) mk_f_RX11_55 dX11_init_80 (fun h88 H locs eh88 hC => ?_)
  replace hw := hw h88 eh88
  refine lv_aload_n hx hb dX11_init_83 rfl (lo_at hl 0 rfl) ?_
  obtain ⟨k93, hw⟩ := hw
  obtain ⟨q90, k92, hw⟩ := hw
  refine s_new hx hb hts hown hg hC cb_5 df_5 mk_c_RX11_59 mk_ins_OneBarrel_Text mk_ini_OneBarrel_Text q90 k92 (Nat.le_of_ble_eq_true rfl) (Nat.le_of_ble_eq_true rfl) dX11_init_84 (fun A94 h91 H eh91 hE hC => ?_)
  replace hw := hw h91 eh91
  have e95 : A84 o = A94 o := ((hE _ (k93 _ rfl)).2).symm
  try rw [e95] at hl
  try rw [e95]
  refine W.widen (k := 19) (n := 2613) (Nat.le_of_ble_eq_true rfl) (Nat.le_of_ble_eq_true rfl) ?_
  refine lv_dup hx hb dX11_init_87 rfl ?_
  obtain ⟨k96, hw⟩ := hw
  obtain ⟨k97, hw⟩ := hw
  obtain ⟨k98, hw⟩ := hw
  refine res2_va hC (run2_IN (As := []) (rest := [.ref (A94 q90), .ref (A94 o)]) hM hC hl.1.1 kv_RX11_61 (c_X7_init l G base A94 q90 h91 _ hw) rfl rfl rfl ⟨Nat.le_of_ble_eq_true rfl, Nat.le_of_ble_eq_true rfl⟩ (Nat.le_of_ble_eq_true rfl) ⟨Nat.le_of_ble_eq_true rfl, Nat.le_of_ble_eq_true rfl⟩ dX11_init_88) (fun A101 h99 H locs hw hE hC => ?_)
  have e102 : A94 o = A101 o := ((hE _ (k97 _ rfl)).2).symm
  try rw [e102] at hl
  try rw [e102]
  have e103 : A94 q90 = A101 q90 := ((hE _ (k98 _ rfl)).2).symm
  try rw [e103] at hl
  try rw [e103]
  refine W.widen (k := 25) (n := 3309) (Nat.le_of_ble_eq_true rfl) (Nat.le_of_ble_eq_true rfl) ?_
  obtain ⟨k104, hw⟩ := hw
  obtain ⟨k106, hw⟩ := hw
  refine s_putR (v := some q90) hx hb hts hown hg hC fb_9_14 k104 k106 (nv_o) (fv_o) mk_f_RX11_62 dX11_init_91 (fun h105 H locs eh105 hC => ?_)
  replace hw := hw h105 eh105
  refine lv_aload_n hx hb dX11_init_94 rfl (lo_at hl 0 rfl) ?_
  obtain ⟨k110, hw⟩ := hw
  obtain ⟨q107, k109, hw⟩ := hw
  refine s_new hx hb hts hown hg hC cb_8 df_8 mk_c_RX11_66 mk_ins_OneBarrel_Work mk_ini_OneBarrel_Work q107 k109 (Nat.le_of_ble_eq_true rfl) (Nat.le_of_ble_eq_true rfl) dX11_init_95 (fun A111 h108 H eh108 hE hC => ?_)
  replace hw := hw h108 eh108
  have e112 : A101 o = A111 o := ((hE _ (k110 _ rfl)).2).symm
  try rw [e112] at hl
  try rw [e112]
  refine W.widen (k := 26) (n := 3315) (Nat.le_of_ble_eq_true rfl) (Nat.le_of_ble_eq_true rfl) ?_
  refine lv_dup hx hb dX11_init_98 rfl ?_
  obtain ⟨k113, hw⟩ := hw
  obtain ⟨k114, hw⟩ := hw
  obtain ⟨k115, hw⟩ := hw
  refine res2_va hC (run2_IN (As := []) (rest := [.ref (A111 q107), .ref (A111 o)]) hM hC hl.1.1 kv_RX11_68 (c_X10_init l G base A111 q107 h108 _ hw) rfl rfl rfl ⟨Nat.le_of_ble_eq_true rfl, Nat.le_of_ble_eq_true rfl⟩ (Nat.le_of_ble_eq_true rfl) ⟨Nat.le_of_ble_eq_true rfl, Nat.le_of_ble_eq_true rfl⟩ dX11_init_99) (fun A118 h116 H locs hw hE hC => ?_)
  have e119 : A111 o = A118 o := ((hE _ (k114 _ rfl)).2).symm
  try rw [e119] at hl
  try rw [e119]
  have e120 : A111 q107 = A118 q107 := ((hE _ (k115 _ rfl)).2).symm
  try rw [e120] at hl
  try rw [e120]
  refine W.widen (k := 32) (n := 3539) (Nat.le_of_ble_eq_true rfl) (Nat.le_of_ble_eq_true rfl) ?_
  obtain ⟨k121, hw⟩ := hw
  obtain ⟨k123, hw⟩ := hw
  refine s_putFR (v := some q107) hx hb hts hown hnm hg hC fb_9_15 k121 k123 (nv_o) (fv_o) mk_f_RX11_69 dX11_init_102 (fun h122 H locs eh122 hC => ?_)
  replace hw := hw h122 eh122
  exact ret2_va hM hC hw dX11_init_105
abbrev rm_X11_tool : Room := { frames := 2, cells := 2, slots := 35, locals := 44 }
set_option maxRecDepth 100000 in
def wp_X11_tool (o : Nat) (x1 : Int32) (h : Hp) (Q : Int32 → Hp → Prop) : Prop := ((hpK h o).1 = 20 + 9) ∧ ((if (hpI h o 1) < (6 : Int32) then (okP h (some o) ∧ (okP h (hpR h o 0) ∧ (∃ q3 : Nat, (hpK h q3).1 = 0 ∧ (∀ h4 : Hp, h4 = alc h q3 (20 + 7) 0 → (((hpK h4 q3).1 = 20 + 7) ∧ (okP h4 (some o) ∧ (okP h4 (some q3) ∧ (okP h4 (hpR h o 0) ∧ (wp_X9_init q3 x1 h4 (fun (h15 : Hp) => ((hpK h15 q3).1 = 20 + 7) ∧ (okA h15 (hpR h o 0) 10 (hpI h o 1) ∧ (∀ h23 : Hp, h23 = stR h15 (ad (hpR h o 0)) (hpI h o 1).toNatClampNeg (some q3) → (((hpK h23 o).1 = 20 + 9) ∧ (∀ h25 : Hp, h25 = stI h23 o 1 ((hpI h23 o 1) + (1 : Int32)) → (((hpK h25 o).1 = 20 + 9) ∧ (Q ((hpI h25 o 1) - (1 : Int32)) h25)))))))))))))))) else (Q (-1 : Int32) h)))
set_option maxHeartbeats 4000000 in
set_option maxRecDepth 100000 in
theorem c_X11_tool (l : Launch) (G : GG) (base : Nat) (A : Nat → Nat) (o : Nat) (x1 : Int32) (h : Hp) (Q : Int32 → Hp → Prop) (hw : wp_X11_tool o x1 h Q) : Met l yX11_tool (ww yX11_tool cX11_tool 2 (some .int)) rm_X11_tool (va_Pc [.ref (A o), .int x1] (PU2 G base A h A h)) (va_Qi (fun r (u : (Nat → Nat) × Hp) => Q r u.2) (fun u t => PU2 G base A h u.1 u.2 t) (fun q => base ≤ q)) 2 35 (fun q => base ≤ q) := by
  refine met2_of (own := RX11) (nm := "tool") (by decide) rfl rfl (List.forall_mem_cons.mpr ⟨rfl, (List.forall_mem_cons.mpr ⟨rfl, (fun _ h => absurd h List.not_mem_nil)⟩)⟩) (Nat.le_of_ble_eq_true rfl) rfl ?_
  intro p e s m args below meth c H locs ls hM hC hl
  obtain ⟨hx, hb, hr, hml, hown, hts, hg, hs, hlk, hnm⟩ := id hM
  unfold wp_X11_tool at hw
  refine lv_aload_n hx hb dX11_tool_0 rfl (lo_at hl 0 rfl) ?_
  obtain ⟨k1, hw⟩ := hw
  refine s_getI hx hb hts hown hg hC fb_9_1 k1 mk_f_RX11_73 dX11_tool_1 ?_
  refine lv_bipush (v := 6) hx hb dX11_tool_4 (by decide) ?_
  refine lv_icmp_lt (tgt := 11) hx hb dX11_tool_6 (by decide) (fun c2 => ?_) (fun c2 => ?_)
  ·
    replace hw := (if_pos c2).mp hw
    refine lv_aload_n hx hb dX11_tool_11 rfl (lo_at hl 0 rfl) ?_
    refine s_getR hx hb hts hown hg hC fb_9_0 k1 mk_f_RX11_11 dX11_tool_12 ?_
    refine lv_aload_n hx hb dX11_tool_15 rfl (lo_at hl 0 rfl) ?_
    refine s_getI hx hb hts hown hg hC fb_9_1 k1 mk_f_RX11_73 dX11_tool_16 ?_
    obtain ⟨k6, hw⟩ := hw
    obtain ⟨k7, hw⟩ := hw
    obtain ⟨q3, k5, hw⟩ := hw
    refine s_new hx hb hts hown hg hC cb_7 df_7 mk_c_RX11_9 mk_ins_OneBarrel_Tool mk_ini_OneBarrel_Tool q3 k5 (Nat.le_of_ble_eq_true rfl) (Nat.le_of_ble_eq_true rfl) dX11_tool_19 (fun A8 h4 H eh4 hE hC => ?_)
    replace hw := hw h4 eh4
    have e9 : A o = A8 o := ((hE _ (k6 _ rfl)).2).symm
    try rw [e9] at hl
    try rw [e9]
    have e10 : Option.map A (hpR h o 0) = Option.map A8 (hpR h o 0) := hE.map k7
    try rw [e10] at hl
    try rw [e10]
    refine W.widen (k := 1) (n := 3) (Nat.le_of_ble_eq_true rfl) (Nat.le_of_ble_eq_true rfl) ?_
    refine lv_dup hx hb dX11_tool_22 rfl ?_
    refine lv_iload_n hx hb dX11_tool_23 rfl (lo_at hl 1 rfl) ?_
    obtain ⟨k11, hw⟩ := hw
    obtain ⟨k12, hw⟩ := hw
    obtain ⟨k13, hw⟩ := hw
    obtain ⟨k14, hw⟩ := hw
    refine res2_va hC (run2_I (As := [.int x1]) (rest := [.ref (A8 q3), .int (hpI h o 1), va_rf (Option.map A8 (hpR h o 0))]) hM hC hl.1.1 kv_RX11_77 (c_X9_init l G base A8 q3 x1 h4 _ hw) rfl rfl rfl ⟨Nat.le_of_ble_eq_true rfl, Nat.le_of_ble_eq_true rfl⟩ (rest_le (List.forall_mem_cons.mpr ⟨rfl, (List.forall_mem_cons.mpr ⟨rfl, (List.forall_mem_cons.mpr ⟨va_rf_cat _, (fun _ h => absurd h List.not_mem_nil)⟩)⟩)⟩) (Nat.le_of_ble_eq_true rfl)) ⟨Nat.le_of_ble_eq_true rfl, Nat.le_of_ble_eq_true rfl⟩ dX11_tool_24) (fun A17 h15 H locs hw hE hC => ?_)
    have e18 : A8 o = A17 o := ((hE _ (k12 _ rfl)).2).symm
    try rw [e18] at hl
    try rw [e18]
    have e19 : A8 q3 = A17 q3 := ((hE _ (k13 _ rfl)).2).symm
    try rw [e19] at hl
    try rw [e19]
    have e20 : Option.map A8 (hpR h o 0) = Option.map A17 (hpR h o 0) := hE.map k14
    try rw [e20] at hl
    try rw [e20]
    refine W.widen (k := 2) (n := 35) (Nat.le_of_ble_eq_true rfl) (Nat.le_of_ble_eq_true rfl) ?_
    obtain ⟨k21, hw⟩ := hw
    obtain ⟨k22, hw⟩ := hw
    refine sf_3 k22.1 ?_
    refine s_aast (kd := 10) (t0 := 6) (ci := 7) (q := (RX9, TX9, 3)) hx hb hg hC k22.2.1 (by decide) rfl rfl k21 k22.2.2 dX11_tool_27 (fun h23 H locs eh23 hC => ?_)
    replace hw := hw h23 eh23
    refine lv_aload_n hx hb dX11_tool_28 rfl (lo_at hl 0 rfl) ?_
    refine lv_dup hx hb dX11_tool_29 rfl ?_
    obtain ⟨k24, hw⟩ := hw
    refine s_getI hx hb hts hown hg hC fb_9_1 k24 mk_f_RX11_73 dX11_tool_30 ?_
    refine lv_iconst (v := 1) hx hb dX11_tool_33 (by decide) ?_
    refine lv_iadd hx hb dX11_tool_34 ?_
    refine s_putI hx hb hts hown hg hC fb_9_1 k24 rfl rfl mk_f_RX11_73 dX11_tool_35 (fun h25 H locs eh25 hC => ?_)
    replace hw := hw h25 eh25
    refine lv_aload_n hx hb dX11_tool_38 rfl (lo_at hl 0 rfl) ?_
    obtain ⟨k26, hw⟩ := hw
    refine s_getI hx hb hts hown hg hC fb_9_1 k26 mk_f_RX11_73 dX11_tool_39 ?_
    refine lv_iconst (v := 1) hx hb dX11_tool_42 (by decide) ?_
    refine lv_isub hx hb dX11_tool_43 ?_
    exact ret2_ia hM hC hw dX11_tool_44
  ·
    replace hw := (if_neg c2).mp hw
    refine lv_iconst (v := -1) hx hb dX11_tool_9 (by decide) ?_
    refine W.widen (k := 2) (n := 35) (Nat.le_of_ble_eq_true rfl) (Nat.le_of_ble_eq_true rfl) ?_
    exact ret2_ia hM hC hw dX11_tool_10
abbrev rm_X11_edge : Room := { frames := 1, cells := 0, slots := 0, locals := 21 }
set_option maxRecDepth 100000 in
def wp_X11_edge (o : Nat) (x1 : Int32) (x2 : Int32) (x3 : Int32) (h : Hp) (Q : Int32 → Hp → Prop) : Prop := ((hpK h o).1 = 20 + 9) ∧ (wp_X11_toolAt o x1 h (fun (z3 : Option Nat) (h2 : Hp) => (if z3 = none then (Q (0 : Int32) h2) else (wp_X11_isHair x2 h2 (fun (z6 : Int32) (h5 : Hp) => (if z6 = 0 then (Q (0 : Int32) h5) else (wp_X11_isHeight x3 h5 (fun (z9 : Int32) (h8 : Hp) => (if z9 = 0 then (Q (0 : Int32) h8) else (okO h8 z3 7 ∧ (okA h8 (hpR h8 (ad z3) 0) 1 x2 ∧ (∀ h13 : Hp, h13 = stI h8 (ad (hpR h8 (ad z3) 0)) (x2).toNatClampNeg x3 → (Q (1 : Int32) h13)))))))))))))
set_option maxHeartbeats 4000000 in
set_option maxRecDepth 100000 in
theorem c_X11_edge (l : Launch) (G : GG) (base : Nat) (A : Nat → Nat) (o : Nat) (x1 : Int32) (x2 : Int32) (x3 : Int32) (h : Hp) (Q : Int32 → Hp → Prop) (hw : wp_X11_edge o x1 x2 x3 h Q) : Met l yX11_edge (ww yX11_edge cX11_edge 5 (some .boolean)) rm_X11_edge (va_Pc [.ref (A o), .int x1, .int x2, .int x3] (PU2 G base A h A h)) (va_Qi Q (PU2 G base A h A) (fun q => base ≤ q)) 0 0 (fun q => base ≤ q) := by
  refine met2_of (own := RX11) (nm := "edge") (by decide) rfl rfl (List.forall_mem_cons.mpr ⟨rfl, (List.forall_mem_cons.mpr ⟨rfl, (List.forall_mem_cons.mpr ⟨rfl, (List.forall_mem_cons.mpr ⟨rfl, (fun _ h => absurd h List.not_mem_nil)⟩)⟩)⟩)⟩) (Nat.le_of_ble_eq_true rfl) rfl ?_
  intro p e s m args below meth c H locs ls hM hC hl
  obtain ⟨hx, hb, hr, hml, hown, hts, hg, hs, hlk, hnm⟩ := id hM
  unfold wp_X11_edge at hw
  refine lv_aload_n hx hb dX11_edge_0 rfl (lo_at hl 0 rfl) ?_
  refine lv_iload_n hx hb dX11_edge_1 rfl (lo_at hl 1 rfl) ?_
  obtain ⟨k1, hw⟩ := hw
  refine res2_q hC (run2_V (As := [.int x1]) (rest := []) hM hC hl.1.1 kv_RX11_80 (c_X11_toolAt l G base A o x1 h _ hw) (hc_9) k1 rfl rfl rfl ⟨Nat.le_of_ble_eq_true rfl, Nat.le_of_ble_eq_true rfl⟩ (Nat.le_of_ble_eq_true rfl) ⟨Nat.le_of_ble_eq_true rfl, Nat.le_of_ble_eq_true rfl⟩ dX11_edge_2) (fun z3 h2 H locs hw hC => ?_)
  refine lo_astore (r := Option.map A z3) (lv' := [(4, va_rf (Option.map A z3)), (0, .ref (A o)), (1, .int x1), (2, .int x2), (3, .int x3)]) hx hb dX11_edge_5 hl (by decide) rfl (fun ls hl => ?_)
  refine lo_aload (r := Option.map A z3) hx hb dX11_edge_7 (lo_at hl 0 rfl) ?_
  refine s_ifnull (r := z3) (A := A) (tgt := 26) hx hb dX11_edge_9 (by decide) (fun c4 => ?_) (fun c4 => ?_)
  ·
    replace hw := (if_pos c4).mp hw
    refine lv_iconst (v := 0) hx hb dX11_edge_26 (by decide) ?_
    exact ret2_t hM hC rfl hw dX11_edge_27
  ·
    replace hw := (if_neg c4).mp hw
    refine lv_iload_n hx hb dX11_edge_12 rfl (lo_at hl 3 rfl) ?_
    refine res2_i hC (run2_S (As := [.int x2]) (rest := []) hM hC hl.1.1 kv_RX11_84 (c_X11_isHair l G base A x2 h2 _ hw) rfl rfl rfl ⟨Nat.le_of_ble_eq_true rfl, Nat.le_of_ble_eq_true rfl⟩ (Nat.le_of_ble_eq_true rfl) ⟨Nat.le_of_ble_eq_true rfl, Nat.le_of_ble_eq_true rfl⟩ dX11_edge_13) (fun z6 h5 H locs hw hC => ?_)
    refine lv_if_eq (tgt := 26) hx hb dX11_edge_16 (by decide) (fun c7 => ?_) (fun c7 => ?_)
    ·
      replace hw := (if_pos c7).mp hw
      refine lv_iconst (v := 0) hx hb dX11_edge_26 (by decide) ?_
      exact ret2_t hM hC rfl hw dX11_edge_27
    ·
      replace hw := (if_neg c7).mp hw
      refine lv_iload_n hx hb dX11_edge_19 rfl (lo_at hl 4 rfl) ?_
      refine res2_i hC (run2_S (As := [.int x3]) (rest := []) hM hC hl.1.1 kv_RX11_88 (c_X11_isHeight l G base A x3 h5 _ hw) rfl rfl rfl ⟨Nat.le_of_ble_eq_true rfl, Nat.le_of_ble_eq_true rfl⟩ (Nat.le_of_ble_eq_true rfl) ⟨Nat.le_of_ble_eq_true rfl, Nat.le_of_ble_eq_true rfl⟩ dX11_edge_20) (fun z9 h8 H locs hw hC => ?_)
      refine lv_if_ne (tgt := 28) hx hb dX11_edge_23 (by decide) (fun c10 => ?_) (fun c10 => ?_)
      ·
        replace hw := (if_neg c10).mp hw
        refine lo_aload (r := Option.map A z3) hx hb dX11_edge_28 (lo_at hl 0 rfl) ?_
        obtain ⟨k11, hw⟩ := hw
        refine sf_1 k11.1 ?_
        refine s_getR hx hb hts hown hg hC fb_7_0 k11.2 mk_f_RX11_91 dX11_edge_30 ?_
        refine lv_iload_n hx hb dX11_edge_33 rfl (lo_at hl 3 rfl) ?_
        refine lv_iload_n hx hb dX11_edge_34 rfl (lo_at hl 4 rfl) ?_
        obtain ⟨k12, hw⟩ := hw
        refine sf_3 k12.1 ?_
        refine s_iast hx hb hg hC k12.2.1 k12.2.2 dX11_edge_35 (fun h13 H locs eh13 hC => ?_)
        replace hw := hw h13 eh13
        refine lv_iconst (v := 1) hx hb dX11_edge_36 (by decide) ?_
        exact ret2_t hM hC rfl hw dX11_edge_37
      ·
        replace hw := (if_pos c10).mp hw
        refine lv_iconst (v := 0) hx hb dX11_edge_26 (by decide) ?_
        exact ret2_t hM hC rfl hw dX11_edge_27
abbrev rm_X11_rust : Room := { frames := 1, cells := 0, slots := 0, locals := 21 }
set_option maxRecDepth 100000 in
def wp_X11_rust (o : Nat) (x1 : Int32) (x2 : Int32) (h : Hp) (Q : Int32 → Hp → Prop) : Prop := ((hpK h o).1 = 20 + 9) ∧ (wp_X11_barrelAt o x1 h (fun (z3 : Option Nat) (h2 : Hp) => (if z3 = none then (Q (0 : Int32) h2) else ((if x2 < 0 then (Q (0 : Int32) h2) else ((if x2 ≤ (99 : Int32) then (okO h2 z3 1 ∧ (∀ h8 : Hp, h8 = stI h2 (ad z3) 6 x2 → (Q (1 : Int32) h8))) else (Q (0 : Int32) h2))))))))
set_option maxHeartbeats 4000000 in
set_option maxRecDepth 100000 in
theorem c_X11_rust (l : Launch) (G : GG) (base : Nat) (A : Nat → Nat) (o : Nat) (x1 : Int32) (x2 : Int32) (h : Hp) (Q : Int32 → Hp → Prop) (hw : wp_X11_rust o x1 x2 h Q) : Met l yX11_rust (ww yX11_rust cX11_rust 4 (some .boolean)) rm_X11_rust (va_Pc [.ref (A o), .int x1, .int x2] (PU2 G base A h A h)) (va_Qi Q (PU2 G base A h A) (fun q => base ≤ q)) 0 0 (fun q => base ≤ q) := by
  refine met2_of (own := RX11) (nm := "rust") (by decide) rfl rfl (List.forall_mem_cons.mpr ⟨rfl, (List.forall_mem_cons.mpr ⟨rfl, (List.forall_mem_cons.mpr ⟨rfl, (fun _ h => absurd h List.not_mem_nil)⟩)⟩)⟩) (Nat.le_of_ble_eq_true rfl) rfl ?_
  intro p e s m args below meth c H locs ls hM hC hl
  obtain ⟨hx, hb, hr, hml, hown, hts, hg, hs, hlk, hnm⟩ := id hM
  unfold wp_X11_rust at hw
  refine lv_aload_n hx hb dX11_rust_0 rfl (lo_at hl 0 rfl) ?_
  refine lv_iload_n hx hb dX11_rust_1 rfl (lo_at hl 1 rfl) ?_
  obtain ⟨k1, hw⟩ := hw
  refine res2_q hC (run2_V (As := [.int x1]) (rest := []) hM hC hl.1.1 kv_RX11_115 (c_X11_barrelAt l G base A o x1 h _ hw) (hc_9) k1 rfl rfl rfl ⟨Nat.le_of_ble_eq_true rfl, Nat.le_of_ble_eq_true rfl⟩ (Nat.le_of_ble_eq_true rfl) ⟨Nat.le_of_ble_eq_true rfl, Nat.le_of_ble_eq_true rfl⟩ dX11_rust_2) (fun z3 h2 H locs hw hC => ?_)
  refine lo_astore_n (r := Option.map A z3) (lv' := [(3, va_rf (Option.map A z3)), (0, .ref (A o)), (1, .int x1), (2, .int x2)]) hx hb dX11_rust_5 rfl hl (by decide) rfl (fun ls hl => ?_)
  refine lo_aload_n (r := Option.map A z3) hx hb dX11_rust_6 rfl (lo_at hl 0 rfl) ?_
  refine s_ifnull (r := z3) (A := A) (tgt := 20) hx hb dX11_rust_7 (by decide) (fun c4 => ?_) (fun c4 => ?_)
  ·
    replace hw := (if_pos c4).mp hw
    refine lv_iconst (v := 0) hx hb dX11_rust_20 (by decide) ?_
    exact ret2_t hM hC rfl hw dX11_rust_21
  ·
    replace hw := (if_neg c4).mp hw
    refine lv_iload_n hx hb dX11_rust_10 rfl (lo_at hl 3 rfl) ?_
    refine lv_if_lt (tgt := 20) hx hb dX11_rust_11 (by decide) (fun c5 => ?_) (fun c5 => ?_)
    ·
      replace hw := (if_pos c5).mp hw
      refine lv_iconst (v := 0) hx hb dX11_rust_20 (by decide) ?_
      exact ret2_t hM hC rfl hw dX11_rust_21
    ·
      replace hw := (if_neg c5).mp hw
      refine lv_iload_n hx hb dX11_rust_14 rfl (lo_at hl 3 rfl) ?_
      refine lv_bipush (v := 99) hx hb dX11_rust_15 (by decide) ?_
      refine lv_icmp_le (tgt := 22) hx hb dX11_rust_17 (by decide) (fun c6 => ?_) (fun c6 => ?_)
      ·
        replace hw := (if_pos c6).mp hw
        refine lo_aload_n (r := Option.map A z3) hx hb dX11_rust_22 rfl (lo_at hl 0 rfl) ?_
        refine lv_iload_n hx hb dX11_rust_23 rfl (lo_at hl 3 rfl) ?_
        obtain ⟨k7, hw⟩ := hw
        refine sf_2 k7.1 ?_
        refine s_putI hx hb hts hown hg hC fb_1_6 k7.2 rfl rfl mk_f_RX11_119 dX11_rust_24 (fun h8 H locs eh8 hC => ?_)
        replace hw := hw h8 eh8
        refine lv_iconst (v := 1) hx hb dX11_rust_27 (by decide) ?_
        exact ret2_t hM hC rfl hw dX11_rust_28
      ·
        replace hw := (if_neg c6).mp hw
        refine lv_iconst (v := 0) hx hb dX11_rust_20 (by decide) ?_
        exact ret2_t hM hC rfl hw dX11_rust_21
abbrev rm_X11_hair : Room := { frames := 1, cells := 0, slots := 0, locals := 22 }
set_option maxRecDepth 100000 in
def wp_X11_hair_L44 (o : Nat) (x1 : Int32) (K76 : Hp → Prop) (Q : Int32 → Hp → Prop) : Nat → Int32 → Hp → Prop
  | 0, _, _ => False
  | n + 1, x5, h => (if (6 : Int32) ≤ x5 then (K76 h) else (((hpK h o).1 = 20 + 9) ∧ (wp_X11_lookerAt o x5 h (fun (z15 : Option Nat) (h14 : Hp) => (if z15 = none then (∀ v17 : Int32, v17 = x5 + (1 : Int32) → (wp_X11_hair_L44 o x1 K76 Q n v17 h14)) else (okO h14 z15 2 ∧ (wp_X3_forgetBall (ad z15) x1 h14 (fun (h19 : Hp) => ∀ v21 : Int32, v21 = x5 + (1 : Int32) → (wp_X11_hair_L44 o x1 K76 Q n v21 h19)))))))))
set_option maxRecDepth 100000 in
def wp_X11_hair_J33 (o : Nat) (x1 : Int32) (x2 : Int32) (x3 : Int32) (r4 : Option Nat) (Q : Int32 → Hp → Prop) (h : Hp) : Prop := okO h r4 0 ∧ (okA h (hpR h (ad r4) 4) 1 x2 ∧ (∀ h11 : Hp, h11 = stI h (ad (hpR h (ad r4) 4)) (x2).toNatClampNeg x3 → (wp_X11_hair_L44 o x1 (fun (h22 : Hp) => Q (1 : Int32) h22) Q fuel (0 : Int32) h11)))
set_option maxRecDepth 100000 in
def wp_X11_hair (o : Nat) (x1 : Int32) (x2 : Int32) (x3 : Int32) (h : Hp) (Q : Int32 → Hp → Prop) : Prop := ((hpK h o).1 = 20 + 9) ∧ (wp_X11_ballAt o x1 h (fun (z3 : Option Nat) (h2 : Hp) => (if z3 = none then (Q (0 : Int32) h2) else (wp_X11_isHair x2 h2 (fun (z6 : Int32) (h5 : Hp) => (if z6 = 0 then (Q (0 : Int32) h5) else ((if x3 = (-1 : Int32) then (wp_X11_hair_J33 o x1 x2 x3 z3 Q h5) else (wp_X11_isHeight x3 h5 (fun (z24 : Int32) (h23 : Hp) => (if z24 = 0 then (Q (0 : Int32) h23) else (wp_X11_hair_J33 o x1 x2 x3 z3 Q h23))))))))))))
set_option maxHeartbeats 4000000 in
set_option maxRecDepth 100000 in
theorem t_X11_hair_L44 {p : Program} {l : Launch} {e : Env} {s : State} {m : MethodId} {args : Array Value} {below : List Frame} {meth : Method} {c : Code} {G : GG} {base : Nat} {A : Nat → Nat} {g0 : Hp} (hM : Mx G base p s m args meth c cX11_hair 7 (some .boolean) RX11 "hair") (o : Nat) (x1 : Int32) (K76 : Hp → Prop) (Q : Int32 → Hp → Prop) (hK76 : ∀ (h : Hp) (H : Heap) (locs : List Loc) (ls : Array Slot), Cx2 G base A g0 A h s.heap H locs → lo_has ls 7 [] → K76 h → W p l e rm_X11_hair s m args below meth c H locs 0 0 (MQ below (va_Qi Q (PU2 G base A g0 A) (fun q => base ≤ q)) args s 0 0 (fun q => base ≤ q)) (F0 m 76 ls [])) : ∀ (n : Nat) (x5 : Int32) (h : Hp) (H : Heap) (locs : List Loc) (ls : Array Slot), Cx2 G base A g0 A h s.heap H locs → lo_has ls 7 [(0, .ref (A o)), (1, .int x1), (5, .int x5)] → wp_X11_hair_L44 o x1 K76 Q n x5 h → W p l e rm_X11_hair s m args below meth c H locs 0 0 (MQ below (va_Qi Q (PU2 G base A g0 A) (fun q => base ≤ q)) args s 0 0 (fun q => base ≤ q)) (F0 m 44 ls []) := by
  intro n
  induction n with
  | zero =>
    intro x5 h H locs ls hC hl hw
    rw [wp_X11_hair_L44] at hw
    exact hw.elim
  | succ n ih =>
    intro x5 h H locs ls hC hl hw
    rw [wp_X11_hair_L44] at hw
    obtain ⟨hx, hb, hr, hml, hown, hts, hg, hs, hlk, hnm⟩ := id hM
    refine lv_iload hx hb dX11_hair_44 (lo_at hl 2 rfl) ?_
    refine lv_bipush (v := 6) hx hb dX11_hair_46 (by decide) ?_
    refine lv_icmp_ge (tgt := 76) hx hb dX11_hair_48 (by decide) (fun c12 => ?_) (fun c12 => ?_)
    ·
      replace hw := (if_pos c12).mp hw
      exact hK76  h H locs ls hC (lo_sub hl [] rfl) hw
    ·
      replace hw := (if_neg c12).mp hw
      refine lv_aload_n hx hb dX11_hair_51 rfl (lo_at hl 0 rfl) ?_
      refine lv_iload hx hb dX11_hair_52 (lo_at hl 2 rfl) ?_
      obtain ⟨k13, hw⟩ := hw
      refine res2_q hC (run2_V (As := [.int x5]) (rest := []) hM hC hl.1.1 kv_RX11_144 (c_X11_lookerAt l G base A o x5 h _ hw) (hc_9) k13 rfl rfl rfl ⟨Nat.le_of_ble_eq_true rfl, Nat.le_of_ble_eq_true rfl⟩ (Nat.le_of_ble_eq_true rfl) ⟨Nat.le_of_ble_eq_true rfl, Nat.le_of_ble_eq_true rfl⟩ dX11_hair_54) (fun z15 h14 H locs hw hC => ?_)
      refine lo_astore (r := Option.map A z15) (lv' := [(6, va_rf (Option.map A z15)), (0, .ref (A o)), (1, .int x1), (5, .int x5)]) hx hb dX11_hair_57 hl (by decide) rfl (fun ls hl => ?_)
      refine lo_aload (r := Option.map A z15) hx hb dX11_hair_59 (lo_at hl 0 rfl) ?_
      refine s_ifnull (r := z15) (A := A) (tgt := 70) hx hb dX11_hair_61 (by decide) (fun c16 => ?_) (fun c16 => ?_)
      ·
        replace hw := (if_pos c16).mp hw
        obtain ⟨v17, ev17⟩ : ∃ y : Int32, y = x5 + (1 : Int32) := ⟨_, rfl⟩
        replace hw := hw v17 ev17
        refine lo_iinc (v := v17) (lv' := [(5, .int v17), (6, va_rf (Option.map A z15)), (0, .ref (A o)), (1, .int x1)]) hx hb dX11_hair_70 hl (k := 3) rfl (by rw [ev17]; rfl) (by decide) rfl (fun ls hl => ?_)
        refine lv_goto (tgt := 44) hx hb dX11_hair_73 (by decide) ?_
        exact ih v17 h14 H locs ls hC (lo_sub hl [2, 3, 0] rfl) hw
      ·
        replace hw := (if_neg c16).mp hw
        refine lo_aload (r := Option.map A z15) hx hb dX11_hair_64 (lo_at hl 0 rfl) ?_
        refine lv_iload_n hx hb dX11_hair_66 rfl (lo_at hl 2 rfl) ?_
        obtain ⟨k18, hw⟩ := hw
        refine sf_2 k18.1 ?_
        refine res2_v hC (run2_V (As := [.int x1]) (rest := []) hM hC hl.1.1 kv_RX11_148 (c_X3_forgetBall l G base A (ad z15) x1 h14 _ hw) (hc_2) k18.2 rfl rfl rfl ⟨Nat.le_of_ble_eq_true rfl, Nat.le_of_ble_eq_true rfl⟩ (Nat.le_of_ble_eq_true rfl) ⟨Nat.le_of_ble_eq_true rfl, Nat.le_of_ble_eq_true rfl⟩ dX11_hair_67) (fun h19 H locs hw hC => ?_)
        obtain ⟨v21, ev21⟩ : ∃ y : Int32, y = x5 + (1 : Int32) := ⟨_, rfl⟩
        replace hw := hw v21 ev21
        refine lo_iinc (v := v21) (lv' := [(5, .int v21), (6, va_rf (Option.map A z15)), (0, .ref (A o)), (1, .int x1)]) hx hb dX11_hair_70 hl (k := 3) rfl (by rw [ev21]; rfl) (by decide) rfl (fun ls hl => ?_)
        refine lv_goto (tgt := 44) hx hb dX11_hair_73 (by decide) ?_
        exact ih v21 h19 H locs ls hC (lo_sub hl [2, 3, 0] rfl) hw
set_option maxHeartbeats 4000000 in
set_option maxRecDepth 100000 in
theorem t_X11_hair_J33 {p : Program} {l : Launch} {e : Env} {s : State} {m : MethodId} {args : Array Value} {below : List Frame} {meth : Method} {c : Code} {G : GG} {base : Nat} {A : Nat → Nat} {g0 : Hp} (hM : Mx G base p s m args meth c cX11_hair 7 (some .boolean) RX11 "hair") (o : Nat) (x1 : Int32) (x2 : Int32) (x3 : Int32) (r4 : Option Nat) (Q : Int32 → Hp → Prop) (h : Hp) (H : Heap) (locs : List Loc) (ls : Array Slot) : Cx2 G base A g0 A h s.heap H locs → lo_has ls 7 [(0, .ref (A o)), (1, .int x1), (2, .int x2), (3, .int x3), (4, va_rf (Option.map A r4))] → wp_X11_hair_J33 o x1 x2 x3 r4 Q h → W p l e rm_X11_hair s m args below meth c H locs 0 0 (MQ below (va_Qi Q (PU2 G base A g0 A) (fun q => base ≤ q)) args s 0 0 (fun q => base ≤ q)) (F0 m 33 ls []) := by
  intro hC hl hw
  unfold wp_X11_hair_J33 at hw
  obtain ⟨hx, hb, hr, hml, hown, hts, hg, hs, hlk, hnm⟩ := id hM
  refine lo_aload (r := Option.map A r4) hx hb dX11_hair_33 (lo_at hl 4 rfl) ?_
  obtain ⟨k9, hw⟩ := hw
  refine sf_1 k9.1 ?_
  refine s_getR hx hb hts hown hg hC fb_0_4 k9.2 mk_f_RX11_131 dX11_hair_35 ?_
  refine lv_iload_n hx hb dX11_hair_38 rfl (lo_at hl 2 rfl) ?_
  refine lv_iload_n hx hb dX11_hair_39 rfl (lo_at hl 3 rfl) ?_
  obtain ⟨k10, hw⟩ := hw
  refine sf_3 k10.1 ?_
  refine s_iast hx hb hg hC k10.2.1 k10.2.2 dX11_hair_40 (fun h11 H locs eh11 hC => ?_)
  replace hw := hw h11 eh11
  refine lv_iconst (v := 0) hx hb dX11_hair_41 (by decide) ?_
  refine lo_istore (lv' := [(5, .int ((0 : Int32))), (0, .ref (A o)), (1, .int x1), (2, .int x2), (3, .int x3), (4, va_rf (Option.map A r4))]) hx hb dX11_hair_42 hl (by decide) rfl (fun ls hl => ?_)
  refine t_X11_hair_L44 hM o x1 _ Q ?_ fuel (0 : Int32) h11 H locs ls hC (lo_sub hl [1, 2, 0] rfl) hw
  intro  h22 H locs ls hC hl hw
  refine lv_iconst (v := 1) hx hb dX11_hair_76 (by decide) ?_
  exact ret2_t hM hC rfl hw dX11_hair_77
set_option maxHeartbeats 4000000 in
set_option maxRecDepth 100000 in
theorem c_X11_hair (l : Launch) (G : GG) (base : Nat) (A : Nat → Nat) (o : Nat) (x1 : Int32) (x2 : Int32) (x3 : Int32) (h : Hp) (Q : Int32 → Hp → Prop) (hw : wp_X11_hair o x1 x2 x3 h Q) : Met l yX11_hair (ww yX11_hair cX11_hair 7 (some .boolean)) rm_X11_hair (va_Pc [.ref (A o), .int x1, .int x2, .int x3] (PU2 G base A h A h)) (va_Qi Q (PU2 G base A h A) (fun q => base ≤ q)) 0 0 (fun q => base ≤ q) := by
  refine met2_of (own := RX11) (nm := "hair") (by decide) rfl rfl (List.forall_mem_cons.mpr ⟨rfl, (List.forall_mem_cons.mpr ⟨rfl, (List.forall_mem_cons.mpr ⟨rfl, (List.forall_mem_cons.mpr ⟨rfl, (fun _ h => absurd h List.not_mem_nil)⟩)⟩)⟩)⟩) (Nat.le_of_ble_eq_true rfl) rfl ?_
  intro p e s m args below meth c H locs ls hM hC hl
  obtain ⟨hx, hb, hr, hml, hown, hts, hg, hs, hlk, hnm⟩ := id hM
  unfold wp_X11_hair at hw
  refine lv_aload_n hx hb dX11_hair_0 rfl (lo_at hl 0 rfl) ?_
  refine lv_iload_n hx hb dX11_hair_1 rfl (lo_at hl 1 rfl) ?_
  obtain ⟨k1, hw⟩ := hw
  refine res2_q hC (run2_V (As := [.int x1]) (rest := []) hM hC hl.1.1 kv_RX11_140 (c_X11_ballAt l G base A o x1 h _ hw) (hc_9) k1 rfl rfl rfl ⟨Nat.le_of_ble_eq_true rfl, Nat.le_of_ble_eq_true rfl⟩ (Nat.le_of_ble_eq_true rfl) ⟨Nat.le_of_ble_eq_true rfl, Nat.le_of_ble_eq_true rfl⟩ dX11_hair_2) (fun z3 h2 H locs hw hC => ?_)
  refine lo_astore (r := Option.map A z3) (lv' := [(4, va_rf (Option.map A z3)), (0, .ref (A o)), (1, .int x1), (2, .int x2), (3, .int x3)]) hx hb dX11_hair_5 hl (by decide) rfl (fun ls hl => ?_)
  refine lo_aload (r := Option.map A z3) hx hb dX11_hair_7 (lo_at hl 0 rfl) ?_
  refine s_ifnull (r := z3) (A := A) (tgt := 31) hx hb dX11_hair_9 (by decide) (fun c4 => ?_) (fun c4 => ?_)
  ·
    replace hw := (if_pos c4).mp hw
    refine lv_iconst (v := 0) hx hb dX11_hair_31 (by decide) ?_
    exact ret2_t hM hC rfl hw dX11_hair_32
  ·
    replace hw := (if_neg c4).mp hw
    refine lv_iload_n hx hb dX11_hair_12 rfl (lo_at hl 3 rfl) ?_
    refine res2_i hC (run2_S (As := [.int x2]) (rest := []) hM hC hl.1.1 kv_RX11_84 (c_X11_isHair l G base A x2 h2 _ hw) rfl rfl rfl ⟨Nat.le_of_ble_eq_true rfl, Nat.le_of_ble_eq_true rfl⟩ (Nat.le_of_ble_eq_true rfl) ⟨Nat.le_of_ble_eq_true rfl, Nat.le_of_ble_eq_true rfl⟩ dX11_hair_13) (fun z6 h5 H locs hw hC => ?_)
    refine lv_if_eq (tgt := 31) hx hb dX11_hair_16 (by decide) (fun c7 => ?_) (fun c7 => ?_)
    ·
      replace hw := (if_pos c7).mp hw
      refine lv_iconst (v := 0) hx hb dX11_hair_31 (by decide) ?_
      exact ret2_t hM hC rfl hw dX11_hair_32
    ·
      replace hw := (if_neg c7).mp hw
      refine lv_iload_n hx hb dX11_hair_19 rfl (lo_at hl 4 rfl) ?_
      refine lv_iconst (v := -1) hx hb dX11_hair_20 (by decide) ?_
      refine lv_icmp_eq (tgt := 33) hx hb dX11_hair_21 (by decide) (fun c8 => ?_) (fun c8 => ?_)
      ·
        replace hw := (if_pos c8).mp hw
        exact t_X11_hair_J33 hM o x1 x2 x3 z3 Q  h5 H locs ls hC (lo_sub hl [1, 2, 3, 4, 0] rfl) hw
      ·
        replace hw := (if_neg c8).mp hw
        refine lv_iload_n hx hb dX11_hair_24 rfl (lo_at hl 4 rfl) ?_
        refine res2_i hC (run2_S (As := [.int x3]) (rest := []) hM hC hl.1.1 kv_RX11_88 (c_X11_isHeight l G base A x3 h5 _ hw) rfl rfl rfl ⟨Nat.le_of_ble_eq_true rfl, Nat.le_of_ble_eq_true rfl⟩ (Nat.le_of_ble_eq_true rfl) ⟨Nat.le_of_ble_eq_true rfl, Nat.le_of_ble_eq_true rfl⟩ dX11_hair_25) (fun z24 h23 H locs hw hC => ?_)
        refine lv_if_ne (tgt := 33) hx hb dX11_hair_28 (by decide) (fun c25 => ?_) (fun c25 => ?_)
        ·
          replace hw := (if_neg c25).mp hw
          exact t_X11_hair_J33 hM o x1 x2 x3 z3 Q  h23 H locs ls hC (lo_sub hl [1, 2, 3, 4, 0] rfl) hw
        ·
          replace hw := (if_pos c25).mp hw
          refine lv_iconst (v := 0) hx hb dX11_hair_31 (by decide) ?_
          exact ret2_t hM hC rfl hw dX11_hair_32
abbrev rm_X11_at : Room := { frames := 2, cells := 0, slots := 0, locals := 44 }
set_option maxRecDepth 100000 in
def wp_X11_at (o : Nat) (x1 : Int32) (x2 : Int32) (x3 : Int32) (h : Hp) (Q : Int32 → Hp → Prop) : Prop := ((hpK h o).1 = 20 + 9) ∧ (wp_X11_rowOf o x1 x2 h (fun (z3 : Option Nat) (h2 : Hp) => (if z3 = none then (Q (-2 : Int32) h2) else (wp_X11_isHair x3 h2 (fun (z6 : Int32) (h5 : Hp) => (if z6 = 0 then (Q (-2 : Int32) h5) else (okA h5 z3 1 x3 ∧ (∀ v9 : Int32, v9 = hpI h5 (ad z3) (x3).toNatClampNeg → (Q v9 h5)))))))))
set_option maxHeartbeats 4000000 in
set_option maxRecDepth 100000 in
theorem c_X11_at (l : Launch) (G : GG) (base : Nat) (A : Nat → Nat) (o : Nat) (x1 : Int32) (x2 : Int32) (x3 : Int32) (h : Hp) (Q : Int32 → Hp → Prop) (hw : wp_X11_at o x1 x2 x3 h Q) : Met l yX11_at (ww yX11_at cX11_at 5 (some .int)) rm_X11_at (va_Pc [.ref (A o), .int x1, .int x2, .int x3] (PU2 G base A h A h)) (va_Qi Q (PU2 G base A h A) (fun q => base ≤ q)) 0 0 (fun q => base ≤ q) := by
  refine met2_of (own := RX11) (nm := "at") (by decide) rfl rfl (List.forall_mem_cons.mpr ⟨rfl, (List.forall_mem_cons.mpr ⟨rfl, (List.forall_mem_cons.mpr ⟨rfl, (List.forall_mem_cons.mpr ⟨rfl, (fun _ h => absurd h List.not_mem_nil)⟩)⟩)⟩)⟩) (Nat.le_of_ble_eq_true rfl) rfl ?_
  intro p e s m args below meth c H locs ls hM hC hl
  obtain ⟨hx, hb, hr, hml, hown, hts, hg, hs, hlk, hnm⟩ := id hM
  unfold wp_X11_at at hw
  refine lv_aload_n hx hb dX11_at_0 rfl (lo_at hl 0 rfl) ?_
  refine lv_iload_n hx hb dX11_at_1 rfl (lo_at hl 1 rfl) ?_
  refine lv_iload_n hx hb dX11_at_2 rfl (lo_at hl 2 rfl) ?_
  obtain ⟨k1, hw⟩ := hw
  refine res2_q hC (run2_V (As := [.int x1, .int x2]) (rest := []) hM hC hl.1.1 kv_RX11_151 (c_X11_rowOf l G base A o x1 x2 h _ hw) (hc_9) k1 rfl rfl rfl ⟨Nat.le_of_ble_eq_true rfl, Nat.le_of_ble_eq_true rfl⟩ (Nat.le_of_ble_eq_true rfl) ⟨Nat.le_of_ble_eq_true rfl, Nat.le_of_ble_eq_true rfl⟩ dX11_at_3) (fun z3 h2 H locs hw hC => ?_)
  refine lo_astore (r := Option.map A z3) (lv' := [(4, va_rf (Option.map A z3)), (0, .ref (A o)), (1, .int x1), (2, .int x2), (3, .int x3)]) hx hb dX11_at_6 hl (by decide) rfl (fun ls hl => ?_)
  refine lo_aload (r := Option.map A z3) hx hb dX11_at_8 (lo_at hl 0 rfl) ?_
  refine s_ifnull (r := z3) (A := A) (tgt := 20) hx hb dX11_at_10 (by decide) (fun c4 => ?_) (fun c4 => ?_)
  ·
    replace hw := (if_pos c4).mp hw
    refine lv_bipush (v := -2) hx hb dX11_at_20 (by decide) ?_
    refine lv_goto (tgt := 29) hx hb dX11_at_22 (by decide) ?_
    exact ret2_i hM hC hw dX11_at_29
  ·
    replace hw := (if_neg c4).mp hw
    refine lv_iload_n hx hb dX11_at_13 rfl (lo_at hl 4 rfl) ?_
    refine res2_i hC (run2_S (As := [.int x3]) (rest := []) hM hC hl.1.1 kv_RX11_84 (c_X11_isHair l G base A x3 h2 _ hw) rfl rfl rfl ⟨Nat.le_of_ble_eq_true rfl, Nat.le_of_ble_eq_true rfl⟩ (Nat.le_of_ble_eq_true rfl) ⟨Nat.le_of_ble_eq_true rfl, Nat.le_of_ble_eq_true rfl⟩ dX11_at_14) (fun z6 h5 H locs hw hC => ?_)
    refine lv_if_ne (tgt := 25) hx hb dX11_at_17 (by decide) (fun c7 => ?_) (fun c7 => ?_)
    ·
      replace hw := (if_neg c7).mp hw
      refine lo_aload (r := Option.map A z3) hx hb dX11_at_25 (lo_at hl 0 rfl) ?_
      refine lv_iload_n hx hb dX11_at_27 rfl (lo_at hl 4 rfl) ?_
      obtain ⟨k8, hw⟩ := hw
      refine sf_2 k8.1 ?_
      refine s_iald hx hb hg hC k8.2.1 k8.2.2 dX11_at_28 ?_
      refine lv_topi (fun v9 ev9 => ?_)
      replace hw := hw v9 ev9
      exact ret2_i hM hC hw dX11_at_29
    ·
      replace hw := (if_pos c7).mp hw
      refine lv_bipush (v := -2) hx hb dX11_at_20 (by decide) ?_
      refine lv_goto (tgt := 29) hx hb dX11_at_22 (by decide) ?_
      exact ret2_i hM hC hw dX11_at_29
abbrev rm_X11_of : Room := { frames := 2, cells := 0, slots := 0, locals := 43 }
set_option maxRecDepth 100000 in
def wp_X11_of (o : Nat) (x1 : Int32) (x2 : Int32) (h : Hp) (Q : Int32 → Hp → Prop) : Prop := (if (10 : Int32) ≤ x2 then (((hpK h o).1 = 20 + 9) ∧ (wp_X11_barrelAt o x1 h (fun (z4 : Option Nat) (h3 : Hp) => wp_X11_ofBarrel z4 x2 h3 (fun (z6 : Int32) (h5 : Hp) => Q z6 h5)))) else (((hpK h o).1 = 20 + 9) ∧ (wp_X11_ballAt o x1 h (fun (z9 : Option Nat) (h8 : Hp) => wp_X11_ofBall z9 x2 h8 (fun (z11 : Int32) (h10 : Hp) => Q z11 h10)))))
set_option maxHeartbeats 4000000 in
set_option maxRecDepth 100000 in
theorem c_X11_of (l : Launch) (G : GG) (base : Nat) (A : Nat → Nat) (o : Nat) (x1 : Int32) (x2 : Int32) (h : Hp) (Q : Int32 → Hp → Prop) (hw : wp_X11_of o x1 x2 h Q) : Met l yX11_of (ww yX11_of cX11_of 3 (some .int)) rm_X11_of (va_Pc [.ref (A o), .int x1, .int x2] (PU2 G base A h A h)) (va_Qi Q (PU2 G base A h A) (fun q => base ≤ q)) 0 0 (fun q => base ≤ q) := by
  refine met2_of (own := RX11) (nm := "of") (by decide) rfl rfl (List.forall_mem_cons.mpr ⟨rfl, (List.forall_mem_cons.mpr ⟨rfl, (List.forall_mem_cons.mpr ⟨rfl, (fun _ h => absurd h List.not_mem_nil)⟩)⟩)⟩) (Nat.le_of_ble_eq_true rfl) rfl ?_
  intro p e s m args below meth c H locs ls hM hC hl
  obtain ⟨hx, hb, hr, hml, hown, hts, hg, hs, hlk, hnm⟩ := id hM
  unfold wp_X11_of at hw
  refine lv_iload_n hx hb dX11_of_0 rfl (lo_at hl 2 rfl) ?_
  refine lv_bipush (v := 10) hx hb dX11_of_1 (by decide) ?_
  refine lv_icmp_ge (tgt := 18) hx hb dX11_of_3 (by decide) (fun c1 => ?_) (fun c1 => ?_)
  ·
    replace hw := (if_pos c1).mp hw
    refine lv_aload_n hx hb dX11_of_18 rfl (lo_at hl 0 rfl) ?_
    refine lv_iload_n hx hb dX11_of_19 rfl (lo_at hl 1 rfl) ?_
    obtain ⟨k2, hw⟩ := hw
    refine res2_q hC (run2_V (As := [.int x1]) (rest := []) hM hC hl.1.1 kv_RX11_115 (c_X11_barrelAt l G base A o x1 h _ hw) (hc_9) k2 rfl rfl rfl ⟨Nat.le_of_ble_eq_true rfl, Nat.le_of_ble_eq_true rfl⟩ (Nat.le_of_ble_eq_true rfl) ⟨Nat.le_of_ble_eq_true rfl, Nat.le_of_ble_eq_true rfl⟩ dX11_of_20) (fun z4 h3 H locs hw hC => ?_)
    refine lv_iload_n hx hb dX11_of_23 rfl (lo_at hl 2 rfl) ?_
    refine res2_i hC (run2_S (As := [va_rf (Option.map A z4), .int x2]) (rest := []) hM hC hl.1.1 kv_RX11_159 (c_X11_ofBarrel l G base A z4 x2 h3 _ hw) rfl rfl rfl ⟨Nat.le_of_ble_eq_true rfl, Nat.le_of_ble_eq_true rfl⟩ (Nat.le_of_ble_eq_true rfl) ⟨Nat.le_of_ble_eq_true rfl, Nat.le_of_ble_eq_true rfl⟩ dX11_of_24) (fun z6 h5 H locs hw hC => ?_)
    exact ret2_i hM hC hw dX11_of_27
  ·
    replace hw := (if_neg c1).mp hw
    refine lv_aload_n hx hb dX11_of_6 rfl (lo_at hl 0 rfl) ?_
    refine lv_iload_n hx hb dX11_of_7 rfl (lo_at hl 1 rfl) ?_
    obtain ⟨k7, hw⟩ := hw
    refine res2_q hC (run2_V (As := [.int x1]) (rest := []) hM hC hl.1.1 kv_RX11_140 (c_X11_ballAt l G base A o x1 h _ hw) (hc_9) k7 rfl rfl rfl ⟨Nat.le_of_ble_eq_true rfl, Nat.le_of_ble_eq_true rfl⟩ (Nat.le_of_ble_eq_true rfl) ⟨Nat.le_of_ble_eq_true rfl, Nat.le_of_ble_eq_true rfl⟩ dX11_of_8) (fun z9 h8 H locs hw hC => ?_)
    refine lv_iload_n hx hb dX11_of_11 rfl (lo_at hl 2 rfl) ?_
    refine res2_i hC (run2_S (As := [va_rf (Option.map A z9), .int x2]) (rest := []) hM hC hl.1.1 kv_RX11_155 (c_X11_ofBall l G base A z9 x2 h8 _ hw) rfl rfl rfl ⟨Nat.le_of_ble_eq_true rfl, Nat.le_of_ble_eq_true rfl⟩ (Nat.le_of_ble_eq_true rfl) ⟨Nat.le_of_ble_eq_true rfl, Nat.le_of_ble_eq_true rfl⟩ dX11_of_12) (fun z11 h10 H locs hw hC => ?_)
    refine lv_goto (tgt := 27) hx hb dX11_of_15 (by decide) ?_
    exact ret2_i hM hC hw dX11_of_27
abbrev rm_X11_looker : Room := { frames := 3, cells := 9, slots := 2308, locals := 61 }
set_option maxRecDepth 100000 in
def wp_X11_looker (o : Nat) (x1 : Int32) (h : Hp) (Q : Int32 → Hp → Prop) : Prop := (if x1 < 0 then (Q (-1 : Int32) h) else ((if (15 : Int32) < x1 then (Q (-1 : Int32) h) else (((hpK h o).1 = 20 + 9) ∧ ((if (hpI h o 8) < (6 : Int32) then (okP h (some o) ∧ (okP h (hpR h o 7) ∧ (∃ q5 : Nat, (hpK h q5).1 = 0 ∧ (∀ h6 : Hp, h6 = alc h q5 (20 + 2) 0 → (((hpK h6 q5).1 = 20 + 2) ∧ (okP h6 (some o) ∧ (okP h6 (some q5) ∧ (okP h6 (hpR h o 7) ∧ (wp_X3_init q5 x1 h6 (fun (h17 : Hp) => ((hpK h17 q5).1 = 20 + 2) ∧ (okA h17 (hpR h o 7) 5 (hpI h o 8) ∧ (∀ h25 : Hp, h25 = stR h17 (ad (hpR h o 7)) (hpI h o 8).toNatClampNeg (some q5) → (((hpK h25 o).1 = 20 + 9) ∧ (∀ h27 : Hp, h27 = stI h25 o 8 ((hpI h25 o 8) + (1 : Int32)) → (((hpK h27 o).1 = 20 + 9) ∧ (Q ((hpI h27 o 8) - (1 : Int32)) h27)))))))))))))))) else (Q (-1 : Int32) h)))))))
set_option maxHeartbeats 4000000 in
set_option maxRecDepth 100000 in
theorem c_X11_looker (l : Launch) (G : GG) (base : Nat) (A : Nat → Nat) (o : Nat) (x1 : Int32) (h : Hp) (Q : Int32 → Hp → Prop) (hw : wp_X11_looker o x1 h Q) : Met l yX11_looker (ww yX11_looker cX11_looker 2 (some .int)) rm_X11_looker (va_Pc [.ref (A o), .int x1] (PU2 G base A h A h)) (va_Qi (fun r (u : (Nat → Nat) × Hp) => Q r u.2) (fun u t => PU2 G base A h u.1 u.2 t) (fun q => base ≤ q)) 9 2308 (fun q => base ≤ q) := by
  refine met2_of (own := RX11) (nm := "looker") (by decide) rfl rfl (List.forall_mem_cons.mpr ⟨rfl, (List.forall_mem_cons.mpr ⟨rfl, (fun _ h => absurd h List.not_mem_nil)⟩)⟩) (Nat.le_of_ble_eq_true rfl) rfl ?_
  intro p e s m args below meth c H locs ls hM hC hl
  obtain ⟨hx, hb, hr, hml, hown, hts, hg, hs, hlk, hnm⟩ := id hM
  unfold wp_X11_looker at hw
  refine lv_iload_n hx hb dX11_looker_0 rfl (lo_at hl 1 rfl) ?_
  refine lv_if_lt (tgt := 19) hx hb dX11_looker_1 (by decide) (fun c1 => ?_) (fun c1 => ?_)
  ·
    replace hw := (if_pos c1).mp hw
    refine lv_iconst (v := -1) hx hb dX11_looker_19 (by decide) ?_
    refine W.widen (k := 9) (n := 2308) (Nat.le_of_ble_eq_true rfl) (Nat.le_of_ble_eq_true rfl) ?_
    exact ret2_ia hM hC hw dX11_looker_20
  ·
    replace hw := (if_neg c1).mp hw
    refine lv_iload_n hx hb dX11_looker_4 rfl (lo_at hl 1 rfl) ?_
    refine lv_bipush (v := 15) hx hb dX11_looker_5 (by decide) ?_
    refine lv_icmp_gt (tgt := 19) hx hb dX11_looker_7 (by decide) (fun c2 => ?_) (fun c2 => ?_)
    ·
      replace hw := (if_pos c2).mp hw
      refine lv_iconst (v := -1) hx hb dX11_looker_19 (by decide) ?_
      refine W.widen (k := 9) (n := 2308) (Nat.le_of_ble_eq_true rfl) (Nat.le_of_ble_eq_true rfl) ?_
      exact ret2_ia hM hC hw dX11_looker_20
    ·
      replace hw := (if_neg c2).mp hw
      refine lv_aload_n hx hb dX11_looker_10 rfl (lo_at hl 0 rfl) ?_
      obtain ⟨k3, hw⟩ := hw
      refine s_getI hx hb hts hown hg hC fb_9_8 k3 mk_f_RX11_195 dX11_looker_11 ?_
      refine lv_bipush (v := 6) hx hb dX11_looker_14 (by decide) ?_
      refine lv_icmp_lt (tgt := 21) hx hb dX11_looker_16 (by decide) (fun c4 => ?_) (fun c4 => ?_)
      ·
        replace hw := (if_pos c4).mp hw
        refine lv_aload_n hx hb dX11_looker_21 rfl (lo_at hl 0 rfl) ?_
        refine s_getR hx hb hts hown hg hC fb_9_7 k3 mk_f_RX11_29 dX11_looker_22 ?_
        refine lv_aload_n hx hb dX11_looker_25 rfl (lo_at hl 0 rfl) ?_
        refine s_getI hx hb hts hown hg hC fb_9_8 k3 mk_f_RX11_195 dX11_looker_26 ?_
        obtain ⟨k8, hw⟩ := hw
        obtain ⟨k9, hw⟩ := hw
        obtain ⟨q5, k7, hw⟩ := hw
        refine s_new hx hb hts hown hg hC cb_2 df_2 mk_c_RX11_27 mk_ins_OneBarrel_Looker mk_ini_OneBarrel_Looker q5 k7 (Nat.le_of_ble_eq_true rfl) (Nat.le_of_ble_eq_true rfl) dX11_looker_29 (fun A10 h6 H eh6 hE hC => ?_)
        replace hw := hw h6 eh6
        have e11 : A o = A10 o := ((hE _ (k8 _ rfl)).2).symm
        try rw [e11] at hl
        try rw [e11]
        have e12 : Option.map A (hpR h o 7) = Option.map A10 (hpR h o 7) := hE.map k9
        try rw [e12] at hl
        try rw [e12]
        refine W.widen (k := 1) (n := 3) (Nat.le_of_ble_eq_true rfl) (Nat.le_of_ble_eq_true rfl) ?_
        refine lv_dup hx hb dX11_looker_32 rfl ?_
        refine lv_iload_n hx hb dX11_looker_33 rfl (lo_at hl 1 rfl) ?_
        obtain ⟨k13, hw⟩ := hw
        obtain ⟨k14, hw⟩ := hw
        obtain ⟨k15, hw⟩ := hw
        obtain ⟨k16, hw⟩ := hw
        refine res2_va hC (run2_I (As := [.int x1]) (rest := [.ref (A10 q5), .int (hpI h o 8), va_rf (Option.map A10 (hpR h o 7))]) hM hC hl.1.1 kv_RX11_198 (c_X3_init l G base A10 q5 x1 h6 _ hw) rfl rfl rfl ⟨Nat.le_of_ble_eq_true rfl, Nat.le_of_ble_eq_true rfl⟩ (rest_le (List.forall_mem_cons.mpr ⟨rfl, (List.forall_mem_cons.mpr ⟨rfl, (List.forall_mem_cons.mpr ⟨va_rf_cat _, (fun _ h => absurd h List.not_mem_nil)⟩)⟩)⟩) (Nat.le_of_ble_eq_true rfl)) ⟨Nat.le_of_ble_eq_true rfl, Nat.le_of_ble_eq_true rfl⟩ dX11_looker_34) (fun A19 h17 H locs hw hE hC => ?_)
        have e20 : A10 o = A19 o := ((hE _ (k14 _ rfl)).2).symm
        try rw [e20] at hl
        try rw [e20]
        have e21 : A10 q5 = A19 q5 := ((hE _ (k15 _ rfl)).2).symm
        try rw [e21] at hl
        try rw [e21]
        have e22 : Option.map A10 (hpR h o 7) = Option.map A19 (hpR h o 7) := hE.map k16
        try rw [e22] at hl
        try rw [e22]
        refine W.widen (k := 9) (n := 2308) (Nat.le_of_ble_eq_true rfl) (Nat.le_of_ble_eq_true rfl) ?_
        obtain ⟨k23, hw⟩ := hw
        obtain ⟨k24, hw⟩ := hw
        refine sf_3 k24.1 ?_
        refine s_aast (kd := 5) (t0 := 4) (ci := 2) (q := (RX3, TX3, 3)) hx hb hg hC k24.2.1 (by decide) rfl rfl k23 k24.2.2 dX11_looker_37 (fun h25 H locs eh25 hC => ?_)
        replace hw := hw h25 eh25
        refine lv_aload_n hx hb dX11_looker_38 rfl (lo_at hl 0 rfl) ?_
        refine lv_dup hx hb dX11_looker_39 rfl ?_
        obtain ⟨k26, hw⟩ := hw
        refine s_getI hx hb hts hown hg hC fb_9_8 k26 mk_f_RX11_195 dX11_looker_40 ?_
        refine lv_iconst (v := 1) hx hb dX11_looker_43 (by decide) ?_
        refine lv_iadd hx hb dX11_looker_44 ?_
        refine s_putI hx hb hts hown hg hC fb_9_8 k26 rfl rfl mk_f_RX11_195 dX11_looker_45 (fun h27 H locs eh27 hC => ?_)
        replace hw := hw h27 eh27
        refine lv_aload_n hx hb dX11_looker_48 rfl (lo_at hl 0 rfl) ?_
        obtain ⟨k28, hw⟩ := hw
        refine s_getI hx hb hts hown hg hC fb_9_8 k28 mk_f_RX11_195 dX11_looker_49 ?_
        refine lv_iconst (v := 1) hx hb dX11_looker_52 (by decide) ?_
        refine lv_isub hx hb dX11_looker_53 ?_
        exact ret2_ia hM hC hw dX11_looker_54
      ·
        replace hw := (if_neg c4).mp hw
        refine lv_iconst (v := -1) hx hb dX11_looker_19 (by decide) ?_
        refine W.widen (k := 9) (n := 2308) (Nat.le_of_ble_eq_true rfl) (Nat.le_of_ble_eq_true rfl) ?_
        exact ret2_ia hM hC hw dX11_looker_20
abbrev rm_X11_truth : Room := { frames := 1, cells := 0, slots := 0, locals := 21 }
set_option maxRecDepth 100000 in
def wp_X11_truth (o : Nat) (x1 : Int32) (x2 : Int32) (h : Hp) (Q : Int32 → Hp → Prop) : Prop := ((hpK h o).1 = 20 + 9) ∧ (wp_X11_ballAt o x1 h (fun (z3 : Option Nat) (h2 : Hp) => ((hpK h2 o).1 = 20 + 9) ∧ (wp_X11_ballAt o x2 h2 (fun (z6 : Option Nat) (h5 : Hp) => wp_X11_truthOf z3 z6 h5 (fun (z8 : Int32) (h7 : Hp) => Q z8 h7)))))
set_option maxHeartbeats 4000000 in
set_option maxRecDepth 100000 in
theorem c_X11_truth (l : Launch) (G : GG) (base : Nat) (A : Nat → Nat) (o : Nat) (x1 : Int32) (x2 : Int32) (h : Hp) (Q : Int32 → Hp → Prop) (hw : wp_X11_truth o x1 x2 h Q) : Met l yX11_truth (ww yX11_truth cX11_truth 3 (some .int)) rm_X11_truth (va_Pc [.ref (A o), .int x1, .int x2] (PU2 G base A h A h)) (va_Qi Q (PU2 G base A h A) (fun q => base ≤ q)) 0 0 (fun q => base ≤ q) := by
  refine met2_of (own := RX11) (nm := "truth") (by decide) rfl rfl (List.forall_mem_cons.mpr ⟨rfl, (List.forall_mem_cons.mpr ⟨rfl, (List.forall_mem_cons.mpr ⟨rfl, (fun _ h => absurd h List.not_mem_nil)⟩)⟩)⟩) (Nat.le_of_ble_eq_true rfl) rfl ?_
  intro p e s m args below meth c H locs ls hM hC hl
  obtain ⟨hx, hb, hr, hml, hown, hts, hg, hs, hlk, hnm⟩ := id hM
  unfold wp_X11_truth at hw
  refine lv_aload_n hx hb dX11_truth_0 rfl (lo_at hl 0 rfl) ?_
  refine lv_iload_n hx hb dX11_truth_1 rfl (lo_at hl 1 rfl) ?_
  obtain ⟨k1, hw⟩ := hw
  refine res2_q hC (run2_V (As := [.int x1]) (rest := []) hM hC hl.1.1 kv_RX11_140 (c_X11_ballAt l G base A o x1 h _ hw) (hc_9) k1 rfl rfl rfl ⟨Nat.le_of_ble_eq_true rfl, Nat.le_of_ble_eq_true rfl⟩ (Nat.le_of_ble_eq_true rfl) ⟨Nat.le_of_ble_eq_true rfl, Nat.le_of_ble_eq_true rfl⟩ dX11_truth_2) (fun z3 h2 H locs hw hC => ?_)
  refine lv_aload_n hx hb dX11_truth_5 rfl (lo_at hl 0 rfl) ?_
  refine lv_iload_n hx hb dX11_truth_6 rfl (lo_at hl 2 rfl) ?_
  obtain ⟨k4, hw⟩ := hw
  refine res2_q hC (run2_V (As := [.int x2]) (rest := [va_rf (Option.map A z3)]) hM hC hl.1.1 kv_RX11_140 (c_X11_ballAt l G base A o x2 h2 _ hw) (hc_9) k4 rfl rfl rfl ⟨Nat.le_of_ble_eq_true rfl, Nat.le_of_ble_eq_true rfl⟩ (rest_le (List.forall_mem_cons.mpr ⟨va_rf_cat _, (fun _ h => absurd h List.not_mem_nil)⟩) (Nat.le_of_ble_eq_true rfl)) ⟨Nat.le_of_ble_eq_true rfl, Nat.le_of_ble_eq_true rfl⟩ dX11_truth_7) (fun z6 h5 H locs hw hC => ?_)
  refine res2_i hC (run2_S (As := [va_rf (Option.map A z3), va_rf (Option.map A z6)]) (rest := []) hM hC hl.1.1 kv_RX11_241 (c_X11_truthOf l G base A z3 z6 h5 _ hw) rfl rfl rfl ⟨Nat.le_of_ble_eq_true rfl, Nat.le_of_ble_eq_true rfl⟩ (Nat.le_of_ble_eq_true rfl) ⟨Nat.le_of_ble_eq_true rfl, Nat.le_of_ble_eq_true rfl⟩ dX11_truth_10) (fun z8 h7 H locs hw hC => ?_)
  exact ret2_i hM hC hw dX11_truth_13
abbrev rm_X11_pair : Room := { frames := 2, cells := 1, slots := 3, locals := 43 }
set_option maxRecDepth 100000 in
def wp_X11_pair (o : Nat) (x1 : Int32) (x2 : Int32) (x3 : Int32) (h : Hp) (Q : Int32 → Hp → Prop) : Prop := ((hpK h o).1 = 20 + 9) ∧ (wp_X11_ballAt o x1 h (fun (z3 : Option Nat) (h2 : Hp) => ((hpK h2 o).1 = 20 + 9) ∧ (wp_X11_ballAt o x2 h2 (fun (z6 : Option Nat) (h5 : Hp) => (if z3 = none then (Q (-1 : Int32) h5) else ((if z6 = none then (Q (-1 : Int32) h5) else ((if x1 = x2 then (Q (-1 : Int32) h5) else ((if x3 < (1 : Int32) then (Q (-1 : Int32) h5) else ((if (99 : Int32) < x3 then (Q (-1 : Int32) h5) else (((hpK h5 o).1 = 20 + 9) ∧ ((if (hpI h5 o 10) < (10 : Int32) then (okP h5 z6 ∧ (okP h5 z3 ∧ (okP h5 (some o) ∧ (okP h5 (hpR h5 o 9) ∧ (∃ q14 : Nat, (hpK h5 q14).1 = 0 ∧ (∀ h15 : Hp, h15 = alc h5 q14 (20 + 3) 0 → (((hpK h15 q14).1 = 20 + 3) ∧ (wp_X4_init q14 z3 z6 x3 h15 (fun (h27 : Hp) => ((hpK h27 q14).1 = 20 + 3) ∧ (okA h27 (hpR h5 o 9) 6 (hpI h5 o 10) ∧ (∀ h31 : Hp, h31 = stR h27 (ad (hpR h5 o 9)) (hpI h5 o 10).toNatClampNeg (some q14) → (((hpK h31 o).1 = 20 + 9) ∧ (∀ h33 : Hp, h33 = stI h31 o 10 ((hpI h31 o 10) + (1 : Int32)) → (((hpK h33 o).1 = 20 + 9) ∧ (Q ((hpI h33 o 10) - (1 : Int32)) h33))))))))))))))) else (Q (-1 : Int32) h5)))))))))))))))))
set_option maxHeartbeats 4000000 in
set_option maxRecDepth 100000 in
theorem c_X11_pair (l : Launch) (G : GG) (base : Nat) (A : Nat → Nat) (o : Nat) (x1 : Int32) (x2 : Int32) (x3 : Int32) (h : Hp) (Q : Int32 → Hp → Prop) (hw : wp_X11_pair o x1 x2 x3 h Q) : Met l yX11_pair (ww yX11_pair cX11_pair 6 (some .int)) rm_X11_pair (va_Pc [.ref (A o), .int x1, .int x2, .int x3] (PU2 G base A h A h)) (va_Qi (fun r (u : (Nat → Nat) × Hp) => Q r u.2) (fun u t => PU2 G base A h u.1 u.2 t) (fun q => base ≤ q)) 1 3 (fun q => base ≤ q) := by
  refine met2_of (own := RX11) (nm := "pair") (by decide) rfl rfl (List.forall_mem_cons.mpr ⟨rfl, (List.forall_mem_cons.mpr ⟨rfl, (List.forall_mem_cons.mpr ⟨rfl, (List.forall_mem_cons.mpr ⟨rfl, (fun _ h => absurd h List.not_mem_nil)⟩)⟩)⟩)⟩) (Nat.le_of_ble_eq_true rfl) rfl ?_
  intro p e s m args below meth c H locs ls hM hC hl
  obtain ⟨hx, hb, hr, hml, hown, hts, hg, hs, hlk, hnm⟩ := id hM
  unfold wp_X11_pair at hw
  refine lv_aload_n hx hb dX11_pair_0 rfl (lo_at hl 0 rfl) ?_
  refine lv_iload_n hx hb dX11_pair_1 rfl (lo_at hl 1 rfl) ?_
  obtain ⟨k1, hw⟩ := hw
  refine res2_q hC (run2_V (As := [.int x1]) (rest := []) hM hC hl.1.1 kv_RX11_140 (c_X11_ballAt l G base A o x1 h _ hw) (hc_9) k1 rfl rfl rfl ⟨Nat.le_of_ble_eq_true rfl, Nat.le_of_ble_eq_true rfl⟩ (Nat.le_of_ble_eq_true rfl) ⟨Nat.le_of_ble_eq_true rfl, Nat.le_of_ble_eq_true rfl⟩ dX11_pair_2) (fun z3 h2 H locs hw hC => ?_)
  refine lo_astore (r := Option.map A z3) (lv' := [(4, va_rf (Option.map A z3)), (0, .ref (A o)), (1, .int x1), (2, .int x2), (3, .int x3)]) hx hb dX11_pair_5 hl (by decide) rfl (fun ls hl => ?_)
  refine lv_aload_n hx hb dX11_pair_7 rfl (lo_at hl 1 rfl) ?_
  refine lv_iload_n hx hb dX11_pair_8 rfl (lo_at hl 3 rfl) ?_
  obtain ⟨k4, hw⟩ := hw
  refine res2_q hC (run2_V (As := [.int x2]) (rest := []) hM hC hl.1.1 kv_RX11_140 (c_X11_ballAt l G base A o x2 h2 _ hw) (hc_9) k4 rfl rfl rfl ⟨Nat.le_of_ble_eq_true rfl, Nat.le_of_ble_eq_true rfl⟩ (Nat.le_of_ble_eq_true rfl) ⟨Nat.le_of_ble_eq_true rfl, Nat.le_of_ble_eq_true rfl⟩ dX11_pair_9) (fun z6 h5 H locs hw hC => ?_)
  refine lo_astore (r := Option.map A z6) (lv' := [(5, va_rf (Option.map A z6)), (4, va_rf (Option.map A z3)), (0, .ref (A o)), (1, .int x1), (2, .int x2), (3, .int x3)]) hx hb dX11_pair_12 hl (by decide) rfl (fun ls hl => ?_)
  refine lo_aload (r := Option.map A z3) hx hb dX11_pair_14 (lo_at hl 1 rfl) ?_
  refine s_ifnull (r := z3) (A := A) (tgt := 49) hx hb dX11_pair_16 (by decide) (fun c7 => ?_) (fun c7 => ?_)
  ·
    replace hw := (if_pos c7).mp hw
    refine lv_iconst (v := -1) hx hb dX11_pair_49 (by decide) ?_
    refine W.widen (k := 1) (n := 3) (Nat.le_of_ble_eq_true rfl) (Nat.le_of_ble_eq_true rfl) ?_
    exact ret2_ia hM hC hw dX11_pair_50
  ·
    replace hw := (if_neg c7).mp hw
    refine lo_aload (r := Option.map A z6) hx hb dX11_pair_19 (lo_at hl 0 rfl) ?_
    refine s_ifnull (r := z6) (A := A) (tgt := 49) hx hb dX11_pair_21 (by decide) (fun c8 => ?_) (fun c8 => ?_)
    ·
      replace hw := (if_pos c8).mp hw
      refine lv_iconst (v := -1) hx hb dX11_pair_49 (by decide) ?_
      refine W.widen (k := 1) (n := 3) (Nat.le_of_ble_eq_true rfl) (Nat.le_of_ble_eq_true rfl) ?_
      exact ret2_ia hM hC hw dX11_pair_50
    ·
      replace hw := (if_neg c8).mp hw
      refine lv_iload_n hx hb dX11_pair_24 rfl (lo_at hl 3 rfl) ?_
      refine lv_iload_n hx hb dX11_pair_25 rfl (lo_at hl 4 rfl) ?_
      refine lv_icmp_eq (tgt := 49) hx hb dX11_pair_26 (by decide) (fun c9 => ?_) (fun c9 => ?_)
      ·
        replace hw := (if_pos c9).mp hw
        refine lv_iconst (v := -1) hx hb dX11_pair_49 (by decide) ?_
        refine W.widen (k := 1) (n := 3) (Nat.le_of_ble_eq_true rfl) (Nat.le_of_ble_eq_true rfl) ?_
        exact ret2_ia hM hC hw dX11_pair_50
      ·
        replace hw := (if_neg c9).mp hw
        refine lv_iload_n hx hb dX11_pair_29 rfl (lo_at hl 5 rfl) ?_
        refine lv_iconst (v := 1) hx hb dX11_pair_30 (by decide) ?_
        refine lv_icmp_lt (tgt := 49) hx hb dX11_pair_31 (by decide) (fun c10 => ?_) (fun c10 => ?_)
        ·
          replace hw := (if_pos c10).mp hw
          refine lv_iconst (v := -1) hx hb dX11_pair_49 (by decide) ?_
          refine W.widen (k := 1) (n := 3) (Nat.le_of_ble_eq_true rfl) (Nat.le_of_ble_eq_true rfl) ?_
          exact ret2_ia hM hC hw dX11_pair_50
        ·
          replace hw := (if_neg c10).mp hw
          refine lv_iload_n hx hb dX11_pair_34 rfl (lo_at hl 5 rfl) ?_
          refine lv_bipush (v := 99) hx hb dX11_pair_35 (by decide) ?_
          refine lv_icmp_gt (tgt := 49) hx hb dX11_pair_37 (by decide) (fun c11 => ?_) (fun c11 => ?_)
          ·
            replace hw := (if_pos c11).mp hw
            refine lv_iconst (v := -1) hx hb dX11_pair_49 (by decide) ?_
            refine W.widen (k := 1) (n := 3) (Nat.le_of_ble_eq_true rfl) (Nat.le_of_ble_eq_true rfl) ?_
            exact ret2_ia hM hC hw dX11_pair_50
          ·
            replace hw := (if_neg c11).mp hw
            refine lv_aload_n hx hb dX11_pair_40 rfl (lo_at hl 2 rfl) ?_
            obtain ⟨k12, hw⟩ := hw
            refine s_getI hx hb hts hown hg hC fb_9_10 k12 mk_f_RX11_258 dX11_pair_41 ?_
            refine lv_bipush (v := 10) hx hb dX11_pair_44 (by decide) ?_
            refine lv_icmp_lt (tgt := 51) hx hb dX11_pair_46 (by decide) (fun c13 => ?_) (fun c13 => ?_)
            ·
              replace hw := (if_pos c13).mp hw
              refine lv_aload_n hx hb dX11_pair_51 rfl (lo_at hl 2 rfl) ?_
              refine s_getR hx hb hts hown hg hC fb_9_9 k12 mk_f_RX11_35 dX11_pair_52 ?_
              refine lv_aload_n hx hb dX11_pair_55 rfl (lo_at hl 2 rfl) ?_
              refine s_getI hx hb hts hown hg hC fb_9_10 k12 mk_f_RX11_258 dX11_pair_56 ?_
              obtain ⟨k17, hw⟩ := hw
              obtain ⟨k18, hw⟩ := hw
              obtain ⟨k19, hw⟩ := hw
              obtain ⟨k20, hw⟩ := hw
              obtain ⟨q14, k16, hw⟩ := hw
              refine s_new hx hb hts hown hg hC cb_3 df_3 mk_c_RX11_33 mk_ins_OneBarrel_Pair mk_ini_OneBarrel_Pair q14 k16 (Nat.le_of_ble_eq_true rfl) (Nat.le_of_ble_eq_true rfl) dX11_pair_59 (fun A21 h15 H eh15 hE hC => ?_)
              replace hw := hw h15 eh15
              have e22 : Option.map A z6 = Option.map A21 z6 := hE.map k17
              try rw [e22] at hl
              try rw [e22]
              have e23 : Option.map A z3 = Option.map A21 z3 := hE.map k18
              try rw [e23] at hl
              try rw [e23]
              have e24 : A o = A21 o := ((hE _ (k19 _ rfl)).2).symm
              try rw [e24] at hl
              try rw [e24]
              have e25 : Option.map A (hpR h5 o 9) = Option.map A21 (hpR h5 o 9) := hE.map k20
              try rw [e25] at hl
              try rw [e25]
              refine W.widen (k := 1) (n := 3) (Nat.le_of_ble_eq_true rfl) (Nat.le_of_ble_eq_true rfl) ?_
              refine lv_dup hx hb dX11_pair_62 rfl ?_
              refine lo_aload (r := Option.map A21 z3) hx hb dX11_pair_63 (lo_at hl 1 rfl) ?_
              refine lo_aload (r := Option.map A21 z6) hx hb dX11_pair_65 (lo_at hl 0 rfl) ?_
              refine lv_iload_n hx hb dX11_pair_67 rfl (lo_at hl 5 rfl) ?_
              obtain ⟨k26, hw⟩ := hw
              refine res2_v hC (run2_I (As := [va_rf (Option.map A21 z3), va_rf (Option.map A21 z6), .int x3]) (rest := [.ref (A21 q14), .int (hpI h5 o 10), va_rf (Option.map A21 (hpR h5 o 9))]) hM hC hl.1.1 kv_RX11_261 (c_X4_init l G base A21 q14 z3 z6 x3 h15 _ hw) rfl rfl rfl ⟨Nat.le_of_ble_eq_true rfl, Nat.le_of_ble_eq_true rfl⟩ (rest_le (List.forall_mem_cons.mpr ⟨rfl, (List.forall_mem_cons.mpr ⟨rfl, (List.forall_mem_cons.mpr ⟨va_rf_cat _, (fun _ h => absurd h List.not_mem_nil)⟩)⟩)⟩) (Nat.le_of_ble_eq_true rfl)) ⟨Nat.le_of_ble_eq_true rfl, Nat.le_of_ble_eq_true rfl⟩ dX11_pair_68) (fun h27 H locs hw hC => ?_)
              obtain ⟨k29, hw⟩ := hw
              obtain ⟨k30, hw⟩ := hw
              refine sf_3 k30.1 ?_
              refine s_aast (kd := 6) (t0 := 5) (ci := 3) (q := (RX4, TX4, 3)) hx hb hg hC k30.2.1 (by decide) rfl rfl k29 k30.2.2 dX11_pair_71 (fun h31 H locs eh31 hC => ?_)
              replace hw := hw h31 eh31
              refine lv_aload_n hx hb dX11_pair_72 rfl (lo_at hl 2 rfl) ?_
              refine lv_dup hx hb dX11_pair_73 rfl ?_
              obtain ⟨k32, hw⟩ := hw
              refine s_getI hx hb hts hown hg hC fb_9_10 k32 mk_f_RX11_258 dX11_pair_74 ?_
              refine lv_iconst (v := 1) hx hb dX11_pair_77 (by decide) ?_
              refine lv_iadd hx hb dX11_pair_78 ?_
              refine s_putI hx hb hts hown hg hC fb_9_10 k32 rfl rfl mk_f_RX11_258 dX11_pair_79 (fun h33 H locs eh33 hC => ?_)
              replace hw := hw h33 eh33
              refine lv_aload_n hx hb dX11_pair_82 rfl (lo_at hl 2 rfl) ?_
              obtain ⟨k34, hw⟩ := hw
              refine s_getI hx hb hts hown hg hC fb_9_10 k34 mk_f_RX11_258 dX11_pair_83 ?_
              refine lv_iconst (v := 1) hx hb dX11_pair_86 (by decide) ?_
              refine lv_isub hx hb dX11_pair_87 ?_
              exact ret2_ia hM hC hw dX11_pair_88
            ·
              replace hw := (if_neg c13).mp hw
              refine lv_iconst (v := -1) hx hb dX11_pair_49 (by decide) ?_
              refine W.widen (k := 1) (n := 3) (Nat.le_of_ble_eq_true rfl) (Nat.le_of_ble_eq_true rfl) ?_
              exact ret2_ia hM hC hw dX11_pair_50
