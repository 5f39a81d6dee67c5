abbrev rm_X10_tellHair : Room := { frames := 0, cells := 0, slots := 0, locals := 0 }
def wp_X10_tellHair (o : Nat) (x1 : Int32) (x2 : Int32) (h : Hp) (Q : Hp → Prop) : Prop := ((hpK h o).1 = 20 + 8) ∧ (okA h (hpR h o 0) 1 (0 : Int32) ∧ (∀ h3 : Hp, h3 = stI h (ad (hpR h o 0)) ((0 : Int32)).toNatClampNeg x1 → (((hpK h3 o).1 = 20 + 8) ∧ (okA h3 (hpR h3 o 1) 1 (x1 &&& (31 : Int32)) ∧ (∀ v6 : Int32, v6 = hpI h3 (ad (hpR h3 o 1)) (x1 &&& (31 : Int32)).toNatClampNeg → (okA h3 (hpR h3 o 0) 1 (1 : Int32) ∧ (∀ h8 : Hp, h8 = stI h3 (ad (hpR h3 o 0)) ((1 : Int32)).toNatClampNeg v6 → (((hpK h8 o).1 = 20 + 8) ∧ (okA h8 (hpR h8 o 1) 1 ((x1 - (1 : Int32)) &&& (31 : Int32)) ∧ (∀ v11 : Int32, v11 = hpI h8 (ad (hpR h8 o 1)) ((x1 - (1 : Int32)) &&& (31 : Int32)).toNatClampNeg → (okA h8 (hpR h8 o 0) 1 (2 : Int32) ∧ (∀ h13 : Hp, h13 = stI h8 (ad (hpR h8 o 0)) ((2 : Int32)).toNatClampNeg v11 → (((hpK h13 o).1 = 20 + 8) ∧ (okA h13 (hpR h13 o 1) 1 ((x1 + (1 : Int32)) &&& (31 : Int32)) ∧ (∀ v16 : Int32, v16 = hpI h13 (ad (hpR h13 o 1)) ((x1 + (1 : Int32)) &&& (31 : Int32)).toNatClampNeg → (okA h13 (hpR h13 o 0) 1 (3 : Int32) ∧ (∀ h18 : Hp, h18 = stI h13 (ad (hpR h13 o 0)) ((3 : Int32)).toNatClampNeg v16 → (((hpK h18 o).1 = 20 + 8) ∧ (okA h18 (hpR h18 o 0) 1 (4 : Int32) ∧ (∀ h21 : Hp, h21 = stI h18 (ad (hpR h18 o 0)) ((4 : Int32)).toNatClampNeg x2 → (Q h21)))))))))))))))))))))
set_option maxHeartbeats 4000000 in
set_option maxRecDepth 100000 in
theorem c_X10_tellHair (l : Launch) (G : GG) (base : Nat) (o : Nat) (x1 : Int32) (x2 : Int32) (h : Hp) (Q : Hp → Prop) (hw : wp_X10_tellHair o x1 x2 h Q) : Met l yX10_tellHair (ww yX10_tellHair cX10_tellHair 3 none) rm_X10_tellHair (va_Pc [.ref o, .int x1, .int x2] (PU G base h)) (va_Qv Q (PU G base) (fun q => base ≤ q)) 0 0 (fun q => base ≤ q) := by
  refine met_of (own := RX10) (nm := "tellHair") (by decide) rfl rfl (List.forall_mem_cons.mpr ⟨rfl, (List.forall_mem_cons.mpr ⟨rfl, (List.forall_mem_cons.mpr ⟨rfl, (fun _ h => absurd h List.not_mem_nil)⟩)⟩)⟩) (Nat.le_of_ble_eq_true rfl) rfl ?_
  intro p e s m below meth c ls hM hC hl
  obtain ⟨hx, hb, hr, hml, hown, hts, hg, hs, hlk, hnm⟩ := id hM
  obtain ⟨args, hargs⟩ : ∃ a : Array Value, a = ([.ref o, .int x1, .int x2] : List Value).toArray := ⟨_, rfl⟩
  rw [← hargs] at hM hts ⊢
  obtain ⟨H, hH⟩ : ∃ H : Heap, H = s.heap := ⟨_, rfl⟩
  obtain ⟨locs, hlocs⟩ : ∃ x : List Loc, x = [] := ⟨_, rfl⟩
  have hC : Cx G base h s.heap H locs := by rw [hH, hlocs]; exact hC
  show W p l e rm_X10_tellHair s m args below meth c s.heap [] 0 0 (MQ below (va_Qv Q (PU G base) (fun q => base ≤ q)) args s 0 0 (fun q => base ≤ q)) (F0 m 0 ls [])
  rw [← hlocs]
  have hgoal : W p l e rm_X10_tellHair s m args below meth c H locs 0 0 (MQ below (va_Qv Q (PU G base) (fun q => base ≤ q)) args s 0 0 (fun q => base ≤ q)) (F0 m 0 ls []) := ?_
  · rw [hH] at hgoal; exact hgoal
  clear hH hlocs
  unfold wp_X10_tellHair at hw
  refine lv_aload_n hx hb dX10_tellHair_0 rfl (lo_at hl 0 rfl) ?_
  obtain ⟨k1, hw⟩ := hw
  refine r_getR hx hb hts hown hg hC fb_8_0 k1 mk_f_RX10_9 dX10_tellHair_1 ?_
  refine lv_iconst (v := 0) hx hb dX10_tellHair_4 (by decide) ?_
  refine lv_iload_n hx hb dX10_tellHair_5 rfl (lo_at hl 1 rfl) ?_
  obtain ⟨k2, hw⟩ := hw
  refine rf_3 k2.1 ?_
  refine r_iast hx hb hg hC k2.2.1 k2.2.2 dX10_tellHair_6 (fun h3 H locs eh3 hC => ?_)
  replace hw := hw h3 eh3
  refine lv_aload_n hx hb dX10_tellHair_7 rfl (lo_at hl 0 rfl) ?_
  obtain ⟨k4, hw⟩ := hw
  refine r_getR hx hb hts hown hg hC fb_8_0 k4 mk_f_RX10_9 dX10_tellHair_8 ?_
  refine lv_iconst (v := 1) hx hb dX10_tellHair_11 (by decide) ?_
  refine lv_aload_n hx hb dX10_tellHair_12 rfl (lo_at hl 0 rfl) ?_
  refine r_getR hx hb hts hown hg hC fb_8_1 k4 mk_f_RX10_15 dX10_tellHair_13 ?_
  refine lv_iload_n hx hb dX10_tellHair_16 rfl (lo_at hl 1 rfl) ?_
  refine lv_bipush (v := 31) hx hb dX10_tellHair_17 (by decide) ?_
  refine lv_iand hx hb dX10_tellHair_19 ?_
  obtain ⟨k5, hw⟩ := hw
  refine rf_2 k5.1 ?_
  refine r_iald hx hb hg hC k5.2.1 k5.2.2 dX10_tellHair_20 ?_
  refine lv_topi (fun v6 ev6 => ?_)
  replace hw := hw v6 ev6
  obtain ⟨k7, hw⟩ := hw
  refine rf_3 k7.1 ?_
  refine r_iast hx hb hg hC k7.2.1 k7.2.2 dX10_tellHair_21 (fun h8 H locs eh8 hC => ?_)
  replace hw := hw h8 eh8
  refine lv_aload_n hx hb dX10_tellHair_22 rfl (lo_at hl 0 rfl) ?_
  obtain ⟨k9, hw⟩ := hw
  refine r_getR hx hb hts hown hg hC fb_8_0 k9 mk_f_RX10_9 dX10_tellHair_23 ?_
  refine lv_iconst (v := 2) hx hb dX10_tellHair_26 (by decide) ?_
  refine lv_aload_n hx hb dX10_tellHair_27 rfl (lo_at hl 0 rfl) ?_
  refine r_getR hx hb hts hown hg hC fb_8_1 k9 mk_f_RX10_15 dX10_tellHair_28 ?_
  refine lv_iload_n hx hb dX10_tellHair_31 rfl (lo_at hl 1 rfl) ?_
  refine lv_iconst (v := 1) hx hb dX10_tellHair_32 (by decide) ?_
  refine lv_isub hx hb dX10_tellHair_33 ?_
  refine lv_bipush (v := 31) hx hb dX10_tellHair_34 (by decide) ?_
  refine lv_iand hx hb dX10_tellHair_36 ?_
  obtain ⟨k10, hw⟩ := hw
  refine rf_2 k10.1 ?_
  refine r_iald hx hb hg hC k10.2.1 k10.2.2 dX10_tellHair_37 ?_
  refine lv_topi (fun v11 ev11 => ?_)
  replace hw := hw v11 ev11
  obtain ⟨k12, hw⟩ := hw
  refine rf_3 k12.1 ?_
  refine r_iast hx hb hg hC k12.2.1 k12.2.2 dX10_tellHair_38 (fun h13 H locs eh13 hC => ?_)
  replace hw := hw h13 eh13
  refine lv_aload_n hx hb dX10_tellHair_39 rfl (lo_at hl 0 rfl) ?_
  obtain ⟨k14, hw⟩ := hw
  refine r_getR hx hb hts hown hg hC fb_8_0 k14 mk_f_RX10_9 dX10_tellHair_40 ?_
  refine lv_iconst (v := 3) hx hb dX10_tellHair_43 (by decide) ?_
  refine lv_aload_n hx hb dX10_tellHair_44 rfl (lo_at hl 0 rfl) ?_
  refine r_getR hx hb hts hown hg hC fb_8_1 k14 mk_f_RX10_15 dX10_tellHair_45 ?_
  refine lv_iload_n hx hb dX10_tellHair_48 rfl (lo_at hl 1 rfl) ?_
  refine lv_iconst (v := 1) hx hb dX10_tellHair_49 (by decide) ?_
  refine lv_iadd hx hb dX10_tellHair_50 ?_
  refine lv_bipush (v := 31) hx hb dX10_tellHair_51 (by decide) ?_
  refine lv_iand hx hb dX10_tellHair_53 ?_
  obtain ⟨k15, hw⟩ := hw
  refine rf_2 k15.1 ?_
  refine r_iald hx hb hg hC k15.2.1 k15.2.2 dX10_tellHair_54 ?_
  refine lv_topi (fun v16 ev16 => ?_)
  replace hw := hw v16 ev16
  obtain ⟨k17, hw⟩ := hw
  refine rf_3 k17.1 ?_
  refine r_iast hx hb hg hC k17.2.1 k17.2.2 dX10_tellHair_55 (fun h18 H locs eh18 hC => ?_)
  replace hw := hw h18 eh18
  refine lv_aload_n hx hb dX10_tellHair_56 rfl (lo_at hl 0 rfl) ?_
  obtain ⟨k19, hw⟩ := hw
  refine r_getR hx hb hts hown hg hC fb_8_0 k19 mk_f_RX10_9 dX10_tellHair_57 ?_
  refine lv_iconst (v := 4) hx hb dX10_tellHair_60 (by decide) ?_
  refine lv_iload_n hx hb dX10_tellHair_61 rfl (lo_at hl 2 rfl) ?_
  obtain ⟨k20, hw⟩ := hw
  refine rf_3 k20.1 ?_
  refine r_iast hx hb hg hC k20.2.1 k20.2.2 dX10_tellHair_62 (fun h21 H locs eh21 hC => ?_)
  replace hw := hw h21 eh21
  exact ret_v hM hC hw dX10_tellHair_63
abbrev rm_X10_uniteGroups : Room := { frames := 1, cells := 0, slots := 0, locals := 40 }
def wp_X10_uniteGroups_J38 (o : Nat) (x1 : Int32) (x2 : Int32) (x3 : Int32) (x4 : Int32) (KH : Int32 → Hp → Prop) (K52 : Hp → Prop) (Q : Hp → Prop) (h : Hp) : Prop := ((hpK h o).1 = 20 + 8) ∧ (okA h (hpR h o 5) 1 x4 ∧ (∀ h9 : Hp, h9 = stI h (ad (hpR h o 5)) (x4).toNatClampNeg x3 → (∀ v10 : Int32, v10 = x4 + (1 : Int32) → (KH v10 h9))))
def wp_X10_uniteGroups_L9 (o : Nat) (x1 : Int32) (x2 : Int32) (x3 : Int32) (K52 : Hp → Prop) (Q : Hp → Prop) : Nat → Int32 → Hp → Prop
  | 0, _, _ => False
  | n + 1, x4, h => (if (8 : Int32) ≤ x4 then (K52 h) else (((hpK h o).1 = 20 + 8) ∧ (okA h (hpR h o 5) 1 x4 ∧ (∀ v5 : Int32, v5 = hpI h (ad (hpR h o 5)) (x4).toNatClampNeg → ((if v5 = x1 then (wp_X10_uniteGroups_J38 o x1 x2 x3 x4 (wp_X10_uniteGroups_L9 o x1 x2 x3 K52 Q n) K52 Q h) else (okA h (hpR h o 5) 1 x4 ∧ (∀ v12 : Int32, v12 = hpI h (ad (hpR h o 5)) (x4).toNatClampNeg → ((if v12 = x2 then (wp_X10_uniteGroups_J38 o x1 x2 x3 x4 (wp_X10_uniteGroups_L9 o x1 x2 x3 K52 Q n) K52 Q h) else (∀ v14 : Int32, v14 = x4 + (1 : Int32) → (wp_X10_uniteGroups_L9 o x1 x2 x3 K52 Q n v14 h))))))))))))
def wp_X10_uniteGroups (o : Nat) (x1 : Int32) (x2 : Int32) (h : Hp) (Q : Hp → Prop) : Prop := ∀ v1 : Int32, v1 = (if x2 < x1 then x2 else x1) → (wp_X10_uniteGroups_L9 o x1 x2 v1 (fun (h15 : Hp) => Q h15) Q fuel (0 : Int32) h)
set_option maxHeartbeats 4000000 in
set_option maxRecDepth 100000 in
theorem t_X10_uniteGroups_J38 {p : Program} {l : Launch} {e : Env} {s : State} {m : MethodId} {args : Array Value} {below : List Frame} {meth : Method} {c : Code} {G : GG} {base : Nat} (hM : Mx G base p s m args meth c cX10_uniteGroups 5 none RX10 "uniteGroups") (o : Nat) (x1 : Int32) (x2 : Int32) (x3 : Int32) (x4 : Int32) (KH : Int32 → Hp → Prop) (K52 : Hp → Prop) (Q : Hp → Prop) (hKH : ∀ (y4 : Int32) (h : Hp) (H : Heap) (locs : List Loc) (ls : Array Slot), Cx G base h s.heap H locs → lo_has ls 5 [(0, .ref o), (1, .int x1), (2, .int x2), (3, .int x3), (4, .int y4)] → KH y4 h → W p l e rm_X10_uniteGroups s m args below meth c H locs 0 0 (MQ below (va_Qv Q (PU G base) (fun q => base ≤ q)) args s 0 0 (fun q => base ≤ q)) (F0 m 9 ls [])) (hK52 : ∀ (h : Hp) (H : Heap) (locs : List Loc) (ls : Array Slot), Cx G base h s.heap H locs → lo_has ls 5 [] → K52 h → W p l e rm_X10_uniteGroups s m args below meth c H locs 0 0 (MQ below (va_Qv Q (PU G base) (fun q => base ≤ q)) args s 0 0 (fun q => base ≤ q)) (F0 m 52 ls [])) (h : Hp) (H : Heap) (locs : List Loc) (ls : Array Slot) : Cx G base h s.heap H locs → lo_has ls 5 [(0, .ref o), (1, .int x1), (2, .int x2), (3, .int x3), (4, .int x4)] → wp_X10_uniteGroups_J38 o x1 x2 x3 x4 KH K52 Q h → W p l e rm_X10_uniteGroups s m args below meth c H locs 0 0 (MQ below (va_Qv Q (PU G base) (fun q => base ≤ q)) args s 0 0 (fun q => base ≤ q)) (F0 m 38 ls []) := by
  intro hC hl hw
  unfold wp_X10_uniteGroups_J38 at hw
  obtain ⟨hx, hb, hr, hml, hown, hts, hg, hs, hlk, hnm⟩ := id hM
  refine lv_aload_n hx hb dX10_uniteGroups_38 rfl (lo_at hl 0 rfl) ?_
  obtain ⟨k7, hw⟩ := hw
  refine r_getR hx hb hts hown hg hC fb_8_5 k7 mk_f_RX10_27 dX10_uniteGroups_39 ?_
  refine lv_iload hx hb dX10_uniteGroups_42 (lo_at hl 4 rfl) ?_
  refine lv_iload_n hx hb dX10_uniteGroups_44 rfl (lo_at hl 3 rfl) ?_
  obtain ⟨k8, hw⟩ := hw
  refine rf_3 k8.1 ?_
  refine r_iast hx hb hg hC k8.2.1 k8.2.2 dX10_uniteGroups_45 (fun h9 H locs eh9 hC => ?_)
  replace hw := hw h9 eh9
  obtain ⟨v10, ev10⟩ : ∃ y : Int32, y = x4 + (1 : Int32) := ⟨_, rfl⟩
  replace hw := hw v10 ev10
  refine lo_iinc (v := v10) (lv' := [(4, .int v10), (0, .ref o), (1, .int x1), (2, .int x2), (3, .int x3)]) hx hb dX10_uniteGroups_46 hl (k := 4) rfl (by rw [ev10]; rfl) (by decide) rfl (fun ls hl => ?_)
  refine lv_goto (tgt := 9) hx hb dX10_uniteGroups_49 (by decide) ?_
  exact hKH v10 h9 H locs ls hC (lo_sub hl [1, 2, 3, 4, 0] rfl) hw
set_option maxHeartbeats 4000000 in
set_option maxRecDepth 100000 in
theorem t_X10_uniteGroups_L9 {p : Program} {l : Launch} {e : Env} {s : State} {m : MethodId} {args : Array Value} {below : List Frame} {meth : Method} {c : Code} {G : GG} {base : Nat} (hM : Mx G base p s m args meth c cX10_uniteGroups 5 none RX10 "uniteGroups") (o : Nat) (x1 : Int32) (x2 : Int32) (x3 : Int32) (K52 : Hp → Prop) (Q : Hp → Prop) (hK52 : ∀ (h : Hp) (H : Heap) (locs : List Loc) (ls : Array Slot), Cx G base h s.heap H locs → lo_has ls 5 [] → K52 h → W p l e rm_X10_uniteGroups s m args below meth c H locs 0 0 (MQ below (va_Qv Q (PU G base) (fun q => base ≤ q)) args s 0 0 (fun q => base ≤ q)) (F0 m 52 ls [])) : ∀ (n : Nat) (x4 : Int32) (h : Hp) (H : Heap) (locs : List Loc) (ls : Array Slot), Cx G base h s.heap H locs → lo_has ls 5 [(0, .ref o), (1, .int x1), (2, .int x2), (3, .int x3), (4, .int x4)] → wp_X10_uniteGroups_L9 o x1 x2 x3 K52 Q n x4 h → W p l e rm_X10_uniteGroups s m args below meth c H locs 0 0 (MQ below (va_Qv Q (PU G base) (fun q => base ≤ q)) args s 0 0 (fun q => base ≤ q)) (F0 m 9 ls []) := by
  intro n
  induction n with
  | zero =>
    intro x4 h H locs ls hC hl hw
    rw [wp_X10_uniteGroups_L9] at hw
    exact hw.elim
  | succ n ih =>
    intro x4 h H locs ls hC hl hw
    rw [wp_X10_uniteGroups_L9] at hw
    obtain ⟨hx, hb, hr, hml, hown, hts, hg, hs, hlk, hnm⟩ := id hM
    refine lv_iload hx hb dX10_uniteGroups_9 (lo_at hl 4 rfl) ?_
    refine lv_bipush (v := 8) hx hb dX10_uniteGroups_11 (by decide) ?_
    refine lv_icmp_ge (tgt := 52) hx hb dX10_uniteGroups_13 (by decide) (fun c2 => ?_) (fun c2 => ?_)
    ·
      replace hw := (if_pos c2).mp hw
      exact hK52  h H locs ls hC (lo_sub hl [] rfl) hw
    ·
      replace hw := (if_neg c2).mp hw
      refine lv_aload_n hx hb dX10_uniteGroups_16 rfl (lo_at hl 0 rfl) ?_
      obtain ⟨k3, hw⟩ := hw
      refine r_getR hx hb hts hown hg hC fb_8_5 k3 mk_f_RX10_27 dX10_uniteGroups_17 ?_
      refine lv_iload hx hb dX10_uniteGroups_20 (lo_at hl 4 rfl) ?_
      obtain ⟨k4, hw⟩ := hw
      refine rf_2 k4.1 ?_
      refine r_iald hx hb hg hC k4.2.1 k4.2.2 dX10_uniteGroups_22 ?_
      refine lv_topi (fun v5 ev5 => ?_)
      replace hw := hw v5 ev5
      refine lv_iload_n hx hb dX10_uniteGroups_23 rfl (lo_at hl 1 rfl) ?_
      refine lv_icmp_eq (tgt := 38) hx hb dX10_uniteGroups_24 (by decide) (fun c6 => ?_) (fun c6 => ?_)
      ·
        replace hw := (if_pos c6).mp hw
        exact t_X10_uniteGroups_J38 hM o x1 x2 x3 x4 (wp_X10_uniteGroups_L9 o x1 x2 x3 K52 Q n) K52 Q ih hK52 h H locs ls hC (lo_sub hl [0, 1, 2, 3, 4] rfl) hw
      ·
        replace hw := (if_neg c6).mp hw
        refine lv_aload_n hx hb dX10_uniteGroups_27 rfl (lo_at hl 0 rfl) ?_
        refine r_getR hx hb hts hown hg hC fb_8_5 k3 mk_f_RX10_27 dX10_uniteGroups_28 ?_
        refine lv_iload hx hb dX10_uniteGroups_31 (lo_at hl 4 rfl) ?_
        obtain ⟨k11, hw⟩ := hw
        refine rf_2 k11.1 ?_
        refine r_iald hx hb hg hC k11.2.1 k11.2.2 dX10_uniteGroups_33 ?_
        refine lv_topi (fun v12 ev12 => ?_)
        replace hw := hw v12 ev12
        refine lv_iload_n hx hb dX10_uniteGroups_34 rfl (lo_at hl 2 rfl) ?_
        refine lv_icmp_ne (tgt := 46) hx hb dX10_uniteGroups_35 (by decide) (fun c13 => ?_) (fun c13 => ?_)
        ·
          replace hw := (if_neg c13).mp hw
          obtain ⟨v14, ev14⟩ : ∃ y : Int32, y = x4 + (1 : Int32) := ⟨_, rfl⟩
          replace hw := hw v14 ev14
          refine lo_iinc (v := v14) (lv' := [(4, .int v14), (0, .ref o), (1, .int x1), (2, .int x2), (3, .int x3)]) hx hb dX10_uniteGroups_46 hl (k := 4) rfl (by rw [ev14]; rfl) (by decide) rfl (fun ls hl => ?_)
          refine lv_goto (tgt := 9) hx hb dX10_uniteGroups_49 (by decide) ?_
          exact ih v14 h H locs ls hC (lo_sub hl [1, 2, 3, 4, 0] rfl) hw
        ·
          replace hw := (if_pos c13).mp hw
          exact t_X10_uniteGroups_J38 hM o x1 x2 x3 x4 (wp_X10_uniteGroups_L9 o x1 x2 x3 K52 Q n) K52 Q ih hK52 h H locs ls hC (lo_sub hl [0, 1, 2, 3, 4] rfl) hw
set_option maxHeartbeats 4000000 in
set_option maxRecDepth 100000 in
theorem c_X10_uniteGroups (l : Launch) (G : GG) (base : Nat) (o : Nat) (x1 : Int32) (x2 : Int32) (h : Hp) (Q : Hp → Prop) (hw : wp_X10_uniteGroups o x1 x2 h Q) : Met l yX10_uniteGroups (ww yX10_uniteGroups cX10_uniteGroups 5 none) rm_X10_uniteGroups (va_Pc [.ref o, .int x1, .int x2] (PU G base h)) (va_Qv Q (PU G base) (fun q => base ≤ q)) 0 0 (fun q => base ≤ q) := by
  refine met_of (own := RX10) (nm := "uniteGroups") (by decide) rfl rfl (List.forall_mem_cons.mpr ⟨rfl, (List.forall_mem_cons.mpr ⟨rfl, (List.forall_mem_cons.mpr ⟨rfl, (fun _ h => absurd h List.not_mem_nil)⟩)⟩)⟩) (Nat.le_of_ble_eq_true rfl) rfl ?_
  intro p e s m below meth c ls hM hC hl
  obtain ⟨hx, hb, hr, hml, hown, hts, hg, hs, hlk, hnm⟩ := id hM
  obtain ⟨args, hargs⟩ : ∃ a : Array Value, a = ([.ref o, .int x1, .int x2] : List Value).toArray := ⟨_, rfl⟩
  rw [← hargs] at hM hts ⊢
  obtain ⟨H, hH⟩ : ∃ H : Heap, H = s.heap := ⟨_, rfl⟩
  obtain ⟨locs, hlocs⟩ : ∃ x : List Loc, x = [] := ⟨_, rfl⟩
  have hC : Cx G base h s.heap H locs := by rw [hH, hlocs]; exact hC
  show W p l e rm_X10_uniteGroups s m args below meth c s.heap [] 0 0 (MQ below (va_Qv Q (PU G base) (fun q => base ≤ q)) args s 0 0 (fun q => base ≤ q)) (F0 m 0 ls [])
  rw [← hlocs]
  have hgoal : W p l e rm_X10_uniteGroups s m args below meth c H locs 0 0 (MQ below (va_Qv Q (PU G base) (fun q => base ≤ q)) args s 0 0 (fun q => base ≤ q)) (F0 m 0 ls []) := ?_
  · rw [hH] at hgoal; exact hgoal
  clear hH hlocs
  unfold wp_X10_uniteGroups at hw
  refine lv_iload_n hx hb dX10_uniteGroups_0 rfl (lo_at hl 1 rfl) ?_
  refine lv_iload_n hx hb dX10_uniteGroups_1 rfl (lo_at hl 2 rfl) ?_
  refine va_mmin hx hb (by rw [hml]; exact hl.1.1.symm) hown (hts _ mk_m_RX10_30) (hts _ mk_math_s_min) (hts _ mk_ini_math) (hts _ mk_math_c_min) (Nat.le_of_ble_eq_true rfl) (Nat.le_of_ble_eq_true rfl) (Nat.le_of_ble_eq_true rfl) (Nat.le_of_ble_eq_true rfl) dX10_uniteGroups_2 ?_
  refine lv_topi (fun v1 ev1 => ?_)
  replace hw := hw v1 ev1
  refine lo_istore_n (lv' := [(3, .int v1), (0, .ref o), (1, .int x1), (2, .int x2)]) hx hb dX10_uniteGroups_5 rfl hl (by decide) rfl (fun ls hl => ?_)
  refine lv_iconst (v := 0) hx hb dX10_uniteGroups_6 (by decide) ?_
  refine lo_istore (lv' := [(4, .int ((0 : Int32))), (3, .int v1), (0, .ref o), (1, .int x1), (2, .int x2)]) hx hb dX10_uniteGroups_7 hl (by decide) rfl (fun ls hl => ?_)
  refine t_X10_uniteGroups_L9 hM o x1 x2 v1 _ Q ?_ fuel (0 : Int32) h H locs ls hC (lo_sub hl [2, 3, 4, 1, 0] rfl) hw
  intro  h15 H locs ls hC hl hw
  exact ret_v hM hC hw dX10_uniteGroups_52
abbrev rm_X11_found : Room := { frames := 2, cells := 2, slots := 37, locals := 103 }
def wp_X11_found (o : Nat) (h : Hp) (Q : Int32 → Hp → Prop) : Prop := ((hpK h o).1 = 20 + 9) ∧ ((if (hpI h o 5) < (40 : Int32) then (∀ (q3 : Nat) (h4 : Hp), (hpK h q3).1 = 0 → h4 = alc h q3 (20 + 0) 0 → (((hpK h4 o).1 = 20 + 9) ∧ (((hpK h4 q3).1 = 20 + 0) ∧ (wp_X0_init q3 (hpI h4 o 5) none (-1 : Int32) h4 (fun (h8 : Hp) => ((hpK h8 q3).1 = 20 + 0) ∧ (okA h8 (hpR h o 4) 3 (hpI h o 5) ∧ (∀ h12 : Hp, h12 = stR h8 (ad (hpR h o 4)) (hpI h o 5).toNatClampNeg (some q3) → (((hpK h12 o).1 = 20 + 9) ∧ (∀ h14 : Hp, h14 = stI h12 o 5 ((hpI h12 o 5) + (1 : Int32)) → (((hpK h14 o).1 = 20 + 9) ∧ (∀ h16 : Hp, h16 = stI h14 o 6 ((hpI h14 o 6) + (1 : Int32)) → (((hpK h16 o).1 = 20 + 9) ∧ (Q ((hpI h16 o 5) - (1 : Int32)) h16))))))))))))) else (Q (-1 : Int32) h)))
set_option maxHeartbeats 4000000 in
set_option maxRecDepth 100000 in
theorem c_X11_found (l : Launch) (G : GG) (base : Nat) (o : Nat) (h : Hp) (Q : Int32 → Hp → Prop) (hw : wp_X11_found o h Q) : Met l yX11_found (ww yX11_found cX11_found 1 (some .int)) rm_X11_found (va_Pc [.ref o] (PU G base h)) (va_Qi Q (PU G base) (fun q => base ≤ q)) 2 37 (fun q => base ≤ q) := by
  refine met_of (own := RX11) (nm := "found") (by decide) rfl rfl (List.forall_mem_cons.mpr ⟨rfl, (fun _ h => absurd h List.not_mem_nil)⟩) (Nat.le_of_ble_eq_true rfl) rfl ?_
  intro p e s m below meth c ls hM hC hl
  obtain ⟨hx, hb, hr, hml, hown, hts, hg, hs, hlk, hnm⟩ := id hM
  obtain ⟨args, hargs⟩ : ∃ a : Array Value, a = ([.ref o] : List Value).toArray := ⟨_, rfl⟩
  rw [← hargs] at hM hts ⊢
  obtain ⟨H, hH⟩ : ∃ H : Heap, H = s.heap := ⟨_, rfl⟩
  obtain ⟨locs, hlocs⟩ : ∃ x : List Loc, x = [] := ⟨_, rfl⟩
  have hC : Cx G base h s.heap H locs := by rw [hH, hlocs]; exact hC
  show W p l e rm_X11_found s m args below meth c s.heap [] 0 0 (MQ below (va_Qi Q (PU G base) (fun q => base ≤ q)) args s 2 37 (fun q => base ≤ q)) (F0 m 0 ls [])
  rw [← hlocs]
  have hgoal : W p l e rm_X11_found s m args below meth c H locs 0 0 (MQ below (va_Qi Q (PU G base) (fun q => base ≤ q)) args s 2 37 (fun q => base ≤ q)) (F0 m 0 ls []) := ?_
  · rw [hH] at hgoal; exact hgoal
  clear hH hlocs
  unfold wp_X11_found at hw
  refine lv_aload_n hx hb dX11_found_0 rfl (lo_at hl 0 rfl) ?_
  obtain ⟨k1, hw⟩ := hw
  refine r_getI hx hb hts hown hg hC fb_9_5 k1 mk_f_RX11_122 dX11_found_1 ?_
  refine lv_bipush (v := 40) hx hb dX11_found_4 (by decide) ?_
  refine lv_icmp_lt (tgt := 11) hx hb dX11_found_6 (by decide) (fun c2 => ?_) (fun c2 => ?_)
  ·
    replace hw := (if_pos c2).mp hw
    refine lv_aload_n hx hb dX11_found_11 rfl (lo_at hl 0 rfl) ?_
    refine r_getR hx hb hts hown hg hC fb_9_4 k1 mk_f_RX11_23 dX11_found_12 ?_
    refine lv_aload_n hx hb dX11_found_15 rfl (lo_at hl 0 rfl) ?_
    refine r_getI hx hb hts hown hg hC fb_9_5 k1 mk_f_RX11_122 dX11_found_16 ?_
    refine r_new hx hb hts hown hg hC cb_0 df_0 mk_c_RX11_21 mk_ins_OneBarrel_Ball mk_ini_OneBarrel_Ball (Nat.le_of_ble_eq_true rfl) (Nat.le_of_ble_eq_true rfl) dX11_found_19 (fun q3 h4 H k5 eh4 hC => ?_)
    replace hw := hw q3 h4 k5 eh4
    refine W.widen (k := 1) (n := 5) (Nat.le_of_ble_eq_true rfl) (Nat.le_of_ble_eq_true rfl) ?_
    refine lv_dup hx hb dX11_found_22 rfl ?_
    refine lv_aload_n hx hb dX11_found_23 rfl (lo_at hl 0 rfl) ?_
    obtain ⟨k6, hw⟩ := hw
    refine r_getI hx hb hts hown hg hC fb_9_5 k6 mk_f_RX11_122 dX11_found_24 ?_
    refine lv_null hx hb dX11_found_27 ?_
    refine lv_iconst (v := -1) hx hb dX11_found_28 (by decide) ?_
    obtain ⟨k7, hw⟩ := hw
    refine res_v hC (run_I (As := [.int (hpI h4 o 5), va_rf none, .int ((-1 : Int32))]) (rest := [.ref q3, .int (hpI h o 5), va_rf (hpR h o 4)]) hM hC hl.1.1 kv_RX11_125 (c_X0_init l G base q3 (hpI h4 o 5) none (-1 : Int32) h4 _ hw) rfl rfl rfl ⟨Nat.le_of_ble_eq_true rfl, Nat.le_of_ble_eq_true rfl⟩ (rest_le (List.forall_mem_cons.mpr ⟨rfl, (List.forall_mem_cons.mpr ⟨rfl, (List.forall_mem_cons.mpr ⟨va_rf_cat _, (fun _ h => absurd h List.not_mem_nil)⟩)⟩)⟩) (Nat.le_of_ble_eq_true rfl)) ⟨Nat.le_of_ble_eq_true rfl, Nat.le_of_ble_eq_true rfl⟩ dX11_found_29) (fun h8 H locs hw hC => ?_)
    refine W.widen (k := 2) (n := 37) (Nat.le_of_ble_eq_true rfl) (Nat.le_of_ble_eq_true rfl) ?_
    obtain ⟨k10, hw⟩ := hw
    obtain ⟨k11, hw⟩ := hw
    refine rf_3 k11.1 ?_
    refine r_aast (kd := 3) (t0 := 2) (ci := 0) (q := (RX0, TX0, 5)) hx hb hg hC k11.2.1 (by decide) rfl rfl k10 k11.2.2 dX11_found_32 (fun h12 H locs eh12 hC => ?_)
    replace hw := hw h12 eh12
    refine lv_aload_n hx hb dX11_found_33 rfl (lo_at hl 0 rfl) ?_
    refine lv_dup hx hb dX11_found_34 rfl ?_
    obtain ⟨k13, hw⟩ := hw
    refine r_getI hx hb hts hown hg hC fb_9_5 k13 mk_f_RX11_122 dX11_found_35 ?_
    refine lv_iconst (v := 1) hx hb dX11_found_38 (by decide) ?_
    refine lv_iadd hx hb dX11_found_39 ?_
    refine r_putI hx hb hts hown hg hC fb_9_5 k13 rfl rfl mk_f_RX11_122 dX11_found_40 (fun h14 H locs eh14 hC => ?_)
    replace hw := hw h14 eh14
    refine lv_aload_n hx hb dX11_found_43 rfl (lo_at hl 0 rfl) ?_
    refine lv_dup hx hb dX11_found_44 rfl ?_
    obtain ⟨k15, hw⟩ := hw
    refine r_getI hx hb hts hown hg hC fb_9_6 k15 mk_f_RX11_137 dX11_found_45 ?_
    refine lv_iconst (v := 1) hx hb dX11_found_48 (by decide) ?_
    refine lv_iadd hx hb dX11_found_49 ?_
    refine r_putI hx hb hts hown hg hC fb_9_6 k15 rfl rfl mk_f_RX11_137 dX11_found_50 (fun h16 H locs eh16 hC => ?_)
    replace hw := hw h16 eh16
    refine lv_aload_n hx hb dX11_found_53 rfl (lo_at hl 0 rfl) ?_
    obtain ⟨k17, hw⟩ := hw
    refine r_getI hx hb hts hown hg hC fb_9_5 k17 mk_f_RX11_122 dX11_found_54 ?_
    refine lv_iconst (v := 1) hx hb dX11_found_57 (by decide) ?_
    refine lv_isub hx hb dX11_found_58 ?_
    exact ret_i hM hC hw dX11_found_59
  ·
    replace hw := (if_neg c2).mp hw
    refine lv_iconst (v := -1) hx hb dX11_found_9 (by decide) ?_
    refine W.widen (k := 2) (n := 37) (Nat.le_of_ble_eq_true rfl) (Nat.le_of_ble_eq_true rfl) ?_
    exact ret_i hM hC hw dX11_found_10
abbrev rm_X11_feed : Room := { frames := 1, cells := 0, slots := 0, locals := 22 }
def wp_X11_feed (o : Nat) (x1 : Int32) (x2 : Int32) (x3 : Int32) (x4 : Int32) (x5 : Int32) (h : Hp) (Q : Int32 → Hp → Prop) : Prop := ((hpK h o).1 = 20 + 9) ∧ (okO h (hpR h o 12) 6 ∧ ((if ((hpI h (ad (hpR h o 12)) 1) + (20 : Int32)) ≤ (600 : Int32) then (wp_X8_put (ad (hpR h o 12)) x1 h (fun (h4 : Hp) => ((hpK h4 o).1 = 20 + 9) ∧ (okO h4 (hpR h4 o 12) 6 ∧ (wp_X8_put (ad (hpR h4 o 12)) x2 h4 (fun (h8 : Hp) => ((hpK h8 o).1 = 20 + 9) ∧ (okO h8 (hpR h8 o 12) 6 ∧ (wp_X8_put (ad (hpR h8 o 12)) x3 h8 (fun (h12 : Hp) => ((hpK h12 o).1 = 20 + 9) ∧ (okO h12 (hpR h12 o 12) 6 ∧ (wp_X8_put (ad (hpR h12 o 12)) x4 h12 (fun (h16 : Hp) => ((hpK h16 o).1 = 20 + 9) ∧ (okO h16 (hpR h16 o 12) 6 ∧ (wp_X8_put (ad (hpR h16 o 12)) x5 h16 (fun (h20 : Hp) => ((hpK h20 o).1 = 20 + 9) ∧ (okO h20 (hpR h20 o 12) 6 ∧ (Q (hpI h20 (ad (hpR h20 o 12)) 1) h20)))))))))))))))) else (Q (-1 : Int32) h))))
set_option maxHeartbeats 4000000 in
set_option maxRecDepth 100000 in
theorem c_X11_feed (l : Launch) (G : GG) (base : Nat) (o : Nat) (x1 : Int32) (x2 : Int32) (x3 : Int32) (x4 : Int32) (x5 : Int32) (h : Hp) (Q : Int32 → Hp → Prop) (hw : wp_X11_feed o x1 x2 x3 x4 x5 h Q) : Met l yX11_feed (ww yX11_feed cX11_feed 6 (some .int)) rm_X11_feed (va_Pc [.ref o, .int x1, .int x2, .int x3, .int x4, .int x5] (PU G base h)) (va_Qi Q (PU G base) (fun q => base ≤ q)) 0 0 (fun q => base ≤ q) := by
  refine met_of (own := RX11) (nm := "feed") (by decide) rfl rfl (List.forall_mem_cons.mpr ⟨rfl, (List.forall_mem_cons.mpr ⟨rfl, (List.forall_mem_cons.mpr ⟨rfl, (List.forall_mem_cons.mpr ⟨rfl, (List.forall_mem_cons.mpr ⟨rfl, (List.forall_mem_cons.mpr ⟨rfl, (fun _ h => absurd h List.not_mem_nil)⟩)⟩)⟩)⟩)⟩)⟩) (Nat.le_of_ble_eq_true rfl) rfl ?_
  intro p e s m below meth c ls hM hC hl
  obtain ⟨hx, hb, hr, hml, hown, hts, hg, hs, hlk, hnm⟩ := id hM
  obtain ⟨args, hargs⟩ : ∃ a : Array Value, a = ([.ref o, .int x1, .int x2, .int x3, .int x4, .int x5] : List Value).toArray := ⟨_, rfl⟩
  rw [← hargs] at hM hts ⊢
  obtain ⟨H, hH⟩ : ∃ H : Heap, H = s.heap := ⟨_, rfl⟩
  obtain ⟨locs, hlocs⟩ : ∃ x : List Loc, x = [] := ⟨_, rfl⟩
  have hC : Cx G base h s.heap H locs := by rw [hH, hlocs]; exact hC
  show W p l e rm_X11_feed s m args below meth c s.heap [] 0 0 (MQ below (va_Qi Q (PU G base) (fun q => base ≤ q)) args s 0 0 (fun q => base ≤ q)) (F0 m 0 ls [])
  rw [← hlocs]
  have hgoal : W p l e rm_X11_feed s m args below meth c H locs 0 0 (MQ below (va_Qi Q (PU G base) (fun q => base ≤ q)) args s 0 0 (fun q => base ≤ q)) (F0 m 0 ls []) := ?_
  · rw [hH] at hgoal; exact hgoal
  clear hH hlocs
  unfold wp_X11_feed at hw
  refine lv_aload_n hx hb dX11_feed_0 rfl (lo_at hl 0 rfl) ?_
  obtain ⟨k1, hw⟩ := hw
  refine r_getR hx hb hts hown hg hC fb_9_12 k1 mk_f_RX11_46 dX11_feed_1 ?_
  obtain ⟨k2, hw⟩ := hw
  refine rf_1 k2.1 ?_
  refine r_getI hx hb hts hown hg hC fb_6_1 k2.2 mk_f_RX11_163 dX11_feed_4 ?_
  refine lv_bipush (v := 20) hx hb dX11_feed_7 (by decide) ?_
  refine lv_iadd hx hb dX11_feed_9 ?_
  refine lv_sipush (v := 600) hx hb dX11_feed_10 (by decide) ?_
  refine lv_icmp_le (tgt := 18) hx hb dX11_feed_13 (by decide) (fun c3 => ?_) (fun c3 => ?_)
  ·
    replace hw := (if_pos c3).mp hw
    refine lv_aload_n hx hb dX11_feed_18 rfl (lo_at hl 0 rfl) ?_
    refine r_getR hx hb hts hown hg hC fb_9_12 k1 mk_f_RX11_46 dX11_feed_19 ?_
    refine lv_iload_n hx hb dX11_feed_22 rfl (lo_at hl 1 rfl) ?_
    refine rf_2 k2.1 ?_
    refine res_v hC (run_V (As := [.int x1]) (rest := []) hM hC hl.1.1 kv_RX11_166 (c_X8_put l G base (ad (hpR h o 12)) x1 h _ hw) (hc_6) k2.2 rfl rfl rfl ⟨Nat.le_of_ble_eq_true rfl, Nat.le_of_ble_eq_true rfl⟩ (Nat.le_of_ble_eq_true rfl) ⟨Nat.le_of_ble_eq_true rfl, Nat.le_of_ble_eq_true rfl⟩ dX11_feed_23) (fun h4 H locs hw hC => ?_)
    refine lv_aload_n hx hb dX11_feed_26 rfl (lo_at hl 0 rfl) ?_
    obtain ⟨k6, hw⟩ := hw
    refine r_getR hx hb hts hown hg hC fb_9_12 k6 mk_f_RX11_46 dX11_feed_27 ?_
    refine lv_iload_n hx hb dX11_feed_30 rfl (lo_at hl 2 rfl) ?_
    obtain ⟨k7, hw⟩ := hw
    refine rf_2 k7.1 ?_
    refine res_v hC (run_V (As := [.int x2]) (rest := []) hM hC hl.1.1 kv_RX11_166 (c_X8_put l G base (ad (hpR h4 o 12)) x2 h4 _ hw) (hc_6) k7.2 rfl rfl rfl ⟨Nat.le_of_ble_eq_true rfl, Nat.le_of_ble_eq_true rfl⟩ (Nat.le_of_ble_eq_true rfl) ⟨Nat.le_of_ble_eq_true rfl, Nat.le_of_ble_eq_true rfl⟩ dX11_feed_31) (fun h8 H locs hw hC => ?_)
    refine lv_aload_n hx hb dX11_feed_34 rfl (lo_at hl 0 rfl) ?_
    obtain ⟨k10, hw⟩ := hw
    refine r_getR hx hb hts hown hg hC fb_9_12 k10 mk_f_RX11_46 dX11_feed_35 ?_
    refine lv_iload_n hx hb dX11_feed_38 rfl (lo_at hl 3 rfl) ?_
    obtain ⟨k11, hw⟩ := hw
    refine rf_2 k11.1 ?_
    refine res_v hC (run_V (As := [.int x3]) (rest := []) hM hC hl.1.1 kv_RX11_166 (c_X8_put l G base (ad (hpR h8 o 12)) x3 h8 _ hw) (hc_6) k11.2 rfl rfl rfl ⟨Nat.le_of_ble_eq_true rfl, Nat.le_of_ble_eq_true rfl⟩ (Nat.le_of_ble_eq_true rfl) ⟨Nat.le_of_ble_eq_true rfl, Nat.le_of_ble_eq_true rfl⟩ dX11_feed_39) (fun h12 H locs hw hC => ?_)
    refine lv_aload_n hx hb dX11_feed_42 rfl (lo_at hl 0 rfl) ?_
    obtain ⟨k14, hw⟩ := hw
    refine r_getR hx hb hts hown hg hC fb_9_12 k14 mk_f_RX11_46 dX11_feed_43 ?_
    refine lv_iload hx hb dX11_feed_46 (lo_at hl 4 rfl) ?_
    obtain ⟨k15, hw⟩ := hw
    refine rf_2 k15.1 ?_
    refine res_v hC (run_V (As := [.int x4]) (rest := []) hM hC hl.1.1 kv_RX11_166 (c_X8_put l G base (ad (hpR h12 o 12)) x4 h12 _ hw) (hc_6) k15.2 rfl rfl rfl ⟨Nat.le_of_ble_eq_true rfl, Nat.le_of_ble_eq_true rfl⟩ (Nat.le_of_ble_eq_true rfl) ⟨Nat.le_of_ble_eq_true rfl, Nat.le_of_ble_eq_true rfl⟩ dX11_feed_48) (fun h16 H locs hw hC => ?_)
    refine lv_aload_n hx hb dX11_feed_51 rfl (lo_at hl 0 rfl) ?_
    obtain ⟨k18, hw⟩ := hw
    refine r_getR hx hb hts hown hg hC fb_9_12 k18 mk_f_RX11_46 dX11_feed_52 ?_
    refine lv_iload hx hb dX11_feed_55 (lo_at hl 5 rfl) ?_
    obtain ⟨k19, hw⟩ := hw
    refine rf_2 k19.1 ?_
    refine res_v hC (run_V (As := [.int x5]) (rest := []) hM hC hl.1.1 kv_RX11_166 (c_X8_put l G base (ad (hpR h16 o 12)) x5 h16 _ hw) (hc_6) k19.2 rfl rfl rfl ⟨Nat.le_of_ble_eq_true rfl, Nat.le_of_ble_eq_true rfl⟩ (Nat.le_of_ble_eq_true rfl) ⟨Nat.le_of_ble_eq_true rfl, Nat.le_of_ble_eq_true rfl⟩ dX11_feed_57) (fun h20 H locs hw hC => ?_)
    refine lv_aload_n hx hb dX11_feed_60 rfl (lo_at hl 0 rfl) ?_
    obtain ⟨k22, hw⟩ := hw
    refine r_getR hx hb hts hown hg hC fb_9_12 k22 mk_f_RX11_46 dX11_feed_61 ?_
    obtain ⟨k23, hw⟩ := hw
    refine rf_1 k23.1 ?_
    refine r_getI hx hb hts hown hg hC fb_6_1 k23.2 mk_f_RX11_163 dX11_feed_64 ?_
    exact ret_i hM hC hw dX11_feed_67
  ·
    replace hw := (if_neg c3).mp hw
    refine lv_iconst (v := -1) hx hb dX11_feed_16 (by decide) ?_
    exact ret_i hM hC hw dX11_feed_17
abbrev rm_X11_end : Room := { frames := 0, cells := 0, slots := 0, locals := 0 }
def wp_X11_end (o : Nat) (x1 : Int32) (h : Hp) (Q : Int32 → Hp → Prop) : Prop := (if x1 < 0 then (Q (0 : Int32) h) else (((hpK h o).1 = 20 + 9) ∧ (okO h (hpR h o 12) 6 ∧ ((if x1 ≤ (hpI h (ad (hpR h o 12)) 1) then (∀ h5 : Hp, h5 = stI h (ad (hpR h o 12)) 1 x1 → (Q (1 : Int32) h5)) else (Q (0 : Int32) h))))))
set_option maxHeartbeats 4000000 in
set_option maxRecDepth 100000 in
theorem c_X11_end (l : Launch) (G : GG) (base : Nat) (o : Nat) (x1 : Int32) (h : Hp) (Q : Int32 → Hp → Prop) (hw : wp_X11_end o x1 h Q) : Met l yX11_end (ww yX11_end cX11_end 2 (some .boolean)) rm_X11_end (va_Pc [.ref o, .int x1] (PU G base h)) (va_Qi Q (PU G base) (fun q => base ≤ q)) 0 0 (fun q => base ≤ q) := by
  refine met_of (own := RX11) (nm := "end") (by decide) rfl rfl (List.forall_mem_cons.mpr ⟨rfl, (List.forall_mem_cons.mpr ⟨rfl, (fun _ h => absurd h List.not_mem_nil)⟩)⟩) (Nat.le_of_ble_eq_true rfl) rfl ?_
  intro p e s m below meth c ls hM hC hl
  obtain ⟨hx, hb, hr, hml, hown, hts, hg, hs, hlk, hnm⟩ := id hM
  obtain ⟨args, hargs⟩ : ∃ a : Array Value, a = ([.ref o, .int x1] : List Value).toArray := ⟨_, rfl⟩
  rw [← hargs] at hM hts ⊢
  obtain ⟨H, hH⟩ : ∃ H : Heap, H = s.heap := ⟨_, rfl⟩
  obtain ⟨locs, hlocs⟩ : ∃ x : List Loc, x = [] := ⟨_, rfl⟩
  have hC : Cx G base h s.heap H locs := by rw [hH, hlocs]; exact hC
  show W p l e rm_X11_end s m args below meth c s.heap [] 0 0 (MQ below (va_Qi Q (PU G base) (fun q => base ≤ q)) args s 0 0 (fun q => base ≤ q)) (F0 m 0 ls [])
  rw [← hlocs]
  have hgoal : W p l e rm_X11_end s m args below meth c H locs 0 0 (MQ below (va_Qi Q (PU G base) (fun q => base ≤ q)) args s 0 0 (fun q => base ≤ q)) (F0 m 0 ls []) := ?_
  · rw [hH] at hgoal; exact hgoal
  clear hH hlocs
  unfold wp_X11_end at hw
  refine lv_iload_n hx hb dX11_end_0 rfl (lo_at hl 1 rfl) ?_
  refine lv_if_lt (tgt := 15) hx hb dX11_end_1 (by decide) (fun c1 => ?_) (fun c1 => ?_)
  ·
    replace hw := (if_pos c1).mp hw
    refine lv_iconst (v := 0) hx hb dX11_end_15 (by decide) ?_
    exact ret_z hM hC rfl hw dX11_end_16
  ·
    replace hw := (if_neg c1).mp hw
    refine lv_iload_n hx hb dX11_end_4 rfl (lo_at hl 1 rfl) ?_
    refine lv_aload_n hx hb dX11_end_5 rfl (lo_at hl 0 rfl) ?_
    obtain ⟨k2, hw⟩ := hw
    refine r_getR hx hb hts hown hg hC fb_9_12 k2 mk_f_RX11_46 dX11_end_6 ?_
    obtain ⟨k3, hw⟩ := hw
    refine rf_1 k3.1 ?_
    refine r_getI hx hb hts hown hg hC fb_6_1 k3.2 mk_f_RX11_163 dX11_end_9 ?_
    refine lv_icmp_le (tgt := 17) hx hb dX11_end_12 (by decide) (fun c4 => ?_) (fun c4 => ?_)
    ·
      replace hw := (if_pos c4).mp hw
      refine lv_aload_n hx hb dX11_end_17 rfl (lo_at hl 0 rfl) ?_
      refine r_getR hx hb hts hown hg hC fb_9_12 k2 mk_f_RX11_46 dX11_end_18 ?_
      refine lv_iload_n hx hb dX11_end_21 rfl (lo_at hl 1 rfl) ?_
      refine rf_2 k3.1 ?_
      refine r_putI hx hb hts hown hg hC fb_6_1 k3.2 rfl rfl mk_f_RX11_163 dX11_end_22 (fun h5 H locs eh5 hC => ?_)
      replace hw := hw h5 eh5
      refine lv_iconst (v := 1) hx hb dX11_end_25 (by decide) ?_
      exact ret_z hM hC rfl hw dX11_end_26
    ·
      replace hw := (if_neg c4).mp hw
      refine lv_iconst (v := 0) hx hb dX11_end_15 (by decide) ?_
      exact ret_z hM hC rfl hw dX11_end_16
abbrev rm_X11_fault : Room := { frames := 0, cells := 0, slots := 0, locals := 0 }
def wp_X11_fault (o : Nat) (x1 : Int32) (h : Hp) (Q : Int32 → Hp → Prop) : Prop := (if x1 = 0 then (((hpK h o).1 = 20 + 9) ∧ (okO h (hpR h o 13) 4 ∧ (Q (hpI h (ad (hpR h o 13)) 0) h))) else ((if x1 = (1 : Int32) then (((hpK h o).1 = 20 + 9) ∧ (okO h (hpR h o 13) 4 ∧ (Q (hpI h (ad (hpR h o 13)) 1) h))) else (Q (-1 : Int32) h))))
set_option maxHeartbeats 4000000 in
set_option maxRecDepth 100000 in
theorem c_X11_fault (l : Launch) (G : GG) (base : Nat) (o : Nat) (x1 : Int32) (h : Hp) (Q : Int32 → Hp → Prop) (hw : wp_X11_fault o x1 h Q) : Met l yX11_fault (ww yX11_fault cX11_fault 2 (some .int)) rm_X11_fault (va_Pc [.ref o, .int x1] (PU G base h)) (va_Qi Q (PU G base) (fun q => base ≤ q)) 0 0 (fun q => base ≤ q) := by
  refine met_of (own := RX11) (nm := "fault") (by decide) rfl rfl (List.forall_mem_cons.mpr ⟨rfl, (List.forall_mem_cons.mpr ⟨rfl, (fun _ h => absurd h List.not_mem_nil)⟩)⟩) (Nat.le_of_ble_eq_true rfl) rfl ?_
  intro p e s m below meth c ls hM hC hl
  obtain ⟨hx, hb, hr, hml, hown, hts, hg, hs, hlk, hnm⟩ := id hM
  obtain ⟨args, hargs⟩ : ∃ a : Array Value, a = ([.ref o, .int x1] : List Value).toArray := ⟨_, rfl⟩
  rw [← hargs] at hM hts ⊢
  obtain ⟨H, hH⟩ : ∃ H : Heap, H = s.heap := ⟨_, rfl⟩
  obtain ⟨locs, hlocs⟩ : ∃ x : List Loc, x = [] := ⟨_, rfl⟩
  have hC : Cx G base h s.heap H locs := by rw [hH, hlocs]; exact hC
  show W p l e rm_X11_fault s m args below meth c s.heap [] 0 0 (MQ below (va_Qi Q (PU G base) (fun q => base ≤ q)) args s 0 0 (fun q => base ≤ q)) (F0 m 0 ls [])
  rw [← hlocs]
  have hgoal : W p l e rm_X11_fault s m args below meth c H locs 0 0 (MQ below (va_Qi Q (PU G base) (fun q => base ≤ q)) args s 0 0 (fun q => base ≤ q)) (F0 m 0 ls []) := ?_
  · rw [hH] at hgoal; exact hgoal
  clear hH hlocs
  unfold wp_X11_fault at hw
  refine lv_iload_n hx hb dX11_fault_0 rfl (lo_at hl 1 rfl) ?_
  refine lv_if_ne (tgt := 12) hx hb dX11_fault_1 (by decide) (fun c1 => ?_) (fun c1 => ?_)
  ·
    replace hw := (if_neg c1).mp hw
    refine lv_iload_n hx hb dX11_fault_12 rfl (lo_at hl 1 rfl) ?_
    refine lv_iconst (v := 1) hx hb dX11_fault_13 (by decide) ?_
    refine lv_icmp_ne (tgt := 27) hx hb dX11_fault_14 (by decide) (fun c2 => ?_) (fun c2 => ?_)
    ·
      replace hw := (if_neg c2).mp hw
      refine lv_iconst (v := -1) hx hb dX11_fault_27 (by decide) ?_
      exact ret_i hM hC hw dX11_fault_28
    ·
      replace hw := (if_pos c2).mp hw
      refine lv_aload_n hx hb dX11_fault_17 rfl (lo_at hl 0 rfl) ?_
      obtain ⟨k3, hw⟩ := hw
      refine r_getR hx hb hts hown hg hC fb_9_13 k3 mk_f_RX11_55 dX11_fault_18 ?_
      obtain ⟨k4, hw⟩ := hw
      refine rf_1 k4.1 ?_
      refine r_getI hx hb hts hown hg hC fb_4_1 k4.2 mk_f_RX11_192 dX11_fault_21 ?_
      refine lv_goto (tgt := 28) hx hb dX11_fault_24 (by decide) ?_
      exact ret_i hM hC hw dX11_fault_28
  ·
    replace hw := (if_pos c1).mp hw
    refine lv_aload_n hx hb dX11_fault_4 rfl (lo_at hl 0 rfl) ?_
    obtain ⟨k5, hw⟩ := hw
    refine r_getR hx hb hts hown hg hC fb_9_13 k5 mk_f_RX11_55 dX11_fault_5 ?_
    obtain ⟨k6, hw⟩ := hw
    refine rf_1 k6.1 ?_
    refine r_getI hx hb hts hown hg hC fb_4_0 k6.2 mk_f_RX11_189 dX11_fault_8 ?_
    exact ret_i hM hC hw dX11_fault_11
abbrev rm_X11_look : Room := { frames := 0, cells := 0, slots := 0, locals := 0 }
def wp_X11_look (o : Nat) (x1 : Int32) (h : Hp) (Q : Int32 → Hp → Prop) : Prop := (if x1 = (0 : Int32) then (((hpK h o).1 = 20 + 9) ∧ (Q (hpI h o 1) h)) else if x1 = (1 : Int32) then (((hpK h o).1 = 20 + 9) ∧ (Q (hpI h o 3) h)) else if x1 = (2 : Int32) then (((hpK h o).1 = 20 + 9) ∧ (Q (hpI h o 5) h)) else if x1 = (3 : Int32) then (((hpK h o).1 = 20 + 9) ∧ (Q (hpI h o 8) h)) else if x1 = (4 : Int32) then (((hpK h o).1 = 20 + 9) ∧ (Q (hpI h o 10) h)) else if x1 = (5 : Int32) then (((hpK h o).1 = 20 + 9) ∧ (okO h (hpR h o 14) 5 ∧ (Q (hpI h (ad (hpR h o 14)) 7) h))) else if x1 = (6 : Int32) then (((hpK h o).1 = 20 + 9) ∧ (Q (hpI h o 6) h)) else Q (-1 : Int32) h)
set_option maxHeartbeats 4000000 in
set_option maxRecDepth 100000 in
theorem c_X11_look (l : Launch) (G : GG) (base : Nat) (o : Nat) (x1 : Int32) (h : Hp) (Q : Int32 → Hp → Prop) (hw : wp_X11_look o x1 h Q) : Met l yX11_look (ww yX11_look cX11_look 2 (some .int)) rm_X11_look (va_Pc [.ref o, .int x1] (PU G base h)) (va_Qi Q (PU G base) (fun q => base ≤ q)) 0 0 (fun q => base ≤ q) := by
  refine met_of (own := RX11) (nm := "look") (by decide) rfl rfl (List.forall_mem_cons.mpr ⟨rfl, (List.forall_mem_cons.mpr ⟨rfl, (fun _ h => absurd h List.not_mem_nil)⟩)⟩) (Nat.le_of_ble_eq_true rfl) rfl ?_
  intro p e s m below meth c ls hM hC hl
  obtain ⟨hx, hb, hr, hml, hown, hts, hg, hs, hlk, hnm⟩ := id hM
  obtain ⟨args, hargs⟩ : ∃ a : Array Value, a = ([.ref o, .int x1] : List Value).toArray := ⟨_, rfl⟩
  rw [← hargs] at hM hts ⊢
  obtain ⟨H, hH⟩ : ∃ H : Heap, H = s.heap := ⟨_, rfl⟩
  obtain ⟨locs, hlocs⟩ : ∃ x : List Loc, x = [] := ⟨_, rfl⟩
  have hC : Cx G base h s.heap H locs := by rw [hH, hlocs]; exact hC
  show W p l e rm_X11_look s m args below meth c s.heap [] 0 0 (MQ below (va_Qi Q (PU G base) (fun q => base ≤ q)) args s 0 0 (fun q => base ≤ q)) (F0 m 0 ls [])
  rw [← hlocs]
  have hgoal : W p l e rm_X11_look s m args below meth c H locs 0 0 (MQ below (va_Qi Q (PU G base) (fun q => base ≤ q)) args s 0 0 (fun q => base ≤ q)) (F0 m 0 ls []) := ?_
  · rw [hH] at hgoal; exact hgoal
  clear hH hlocs
  unfold wp_X11_look at hw
  refine lv_iload_n hx hb dX11_look_0 rfl (lo_at hl 1 rfl) ?_
  by_cases c1 : x1 = (0 : Int32)
  ·
    replace hw := (if_pos c1).mp hw
    refine lv_tableIn (tgt := 44) hx hb dX11_look_1 (by rw [c1]; decide) (by rw [c1]; decide) (by rw [c1]; first | done | rfl) (by decide) ?_
    refine lv_aload_n hx hb dX11_look_44 rfl (lo_at hl 0 rfl) ?_
    obtain ⟨k2, hw⟩ := hw
    refine r_getI hx hb hts hown hg hC fb_9_1 k2 mk_f_RX11_73 dX11_look_45 ?_
    exact ret_i hM hC hw dX11_look_48
  replace hw := (if_neg c1).mp hw
  by_cases c3 : x1 = (1 : Int32)
  ·
    replace hw := (if_pos c3).mp hw
    refine lv_tableIn (tgt := 49) hx hb dX11_look_1 (by rw [c3]; decide) (by rw [c3]; decide) (by rw [c3]; first | done | rfl) (by decide) ?_
    refine lv_aload_n hx hb dX11_look_49 rfl (lo_at hl 0 rfl) ?_
    obtain ⟨k4, hw⟩ := hw
    refine r_getI hx hb hts hown hg hC fb_9_3 k4 mk_f_RX11_95 dX11_look_50 ?_
    exact ret_i hM hC hw dX11_look_53
  replace hw := (if_neg c3).mp hw
  by_cases c5 : x1 = (2 : Int32)
  ·
    replace hw := (if_pos c5).mp hw
    refine lv_tableIn (tgt := 54) hx hb dX11_look_1 (by rw [c5]; decide) (by rw [c5]; decide) (by rw [c5]; first | done | rfl) (by decide) ?_
    refine lv_aload_n hx hb dX11_look_54 rfl (lo_at hl 0 rfl) ?_
    obtain ⟨k6, hw⟩ := hw
    refine r_getI hx hb hts hown hg hC fb_9_5 k6 mk_f_RX11_122 dX11_look_55 ?_
    exact ret_i hM hC hw dX11_look_58
  replace hw := (if_neg c5).mp hw
  by_cases c7 : x1 = (3 : Int32)
  ·
    replace hw := (if_pos c7).mp hw
    refine lv_tableIn (tgt := 59) hx hb dX11_look_1 (by rw [c7]; decide) (by rw [c7]; decide) (by rw [c7]; first | done | rfl) (by decide) ?_
    refine lv_aload_n hx hb dX11_look_59 rfl (lo_at hl 0 rfl) ?_
    obtain ⟨k8, hw⟩ := hw
    refine r_getI hx hb hts hown hg hC fb_9_8 k8 mk_f_RX11_195 dX11_look_60 ?_
    exact ret_i hM hC hw dX11_look_63
  replace hw := (if_neg c7).mp hw
  by_cases c9 : x1 = (4 : Int32)
  ·
    replace hw := (if_pos c9).mp hw
    refine lv_tableIn (tgt := 64) hx hb dX11_look_1 (by rw [c9]; decide) (by rw [c9]; decide) (by rw [c9]; first | done | rfl) (by decide) ?_
    refine lv_aload_n hx hb dX11_look_64 rfl (lo_at hl 0 rfl) ?_
    obtain ⟨k10, hw⟩ := hw
    refine r_getI hx hb hts hown hg hC fb_9_10 k10 mk_f_RX11_258 dX11_look_65 ?_
    exact ret_i hM hC hw dX11_look_68
  replace hw := (if_neg c9).mp hw
  by_cases c11 : x1 = (5 : Int32)
  ·
    replace hw := (if_pos c11).mp hw
    refine lv_tableIn (tgt := 69) hx hb dX11_look_1 (by rw [c11]; decide) (by rw [c11]; decide) (by rw [c11]; first | done | rfl) (by decide) ?_
    refine lv_aload_n hx hb dX11_look_69 rfl (lo_at hl 0 rfl) ?_
    obtain ⟨k12, hw⟩ := hw
    refine r_getR hx hb hts hown hg hC fb_9_14 k12 mk_f_RX11_62 dX11_look_70 ?_
    obtain ⟨k13, hw⟩ := hw
    refine rf_1 k13.1 ?_
    refine r_getI hx hb hts hown hg hC fb_5_7 k13.2 mk_f_RX11_177 dX11_look_73 ?_
    exact ret_i hM hC hw dX11_look_76
  replace hw := (if_neg c11).mp hw
  by_cases c14 : x1 = (6 : Int32)
  ·
    replace hw := (if_pos c14).mp hw
    refine lv_tableIn (tgt := 77) hx hb dX11_look_1 (by rw [c14]; decide) (by rw [c14]; decide) (by rw [c14]; first | done | rfl) (by decide) ?_
    refine lv_aload_n hx hb dX11_look_77 rfl (lo_at hl 0 rfl) ?_
    obtain ⟨k15, hw⟩ := hw
    refine r_getI hx hb hts hown hg hC fb_9_6 k15 mk_f_RX11_137 dX11_look_78 ?_
    exact ret_i hM hC hw dX11_look_81
  replace hw := (if_neg c14).mp hw
  refine lv_tableOut (tgt := 82) hx hb dX11_look_1 (sw_out 0 7 (by decide) (fun k hk => match k, hk with | 0, _ => c1 | 1, _ => c3 | 2, _ => c5 | 3, _ => c7 | 4, _ => c9 | 5, _ => c11 | 6, _ => c14 | k + 7, hk => absurd hk (by omega))) (by decide) ?_
  refine lv_iconst (v := -1) hx hb dX11_look_82 (by decide) ?_
  exact ret_i hM hC hw dX11_look_83
abbrev rm_X11_isHair : Room := { frames := 0, cells := 0, slots := 0, locals := 0 }
def wp_X11_isHair (x0 : Int32) (h : Hp) (Q : Int32 → Hp → Prop) : Prop := (if x0 < 0 then (Q (0 : Int32) h) else ((if (32 : Int32) ≤ x0 then (Q (0 : Int32) h) else (Q (1 : Int32) h))))
set_option maxHeartbeats 4000000 in
set_option maxRecDepth 100000 in
theorem c_X11_isHair (l : Launch) (G : GG) (base : Nat) (x0 : Int32) (h : Hp) (Q : Int32 → Hp → Prop) (hw : wp_X11_isHair x0 h Q) : Met l yX11_isHair (ww yX11_isHair cX11_isHair 1 (some .boolean)) rm_X11_isHair (va_Pc [.int x0] (PU G base h)) (va_Qi Q (PU G base) (fun q => base ≤ q)) 0 0 (fun q => base ≤ q) := by
  refine met_of (own := RX11) (nm := "isHair") (by decide) rfl rfl (List.forall_mem_cons.mpr ⟨rfl, (fun _ h => absurd h List.not_mem_nil)⟩) (Nat.le_of_ble_eq_true rfl) rfl ?_
  intro p e s m below meth c ls hM hC hl
  obtain ⟨hx, hb, hr, hml, hown, hts, hg, hs, hlk, hnm⟩ := id hM
  obtain ⟨args, hargs⟩ : ∃ a : Array Value, a = ([.int x0] : List Value).toArray := ⟨_, rfl⟩
  rw [← hargs] at hM hts ⊢
  obtain ⟨H, hH⟩ : ∃ H : Heap, H = s.heap := ⟨_, rfl⟩
  obtain ⟨locs, hlocs⟩ : ∃ x : List Loc, x = [] := ⟨_, rfl⟩
  have hC : Cx G base h s.heap H locs := by rw [hH, hlocs]; exact hC
  show W p l e rm_X11_isHair s m args below meth c s.heap [] 0 0 (MQ below (va_Qi Q (PU G base) (fun q => base ≤ q)) args s 0 0 (fun q => base ≤ q)) (F0 m 0 ls [])
  rw [← hlocs]
  have hgoal : W p l e rm_X11_isHair s m args below meth c H locs 0 0 (MQ below (va_Qi Q (PU G base) (fun q => base ≤ q)) args s 0 0 (fun q => base ≤ q)) (F0 m 0 ls []) := ?_
  · rw [hH] at hgoal; exact hgoal
  clear hH hlocs
  unfold wp_X11_isHair at hw
  refine lv_iload_n hx hb dX11_isHair_0 rfl (lo_at hl 0 rfl) ?_
  refine lv_if_lt (tgt := 14) hx hb dX11_isHair_1 (by decide) (fun c1 => ?_) (fun c1 => ?_)
  ·
    replace hw := (if_pos c1).mp hw
    refine lv_iconst (v := 0) hx hb dX11_isHair_14 (by decide) ?_
    exact ret_z hM hC rfl hw dX11_isHair_15
  ·
    replace hw := (if_neg c1).mp hw
    refine lv_iload_n hx hb dX11_isHair_4 rfl (lo_at hl 0 rfl) ?_
    refine lv_bipush (v := 32) hx hb dX11_isHair_5 (by decide) ?_
    refine lv_icmp_ge (tgt := 14) hx hb dX11_isHair_7 (by decide) (fun c2 => ?_) (fun c2 => ?_)
    ·
      replace hw := (if_pos c2).mp hw
      refine lv_iconst (v := 0) hx hb dX11_isHair_14 (by decide) ?_
      exact ret_z hM hC rfl hw dX11_isHair_15
    ·
      replace hw := (if_neg c2).mp hw
      refine lv_iconst (v := 1) hx hb dX11_isHair_10 (by decide) ?_
      refine lv_goto (tgt := 15) hx hb dX11_isHair_11 (by decide) ?_
      exact ret_z hM hC rfl hw dX11_isHair_15
abbrev rm_X11_isHeight : Room := { frames := 0, cells := 0, slots := 0, locals := 0 }
def wp_X11_isHeight (x0 : Int32) (h : Hp) (Q : Int32 → Hp → Prop) : Prop := (if x0 < 0 then (Q (0 : Int32) h) else ((if (63 : Int32) < x0 then (Q (0 : Int32) h) else (Q (1 : Int32) h))))
set_option maxHeartbeats 4000000 in
set_option maxRecDepth 100000 in
theorem c_X11_isHeight (l : Launch) (G : GG) (base : Nat) (x0 : Int32) (h : Hp) (Q : Int32 → Hp → Prop) (hw : wp_X11_isHeight x0 h Q) : Met l yX11_isHeight (ww yX11_isHeight cX11_isHeight 1 (some .boolean)) rm_X11_isHeight (va_Pc [.int x0] (PU G base h)) (va_Qi Q (PU G base) (fun q => base ≤ q)) 0 0 (fun q => base ≤ q) := by
  refine met_of (own := RX11) (nm := "isHeight") (by decide) rfl rfl (List.forall_mem_cons.mpr ⟨rfl, (fun _ h => absurd h List.not_mem_nil)⟩) (Nat.le_of_ble_eq_true rfl) rfl ?_
  intro p e s m below meth c ls hM hC hl
  obtain ⟨hx, hb, hr, hml, hown, hts, hg, hs, hlk, hnm⟩ := id hM
  obtain ⟨args, hargs⟩ : ∃ a : Array Value, a = ([.int x0] : List Value).toArray := ⟨_, rfl⟩
  rw [← hargs] at hM hts ⊢
  obtain ⟨H, hH⟩ : ∃ H : Heap, H = s.heap := ⟨_, rfl⟩
  obtain ⟨locs, hlocs⟩ : ∃ x : List Loc, x = [] := ⟨_, rfl⟩
  have hC : Cx G base h s.heap H locs := by rw [hH, hlocs]; exact hC
  show W p l e rm_X11_isHeight s m args below meth c s.heap [] 0 0 (MQ below (va_Qi Q (PU G base) (fun q => base ≤ q)) args s 0 0 (fun q => base ≤ q)) (F0 m 0 ls [])
  rw [← hlocs]
  have hgoal : W p l e rm_X11_isHeight s m args below meth c H locs 0 0 (MQ below (va_Qi Q (PU G base) (fun q => base ≤ q)) args s 0 0 (fun q => base ≤ q)) (F0 m 0 ls []) := ?_
  · rw [hH] at hgoal; exact hgoal
  clear hH hlocs
  unfold wp_X11_isHeight at hw
  refine lv_iload_n hx hb dX11_isHeight_0 rfl (lo_at hl 0 rfl) ?_
  refine lv_if_lt (tgt := 14) hx hb dX11_isHeight_1 (by decide) (fun c1 => ?_) (fun c1 => ?_)
  ·
    replace hw := (if_pos c1).mp hw
    refine lv_iconst (v := 0) hx hb dX11_isHeight_14 (by decide) ?_
    exact ret_z hM hC rfl hw dX11_isHeight_15
  ·
    replace hw := (if_neg c1).mp hw
    refine lv_iload_n hx hb dX11_isHeight_4 rfl (lo_at hl 0 rfl) ?_
    refine lv_bipush (v := 63) hx hb dX11_isHeight_5 (by decide) ?_
    refine lv_icmp_gt (tgt := 14) hx hb dX11_isHeight_7 (by decide) (fun c2 => ?_) (fun c2 => ?_)
    ·
      replace hw := (if_pos c2).mp hw
      refine lv_iconst (v := 0) hx hb dX11_isHeight_14 (by decide) ?_
      exact ret_z hM hC rfl hw dX11_isHeight_15
    ·
      replace hw := (if_neg c2).mp hw
      refine lv_iconst (v := 1) hx hb dX11_isHeight_10 (by decide) ?_
      refine lv_goto (tgt := 15) hx hb dX11_isHeight_11 (by decide) ?_
      exact ret_z hM hC rfl hw dX11_isHeight_15
abbrev rm_X11_toolAt : Room := { frames := 0, cells := 0, slots := 0, locals := 0 }
def wp_X11_toolAt (o : Nat) (x1 : Int32) (h : Hp) (Q : Option Nat → Hp → Prop) : Prop := (if x1 < 0 then (Q none h) else ((if (6 : Int32) ≤ x1 then (Q none h) else (((hpK h o).1 = 20 + 9) ∧ (okA h (hpR h o 0) 10 x1 ∧ (Q (hpR h (ad (hpR h o 0)) (x1).toNatClampNeg) h))))))
set_option maxHeartbeats 4000000 in
set_option maxRecDepth 100000 in
theorem c_X11_toolAt (l : Launch) (G : GG) (base : Nat) (o : Nat) (x1 : Int32) (h : Hp) (Q : Option Nat → Hp → Prop) (hw : wp_X11_toolAt o x1 h Q) : Met l yX11_toolAt (ww yX11_toolAt cX11_toolAt 2 (some (.object "OneBarrel$Tool"))) rm_X11_toolAt (va_Pc [.ref o, .int x1] (PU G base h)) (va_Qq Q (PU G base) (fun q => base ≤ q)) 0 0 (fun q => base ≤ q) := by
  refine met_of (own := RX11) (nm := "toolAt") (by decide) rfl rfl (List.forall_mem_cons.mpr ⟨rfl, (List.forall_mem_cons.mpr ⟨rfl, (fun _ h => absurd h List.not_mem_nil)⟩)⟩) (Nat.le_of_ble_eq_true rfl) rfl ?_
  intro p e s m below meth c ls hM hC hl
  obtain ⟨hx, hb, hr, hml, hown, hts, hg, hs, hlk, hnm⟩ := id hM
  obtain ⟨args, hargs⟩ : ∃ a : Array Value, a = ([.ref o, .int x1] : List Value).toArray := ⟨_, rfl⟩
  rw [← hargs] at hM hts ⊢
  obtain ⟨H, hH⟩ : ∃ H : Heap, H = s.heap := ⟨_, rfl⟩
  obtain ⟨locs, hlocs⟩ : ∃ x : List Loc, x = [] := ⟨_, rfl⟩
  have hC : Cx G base h s.heap H locs := by rw [hH, hlocs]; exact hC
  show W p l e rm_X11_toolAt s m args below meth c s.heap [] 0 0 (MQ below (va_Qq Q (PU G base) (fun q => base ≤ q)) args s 0 0 (fun q => base ≤ q)) (F0 m 0 ls [])
  rw [← hlocs]
  have hgoal : W p l e rm_X11_toolAt s m args below meth c H locs 0 0 (MQ below (va_Qq Q (PU G base) (fun q => base ≤ q)) args s 0 0 (fun q => base ≤ q)) (F0 m 0 ls []) := ?_
  · rw [hH] at hgoal; exact hgoal
  clear hH hlocs
  unfold wp_X11_toolAt at hw
  refine lv_iload_n hx hb dX11_toolAt_0 rfl (lo_at hl 1 rfl) ?_
  refine lv_if_lt (tgt := 19) hx hb dX11_toolAt_1 (by decide) (fun c1 => ?_) (fun c1 => ?_)
  ·
    replace hw := (if_pos c1).mp hw
    refine lv_null hx hb dX11_toolAt_19 ?_
    exact ret_q (r := none) (Or.inl ⟨_, rfl⟩) hM hC hw dX11_toolAt_20
  ·
    replace hw := (if_neg c1).mp hw
    refine lv_iload_n hx hb dX11_toolAt_4 rfl (lo_at hl 1 rfl) ?_
    refine lv_bipush (v := 6) hx hb dX11_toolAt_5 (by decide) ?_
    refine lv_icmp_ge (tgt := 19) hx hb dX11_toolAt_7 (by decide) (fun c2 => ?_) (fun c2 => ?_)
    ·
      replace hw := (if_pos c2).mp hw
      refine lv_null hx hb dX11_toolAt_19 ?_
      exact ret_q (r := none) (Or.inl ⟨_, rfl⟩) hM hC hw dX11_toolAt_20
    ·
      replace hw := (if_neg c2).mp hw
      refine lv_aload_n hx hb dX11_toolAt_10 rfl (lo_at hl 0 rfl) ?_
      obtain ⟨k3, hw⟩ := hw
      refine r_getR hx hb hts hown hg hC fb_9_0 k3 mk_f_RX11_11 dX11_toolAt_11 ?_
      refine lv_iload_n hx hb dX11_toolAt_14 rfl (lo_at hl 1 rfl) ?_
      obtain ⟨k4, hw⟩ := hw
      refine rf_2 k4.1 ?_
      refine r_aald (kd := 10) (t0 := 6) hx hb hg hC k4.2.1 (by decide) rfl k4.2.2 dX11_toolAt_15 ?_
      refine lv_goto (tgt := 20) hx hb dX11_toolAt_16 (by decide) ?_
      exact ret_q (r := hpR h (ad (hpR h o 0)) (x1).toNatClampNeg) (Or.inl ⟨_, rfl⟩) hM hC hw dX11_toolAt_20
abbrev rm_X11_barrelAt : Room := { frames := 0, cells := 0, slots := 0, locals := 0 }
def wp_X11_barrelAt (o : Nat) (x1 : Int32) (h : Hp) (Q : Option Nat → Hp → Prop) : Prop := (if x1 < 0 then (Q none h) else ((if (16 : Int32) ≤ x1 then (Q none h) else (((hpK h o).1 = 20 + 9) ∧ (okA h (hpR h o 2) 4 x1 ∧ (Q (hpR h (ad (hpR h o 2)) (x1).toNatClampNeg) h))))))
set_option maxHeartbeats 4000000 in
set_option maxRecDepth 100000 in
theorem c_X11_barrelAt (l : Launch) (G : GG) (base : Nat) (o : Nat) (x1 : Int32) (h : Hp) (Q : Option Nat → Hp → Prop) (hw : wp_X11_barrelAt o x1 h Q) : Met l yX11_barrelAt (ww yX11_barrelAt cX11_barrelAt 2 (some (.object "OneBarrel$Barrel"))) rm_X11_barrelAt (va_Pc [.ref o, .int x1] (PU G base h)) (va_Qq Q (PU G base) (fun q => base ≤ q)) 0 0 (fun q => base ≤ q) := by
  refine met_of (own := RX11) (nm := "barrelAt") (by decide) rfl rfl (List.forall_mem_cons.mpr ⟨rfl, (List.forall_mem_cons.mpr ⟨rfl, (fun _ h => absurd h List.not_mem_nil)⟩)⟩) (Nat.le_of_ble_eq_true rfl) rfl ?_
  intro p e s m below meth c ls hM hC hl
  obtain ⟨hx, hb, hr, hml, hown, hts, hg, hs, hlk, hnm⟩ := id hM
  obtain ⟨args, hargs⟩ : ∃ a : Array Value, a = ([.ref o, .int x1] : List Value).toArray := ⟨_, rfl⟩
  rw [← hargs] at hM hts ⊢
  obtain ⟨H, hH⟩ : ∃ H : Heap, H = s.heap := ⟨_, rfl⟩
  obtain ⟨locs, hlocs⟩ : ∃ x : List Loc, x = [] := ⟨_, rfl⟩
  have hC : Cx G base h s.heap H locs := by rw [hH, hlocs]; exact hC
  show W p l e rm_X11_barrelAt s m args below meth c s.heap [] 0 0 (MQ below (va_Qq Q (PU G base) (fun q => base ≤ q)) args s 0 0 (fun q => base ≤ q)) (F0 m 0 ls [])
  rw [← hlocs]
  have hgoal : W p l e rm_X11_barrelAt s m args below meth c H locs 0 0 (MQ below (va_Qq Q (PU G base) (fun q => base ≤ q)) args s 0 0 (fun q => base ≤ q)) (F0 m 0 ls []) := ?_
  · rw [hH] at hgoal; exact hgoal
  clear hH hlocs
  unfold wp_X11_barrelAt at hw
  refine lv_iload_n hx hb dX11_barrelAt_0 rfl (lo_at hl 1 rfl) ?_
  refine lv_if_lt (tgt := 19) hx hb dX11_barrelAt_1 (by decide) (fun c1 => ?_) (fun c1 => ?_)
  ·
    replace hw := (if_pos c1).mp hw
    refine lv_null hx hb dX11_barrelAt_19 ?_
    exact ret_q (r := none) (Or.inl ⟨_, rfl⟩) hM hC hw dX11_barrelAt_20
  ·
    replace hw := (if_neg c1).mp hw
    refine lv_iload_n hx hb dX11_barrelAt_4 rfl (lo_at hl 1 rfl) ?_
    refine lv_bipush (v := 16) hx hb dX11_barrelAt_5 (by decide) ?_
    refine lv_icmp_ge (tgt := 19) hx hb dX11_barrelAt_7 (by decide) (fun c2 => ?_) (fun c2 => ?_)
    ·
      replace hw := (if_pos c2).mp hw
      refine lv_null hx hb dX11_barrelAt_19 ?_
      exact ret_q (r := none) (Or.inl ⟨_, rfl⟩) hM hC hw dX11_barrelAt_20
    ·
      replace hw := (if_neg c2).mp hw
      refine lv_aload_n hx hb dX11_barrelAt_10 rfl (lo_at hl 0 rfl) ?_
      obtain ⟨k3, hw⟩ := hw
      refine r_getR hx hb hts hown hg hC fb_9_2 k3 mk_f_RX11_17 dX11_barrelAt_11 ?_
      refine lv_iload_n hx hb dX11_barrelAt_14 rfl (lo_at hl 1 rfl) ?_
      obtain ⟨k4, hw⟩ := hw
      refine rf_2 k4.1 ?_
      refine r_aald (kd := 4) (t0 := 3) hx hb hg hC k4.2.1 (by decide) rfl k4.2.2 dX11_barrelAt_15 ?_
      refine lv_goto (tgt := 20) hx hb dX11_barrelAt_16 (by decide) ?_
      exact ret_q (r := hpR h (ad (hpR h o 2)) (x1).toNatClampNeg) (Or.inl ⟨_, rfl⟩) hM hC hw dX11_barrelAt_20
abbrev rm_X11_ballAt : Room := { frames := 0, cells := 0, slots := 0, locals := 0 }
def wp_X11_ballAt (o : Nat) (x1 : Int32) (h : Hp) (Q : Option Nat → Hp → Prop) : Prop := (if x1 < 0 then (Q none h) else ((if (40 : Int32) ≤ x1 then (Q none h) else (((hpK h o).1 = 20 + 9) ∧ (okA h (hpR h o 4) 3 x1 ∧ (Q (hpR h (ad (hpR h o 4)) (x1).toNatClampNeg) h))))))
set_option maxHeartbeats 4000000 in
set_option maxRecDepth 100000 in
theorem c_X11_ballAt (l : Launch) (G : GG) (base : Nat) (o : Nat) (x1 : Int32) (h : Hp) (Q : Option Nat → Hp → Prop) (hw : wp_X11_ballAt o x1 h Q) : Met l yX11_ballAt (ww yX11_ballAt cX11_ballAt 2 (some (.object "OneBarrel$Ball"))) rm_X11_ballAt (va_Pc [.ref o, .int x1] (PU G base h)) (va_Qq Q (PU G base) (fun q => base ≤ q)) 0 0 (fun q => base ≤ q) := by
  refine met_of (own := RX11) (nm := "ballAt") (by decide) rfl rfl (List.forall_mem_cons.mpr ⟨rfl, (List.forall_mem_cons.mpr ⟨rfl, (fun _ h => absurd h List.not_mem_nil)⟩)⟩) (Nat.le_of_ble_eq_true rfl) rfl ?_
  intro p e s m below meth c ls hM hC hl
  obtain ⟨hx, hb, hr, hml, hown, hts, hg, hs, hlk, hnm⟩ := id hM
  obtain ⟨args, hargs⟩ : ∃ a : Array Value, a = ([.ref o, .int x1] : List Value).toArray := ⟨_, rfl⟩
  rw [← hargs] at hM hts ⊢
  obtain ⟨H, hH⟩ : ∃ H : Heap, H = s.heap := ⟨_, rfl⟩
  obtain ⟨locs, hlocs⟩ : ∃ x : List Loc, x = [] := ⟨_, rfl⟩
  have hC : Cx G base h s.heap H locs := by rw [hH, hlocs]; exact hC
  show W p l e rm_X11_ballAt s m args below meth c s.heap [] 0 0 (MQ below (va_Qq Q (PU G base) (fun q => base ≤ q)) args s 0 0 (fun q => base ≤ q)) (F0 m 0 ls [])
  rw [← hlocs]
  have hgoal : W p l e rm_X11_ballAt s m args below meth c H locs 0 0 (MQ below (va_Qq Q (PU G base) (fun q => base ≤ q)) args s 0 0 (fun q => base ≤ q)) (F0 m 0 ls []) := ?_
  · rw [hH] at hgoal; exact hgoal
  clear hH hlocs
  unfold wp_X11_ballAt at hw
  refine lv_iload_n hx hb dX11_ballAt_0 rfl (lo_at hl 1 rfl) ?_
  refine lv_if_lt (tgt := 19) hx hb dX11_ballAt_1 (by decide) (fun c1 => ?_) (fun c1 => ?_)
  ·
    replace hw := (if_pos c1).mp hw
    refine lv_null hx hb dX11_ballAt_19 ?_
    exact ret_q (r := none) (Or.inl ⟨_, rfl⟩) hM hC hw dX11_ballAt_20
  ·
    replace hw := (if_neg c1).mp hw
    refine lv_iload_n hx hb dX11_ballAt_4 rfl (lo_at hl 1 rfl) ?_
    refine lv_bipush (v := 40) hx hb dX11_ballAt_5 (by decide) ?_
    refine lv_icmp_ge (tgt := 19) hx hb dX11_ballAt_7 (by decide) (fun c2 => ?_) (fun c2 => ?_)
    ·
      replace hw := (if_pos c2).mp hw
      refine lv_null hx hb dX11_ballAt_19 ?_
      exact ret_q (r := none) (Or.inl ⟨_, rfl⟩) hM hC hw dX11_ballAt_20
    ·
      replace hw := (if_neg c2).mp hw
      refine lv_aload_n hx hb dX11_ballAt_10 rfl (lo_at hl 0 rfl) ?_
      obtain ⟨k3, hw⟩ := hw
      refine r_getR hx hb hts hown hg hC fb_9_4 k3 mk_f_RX11_23 dX11_ballAt_11 ?_
      refine lv_iload_n hx hb dX11_ballAt_14 rfl (lo_at hl 1 rfl) ?_
      obtain ⟨k4, hw⟩ := hw
      refine rf_2 k4.1 ?_
      refine r_aald (kd := 3) (t0 := 2) hx hb hg hC k4.2.1 (by decide) rfl k4.2.2 dX11_ballAt_15 ?_
      refine lv_goto (tgt := 20) hx hb dX11_ballAt_16 (by decide) ?_
      exact ret_q (r := hpR h (ad (hpR h o 4)) (x1).toNatClampNeg) (Or.inl ⟨_, rfl⟩) hM hC hw dX11_ballAt_20
abbrev rm_X11_lookerAt : Room := { frames := 0, cells := 0, slots := 0, locals := 0 }
def wp_X11_lookerAt (o : Nat) (x1 : Int32) (h : Hp) (Q : Option Nat → Hp → Prop) : Prop := (if x1 < 0 then (Q none h) else ((if (6 : Int32) ≤ x1 then (Q none h) else (((hpK h o).1 = 20 + 9) ∧ (okA h (hpR h o 7) 5 x1 ∧ (Q (hpR h (ad (hpR h o 7)) (x1).toNatClampNeg) h))))))
set_option maxHeartbeats 4000000 in
set_option maxRecDepth 100000 in
theorem c_X11_lookerAt (l : Launch) (G : GG) (base : Nat) (o : Nat) (x1 : Int32) (h : Hp) (Q : Option Nat → Hp → Prop) (hw : wp_X11_lookerAt o x1 h Q) : Met l yX11_lookerAt (ww yX11_lookerAt cX11_lookerAt 2 (some (.object "OneBarrel$Looker"))) rm_X11_lookerAt (va_Pc [.ref o, .int x1] (PU G base h)) (va_Qq Q (PU G base) (fun q => base ≤ q)) 0 0 (fun q => base ≤ q) := by
  refine met_of (own := RX11) (nm := "lookerAt") (by decide) rfl rfl (List.forall_mem_cons.mpr ⟨rfl, (List.forall_mem_cons.mpr ⟨rfl, (fun _ h => absurd h List.not_mem_nil)⟩)⟩) (Nat.le_of_ble_eq_true rfl) rfl ?_
  intro p e s m below meth c ls hM hC hl
  obtain ⟨hx, hb, hr, hml, hown, hts, hg, hs, hlk, hnm⟩ := id hM
  obtain ⟨args, hargs⟩ : ∃ a : Array Value, a = ([.ref o, .int x1] : List Value).toArray := ⟨_, rfl⟩
  rw [← hargs] at hM hts ⊢
  obtain ⟨H, hH⟩ : ∃ H : Heap, H = s.heap := ⟨_, rfl⟩
  obtain ⟨locs, hlocs⟩ : ∃ x : List Loc, x = [] := ⟨_, rfl⟩
  have hC : Cx G base h s.heap H locs := by rw [hH, hlocs]; exact hC
  show W p l e rm_X11_lookerAt s m args below meth c s.heap [] 0 0 (MQ below (va_Qq Q (PU G base) (fun q => base ≤ q)) args s 0 0 (fun q => base ≤ q)) (F0 m 0 ls [])
  rw [← hlocs]
  have hgoal : W p l e rm_X11_lookerAt s m args below meth c H locs 0 0 (MQ below (va_Qq Q (PU G base) (fun q => base ≤ q)) args s 0 0 (fun q => base ≤ q)) (F0 m 0 ls []) := ?_
  · rw [hH] at hgoal; exact hgoal
  clear hH hlocs
  unfold wp_X11_lookerAt at hw
  refine lv_iload_n hx hb dX11_lookerAt_0 rfl (lo_at hl 1 rfl) ?_
  refine lv_if_lt (tgt := 19) hx hb dX11_lookerAt_1 (by decide) (fun c1 => ?_) (fun c1 => ?_)
  ·
    replace hw := (if_pos c1).mp hw
    refine lv_null hx hb dX11_lookerAt_19 ?_
    exact ret_q (r := none) (Or.inl ⟨_, rfl⟩) hM hC hw dX11_lookerAt_20
  ·
    replace hw := (if_neg c1).mp hw
    refine lv_iload_n hx hb dX11_lookerAt_4 rfl (lo_at hl 1 rfl) ?_
    refine lv_bipush (v := 6) hx hb dX11_lookerAt_5 (by decide) ?_
    refine lv_icmp_ge (tgt := 19) hx hb dX11_lookerAt_7 (by decide) (fun c2 => ?_) (fun c2 => ?_)
    ·
      replace hw := (if_pos c2).mp hw
      refine lv_null hx hb dX11_lookerAt_19 ?_
      exact ret_q (r := none) (Or.inl ⟨_, rfl⟩) hM hC hw dX11_lookerAt_20
    ·
      replace hw := (if_neg c2).mp hw
      refine lv_aload_n hx hb dX11_lookerAt_10 rfl (lo_at hl 0 rfl) ?_
      obtain ⟨k3, hw⟩ := hw
      refine r_getR hx hb hts hown hg hC fb_9_7 k3 mk_f_RX11_29 dX11_lookerAt_11 ?_
      refine lv_iload_n hx hb dX11_lookerAt_14 rfl (lo_at hl 1 rfl) ?_
      obtain ⟨k4, hw⟩ := hw
      refine rf_2 k4.1 ?_
      refine r_aald (kd := 5) (t0 := 4) hx hb hg hC k4.2.1 (by decide) rfl k4.2.2 dX11_lookerAt_15 ?_
      refine lv_goto (tgt := 20) hx hb dX11_lookerAt_16 (by decide) ?_
      exact ret_q (r := hpR h (ad (hpR h o 7)) (x1).toNatClampNeg) (Or.inl ⟨_, rfl⟩) hM hC hw dX11_lookerAt_20
abbrev rm_X11_rowOf : Room := { frames := 1, cells := 0, slots := 0, locals := 21 }
def wp_X11_rowOf (o : Nat) (x1 : Int32) (x2 : Int32) (h : Hp) (Q : Option Nat → Hp → Prop) : Prop := (if x1 = 0 then (((hpK h o).1 = 20 + 9) ∧ (wp_X11_toolAt o x2 h (fun (z16 : Option Nat) (h15 : Hp) => (if z16 = none then (Q none h15) else (okO h15 z16 7 ∧ (Q (hpR h15 (ad z16) 0) h15)))))) else ((if x1 = (1 : Int32) then (((hpK h o).1 = 20 + 9) ∧ (wp_X11_barrelAt o x2 h (fun (z11 : Option Nat) (h10 : Hp) => (if z11 = none then (Q none h10) else (okO h10 z11 1 ∧ (Q (hpR h10 (ad z11) 3) h10)))))) else (((hpK h o).1 = 20 + 9) ∧ (wp_X11_ballAt o x2 h (fun (z5 : Option Nat) (h4 : Hp) => (if x1 = (2 : Int32) then ((if z5 = none then (Q none h4) else (okO h4 z5 0 ∧ (Q (hpR h4 (ad z5) 4) h4)))) else (Q none h4))))))))
set_option maxHeartbeats 4000000 in
set_option maxRecDepth 100000 in
theorem c_X11_rowOf (l : Launch) (G : GG) (base : Nat) (o : Nat) (x1 : Int32) (x2 : Int32) (h : Hp) (Q : Option Nat → Hp → Prop) (hw : wp_X11_rowOf o x1 x2 h Q) : Met l yX11_rowOf (ww yX11_rowOf cX11_rowOf 4 (some (.array .int))) rm_X11_rowOf (va_Pc [.ref o, .int x1, .int x2] (PU G base h)) (va_Qq Q (PU G base) (fun q => base ≤ q)) 0 0 (fun q => base ≤ q) := by
  refine met_of (own := RX11) (nm := "rowOf") (by decide) rfl rfl (List.forall_mem_cons.mpr ⟨rfl, (List.forall_mem_cons.mpr ⟨rfl, (List.forall_mem_cons.mpr ⟨rfl, (fun _ h => absurd h List.not_mem_nil)⟩)⟩)⟩) (Nat.le_of_ble_eq_true rfl) rfl ?_
  intro p e s m below meth c ls hM hC hl
  obtain ⟨hx, hb, hr, hml, hown, hts, hg, hs, hlk, hnm⟩ := id hM
  obtain ⟨args, hargs⟩ : ∃ a : Array Value, a = ([.ref o, .int x1, .int x2] : List Value).toArray := ⟨_, rfl⟩
  rw [← hargs] at hM hts ⊢
  obtain ⟨H, hH⟩ : ∃ H : Heap, H = s.heap := ⟨_, rfl⟩
  obtain ⟨locs, hlocs⟩ : ∃ x : List Loc, x = [] := ⟨_, rfl⟩
  have hC : Cx G base h s.heap H locs := by rw [hH, hlocs]; exact hC
  show W p l e rm_X11_rowOf s m args below meth c s.heap [] 0 0 (MQ below (va_Qq Q (PU G base) (fun q => base ≤ q)) args s 0 0 (fun q => base ≤ q)) (F0 m 0 ls [])
  rw [← hlocs]
  have hgoal : W p l e rm_X11_rowOf s m args below meth c H locs 0 0 (MQ below (va_Qq Q (PU G base) (fun q => base ≤ q)) args s 0 0 (fun q => base ≤ q)) (F0 m 0 ls []) := ?_
  · rw [hH] at hgoal; exact hgoal
  clear hH hlocs
  unfold wp_X11_rowOf at hw
  refine lv_iload_n hx hb dX11_rowOf_0 rfl (lo_at hl 1 rfl) ?_
  refine lv_if_ne (tgt := 23) hx hb dX11_rowOf_1 (by decide) (fun c1 => ?_) (fun c1 => ?_)
  ·
    replace hw := (if_neg c1).mp hw
    refine lv_iload_n hx hb dX11_rowOf_23 rfl (lo_at hl 1 rfl) ?_
    refine lv_iconst (v := 1) hx hb dX11_rowOf_24 (by decide) ?_
    refine lv_icmp_ne (tgt := 47) hx hb dX11_rowOf_25 (by decide) (fun c2 => ?_) (fun c2 => ?_)
    ·
      replace hw := (if_neg c2).mp hw
      refine lv_aload_n hx hb dX11_rowOf_47 rfl (lo_at hl 0 rfl) ?_
      refine lv_iload_n hx hb dX11_rowOf_48 rfl (lo_at hl 2 rfl) ?_
      obtain ⟨k3, hw⟩ := hw
      refine res_q hC (run_V (As := [.int x2]) (rest := []) hM hC hl.1.1 kv_RX11_140 (c_X11_ballAt l G base o x2 h _ hw) (hc_9) k3 rfl rfl rfl ⟨Nat.le_of_ble_eq_true rfl, Nat.le_of_ble_eq_true rfl⟩ (Nat.le_of_ble_eq_true rfl) ⟨Nat.le_of_ble_eq_true rfl, Nat.le_of_ble_eq_true rfl⟩ dX11_rowOf_49) (fun z5 h4 H locs hw hC => ?_)
      refine lo_astore_n (r := z5) (lv' := [(3, va_rf z5), (0, .ref o), (1, .int x1), (2, .int x2)]) hx hb dX11_rowOf_52 rfl hl (by decide) rfl (fun ls hl => ?_)
      refine lv_iload_n hx hb dX11_rowOf_53 rfl (lo_at hl 2 rfl) ?_
      refine lv_iconst (v := 2) hx hb dX11_rowOf_54 (by decide) ?_
      refine lv_icmp_ne (tgt := 62) hx hb dX11_rowOf_55 (by decide) (fun c6 => ?_) (fun c6 => ?_)
      ·
        replace hw := (if_neg c6).mp hw
        refine lv_null hx hb dX11_rowOf_62 ?_
        refine lv_goto (tgt := 70) hx hb dX11_rowOf_63 (by decide) ?_
        exact ret_q (r := none) (Or.inr ⟨_, rfl⟩) hM hC hw dX11_rowOf_70
      ·
        replace hw := (if_pos c6).mp hw
        refine lo_aload_n (r := z5) hx hb dX11_rowOf_58 rfl (lo_at hl 0 rfl) ?_
        refine lo_ifnonnull (r := z5) (tgt := 66) hx hb dX11_rowOf_59 (by decide) (fun c7 => ?_) (fun c7 => ?_)
        ·
          replace hw := (if_neg c7).mp hw
          refine lo_aload_n (r := z5) hx hb dX11_rowOf_66 rfl (lo_at hl 0 rfl) ?_
          obtain ⟨k8, hw⟩ := hw
          refine rf_1 k8.1 ?_
          refine r_getR hx hb hts hown hg hC fb_0_4 k8.2 mk_f_RX11_131 dX11_rowOf_67 ?_
          exact ret_q (r := hpR h4 (ad z5) 4) (Or.inr ⟨_, rfl⟩) hM hC hw dX11_rowOf_70
        ·
          replace hw := (if_pos c7).mp hw
          refine lv_null hx hb dX11_rowOf_62 ?_
          refine lv_goto (tgt := 70) hx hb dX11_rowOf_63 (by decide) ?_
          exact ret_q (r := none) (Or.inr ⟨_, rfl⟩) hM hC hw dX11_rowOf_70
    ·
      replace hw := (if_pos c2).mp hw
      refine lv_aload_n hx hb dX11_rowOf_28 rfl (lo_at hl 0 rfl) ?_
      refine lv_iload_n hx hb dX11_rowOf_29 rfl (lo_at hl 2 rfl) ?_
      obtain ⟨k9, hw⟩ := hw
      refine res_q hC (run_V (As := [.int x2]) (rest := []) hM hC hl.1.1 kv_RX11_115 (c_X11_barrelAt l G base o x2 h _ hw) (hc_9) k9 rfl rfl rfl ⟨Nat.le_of_ble_eq_true rfl, Nat.le_of_ble_eq_true rfl⟩ (Nat.le_of_ble_eq_true rfl) ⟨Nat.le_of_ble_eq_true rfl, Nat.le_of_ble_eq_true rfl⟩ dX11_rowOf_30) (fun z11 h10 H locs hw hC => ?_)
      refine lo_astore_n (r := z11) (lv' := [(3, va_rf z11), (0, .ref o), (1, .int x1), (2, .int x2)]) hx hb dX11_rowOf_33 rfl hl (by decide) rfl (fun ls hl => ?_)
      refine lo_aload_n (r := z11) hx hb dX11_rowOf_34 rfl (lo_at hl 0 rfl) ?_
      refine lo_ifnonnull (r := z11) (tgt := 42) hx hb dX11_rowOf_35 (by decide) (fun c12 => ?_) (fun c12 => ?_)
      ·
        replace hw := (if_neg c12).mp hw
        refine lo_aload_n (r := z11) hx hb dX11_rowOf_42 rfl (lo_at hl 0 rfl) ?_
        obtain ⟨k13, hw⟩ := hw
        refine rf_1 k13.1 ?_
        refine r_getR hx hb hts hown hg hC fb_1_3 k13.2 mk_f_RX11_133 dX11_rowOf_43 ?_
        exact ret_q (r := hpR h10 (ad z11) 3) (Or.inr ⟨_, rfl⟩) hM hC hw dX11_rowOf_46
      ·
        replace hw := (if_pos c12).mp hw
        refine lv_null hx hb dX11_rowOf_38 ?_
        refine lv_goto (tgt := 46) hx hb dX11_rowOf_39 (by decide) ?_
        exact ret_q (r := none) (Or.inr ⟨_, rfl⟩) hM hC hw dX11_rowOf_46
  ·
    replace hw := (if_pos c1).mp hw
    refine lv_aload_n hx hb dX11_rowOf_4 rfl (lo_at hl 0 rfl) ?_
    refine lv_iload_n hx hb dX11_rowOf_5 rfl (lo_at hl 2 rfl) ?_
    obtain ⟨k14, hw⟩ := hw
    refine res_q hC (run_V (As := [.int x2]) (rest := []) hM hC hl.1.1 kv_RX11_80 (c_X11_toolAt l G base o x2 h _ hw) (hc_9) k14 rfl rfl rfl ⟨Nat.le_of_ble_eq_true rfl, Nat.le_of_ble_eq_true rfl⟩ (Nat.le_of_ble_eq_true rfl) ⟨Nat.le_of_ble_eq_true rfl, Nat.le_of_ble_eq_true rfl⟩ dX11_rowOf_6) (fun z16 h15 H locs hw hC => ?_)
    refine lo_astore_n (r := z16) (lv' := [(3, va_rf z16), (0, .ref o), (1, .int x1), (2, .int x2)]) hx hb dX11_rowOf_9 rfl hl (by decide) rfl (fun ls hl => ?_)
    refine lo_aload_n (r := z16) hx hb dX11_rowOf_10 rfl (lo_at hl 0 rfl) ?_
    refine lo_ifnonnull (r := z16) (tgt := 18) hx hb dX11_rowOf_11 (by decide) (fun c17 => ?_) (fun c17 => ?_)
    ·
      replace hw := (if_neg c17).mp hw
      refine lo_aload_n (r := z16) hx hb dX11_rowOf_18 rfl (lo_at hl 0 rfl) ?_
      obtain ⟨k18, hw⟩ := hw
      refine rf_1 k18.1 ?_
      refine r_getR hx hb hts hown hg hC fb_7_0 k18.2 mk_f_RX11_91 dX11_rowOf_19 ?_
      exact ret_q (r := hpR h15 (ad z16) 0) (Or.inr ⟨_, rfl⟩) hM hC hw dX11_rowOf_22
    ·
      replace hw := (if_pos c17).mp hw
      refine lv_null hx hb dX11_rowOf_14 ?_
      refine lv_goto (tgt := 22) hx hb dX11_rowOf_15 (by decide) ?_
      exact ret_q (r := none) (Or.inr ⟨_, rfl⟩) hM hC hw dX11_rowOf_22
abbrev rm_X11_ofBall : Room := { frames := 1, cells := 0, slots := 0, locals := 22 }
def wp_X11_ofBall (r0 : Option Nat) (x1 : Int32) (h : Hp) (Q : Int32 → Hp → Prop) : Prop := (if r0 = none then (Q (-2 : Int32) h) else ((if x1 = (0 : Int32) then (okO h r0 0 ∧ ((if (hpR h (ad r0) 1) = none then (Q (-1 : Int32) h) else (okO h (hpR h (ad r0) 1) 1 ∧ (Q (hpI h (ad (hpR h (ad r0) 1)) 0) h))))) else if x1 = (1 : Int32) then (okO h r0 0 ∧ (Q (hpI h (ad r0) 2) h)) else if x1 = (2 : Int32) then (okO h r0 0 ∧ (Q (hpI h (ad r0) 3) h)) else if x1 = (3 : Int32) then (okO h r0 0 ∧ (wp_X0_missing (ad r0) h (fun (z13 : Int32) (h12 : Hp) => Q z13 h12))) else Q (-2 : Int32) h)))
set_option maxHeartbeats 4000000 in
set_option maxRecDepth 100000 in
theorem c_X11_ofBall (l : Launch) (G : GG) (base : Nat) (r0 : Option Nat) (x1 : Int32) (h : Hp) (Q : Int32 → Hp → Prop) (hw : wp_X11_ofBall r0 x1 h Q) : Met l yX11_ofBall (ww yX11_ofBall cX11_ofBall 2 (some .int)) rm_X11_ofBall (va_Pc [va_rf r0, .int x1] (PU G base h)) (va_Qi Q (PU G base) (fun q => base ≤ q)) 0 0 (fun q => base ≤ q) := by
  refine met_of (own := RX11) (nm := "ofBall") (by decide) rfl rfl (List.forall_mem_cons.mpr ⟨va_rf_cat _, (List.forall_mem_cons.mpr ⟨rfl, (fun _ h => absurd h List.not_mem_nil)⟩)⟩) (Nat.le_of_ble_eq_true rfl) rfl ?_
  intro p e s m below meth c ls hM hC hl
  obtain ⟨hx, hb, hr, hml, hown, hts, hg, hs, hlk, hnm⟩ := id hM
  obtain ⟨args, hargs⟩ : ∃ a : Array Value, a = ([va_rf r0, .int x1] : List Value).toArray := ⟨_, rfl⟩
  rw [← hargs] at hM hts ⊢
  obtain ⟨H, hH⟩ : ∃ H : Heap, H = s.heap := ⟨_, rfl⟩
  obtain ⟨locs, hlocs⟩ : ∃ x : List Loc, x = [] := ⟨_, rfl⟩
  have hC : Cx G base h s.heap H locs := by rw [hH, hlocs]; exact hC
  show W p l e rm_X11_ofBall s m args below meth c s.heap [] 0 0 (MQ below (va_Qi Q (PU G base) (fun q => base ≤ q)) args s 0 0 (fun q => base ≤ q)) (F0 m 0 ls [])
  rw [← hlocs]
  have hgoal : W p l e rm_X11_ofBall s m args below meth c H locs 0 0 (MQ below (va_Qi Q (PU G base) (fun q => base ≤ q)) args s 0 0 (fun q => base ≤ q)) (F0 m 0 ls []) := ?_
  · rw [hH] at hgoal; exact hgoal
  clear hH hlocs
  unfold wp_X11_ofBall at hw
  refine lo_aload_n (r := r0) hx hb dX11_ofBall_0 rfl (lo_at hl 0 rfl) ?_
  refine lo_ifnonnull (r := r0) (tgt := 7) hx hb dX11_ofBall_1 (by decide) (fun c1 => ?_) (fun c1 => ?_)
  ·
    replace hw := (if_neg c1).mp hw
    refine lv_iload_n hx hb dX11_ofBall_7 rfl (lo_at hl 1 rfl) ?_
    by_cases c2 : x1 = (0 : Int32)
    ·
      replace hw := (if_pos c2).mp hw
      refine lv_tableIn (tgt := 40) hx hb dX11_ofBall_8 (by rw [c2]; decide) (by rw [c2]; decide) (by rw [c2]; first | done | rfl) (by decide) ?_
      refine lo_aload_n (r := r0) hx hb dX11_ofBall_40 rfl (lo_at hl 0 rfl) ?_
      obtain ⟨k3, hw⟩ := hw
      refine rf_1 k3.1 ?_
      refine r_getR hx hb hts hown hg hC fb_0_1 k3.2 mk_f_RX11_302 dX11_ofBall_41 ?_
      refine lo_ifnonnull (r := hpR h (ad r0) 1) (tgt := 51) hx hb dX11_ofBall_44 (by decide) (fun c4 => ?_) (fun c4 => ?_)
      ·
        replace hw := (if_neg c4).mp hw
        refine lo_aload_n (r := r0) hx hb dX11_ofBall_51 rfl (lo_at hl 0 rfl) ?_
        refine rf_1 k3.1 ?_
        refine r_getR hx hb hts hown hg hC fb_0_1 k3.2 mk_f_RX11_302 dX11_ofBall_52 ?_
        obtain ⟨k5, hw⟩ := hw
        refine rf_1 k5.1 ?_
        refine r_getI hx hb hts hown hg hC fb_1_0 k5.2 mk_f_RX11_306 dX11_ofBall_55 ?_
        exact ret_i hM hC hw dX11_ofBall_58
      ·
        replace hw := (if_pos c4).mp hw
        refine lv_iconst (v := -1) hx hb dX11_ofBall_47 (by decide) ?_
        refine lv_goto (tgt := 58) hx hb dX11_ofBall_48 (by decide) ?_
        exact ret_i hM hC hw dX11_ofBall_58
    replace hw := (if_neg c2).mp hw
    by_cases c6 : x1 = (1 : Int32)
    ·
      replace hw := (if_pos c6).mp hw
      refine lv_tableIn (tgt := 59) hx hb dX11_ofBall_8 (by rw [c6]; decide) (by rw [c6]; decide) (by rw [c6]; first | done | rfl) (by decide) ?_
      refine lo_aload_n (r := r0) hx hb dX11_ofBall_59 rfl (lo_at hl 0 rfl) ?_
      obtain ⟨k7, hw⟩ := hw
      refine rf_1 k7.1 ?_
      refine r_getI hx hb hts hown hg hC fb_0_2 k7.2 mk_f_RX11_244 dX11_ofBall_60 ?_
      exact ret_i hM hC hw dX11_ofBall_63
    replace hw := (if_neg c6).mp hw
    by_cases c8 : x1 = (2 : Int32)
    ·
      replace hw := (if_pos c8).mp hw
      refine lv_tableIn (tgt := 64) hx hb dX11_ofBall_8 (by rw [c8]; decide) (by rw [c8]; decide) (by rw [c8]; first | done | rfl) (by decide) ?_
      refine lo_aload_n (r := r0) hx hb dX11_ofBall_64 rfl (lo_at hl 0 rfl) ?_
      obtain ⟨k9, hw⟩ := hw
      refine rf_1 k9.1 ?_
      refine r_getI hx hb hts hown hg hC fb_0_3 k9.2 mk_f_RX11_307 dX11_ofBall_65 ?_
      exact ret_i hM hC hw dX11_ofBall_68
    replace hw := (if_neg c8).mp hw
    by_cases c10 : x1 = (3 : Int32)
    ·
      replace hw := (if_pos c10).mp hw
      refine lv_tableIn (tgt := 69) hx hb dX11_ofBall_8 (by rw [c10]; decide) (by rw [c10]; decide) (by rw [c10]; first | done | rfl) (by decide) ?_
      refine lo_aload_n (r := r0) hx hb dX11_ofBall_69 rfl (lo_at hl 0 rfl) ?_
      obtain ⟨k11, hw⟩ := hw
      refine rf_1 k11.1 ?_
      refine res_i hC (run_V (As := []) (rest := []) hM hC hl.1.1 kv_RX11_219 (c_X0_missing l G base (ad r0) h _ hw) (hc_0) k11.2 rfl rfl rfl ⟨Nat.le_of_ble_eq_true rfl, Nat.le_of_ble_eq_true rfl⟩ (Nat.le_of_ble_eq_true rfl) ⟨Nat.le_of_ble_eq_true rfl, Nat.le_of_ble_eq_true rfl⟩ dX11_ofBall_70) (fun z13 h12 H locs hw hC => ?_)
      exact ret_i hM hC hw dX11_ofBall_73
    replace hw := (if_neg c10).mp hw
    refine lv_tableOut (tgt := 74) hx hb dX11_ofBall_8 (sw_out 0 4 (by decide) (fun k hk => match k, hk with | 0, _ => c2 | 1, _ => c6 | 2, _ => c8 | 3, _ => c10 | k + 4, hk => absurd hk (by omega))) (by decide) ?_
    refine lv_bipush (v := -2) hx hb dX11_ofBall_74 (by decide) ?_
    exact ret_i hM hC hw dX11_ofBall_76
  ·
    replace hw := (if_pos c1).mp hw
    refine lv_bipush (v := -2) hx hb dX11_ofBall_4 (by decide) ?_
    exact ret_i hM hC hw dX11_ofBall_6
abbrev rm_X11_ofBarrel : Room := { frames := 0, cells := 0, slots := 0, locals := 0 }
def wp_X11_ofBarrel (r0 : Option Nat) (x1 : Int32) (h : Hp) (Q : Int32 → Hp → Prop) : Prop := (if r0 = none then (Q (-2 : Int32) h) else ((if x1 = (10 : Int32) then (okO h r0 1 ∧ (Q (hpI h (ad r0) 1) h)) else if x1 = (11 : Int32) then (okO h r0 1 ∧ (Q (hpI h (ad r0) 2) h)) else if x1 = (12 : Int32) then (okO h r0 1 ∧ (Q (hpI h (ad r0) 5) h)) else if x1 = (13 : Int32) then (okO h r0 1 ∧ (Q (hpI h (ad r0) 6) h)) else Q (-2 : Int32) h)))
set_option maxHeartbeats 4000000 in
set_option maxRecDepth 100000 in
theorem c_X11_ofBarrel (l : Launch) (G : GG) (base : Nat) (r0 : Option Nat) (x1 : Int32) (h : Hp) (Q : Int32 → Hp → Prop) (hw : wp_X11_ofBarrel r0 x1 h Q) : Met l yX11_ofBarrel (ww yX11_ofBarrel cX11_ofBarrel 2 (some .int)) rm_X11_ofBarrel (va_Pc [va_rf r0, .int x1] (PU G base h)) (va_Qi Q (PU G base) (fun q => base ≤ q)) 0 0 (fun q => base ≤ q) := by
  refine met_of (own := RX11) (nm := "ofBarrel") (by decide) rfl rfl (List.forall_mem_cons.mpr ⟨va_rf_cat _, (List.forall_mem_cons.mpr ⟨rfl, (fun _ h => absurd h List.not_mem_nil)⟩)⟩) (Nat.le_of_ble_eq_true rfl) rfl ?_
  intro p e s m below meth c ls hM hC hl
  obtain ⟨hx, hb, hr, hml, hown, hts, hg, hs, hlk, hnm⟩ := id hM
  obtain ⟨args, hargs⟩ : ∃ a : Array Value, a = ([va_rf r0, .int x1] : List Value).toArray := ⟨_, rfl⟩
  rw [← hargs] at hM hts ⊢
  obtain ⟨H, hH⟩ : ∃ H : Heap, H = s.heap := ⟨_, rfl⟩
  obtain ⟨locs, hlocs⟩ : ∃ x : List Loc, x = [] := ⟨_, rfl⟩
  have hC : Cx G base h s.heap H locs := by rw [hH, hlocs]; exact hC
  show W p l e rm_X11_ofBarrel s m args below meth c s.heap [] 0 0 (MQ below (va_Qi Q (PU G base) (fun q => base ≤ q)) args s 0 0 (fun q => base ≤ q)) (F0 m 0 ls [])
  rw [← hlocs]
  have hgoal : W p l e rm_X11_ofBarrel s m args below meth c H locs 0 0 (MQ below (va_Qi Q (PU G base) (fun q => base ≤ q)) args s 0 0 (fun q => base ≤ q)) (F0 m 0 ls []) := ?_
  · rw [hH] at hgoal; exact hgoal
  clear hH hlocs
  unfold wp_X11_ofBarrel at hw
  refine lo_aload_n (r := r0) hx hb dX11_ofBarrel_0 rfl (lo_at hl 0 rfl) ?_
  refine lo_ifnonnull (r := r0) (tgt := 7) hx hb dX11_ofBarrel_1 (by decide) (fun c1 => ?_) (fun c1 => ?_)
  ·
    replace hw := (if_neg c1).mp hw
    refine lv_iload_n hx hb dX11_ofBarrel_7 rfl (lo_at hl 1 rfl) ?_
    by_cases c2 : x1 = (10 : Int32)
    ·
      replace hw := (if_pos c2).mp hw
      refine lv_tableIn (tgt := 40) hx hb dX11_ofBarrel_8 (by rw [c2]; decide) (by rw [c2]; decide) (by rw [c2]; first | done | rfl) (by decide) ?_
      refine lo_aload_n (r := r0) hx hb dX11_ofBarrel_40 rfl (lo_at hl 0 rfl) ?_
      obtain ⟨k3, hw⟩ := hw
      refine rf_1 k3.1 ?_
      refine r_getI hx hb hts hown hg hC fb_1_1 k3.2 mk_f_RX11_310 dX11_ofBarrel_41 ?_
      exact ret_i hM hC hw dX11_ofBarrel_44
    replace hw := (if_neg c2).mp hw
    by_cases c4 : x1 = (11 : Int32)
    ·
      replace hw := (if_pos c4).mp hw
      refine lv_tableIn (tgt := 45) hx hb dX11_ofBarrel_8 (by rw [c4]; decide) (by rw [c4]; decide) (by rw [c4]; first | done | rfl) (by decide) ?_
      refine lo_aload_n (r := r0) hx hb dX11_ofBarrel_45 rfl (lo_at hl 0 rfl) ?_
      obtain ⟨k5, hw⟩ := hw
      refine rf_1 k5.1 ?_
      refine r_getI hx hb hts hown hg hC fb_1_2 k5.2 mk_f_RX11_313 dX11_ofBarrel_46 ?_
      exact ret_i hM hC hw dX11_ofBarrel_49
    replace hw := (if_neg c4).mp hw
    by_cases c6 : x1 = (12 : Int32)
    ·
      replace hw := (if_pos c6).mp hw
      refine lv_tableIn (tgt := 50) hx hb dX11_ofBarrel_8 (by rw [c6]; decide) (by rw [c6]; decide) (by rw [c6]; first | done | rfl) (by decide) ?_
      refine lo_aload_n (r := r0) hx hb dX11_ofBarrel_50 rfl (lo_at hl 0 rfl) ?_
      obtain ⟨k7, hw⟩ := hw
      refine rf_1 k7.1 ?_
      refine r_getI hx hb hts hown hg hC fb_1_5 k7.2 mk_f_RX11_128 dX11_ofBarrel_51 ?_
      exact ret_i hM hC hw dX11_ofBarrel_54
    replace hw := (if_neg c6).mp hw
    by_cases c8 : x1 = (13 : Int32)
    ·
      replace hw := (if_pos c8).mp hw
      refine lv_tableIn (tgt := 55) hx hb dX11_ofBarrel_8 (by rw [c8]; decide) (by rw [c8]; decide) (by rw [c8]; first | done | rfl) (by decide) ?_
      refine lo_aload_n (r := r0) hx hb dX11_ofBarrel_55 rfl (lo_at hl 0 rfl) ?_
      obtain ⟨k9, hw⟩ := hw
      refine rf_1 k9.1 ?_
      refine r_getI hx hb hts hown hg hC fb_1_6 k9.2 mk_f_RX11_119 dX11_ofBarrel_56 ?_
      exact ret_i hM hC hw dX11_ofBarrel_59
    replace hw := (if_neg c8).mp hw
    refine lv_tableOut (tgt := 60) hx hb dX11_ofBarrel_8 (sw_out 10 4 (by decide) (fun k hk => match k, hk with | 0, _ => c2 | 1, _ => c4 | 2, _ => c6 | 3, _ => c8 | k + 4, hk => absurd hk (by omega))) (by decide) ?_
    refine lv_bipush (v := -2) hx hb dX11_ofBarrel_60 (by decide) ?_
    exact ret_i hM hC hw dX11_ofBarrel_62
  ·
    replace hw := (if_pos c1).mp hw
    refine lv_bipush (v := -2) hx hb dX11_ofBarrel_4 (by decide) ?_
    exact ret_i hM hC hw dX11_ofBarrel_6
abbrev rm_X11_truthOf : Room := { frames := 0, cells := 0, slots := 0, locals := 0 }
def wp_X11_truthOf (r0 : Option Nat) (r1 : Option Nat) (h : Hp) (Q : Int32 → Hp → Prop) : Prop := (if r0 = none then (Q (-1 : Int32) h) else ((if r1 = none then (Q (-1 : Int32) h) else (okO h r0 0 ∧ ((if (hpR h (ad r0) 1) = none then (Q (-1 : Int32) h) else (okO h r1 0 ∧ ((if (hpR h (ad r1) 1) = none then (Q (-1 : Int32) h) else ((if (hpI h (ad r0) 0) = (hpI h (ad r1) 0) then (Q (-1 : Int32) h) else (okO h (hpR h (ad r0) 1) 1 ∧ (okO h (hpR h (ad r1) 1) 1 ∧ ((if (hpI h (ad (hpR h (ad r0) 1)) 0) = (hpI h (ad (hpR h (ad r1) 1)) 0) then (Q (0 : Int32) h) else ((if (hpI h (ad (hpR h (ad r0) 1)) 1) = (hpI h (ad (hpR h (ad r1) 1)) 1) then (Q (1 : Int32) h) else (Q (2 : Int32) h))))))))))))))))))
set_option maxHeartbeats 4000000 in
set_option maxRecDepth 100000 in
theorem c_X11_truthOf (l : Launch) (G : GG) (base : Nat) (r0 : Option Nat) (r1 : Option Nat) (h : Hp) (Q : Int32 → Hp → Prop) (hw : wp_X11_truthOf r0 r1 h Q) : Met l yX11_truthOf (ww yX11_truthOf cX11_truthOf 2 (some .int)) rm_X11_truthOf (va_Pc [va_rf r0, va_rf r1] (PU G base h)) (va_Qi Q (PU G base) (fun q => base ≤ q)) 0 0 (fun q => base ≤ q) := by
  refine met_of (own := RX11) (nm := "truthOf") (by decide) rfl rfl (List.forall_mem_cons.mpr ⟨va_rf_cat _, (List.forall_mem_cons.mpr ⟨va_rf_cat _, (fun _ h => absurd h List.not_mem_nil)⟩)⟩) (Nat.le_of_ble_eq_true rfl) rfl ?_
  intro p e s m below meth c ls hM hC hl
  obtain ⟨hx, hb, hr, hml, hown, hts, hg, hs, hlk, hnm⟩ := id hM
  obtain ⟨args, hargs⟩ : ∃ a : Array Value, a = ([va_rf r0, va_rf r1] : List Value).toArray := ⟨_, rfl⟩
  rw [← hargs] at hM hts ⊢
  obtain ⟨H, hH⟩ : ∃ H : Heap, H = s.heap := ⟨_, rfl⟩
  obtain ⟨locs, hlocs⟩ : ∃ x : List Loc, x = [] := ⟨_, rfl⟩
  have hC : Cx G base h s.heap H locs := by rw [hH, hlocs]; exact hC
  show W p l e rm_X11_truthOf s m args below meth c s.heap [] 0 0 (MQ below (va_Qi Q (PU G base) (fun q => base ≤ q)) args s 0 0 (fun q => base ≤ q)) (F0 m 0 ls [])
  rw [← hlocs]
  have hgoal : W p l e rm_X11_truthOf s m args below meth c H locs 0 0 (MQ below (va_Qi Q (PU G base) (fun q => base ≤ q)) args s 0 0 (fun q => base ≤ q)) (F0 m 0 ls []) := ?_
  · rw [hH] at hgoal; exact hgoal
  clear hH hlocs
  unfold wp_X11_truthOf at hw
  refine lo_aload_n (r := r0) hx hb dX11_truthOf_0 rfl (lo_at hl 0 rfl) ?_
  refine lo_ifnull (r := r0) (tgt := 33) hx hb dX11_truthOf_1 (by decide) (fun c1 => ?_) (fun c1 => ?_)
  ·
    replace hw := (if_pos c1).mp hw
    refine lv_iconst (v := -1) hx hb dX11_truthOf_33 (by decide) ?_
    exact ret_i hM hC hw dX11_truthOf_34
  ·
    replace hw := (if_neg c1).mp hw
    refine lo_aload_n (r := r1) hx hb dX11_truthOf_4 rfl (lo_at hl 1 rfl) ?_
    refine lo_ifnull (r := r1) (tgt := 33) hx hb dX11_truthOf_5 (by decide) (fun c2 => ?_) (fun c2 => ?_)
    ·
      replace hw := (if_pos c2).mp hw
      refine lv_iconst (v := -1) hx hb dX11_truthOf_33 (by decide) ?_
      exact ret_i hM hC hw dX11_truthOf_34
    ·
      replace hw := (if_neg c2).mp hw
      refine lo_aload_n (r := r0) hx hb dX11_truthOf_8 rfl (lo_at hl 0 rfl) ?_
      obtain ⟨k3, hw⟩ := hw
      refine rf_1 k3.1 ?_
      refine r_getR hx hb hts hown hg hC fb_0_1 k3.2 mk_f_RX11_302 dX11_truthOf_9 ?_
      refine lo_ifnull (r := hpR h (ad r0) 1) (tgt := 33) hx hb dX11_truthOf_12 (by decide) (fun c4 => ?_) (fun c4 => ?_)
      ·
        replace hw := (if_pos c4).mp hw
        refine lv_iconst (v := -1) hx hb dX11_truthOf_33 (by decide) ?_
        exact ret_i hM hC hw dX11_truthOf_34
      ·
        replace hw := (if_neg c4).mp hw
        refine lo_aload_n (r := r1) hx hb dX11_truthOf_15 rfl (lo_at hl 1 rfl) ?_
        obtain ⟨k5, hw⟩ := hw
        refine rf_1 k5.1 ?_
        refine r_getR hx hb hts hown hg hC fb_0_1 k5.2 mk_f_RX11_302 dX11_truthOf_16 ?_
        refine lo_ifnull (r := hpR h (ad r1) 1) (tgt := 33) hx hb dX11_truthOf_19 (by decide) (fun c6 => ?_) (fun c6 => ?_)
        ·
          replace hw := (if_pos c6).mp hw
          refine lv_iconst (v := -1) hx hb dX11_truthOf_33 (by decide) ?_
          exact ret_i hM hC hw dX11_truthOf_34
        ·
          replace hw := (if_neg c6).mp hw
          refine lo_aload_n (r := r0) hx hb dX11_truthOf_22 rfl (lo_at hl 0 rfl) ?_
          refine rf_1 k3.1 ?_
          refine r_getI hx hb hts hown hg hC fb_0_0 k3.2 mk_f_RX11_134 dX11_truthOf_23 ?_
          refine lo_aload_n (r := r1) hx hb dX11_truthOf_26 rfl (lo_at hl 1 rfl) ?_
          refine rf_1 k5.1 ?_
          refine r_getI hx hb hts hown hg hC fb_0_0 k5.2 mk_f_RX11_134 dX11_truthOf_27 ?_
          refine lv_icmp_ne (tgt := 35) hx hb dX11_truthOf_30 (by decide) (fun c7 => ?_) (fun c7 => ?_)
          ·
            replace hw := (if_neg c7).mp hw
            refine lo_aload_n (r := r0) hx hb dX11_truthOf_35 rfl (lo_at hl 0 rfl) ?_
            refine rf_1 k3.1 ?_
            refine r_getR hx hb hts hown hg hC fb_0_1 k3.2 mk_f_RX11_302 dX11_truthOf_36 ?_
            obtain ⟨k8, hw⟩ := hw
            refine rf_1 k8.1 ?_
            refine r_getI hx hb hts hown hg hC fb_1_0 k8.2 mk_f_RX11_306 dX11_truthOf_39 ?_
            refine lo_aload_n (r := r1) hx hb dX11_truthOf_42 rfl (lo_at hl 1 rfl) ?_
            refine rf_1 k5.1 ?_
            refine r_getR hx hb hts hown hg hC fb_0_1 k5.2 mk_f_RX11_302 dX11_truthOf_43 ?_
            obtain ⟨k9, hw⟩ := hw
            refine rf_1 k9.1 ?_
            refine r_getI hx hb hts hown hg hC fb_1_0 k9.2 mk_f_RX11_306 dX11_truthOf_46 ?_
            refine lv_icmp_ne (tgt := 54) hx hb dX11_truthOf_49 (by decide) (fun c10 => ?_) (fun c10 => ?_)
            ·
              replace hw := (if_neg c10).mp hw
              refine lo_aload_n (r := r0) hx hb dX11_truthOf_54 rfl (lo_at hl 0 rfl) ?_
              refine rf_1 k3.1 ?_
              refine r_getR hx hb hts hown hg hC fb_0_1 k3.2 mk_f_RX11_302 dX11_truthOf_55 ?_
              refine rf_1 k8.1 ?_
              refine r_getI hx hb hts hown hg hC fb_1_1 k8.2 mk_f_RX11_310 dX11_truthOf_58 ?_
              refine lo_aload_n (r := r1) hx hb dX11_truthOf_61 rfl (lo_at hl 1 rfl) ?_
              refine rf_1 k5.1 ?_
              refine r_getR hx hb hts hown hg hC fb_0_1 k5.2 mk_f_RX11_302 dX11_truthOf_62 ?_
              refine rf_1 k9.1 ?_
              refine r_getI hx hb hts hown hg hC fb_1_1 k9.2 mk_f_RX11_310 dX11_truthOf_65 ?_
              refine lv_icmp_ne (tgt := 75) hx hb dX11_truthOf_68 (by decide) (fun c11 => ?_) (fun c11 => ?_)
              ·
                replace hw := (if_neg c11).mp hw
                refine lv_iconst (v := 2) hx hb dX11_truthOf_75 (by decide) ?_
                exact ret_i hM hC hw dX11_truthOf_76
              ·
                replace hw := (if_pos c11).mp hw
                refine lv_iconst (v := 1) hx hb dX11_truthOf_71 (by decide) ?_
                refine lv_goto (tgt := 76) hx hb dX11_truthOf_72 (by decide) ?_
                exact ret_i hM hC hw dX11_truthOf_76
            ·
              replace hw := (if_pos c10).mp hw
              refine lv_iconst (v := 0) hx hb dX11_truthOf_52 (by decide) ?_
              exact ret_i hM hC hw dX11_truthOf_53
          ·
            replace hw := (if_pos c7).mp hw
            refine lv_iconst (v := -1) hx hb dX11_truthOf_33 (by decide) ?_
            exact ret_i hM hC hw dX11_truthOf_34
abbrev rm_X11_misledBy : Room := { frames := 0, cells := 0, slots := 0, locals := 0 }
def wp_X11_misledBy_L4 (o : Nat) (x1 : Int32) (K39 : Int32 → Hp → Prop) (Q : Int32 → Hp → Prop) : Nat → Int32 → Int32 → Hp → Prop
  | 0, _, _, _ => False
  | n + 1, x2, x3, h => ((hpK h o).1 = 20 + 9) ∧ ((if (hpI h o 10) ≤ x3 then (K39 x2 h) else ((if ((((x1).toUInt32 >>> ((x3).toUInt32 &&& Int32.toUInt32 31)).toInt32) &&& (1 : Int32)) = (1 : Int32) then (okO h (hpR h o 15) 8 ∧ (okA h (hpR h (ad (hpR h o 15)) 4) 1 x3 ∧ (∀ v7 : Int32, v7 = hpI h (ad (hpR h (ad (hpR h o 15)) 4)) (x3).toNatClampNeg → (∀ v8 : Int32, v8 = x2 ||| v7 → (∀ v9 : Int32, v9 = x3 + (1 : Int32) → (wp_X11_misledBy_L4 o x1 K39 Q n v8 v9 h)))))) else (∀ v4 : Int32, v4 = x3 + (1 : Int32) → (wp_X11_misledBy_L4 o x1 K39 Q n x2 v4 h))))))
def wp_X11_misledBy (o : Nat) (x1 : Int32) (h : Hp) (Q : Int32 → Hp → Prop) : Prop := wp_X11_misledBy_L4 o x1 (fun (y11 : Int32) (h10 : Hp) => Q y11 h10) Q fuel (0 : Int32) (0 : Int32) h
set_option maxHeartbeats 4000000 in
set_option maxRecDepth 100000 in
theorem t_X11_misledBy_L4 {p : Program} {l : Launch} {e : Env} {s : State} {m : MethodId} {args : Array Value} {below : List Frame} {meth : Method} {c : Code} {G : GG} {base : Nat} (hM : Mx G base p s m args meth c cX11_misledBy 4 (some .int) RX11 "misledBy") (o : Nat) (x1 : Int32) (K39 : Int32 → Hp → Prop) (Q : Int32 → Hp → Prop) (hK39 : ∀ (y2 : Int32) (h : Hp) (H : Heap) (locs : List Loc) (ls : Array Slot), Cx G base h s.heap H locs → lo_has ls 4 [(2, .int y2)] → K39 y2 h → W p l e rm_X11_misledBy s m args below meth c H locs 0 0 (MQ below (va_Qi Q (PU G base) (fun q => base ≤ q)) args s 0 0 (fun q => base ≤ q)) (F0 m 39 ls [])) : ∀ (n : Nat) (x2 : Int32) (x3 : Int32) (h : Hp) (H : Heap) (locs : List Loc) (ls : Array Slot), Cx G base h s.heap H locs → lo_has ls 4 [(0, .ref o), (1, .int x1), (2, .int x2), (3, .int x3)] → wp_X11_misledBy_L4 o x1 K39 Q n x2 x3 h → W p l e rm_X11_misledBy s m args below meth c H locs 0 0 (MQ below (va_Qi Q (PU G base) (fun q => base ≤ q)) args s 0 0 (fun q => base ≤ q)) (F0 m 4 ls []) := by
  intro n
  induction n with
  | zero =>
    intro x2 x3 h H locs ls hC hl hw
    rw [wp_X11_misledBy_L4] at hw
    exact hw.elim
  | succ n ih =>
    intro x2 x3 h H locs ls hC hl hw
    rw [wp_X11_misledBy_L4] at hw
    obtain ⟨hx, hb, hr, hml, hown, hts, hg, hs, hlk, hnm⟩ := id hM
    refine lv_iload_n hx hb dX11_misledBy_4 rfl (lo_at hl 3 rfl) ?_
    refine lv_aload_n hx hb dX11_misledBy_5 rfl (lo_at hl 0 rfl) ?_
    obtain ⟨k1, hw⟩ := hw
    refine r_getI hx hb hts hown hg hC fb_9_10 k1 mk_f_RX11_258 dX11_misledBy_6 ?_
    refine lv_icmp_ge (tgt := 39) hx hb dX11_misledBy_9 (by decide) (fun c2 => ?_) (fun c2 => ?_)
    ·
      replace hw := (if_pos c2).mp hw
      exact hK39 x2 h H locs ls hC (lo_sub hl [2] rfl) hw
    ·
      replace hw := (if_neg c2).mp hw
      refine lv_iload_n hx hb dX11_misledBy_12 rfl (lo_at hl 1 rfl) ?_
      refine lv_iload_n hx hb dX11_misledBy_13 rfl (lo_at hl 3 rfl) ?_
      refine lv_iushr hx hb dX11_misledBy_14 (v := ((x1).toUInt32 >>> ((x3).toUInt32 &&& Int32.toUInt32 31)).toInt32) rfl ?_
      refine lv_iconst (v := 1) hx hb dX11_misledBy_15 (by decide) ?_
      refine lv_iand hx hb dX11_misledBy_16 ?_
      refine lv_iconst (v := 1) hx hb dX11_misledBy_17 (by decide) ?_
      refine lv_icmp_ne (tgt := 33) hx hb dX11_misledBy_18 (by decide) (fun c3 => ?_) (fun c3 => ?_)
      ·
        replace hw := (if_neg c3).mp hw
        obtain ⟨v4, ev4⟩ : ∃ y : Int32, y = x3 + (1 : Int32) := ⟨_, rfl⟩
        replace hw := hw v4 ev4
        refine lo_iinc (v := v4) (lv' := [(3, .int v4), (0, .ref o), (1, .int x1), (2, .int x2)]) hx hb dX11_misledBy_33 hl (k := 3) rfl (by rw [ev4]; rfl) (by decide) rfl (fun ls hl => ?_)
        refine lv_goto (tgt := 4) hx hb dX11_misledBy_36 (by decide) ?_
        exact ih x2 v4 h H locs ls hC (lo_sub hl [1, 2, 3, 0] rfl) hw
      ·
        replace hw := (if_pos c3).mp hw
        refine lv_iload_n hx hb dX11_misledBy_21 rfl (lo_at hl 2 rfl) ?_
        refine lv_aload_n hx hb dX11_misledBy_22 rfl (lo_at hl 0 rfl) ?_
        refine r_getR hx hb hts hown hg hC fb_9_15 k1 mk_f_RX11_69 dX11_misledBy_23 ?_
        obtain ⟨k5, hw⟩ := hw
        refine rf_1 k5.1 ?_
        refine r_getR hx hb hts hown hg hC fb_8_4 k5.2 mk_f_RX11_318 dX11_misledBy_26 ?_
        refine lv_iload_n hx hb dX11_misledBy_29 rfl (lo_at hl 3 rfl) ?_
        obtain ⟨k6, hw⟩ := hw
        refine rf_2 k6.1 ?_
        refine r_iald hx hb hg hC k6.2.1 k6.2.2 dX11_misledBy_30 ?_
        refine lv_topi (fun v7 ev7 => ?_)
        replace hw := hw v7 ev7
        refine lv_ior hx hb dX11_misledBy_31 ?_
        refine lv_topi (fun v8 ev8 => ?_)
        replace hw := hw v8 ev8
        refine lo_istore_n (lv' := [(2, .int v8), (0, .ref o), (1, .int x1), (3, .int x3)]) hx hb dX11_misledBy_32 rfl hl (by decide) rfl (fun ls hl => ?_)
        obtain ⟨v9, ev9⟩ : ∃ y : Int32, y = x3 + (1 : Int32) := ⟨_, rfl⟩
        replace hw := hw v9 ev9
        refine lo_iinc (v := v9) (lv' := [(3, .int v9), (2, .int v8), (0, .ref o), (1, .int x1)]) hx hb dX11_misledBy_33 hl (k := 3) rfl (by rw [ev9]; rfl) (by decide) rfl (fun ls hl => ?_)
        refine lv_goto (tgt := 4) hx hb dX11_misledBy_36 (by decide) ?_
        exact ih v8 v9 h H locs ls hC (lo_sub hl [2, 3, 1, 0] rfl) hw
set_option maxHeartbeats 4000000 in
set_option maxRecDepth 100000 in
theorem c_X11_misledBy (l : Launch) (G : GG) (base : Nat) (o : Nat) (x1 : Int32) (h : Hp) (Q : Int32 → Hp → Prop) (hw : wp_X11_misledBy o x1 h Q) : Met l yX11_misledBy (ww yX11_misledBy cX11_misledBy 4 (some .int)) rm_X11_misledBy (va_Pc [.ref o, .int x1] (PU G base h)) (va_Qi Q (PU G base) (fun q => base ≤ q)) 0 0 (fun q => base ≤ q) := by
  refine met_of (own := RX11) (nm := "misledBy") (by decide) rfl rfl (List.forall_mem_cons.mpr ⟨rfl, (List.forall_mem_cons.mpr ⟨rfl, (fun _ h => absurd h List.not_mem_nil)⟩)⟩) (Nat.le_of_ble_eq_true rfl) rfl ?_
  intro p e s m below meth c ls hM hC hl
  obtain ⟨hx, hb, hr, hml, hown, hts, hg, hs, hlk, hnm⟩ := id hM
  obtain ⟨args, hargs⟩ : ∃ a : Array Value, a = ([.ref o, .int x1] : List Value).toArray := ⟨_, rfl⟩
  rw [← hargs] at hM hts ⊢
  obtain ⟨H, hH⟩ : ∃ H : Heap, H = s.heap := ⟨_, rfl⟩
  obtain ⟨locs, hlocs⟩ : ∃ x : List Loc, x = [] := ⟨_, rfl⟩
  have hC : Cx G base h s.heap H locs := by rw [hH, hlocs]; exact hC
  show W p l e rm_X11_misledBy s m args below meth c s.heap [] 0 0 (MQ below (va_Qi Q (PU G base) (fun q => base ≤ q)) args s 0 0 (fun q => base ≤ q)) (F0 m 0 ls [])
  rw [← hlocs]
  have hgoal : W p l e rm_X11_misledBy s m args below meth c H locs 0 0 (MQ below (va_Qi Q (PU G base) (fun q => base ≤ q)) args s 0 0 (fun q => base ≤ q)) (F0 m 0 ls []) := ?_
  · rw [hH] at hgoal; exact hgoal
  clear hH hlocs
  unfold wp_X11_misledBy at hw
  refine lv_iconst (v := 0) hx hb dX11_misledBy_0 (by decide) ?_
  refine lo_istore_n (lv' := [(2, .int ((0 : Int32))), (0, .ref o), (1, .int x1)]) hx hb dX11_misledBy_1 rfl hl (by decide) rfl (fun ls hl => ?_)
  refine lv_iconst (v := 0) hx hb dX11_misledBy_2 (by decide) ?_
  refine lo_istore_n (lv' := [(3, .int ((0 : Int32))), (2, .int ((0 : Int32))), (0, .ref o), (1, .int x1)]) hx hb dX11_misledBy_3 rfl hl (by decide) rfl (fun ls hl => ?_)
  refine t_X11_misledBy_L4 hM o x1 _ Q ?_ fuel (0 : Int32) (0 : Int32) h H locs ls hC (lo_sub hl [2, 3, 1, 0] rfl) hw
  intro y11 h10 H locs ls hC hl hw
  refine lv_iload_n hx hb dX11_misledBy_39 rfl (lo_at hl 0 rfl) ?_
  exact ret_i hM hC hw dX11_misledBy_40
