abbrev rm_X12_isLooker : Room := { frames := 0, cells := 0, slots := 0, locals := 0 }
set_option maxRecDepth 100000 in
def wp_X12_isLooker (o : Nat) (x1 : Int32) (h : Hp) (Q : Int32 → Hp → Prop) : Prop := (if x1 < 0 then (Q (0 : Int32) h) else (((hpK h o).1 = 20 + 10) ∧ ((if (hpI h o 45) ≤ x1 then (Q (0 : Int32) h) else (Q (1 : Int32) h)))))
set_option maxHeartbeats 4000000 in
set_option maxRecDepth 100000 in
theorem c_X12_isLooker (l : Launch) (G : GG) (base : Nat) (A : Nat → Nat) (o : Nat) (x1 : Int32) (h : Hp) (Q : Int32 → Hp → Prop) (hw : wp_X12_isLooker o x1 h Q) : Met l yX12_isLooker (ww yX12_isLooker cX12_isLooker 2 (some .boolean)) rm_X12_isLooker (va_Pc [.ref (A o), .int x1] (PU2 G base A h A h)) (va_Qi Q (PU2 G base A h A) (fun q => base ≤ q)) 0 0 (fun q => base ≤ q) := by
  refine met2_of (own := RX12) (nm := "isLooker") (by decide) rfl rfl (List.forall_mem_cons.mpr ⟨rfl, (List.forall_mem_cons.mpr ⟨rfl, (fun _ h => absurd h List.not_mem_nil)⟩)⟩) (Nat.le_of_ble_eq_true rfl) rfl ?_
  intro p e s m args below meth c H locs ls hM hC hl
  obtain ⟨hx, hb, hr, hml, hown, hts, hg, hs, hlk, hnm⟩ := id hM
  unfold wp_X12_isLooker at hw
  refine lv_iload_n hx hb dX12_isLooker_0 rfl (lo_at hl 1 rfl) ?_
  refine lv_if_lt (tgt := 16) hx hb dX12_isLooker_1 (by decide) (fun c1 => ?_) (fun c1 => ?_)
  ·
    replace hw := (if_pos c1).mp hw
    refine lv_iconst (v := 0) hx hb dX12_isLooker_16 (by decide) ?_
    exact ret2_t hM hC rfl hw dX12_isLooker_17
  ·
    replace hw := (if_neg c1).mp hw
    refine lv_iload_n hx hb dX12_isLooker_4 rfl (lo_at hl 1 rfl) ?_
    refine lv_aload_n hx hb dX12_isLooker_5 rfl (lo_at hl 0 rfl) ?_
    obtain ⟨k2, hw⟩ := hw
    refine s_getI hx hb hts hown hg hC fb_10_45 k2 mk_f_RX12_283 dX12_isLooker_6 ?_
    refine lv_icmp_ge (tgt := 16) hx hb dX12_isLooker_9 (by decide) (fun c3 => ?_) (fun c3 => ?_)
    ·
      replace hw := (if_pos c3).mp hw
      refine lv_iconst (v := 0) hx hb dX12_isLooker_16 (by decide) ?_
      exact ret2_t hM hC rfl hw dX12_isLooker_17
    ·
      replace hw := (if_neg c3).mp hw
      refine lv_iconst (v := 1) hx hb dX12_isLooker_12 (by decide) ?_
      refine lv_goto (tgt := 17) hx hb dX12_isLooker_13 (by decide) ?_
      exact ret2_t hM hC rfl hw dX12_isLooker_17
abbrev rm_X12_looker : Room := { frames := 1, cells := 0, slots := 0, locals := 23 }
set_option maxRecDepth 100000 in
def wp_X12_looker (o : Nat) (x1 : Int32) (h : Hp) (Q : Int32 → Hp → Prop) : Prop := ((hpK h o).1 = 20 + 10) ∧ (∀ h2 : Hp, h2 = stI h o 0 (0 : Int32) → (((hpK h2 o).1 = 20 + 10) ∧ (wp_X12_isIn o x1 (0 : Int32) (15 : Int32) h2 (fun (z5 : Int32) (h4 : Hp) => (if z5 = 0 then (Q (-1 : Int32) h4) else (((hpK h4 o).1 = 20 + 10) ∧ ((if (hpI h4 o 45) = (6 : Int32) then (Q (-1 : Int32) h4) else (okA h4 (hpR h4 o 46) 1 (hpI h4 o 45) ∧ (∀ h10 : Hp, h10 = stI h4 (ad (hpR h4 o 46)) (hpI h4 o 45).toNatClampNeg x1 → (((hpK h10 o).1 = 20 + 10) ∧ (∀ h12 : Hp, h12 = stI h10 o 45 ((hpI h10 o 45) + (1 : Int32)) → (((hpK h12 o).1 = 20 + 10) ∧ (Q ((hpI h12 o 45) - (1 : Int32)) h12))))))))))))))
set_option maxHeartbeats 4000000 in
set_option maxRecDepth 100000 in
theorem c_X12_looker (l : Launch) (G : GG) (base : Nat) (A : Nat → Nat) (o : Nat) (x1 : Int32) (h : Hp) (Q : Int32 → Hp → Prop) (hw : wp_X12_looker o x1 h Q) : Met l yX12_looker (ww yX12_looker cX12_looker 2 (some .int)) rm_X12_looker (va_Pc [.ref (A o), .int x1] (PU2 G base A h A h)) (va_Qi Q (PU2 G base A h A) (fun q => base ≤ q)) 0 0 (fun q => base ≤ q) := by
  refine met2_of (own := RX12) (nm := "looker") (by decide) rfl rfl (List.forall_mem_cons.mpr ⟨rfl, (List.forall_mem_cons.mpr ⟨rfl, (fun _ h => absurd h List.not_mem_nil)⟩)⟩) (Nat.le_of_ble_eq_true rfl) rfl ?_
  intro p e s m args below meth c H locs ls hM hC hl
  obtain ⟨hx, hb, hr, hml, hown, hts, hg, hs, hlk, hnm⟩ := id hM
  unfold wp_X12_looker at hw
  refine lv_aload_n hx hb dX12_looker_0 rfl (lo_at hl 0 rfl) ?_
  refine lv_iconst (v := 0) hx hb dX12_looker_1 (by decide) ?_
  obtain ⟨k1, hw⟩ := hw
  refine s_putI hx hb hts hown hg hC fb_10_0 k1 rfl rfl mk_f_RX12_132 dX12_looker_2 (fun h2 H locs eh2 hC => ?_)
  replace hw := hw h2 eh2
  refine lv_aload_n hx hb dX12_looker_5 rfl (lo_at hl 0 rfl) ?_
  refine lv_iload_n hx hb dX12_looker_6 rfl (lo_at hl 1 rfl) ?_
  refine lv_iconst (v := 0) hx hb dX12_looker_7 (by decide) ?_
  refine lv_bipush (v := 15) hx hb dX12_looker_8 (by decide) ?_
  obtain ⟨k3, hw⟩ := hw
  refine res2_i hC (run2_V (As := [.int x1, .int ((0 : Int32)), .int ((15 : Int32))]) (rest := []) hM hC hl.1.1 kv_RX12_144 (c_X12_isIn l G base A o x1 (0 : Int32) (15 : Int32) h2 _ hw) (hc_10) k3 rfl rfl rfl ⟨Nat.le_of_ble_eq_true rfl, Nat.le_of_ble_eq_true rfl⟩ (Nat.le_of_ble_eq_true rfl) ⟨Nat.le_of_ble_eq_true rfl, Nat.le_of_ble_eq_true rfl⟩ dX12_looker_10) (fun z5 h4 H locs hw hC => ?_)
  refine lv_if_eq (tgt := 25) hx hb dX12_looker_13 (by decide) (fun c6 => ?_) (fun c6 => ?_)
  ·
    replace hw := (if_pos c6).mp hw
    refine lv_iconst (v := -1) hx hb dX12_looker_25 (by decide) ?_
    exact ret2_i hM hC hw dX12_looker_26
  ·
    replace hw := (if_neg c6).mp hw
    refine lv_aload_n hx hb dX12_looker_16 rfl (lo_at hl 0 rfl) ?_
    obtain ⟨k7, hw⟩ := hw
    refine s_getI hx hb hts hown hg hC fb_10_45 k7 mk_f_RX12_283 dX12_looker_17 ?_
    refine lv_bipush (v := 6) hx hb dX12_looker_20 (by decide) ?_
    refine lv_icmp_ne (tgt := 27) hx hb dX12_looker_22 (by decide) (fun c8 => ?_) (fun c8 => ?_)
    ·
      replace hw := (if_neg c8).mp hw
      refine lv_aload_n hx hb dX12_looker_27 rfl (lo_at hl 0 rfl) ?_
      refine s_getR hx hb hts hown hg hC fb_10_46 k7 mk_f_RX12_92 dX12_looker_28 ?_
      refine lv_aload_n hx hb dX12_looker_31 rfl (lo_at hl 0 rfl) ?_
      refine s_getI hx hb hts hown hg hC fb_10_45 k7 mk_f_RX12_283 dX12_looker_32 ?_
      refine lv_iload_n hx hb dX12_looker_35 rfl (lo_at hl 1 rfl) ?_
      obtain ⟨k9, hw⟩ := hw
      refine sf_3 k9.1 ?_
      refine s_iast hx hb hg hC k9.2.1 k9.2.2 dX12_looker_36 (fun h10 H locs eh10 hC => ?_)
      replace hw := hw h10 eh10
      refine lv_aload_n hx hb dX12_looker_37 rfl (lo_at hl 0 rfl) ?_
      refine lv_aload_n hx hb dX12_looker_38 rfl (lo_at hl 0 rfl) ?_
      obtain ⟨k11, hw⟩ := hw
      refine s_getI hx hb hts hown hg hC fb_10_45 k11 mk_f_RX12_283 dX12_looker_39 ?_
      refine lv_iconst (v := 1) hx hb dX12_looker_42 (by decide) ?_
      refine lv_iadd hx hb dX12_looker_43 ?_
      refine s_putI hx hb hts hown hg hC fb_10_45 k11 rfl rfl mk_f_RX12_283 dX12_looker_44 (fun h12 H locs eh12 hC => ?_)
      replace hw := hw h12 eh12
      refine lv_aload_n hx hb dX12_looker_47 rfl (lo_at hl 0 rfl) ?_
      obtain ⟨k13, hw⟩ := hw
      refine s_getI hx hb hts hown hg hC fb_10_45 k13 mk_f_RX12_283 dX12_looker_48 ?_
      refine lv_iconst (v := 1) hx hb dX12_looker_51 (by decide) ?_
      refine lv_isub hx hb dX12_looker_52 ?_
      exact ret2_i hM hC hw dX12_looker_53
    ·
      replace hw := (if_pos c8).mp hw
      refine lv_iconst (v := -1) hx hb dX12_looker_25 (by decide) ?_
      exact ret2_i hM hC hw dX12_looker_26
abbrev rm_X12_runs : Room := { frames := 0, cells := 0, slots := 0, locals := 0 }
set_option maxRecDepth 100000 in
def wp_X12_runs_J66 (o : Nat) (x1 : Int32) (s0 : Int32) (Q : Int32 → Hp → Prop) (h : Hp) : Prop := ((hpK h o).1 = 20 + 10) ∧ (okA h (hpR h o 46) 1 x1 ∧ (∀ v12 : Int32, v12 = hpI h (ad (hpR h o 46)) (x1).toNatClampNeg → ((if v12 < s0 then (Q (0 : Int32) h) else (Q (1 : Int32) h)))))
set_option maxRecDepth 100000 in
def wp_X12_runs (o : Nat) (x1 : Int32) (x2 : Int32) (x3 : Int32) (x4 : Int32) (x5 : Int32) (h : Hp) (Q : Int32 → Hp → Prop) : Prop := ((hpK h o).1 = 20 + 10) ∧ (okA h (hpR h o 13) 1 (((32 : Int32) * x2) + x4) ∧ (∀ v3 : Int32, v3 = hpI h (ad (hpR h o 13)) (((32 : Int32) * x2) + x4).toNatClampNeg → (okA h (hpR h o 13) 1 (((32 : Int32) * x3) + ((x4 + x5) - (x4 + x5) / (32 : Int32) * (32 : Int32))) ∧ (∀ v5 : Int32, v5 = hpI h (ad (hpR h o 13)) (((32 : Int32) * x3) + ((x4 + x5) - (x4 + x5) / (32 : Int32) * (32 : Int32))).toNatClampNeg → (∀ v6 : Int32, v6 = v3 - v5 → ((if v3 = (-1 : Int32) then (Q (0 : Int32) h) else ((if v5 = (-1 : Int32) then (Q (0 : Int32) h) else ((if 0 ≤ v6 then (wp_X12_runs_J66 o x1 v6 Q h) else (wp_X12_runs_J66 o x1 (-v6) Q h))))))))))))
set_option maxHeartbeats 4000000 in
set_option maxRecDepth 100000 in
theorem t_X12_runs_J66 {p : Program} {l : Launch} {e : Env} {s : State} {m : MethodId} {args : Array Value} {below : List Frame} {meth : Method} {c : Code} {G : GG} {base : Nat} {A : Nat → Nat} {g0 : Hp} (hM : Mx G base p s m args meth c cX12_runs 9 (some .boolean) RX12 "runs") (o : Nat) (x1 : Int32) (s0 : Int32) (Q : Int32 → Hp → Prop) (h : Hp) (H : Heap) (locs : List Loc) (ls : Array Slot) : Cx2 G base A g0 A h s.heap H locs → lo_has ls 9 [(0, .ref (A o)), (1, .int x1)] → wp_X12_runs_J66 o x1 s0 Q h → W p l e rm_X12_runs s m args below meth c H locs 0 0 (MQ below (va_Qi Q (PU2 G base A g0 A) (fun q => base ≤ q)) args s 0 0 (fun q => base ≤ q)) (F0 m 66 ls [.int s0]) := by
  intro hC hl hw
  unfold wp_X12_runs_J66 at hw
  obtain ⟨hx, hb, hr, hml, hown, hts, hg, hs, hlk, hnm⟩ := id hM
  refine lv_aload_n hx hb dX12_runs_66 rfl (lo_at hl 0 rfl) ?_
  obtain ⟨k10, hw⟩ := hw
  refine s_getR hx hb hts hown hg hC fb_10_46 k10 mk_f_RX12_92 dX12_runs_67 ?_
  refine lv_iload_n hx hb dX12_runs_70 rfl (lo_at hl 1 rfl) ?_
  obtain ⟨k11, hw⟩ := hw
  refine sf_2 k11.1 ?_
  refine s_iald hx hb hg hC k11.2.1 k11.2.2 dX12_runs_71 ?_
  refine lv_topi (fun v12 ev12 => ?_)
  replace hw := hw v12 ev12
  refine lv_icmp_gt (tgt := 79) hx hb dX12_runs_72 (by decide) (fun c13 => ?_) (fun c13 => ?_)
  ·
    replace hw := (if_pos c13).mp hw
    refine lv_iconst (v := 0) hx hb dX12_runs_79 (by decide) ?_
    exact ret2_t hM hC rfl hw dX12_runs_80
  ·
    replace hw := (if_neg c13).mp hw
    refine lv_iconst (v := 1) hx hb dX12_runs_75 (by decide) ?_
    refine lv_goto (tgt := 80) hx hb dX12_runs_76 (by decide) ?_
    exact ret2_t hM hC rfl hw dX12_runs_80
set_option maxHeartbeats 4000000 in
set_option maxRecDepth 100000 in
theorem c_X12_runs (l : Launch) (G : GG) (base : Nat) (A : Nat → Nat) (o : Nat) (x1 : Int32) (x2 : Int32) (x3 : Int32) (x4 : Int32) (x5 : Int32) (h : Hp) (Q : Int32 → Hp → Prop) (hw : wp_X12_runs o x1 x2 x3 x4 x5 h Q) : Met l yX12_runs (ww yX12_runs cX12_runs 9 (some .boolean)) rm_X12_runs (va_Pc [.ref (A o), .int x1, .int x2, .int x3, .int x4, .int x5] (PU2 G base A h A h)) (va_Qi Q (PU2 G base A h A) (fun q => base ≤ q)) 0 0 (fun q => base ≤ q) := by
  refine met2_of (own := RX12) (nm := "runs") (by decide) rfl rfl (List.forall_mem_cons.mpr ⟨rfl, (List.forall_mem_cons.mpr ⟨rfl, (List.forall_mem_cons.mpr ⟨rfl, (List.forall_mem_cons.mpr ⟨rfl, (List.forall_mem_cons.mpr ⟨rfl, (List.forall_mem_cons.mpr ⟨rfl, (fun _ h => absurd h List.not_mem_nil)⟩)⟩)⟩)⟩)⟩)⟩) (Nat.le_of_ble_eq_true rfl) rfl ?_
  intro p e s m args below meth c H locs ls hM hC hl
  obtain ⟨hx, hb, hr, hml, hown, hts, hg, hs, hlk, hnm⟩ := id hM
  unfold wp_X12_runs at hw
  refine lv_aload_n hx hb dX12_runs_0 rfl (lo_at hl 0 rfl) ?_
  obtain ⟨k1, hw⟩ := hw
  refine s_getR hx hb hts hown hg hC fb_10_13 k1 mk_f_RX12_37 dX12_runs_1 ?_
  refine lv_bipush (v := 32) hx hb dX12_runs_4 (by decide) ?_
  refine lv_iload_n hx hb dX12_runs_6 rfl (lo_at hl 2 rfl) ?_
  refine lv_imul hx hb dX12_runs_7 ?_
  refine lv_iload hx hb dX12_runs_8 (lo_at hl 4 rfl) ?_
  refine lv_iadd hx hb dX12_runs_10 ?_
  obtain ⟨k2, hw⟩ := hw
  refine sf_2 k2.1 ?_
  refine s_iald hx hb hg hC k2.2.1 k2.2.2 dX12_runs_11 ?_
  refine lv_topi (fun v3 ev3 => ?_)
  replace hw := hw v3 ev3
  refine lo_istore (lv' := [(6, .int v3), (0, .ref (A o)), (1, .int x1), (2, .int x2), (3, .int x3), (4, .int x4), (5, .int x5)]) hx hb dX12_runs_12 hl (by decide) rfl (fun ls hl => ?_)
  refine lv_aload_n hx hb dX12_runs_14 rfl (lo_at hl 1 rfl) ?_
  refine s_getR hx hb hts hown hg hC fb_10_13 k1 mk_f_RX12_37 dX12_runs_15 ?_
  refine lv_bipush (v := 32) hx hb dX12_runs_18 (by decide) ?_
  refine lv_iload_n hx hb dX12_runs_20 rfl (lo_at hl 4 rfl) ?_
  refine lv_imul hx hb dX12_runs_21 ?_
  refine lv_iload hx hb dX12_runs_22 (lo_at hl 5 rfl) ?_
  refine lv_iload hx hb dX12_runs_24 (lo_at hl 6 rfl) ?_
  refine lv_iadd hx hb dX12_runs_26 ?_
  refine lv_bipush (v := 32) hx hb dX12_runs_27 (by decide) ?_
  refine lv_irem hx hb dX12_runs_29 (by decide) ?_
  refine lv_iadd hx hb dX12_runs_30 ?_
  obtain ⟨k4, hw⟩ := hw
  refine sf_2 k4.1 ?_
  refine s_iald hx hb hg hC k4.2.1 k4.2.2 dX12_runs_31 ?_
  refine lv_topi (fun v5 ev5 => ?_)
  replace hw := hw v5 ev5
  refine lo_istore (lv' := [(7, .int v5), (6, .int v3), (0, .ref (A o)), (1, .int x1), (2, .int x2), (3, .int x3), (4, .int x4), (5, .int x5)]) hx hb dX12_runs_32 hl (by decide) rfl (fun ls hl => ?_)
  refine lv_iload hx hb dX12_runs_34 (lo_at hl 1 rfl) ?_
  refine lv_iload hx hb dX12_runs_36 (lo_at hl 0 rfl) ?_
  refine lv_isub hx hb dX12_runs_38 ?_
  refine lv_topi (fun v6 ev6 => ?_)
  replace hw := hw v6 ev6
  refine lo_istore (lv' := [(8, .int v6), (7, .int v5), (6, .int v3), (0, .ref (A o)), (1, .int x1), (2, .int x2), (3, .int x3), (4, .int x4), (5, .int x5)]) hx hb dX12_runs_39 hl (by decide) rfl (fun ls hl => ?_)
  refine lv_iload hx hb dX12_runs_41 (lo_at hl 2 rfl) ?_
  refine lv_iconst (v := -1) hx hb dX12_runs_43 (by decide) ?_
  refine lv_icmp_eq (tgt := 79) hx hb dX12_runs_44 (by decide) (fun c7 => ?_) (fun c7 => ?_)
  ·
    replace hw := (if_pos c7).mp hw
    refine lv_iconst (v := 0) hx hb dX12_runs_79 (by decide) ?_
    exact ret2_t hM hC rfl hw dX12_runs_80
  ·
    replace hw := (if_neg c7).mp hw
    refine lv_iload hx hb dX12_runs_47 (lo_at hl 1 rfl) ?_
    refine lv_iconst (v := -1) hx hb dX12_runs_49 (by decide) ?_
    refine lv_icmp_eq (tgt := 79) hx hb dX12_runs_50 (by decide) (fun c8 => ?_) (fun c8 => ?_)
    ·
      replace hw := (if_pos c8).mp hw
      refine lv_iconst (v := 0) hx hb dX12_runs_79 (by decide) ?_
      exact ret2_t hM hC rfl hw dX12_runs_80
    ·
      replace hw := (if_neg c8).mp hw
      refine lv_iload hx hb dX12_runs_53 (lo_at hl 0 rfl) ?_
      refine lv_if_ge (tgt := 64) hx hb dX12_runs_55 (by decide) (fun c9 => ?_) (fun c9 => ?_)
      ·
        replace hw := (if_pos c9).mp hw
        refine lv_iload hx hb dX12_runs_64 (lo_at hl 0 rfl) ?_
        exact t_X12_runs_J66 hM o x1 v6 Q  h H locs ls hC (lo_sub hl [3, 4] rfl) hw
      ·
        replace hw := (if_neg c9).mp hw
        refine lv_iload hx hb dX12_runs_58 (lo_at hl 0 rfl) ?_
        refine lv_ineg hx hb dX12_runs_60 ?_
        refine lv_goto (tgt := 66) hx hb dX12_runs_61 (by decide) ?_
        exact t_X12_runs_J66 hM o x1 (-v6) Q  h H locs ls hC (lo_sub hl [3, 4] rfl) hw
abbrev rm_X12_manyOf : Room := { frames := 1, cells := 0, slots := 0, locals := 28 }
set_option maxRecDepth 100000 in
def wp_X12_manyOf_L6 (o : Nat) (x1 : Int32) (x2 : Int32) (x3 : Int32) (x4 : Int32) (K39 : Int32 → Hp → Prop) (Q : Int32 → Hp → Prop) : Nat → Int32 → Int32 → Hp → Prop
  | 0, _, _, _ => False
  | n + 1, x5, x6, h => (if (32 : Int32) ≤ x6 then (K39 x5 h) else (((hpK h o).1 = 20 + 10) ∧ (wp_X12_runs o x1 x2 x3 x6 x4 h (fun (z4 : Int32) (h3 : Hp) => (if z4 = 0 then (∀ v6 : Int32, v6 = x6 + (1 : Int32) → (wp_X12_manyOf_L6 o x1 x2 x3 x4 K39 Q n x5 v6 h3)) else (∀ v7 : Int32, v7 = x5 + (1 : Int32) → (∀ v8 : Int32, v8 = x6 + (1 : Int32) → (wp_X12_manyOf_L6 o x1 x2 x3 x4 K39 Q n v7 v8 h3))))))))
set_option maxRecDepth 100000 in
def wp_X12_manyOf (o : Nat) (x1 : Int32) (x2 : Int32) (x3 : Int32) (x4 : Int32) (h : Hp) (Q : Int32 → Hp → Prop) : Prop := wp_X12_manyOf_L6 o x1 x2 x3 x4 (fun (y10 : Int32) (h9 : Hp) => Q y10 h9) Q fuel (0 : Int32) (0 : Int32) h
set_option maxHeartbeats 4000000 in
set_option maxRecDepth 100000 in
theorem t_X12_manyOf_L6 {p : Program} {l : Launch} {e : Env} {s : State} {m : MethodId} {args : Array Value} {below : List Frame} {meth : Method} {c : Code} {G : GG} {base : Nat} {A : Nat → Nat} {g0 : Hp} (hM : Mx G base p s m args meth c cX12_manyOf 7 (some .int) RX12 "manyOf") (o : Nat) (x1 : Int32) (x2 : Int32) (x3 : Int32) (x4 : Int32) (K39 : Int32 → Hp → Prop) (Q : Int32 → Hp → Prop) (hK39 : ∀ (y5 : Int32) (h : Hp) (H : Heap) (locs : List Loc) (ls : Array Slot), Cx2 G base A g0 A h s.heap H locs → lo_has ls 7 [(5, .int y5)] → K39 y5 h → W p l e rm_X12_manyOf s m args below meth c H locs 0 0 (MQ below (va_Qi Q (PU2 G base A g0 A) (fun q => base ≤ q)) args s 0 0 (fun q => base ≤ q)) (F0 m 39 ls [])) : ∀ (n : Nat) (x5 : Int32) (x6 : Int32) (h : Hp) (H : Heap) (locs : List Loc) (ls : Array Slot), Cx2 G base A g0 A h s.heap H locs → lo_has ls 7 [(0, .ref (A o)), (1, .int x1), (2, .int x2), (3, .int x3), (4, .int x4), (5, .int x5), (6, .int x6)] → wp_X12_manyOf_L6 o x1 x2 x3 x4 K39 Q n x5 x6 h → W p l e rm_X12_manyOf s m args below meth c H locs 0 0 (MQ below (va_Qi Q (PU2 G base A g0 A) (fun q => base ≤ q)) args s 0 0 (fun q => base ≤ q)) (F0 m 6 ls []) := by
  intro n
  induction n with
  | zero =>
    intro x5 x6 h H locs ls hC hl hw
    rw [wp_X12_manyOf_L6] at hw
    exact hw.elim
  | succ n ih =>
    intro x5 x6 h H locs ls hC hl hw
    rw [wp_X12_manyOf_L6] at hw
    obtain ⟨hx, hb, hr, hml, hown, hts, hg, hs, hlk, hnm⟩ := id hM
    refine lv_iload hx hb dX12_manyOf_6 (lo_at hl 6 rfl) ?_
    refine lv_bipush (v := 32) hx hb dX12_manyOf_8 (by decide) ?_
    refine lv_icmp_ge (tgt := 39) hx hb dX12_manyOf_10 (by decide) (fun c1 => ?_) (fun c1 => ?_)
    ·
      replace hw := (if_pos c1).mp hw
      exact hK39 x5 h H locs ls hC (lo_sub hl [5] rfl) hw
    ·
      replace hw := (if_neg c1).mp hw
      refine lv_aload_n hx hb dX12_manyOf_13 rfl (lo_at hl 0 rfl) ?_
      refine lv_iload_n hx hb dX12_manyOf_14 rfl (lo_at hl 1 rfl) ?_
      refine lv_iload_n hx hb dX12_manyOf_15 rfl (lo_at hl 2 rfl) ?_
      refine lv_iload_n hx hb dX12_manyOf_16 rfl (lo_at hl 3 rfl) ?_
      refine lv_iload hx hb dX12_manyOf_17 (lo_at hl 6 rfl) ?_
      refine lv_iload hx hb dX12_manyOf_19 (lo_at hl 4 rfl) ?_
      obtain ⟨k2, hw⟩ := hw
      refine res2_i hC (run2_V (As := [.int x1, .int x2, .int x3, .int x6, .int x4]) (rest := []) hM hC hl.1.1 kv_RX12_298 (c_X12_runs l G base A o x1 x2 x3 x6 x4 h _ hw) (hc_10) k2 rfl rfl rfl ⟨Nat.le_of_ble_eq_true rfl, Nat.le_of_ble_eq_true rfl⟩ (Nat.le_of_ble_eq_true rfl) ⟨Nat.le_of_ble_eq_true rfl, Nat.le_of_ble_eq_true rfl⟩ dX12_manyOf_21) (fun z4 h3 H locs hw hC => ?_)
      refine lv_if_eq (tgt := 33) hx hb dX12_manyOf_24 (by decide) (fun c5 => ?_) (fun c5 => ?_)
      ·
        replace hw := (if_pos c5).mp hw
        obtain ⟨v6, ev6⟩ : ∃ y : Int32, y = x6 + (1 : Int32) := ⟨_, rfl⟩
        replace hw := hw v6 ev6
        refine lo_iinc (v := v6) (lv' := [(6, .int v6), (0, .ref (A o)), (1, .int x1), (2, .int x2), (3, .int x3), (4, .int x4), (5, .int x5)]) hx hb dX12_manyOf_33 hl (k := 6) rfl (by rw [ev6]; rfl) (by decide) rfl (fun ls hl => ?_)
        refine lv_goto (tgt := 6) hx hb dX12_manyOf_36 (by decide) ?_
        exact ih x5 v6 h3 H locs ls hC (lo_sub hl [1, 2, 3, 4, 5, 6, 0] rfl) hw
      ·
        replace hw := (if_neg c5).mp hw
        refine lv_iload hx hb dX12_manyOf_27 (lo_at hl 5 rfl) ?_
        refine lv_iconst (v := 1) hx hb dX12_manyOf_29 (by decide) ?_
        refine lv_iadd hx hb dX12_manyOf_30 ?_
        refine lv_topi (fun v7 ev7 => ?_)
        replace hw := hw v7 ev7
        refine lo_istore (lv' := [(5, .int v7), (0, .ref (A o)), (1, .int x1), (2, .int x2), (3, .int x3), (4, .int x4), (6, .int x6)]) hx hb dX12_manyOf_31 hl (by decide) rfl (fun ls hl => ?_)
        obtain ⟨v8, ev8⟩ : ∃ y : Int32, y = x6 + (1 : Int32) := ⟨_, rfl⟩
        replace hw := hw v8 ev8
        refine lo_iinc (v := v8) (lv' := [(6, .int v8), (5, .int v7), (0, .ref (A o)), (1, .int x1), (2, .int x2), (3, .int x3), (4, .int x4)]) hx hb dX12_manyOf_33 hl (k := 6) rfl (by rw [ev8]; rfl) (by decide) rfl (fun ls hl => ?_)
        refine lv_goto (tgt := 6) hx hb dX12_manyOf_36 (by decide) ?_
        exact ih v7 v8 h3 H locs ls hC (lo_sub hl [2, 3, 4, 5, 6, 1, 0] rfl) hw
set_option maxHeartbeats 4000000 in
set_option maxRecDepth 100000 in
theorem c_X12_manyOf (l : Launch) (G : GG) (base : Nat) (A : Nat → Nat) (o : Nat) (x1 : Int32) (x2 : Int32) (x3 : Int32) (x4 : Int32) (h : Hp) (Q : Int32 → Hp → Prop) (hw : wp_X12_manyOf o x1 x2 x3 x4 h Q) : Met l yX12_manyOf (ww yX12_manyOf cX12_manyOf 7 (some .int)) rm_X12_manyOf (va_Pc [.ref (A o), .int x1, .int x2, .int x3, .int x4] (PU2 G base A h A h)) (va_Qi Q (PU2 G base A h A) (fun q => base ≤ q)) 0 0 (fun q => base ≤ q) := by
  refine met2_of (own := RX12) (nm := "manyOf") (by decide) rfl rfl (List.forall_mem_cons.mpr ⟨rfl, (List.forall_mem_cons.mpr ⟨rfl, (List.forall_mem_cons.mpr ⟨rfl, (List.forall_mem_cons.mpr ⟨rfl, (List.forall_mem_cons.mpr ⟨rfl, (fun _ h => absurd h List.not_mem_nil)⟩)⟩)⟩)⟩)⟩) (Nat.le_of_ble_eq_true rfl) rfl ?_
  intro p e s m args below meth c H locs ls hM hC hl
  obtain ⟨hx, hb, hr, hml, hown, hts, hg, hs, hlk, hnm⟩ := id hM
  unfold wp_X12_manyOf at hw
  refine lv_iconst (v := 0) hx hb dX12_manyOf_0 (by decide) ?_
  refine lo_istore (lv' := [(5, .int ((0 : Int32))), (0, .ref (A o)), (1, .int x1), (2, .int x2), (3, .int x3), (4, .int x4)]) hx hb dX12_manyOf_1 hl (by decide) rfl (fun ls hl => ?_)
  refine lv_iconst (v := 0) hx hb dX12_manyOf_3 (by decide) ?_
  refine lo_istore (lv' := [(6, .int ((0 : Int32))), (5, .int ((0 : Int32))), (0, .ref (A o)), (1, .int x1), (2, .int x2), (3, .int x3), (4, .int x4)]) hx hb dX12_manyOf_4 hl (by decide) rfl (fun ls hl => ?_)
  refine t_X12_manyOf_L6 hM o x1 x2 x3 x4 _ Q ?_ fuel (0 : Int32) (0 : Int32) h H locs ls hC (lo_sub hl [2, 3, 4, 5, 6, 1, 0] rfl) hw
  intro y10 h9 H locs ls hC hl hw
  refine lv_iload hx hb dX12_manyOf_39 (lo_at hl 0 rfl) ?_
  exact ret2_i hM hC hw dX12_manyOf_41
abbrev rm_X12_bestSlide : Room := { frames := 2, cells := 0, slots := 0, locals := 54 }
set_option maxRecDepth 100000 in
def wp_X12_bestSlide_L9 (o : Nat) (x1 : Int32) (x2 : Int32) (x3 : Int32) (K51 : Int32 → Hp → Prop) (Q : Int32 → Hp → Prop) : Nat → Int32 → Int32 → Int32 → Hp → Prop
  | 0, _, _, _, _ => False
  | n + 1, x4, x5, x6, h => (if (32 : Int32) ≤ x6 then (K51 x4 h) else (((hpK h o).1 = 20 + 10) ∧ (wp_X12_manyOf o x1 x2 x3 x6 h (fun (z4 : Int32) (h3 : Hp) => (if x5 < z4 then (∀ v6 : Int32, v6 = x6 + (1 : Int32) → (wp_X12_bestSlide_L9 o x1 x2 x3 K51 Q n x6 z4 v6 h3)) else (∀ v7 : Int32, v7 = x6 + (1 : Int32) → (wp_X12_bestSlide_L9 o x1 x2 x3 K51 Q n x4 x5 v7 h3)))))))
set_option maxRecDepth 100000 in
def wp_X12_bestSlide (o : Nat) (x1 : Int32) (x2 : Int32) (x3 : Int32) (h : Hp) (Q : Int32 → Hp → Prop) : Prop := wp_X12_bestSlide_L9 o x1 x2 x3 (fun (y9 : Int32) (h8 : Hp) => Q y9 h8) Q fuel (0 : Int32) (-1 : Int32) (0 : Int32) h
set_option maxHeartbeats 4000000 in
set_option maxRecDepth 100000 in
theorem t_X12_bestSlide_L9 {p : Program} {l : Launch} {e : Env} {s : State} {m : MethodId} {args : Array Value} {below : List Frame} {meth : Method} {c : Code} {G : GG} {base : Nat} {A : Nat → Nat} {g0 : Hp} (hM : Mx G base p s m args meth c cX12_bestSlide 8 (some .int) RX12 "bestSlide") (o : Nat) (x1 : Int32) (x2 : Int32) (x3 : Int32) (K51 : Int32 → Hp → Prop) (Q : Int32 → Hp → Prop) (hK51 : ∀ (y4 : Int32) (h : Hp) (H : Heap) (locs : List Loc) (ls : Array Slot), Cx2 G base A g0 A h s.heap H locs → lo_has ls 8 [(4, .int y4)] → K51 y4 h → W p l e rm_X12_bestSlide s m args below meth c H locs 0 0 (MQ below (va_Qi Q (PU2 G base A g0 A) (fun q => base ≤ q)) args s 0 0 (fun q => base ≤ q)) (F0 m 51 ls [])) : ∀ (n : Nat) (x4 : Int32) (x5 : Int32) (x6 : Int32) (h : Hp) (H : Heap) (locs : List Loc) (ls : Array Slot), Cx2 G base A g0 A h s.heap H locs → lo_has ls 8 [(0, .ref (A o)), (1, .int x1), (2, .int x2), (3, .int x3), (4, .int x4), (5, .int x5), (6, .int x6)] → wp_X12_bestSlide_L9 o x1 x2 x3 K51 Q n x4 x5 x6 h → W p l e rm_X12_bestSlide s m args below meth c H locs 0 0 (MQ below (va_Qi Q (PU2 G base A g0 A) (fun q => base ≤ q)) args s 0 0 (fun q => base ≤ q)) (F0 m 9 ls []) := by
  intro n
  induction n with
  | zero =>
    intro x4 x5 x6 h H locs ls hC hl hw
    rw [wp_X12_bestSlide_L9] at hw
    exact hw.elim
  | succ n ih =>
    intro x4 x5 x6 h H locs ls hC hl hw
    rw [wp_X12_bestSlide_L9] at hw
    obtain ⟨hx, hb, hr, hml, hown, hts, hg, hs, hlk, hnm⟩ := id hM
    refine lv_iload hx hb dX12_bestSlide_9 (lo_at hl 6 rfl) ?_
    refine lv_bipush (v := 32) hx hb dX12_bestSlide_11 (by decide) ?_
    refine lv_icmp_ge (tgt := 51) hx hb dX12_bestSlide_13 (by decide) (fun c1 => ?_) (fun c1 => ?_)
    ·
      replace hw := (if_pos c1).mp hw
      exact hK51 x4 h H locs ls hC (lo_sub hl [4] rfl) hw
    ·
      replace hw := (if_neg c1).mp hw
      refine lv_aload_n hx hb dX12_bestSlide_16 rfl (lo_at hl 0 rfl) ?_
      refine lv_iload_n hx hb dX12_bestSlide_17 rfl (lo_at hl 1 rfl) ?_
      refine lv_iload_n hx hb dX12_bestSlide_18 rfl (lo_at hl 2 rfl) ?_
      refine lv_iload_n hx hb dX12_bestSlide_19 rfl (lo_at hl 3 rfl) ?_
      refine lv_iload hx hb dX12_bestSlide_20 (lo_at hl 6 rfl) ?_
      obtain ⟨k2, hw⟩ := hw
      refine res2_i hC (run2_V (As := [.int x1, .int x2, .int x3, .int x6]) (rest := []) hM hC hl.1.1 kv_RX12_302 (c_X12_manyOf l G base A o x1 x2 x3 x6 h _ hw) (hc_10) k2 rfl rfl rfl ⟨Nat.le_of_ble_eq_true rfl, Nat.le_of_ble_eq_true rfl⟩ (Nat.le_of_ble_eq_true rfl) ⟨Nat.le_of_ble_eq_true rfl, Nat.le_of_ble_eq_true rfl⟩ dX12_bestSlide_22) (fun z4 h3 H locs hw hC => ?_)
      refine lo_istore (lv' := [(7, .int z4), (0, .ref (A o)), (1, .int x1), (2, .int x2), (3, .int x3), (4, .int x4), (5, .int x5), (6, .int x6)]) hx hb dX12_bestSlide_25 hl (by decide) rfl (fun ls hl => ?_)
      refine lv_iload hx hb dX12_bestSlide_27 (lo_at hl 0 rfl) ?_
      refine lv_iload hx hb dX12_bestSlide_29 (lo_at hl 6 rfl) ?_
      refine lv_icmp_gt (tgt := 37) hx hb dX12_bestSlide_31 (by decide) (fun c5 => ?_) (fun c5 => ?_)
      ·
        replace hw := (if_pos c5).mp hw
        refine lv_iload hx hb dX12_bestSlide_37 (lo_at hl 7 rfl) ?_
        refine lo_istore (lv' := [(4, .int x6), (7, .int z4), (0, .ref (A o)), (1, .int x1), (2, .int x2), (3, .int x3), (5, .int x5), (6, .int x6)]) hx hb dX12_bestSlide_39 hl (by decide) rfl (fun ls hl => ?_)
        refine lv_iload hx hb dX12_bestSlide_41 (lo_at hl 1 rfl) ?_
        refine lo_istore (lv' := [(5, .int z4), (4, .int x6), (7, .int z4), (0, .ref (A o)), (1, .int x1), (2, .int x2), (3, .int x3), (6, .int x6)]) hx hb dX12_bestSlide_43 hl (by decide) rfl (fun ls hl => ?_)
        obtain ⟨v6, ev6⟩ : ∃ y : Int32, y = x6 + (1 : Int32) := ⟨_, rfl⟩
        replace hw := hw v6 ev6
        refine lo_iinc (v := v6) (lv' := [(6, .int v6), (5, .int z4), (4, .int x6), (7, .int z4), (0, .ref (A o)), (1, .int x1), (2, .int x2), (3, .int x3)]) hx hb dX12_bestSlide_45 hl (k := 7) rfl (by rw [ev6]; rfl) (by decide) rfl (fun ls hl => ?_)
        refine lv_goto (tgt := 9) hx hb dX12_bestSlide_48 (by decide) ?_
        exact ih x6 z4 v6 h3 H locs ls hC (lo_sub hl [4, 5, 6, 7, 2, 1, 0] rfl) hw
      ·
        replace hw := (if_neg c5).mp hw
        refine lv_goto (tgt := 45) hx hb dX12_bestSlide_34 (by decide) ?_
        obtain ⟨v7, ev7⟩ : ∃ y : Int32, y = x6 + (1 : Int32) := ⟨_, rfl⟩
        replace hw := hw v7 ev7
        refine lo_iinc (v := v7) (lv' := [(6, .int v7), (7, .int z4), (0, .ref (A o)), (1, .int x1), (2, .int x2), (3, .int x3), (4, .int x4), (5, .int x5)]) hx hb dX12_bestSlide_45 hl (k := 7) rfl (by rw [ev7]; rfl) (by decide) rfl (fun ls hl => ?_)
        refine lv_goto (tgt := 9) hx hb dX12_bestSlide_48 (by decide) ?_
        exact ih x4 x5 v7 h3 H locs ls hC (lo_sub hl [2, 3, 4, 5, 6, 7, 0] rfl) hw
set_option maxHeartbeats 4000000 in
set_option maxRecDepth 100000 in
theorem c_X12_bestSlide (l : Launch) (G : GG) (base : Nat) (A : Nat → Nat) (o : Nat) (x1 : Int32) (x2 : Int32) (x3 : Int32) (h : Hp) (Q : Int32 → Hp → Prop) (hw : wp_X12_bestSlide o x1 x2 x3 h Q) : Met l yX12_bestSlide (ww yX12_bestSlide cX12_bestSlide 8 (some .int)) rm_X12_bestSlide (va_Pc [.ref (A o), .int x1, .int x2, .int x3] (PU2 G base A h A h)) (va_Qi Q (PU2 G base A h A) (fun q => base ≤ q)) 0 0 (fun q => base ≤ q) := by
  refine met2_of (own := RX12) (nm := "bestSlide") (by decide) rfl rfl (List.forall_mem_cons.mpr ⟨rfl, (List.forall_mem_cons.mpr ⟨rfl, (List.forall_mem_cons.mpr ⟨rfl, (List.forall_mem_cons.mpr ⟨rfl, (fun _ h => absurd h List.not_mem_nil)⟩)⟩)⟩)⟩) (Nat.le_of_ble_eq_true rfl) rfl ?_
  intro p e s m args below meth c H locs ls hM hC hl
  obtain ⟨hx, hb, hr, hml, hown, hts, hg, hs, hlk, hnm⟩ := id hM
  unfold wp_X12_bestSlide at hw
  refine lv_iconst (v := 0) hx hb dX12_bestSlide_0 (by decide) ?_
  refine lo_istore (lv' := [(4, .int ((0 : Int32))), (0, .ref (A o)), (1, .int x1), (2, .int x2), (3, .int x3)]) hx hb dX12_bestSlide_1 hl (by decide) rfl (fun ls hl => ?_)
  refine lv_iconst (v := -1) hx hb dX12_bestSlide_3 (by decide) ?_
  refine lo_istore (lv' := [(5, .int ((-1 : Int32))), (4, .int ((0 : Int32))), (0, .ref (A o)), (1, .int x1), (2, .int x2), (3, .int x3)]) hx hb dX12_bestSlide_4 hl (by decide) rfl (fun ls hl => ?_)
  refine lv_iconst (v := 0) hx hb dX12_bestSlide_6 (by decide) ?_
  refine lo_istore (lv' := [(6, .int ((0 : Int32))), (5, .int ((-1 : Int32))), (4, .int ((0 : Int32))), (0, .ref (A o)), (1, .int x1), (2, .int x2), (3, .int x3)]) hx hb dX12_bestSlide_7 hl (by decide) rfl (fun ls hl => ?_)
  refine t_X12_bestSlide_L9 hM o x1 x2 x3 _ Q ?_ fuel (0 : Int32) (-1 : Int32) (0 : Int32) h H locs ls hC (lo_sub hl [3, 4, 5, 6, 2, 1, 0] rfl) hw
  intro y9 h8 H locs ls hC hl hw
  refine lv_iload hx hb dX12_bestSlide_51 (lo_at hl 0 rfl) ?_
  exact ret2_i hM hC hw dX12_bestSlide_53
abbrev rm_X12_longestBy : Room := { frames := 1, cells := 0, slots := 0, locals := 28 }
set_option maxRecDepth 100000 in
def wp_X12_longestBy_J41 (o : Nat) (x1 : Int32) (x2 : Int32) (x3 : Int32) (x4 : Int32) (x5 : Int32) (x7 : Int32) (s0 : Int32) (KH : Int32 → Int32 → Int32 → Hp → Prop) (K60 : Int32 → Hp → Prop) (Q : Int32 → Hp → Prop) (h : Hp) : Prop := (if s0 ≤ x5 then (∀ v7 : Int32, v7 = x7 + (1 : Int32) → (KH x5 s0 v7 h)) else (∀ v8 : Int32, v8 = x7 + (1 : Int32) → (KH s0 s0 v8 h)))
set_option maxRecDepth 100000 in
def wp_X12_longestBy_L9 (o : Nat) (x1 : Int32) (x2 : Int32) (x3 : Int32) (x4 : Int32) (K60 : Int32 → Hp → Prop) (Q : Int32 → Hp → Prop) : Nat → Int32 → Int32 → Int32 → Hp → Prop
  | 0, _, _, _, _ => False
  | n + 1, x5, x6, x7, h => (if (64 : Int32) ≤ x7 then (K60 x5 h) else (((hpK h o).1 = 20 + 10) ∧ (wp_X12_runs o x1 x2 x3 (x7 - x7 / (32 : Int32) * (32 : Int32)) x4 h (fun (z4 : Int32) (h3 : Hp) => (if z4 = 0 then (wp_X12_longestBy_J41 o x1 x2 x3 x4 x5 x7 (0 : Int32) (wp_X12_longestBy_L9 o x1 x2 x3 x4 K60 Q n) K60 Q h3) else (wp_X12_longestBy_J41 o x1 x2 x3 x4 x5 x7 (x6 + (1 : Int32)) (wp_X12_longestBy_L9 o x1 x2 x3 x4 K60 Q n) K60 Q h3))))))
set_option maxRecDepth 100000 in
def wp_X12_longestBy (o : Nat) (x1 : Int32) (x2 : Int32) (x3 : Int32) (x4 : Int32) (h : Hp) (Q : Int32 → Hp → Prop) : Prop := wp_X12_longestBy_L9 o x1 x2 x3 x4 (fun (y10 : Int32) (h9 : Hp) => (if y10 ≤ (32 : Int32) then (Q y10 h9) else (Q (32 : Int32) h9))) Q fuel (0 : Int32) (0 : Int32) (0 : Int32) h
set_option maxHeartbeats 4000000 in
set_option maxRecDepth 100000 in
theorem t_X12_longestBy_J41 {p : Program} {l : Launch} {e : Env} {s : State} {m : MethodId} {args : Array Value} {below : List Frame} {meth : Method} {c : Code} {G : GG} {base : Nat} {A : Nat → Nat} {g0 : Hp} (hM : Mx G base p s m args meth c cX12_longestBy 8 (some .int) RX12 "longestBy") (o : Nat) (x1 : Int32) (x2 : Int32) (x3 : Int32) (x4 : Int32) (x5 : Int32) (x7 : Int32) (s0 : Int32) (KH : Int32 → Int32 → Int32 → Hp → Prop) (K60 : Int32 → Hp → Prop) (Q : Int32 → Hp → Prop) (hKH : ∀ (y5 : Int32) (y6 : Int32) (y7 : Int32) (h : Hp) (H : Heap) (locs : List Loc) (ls : Array Slot), Cx2 G base A g0 A h s.heap H locs → lo_has ls 8 [(0, .ref (A o)), (1, .int x1), (2, .int x2), (3, .int x3), (4, .int x4), (5, .int y5), (6, .int y6), (7, .int y7)] → KH y5 y6 y7 h → W p l e rm_X12_longestBy s m args below meth c H locs 0 0 (MQ below (va_Qi Q (PU2 G base A g0 A) (fun q => base ≤ q)) args s 0 0 (fun q => base ≤ q)) (F0 m 9 ls [])) (hK60 : ∀ (y5 : Int32) (h : Hp) (H : Heap) (locs : List Loc) (ls : Array Slot), Cx2 G base A g0 A h s.heap H locs → lo_has ls 8 [(5, .int y5)] → K60 y5 h → W p l e rm_X12_longestBy s m args below meth c H locs 0 0 (MQ below (va_Qi Q (PU2 G base A g0 A) (fun q => base ≤ q)) args s 0 0 (fun q => base ≤ q)) (F0 m 60 ls [])) (h : Hp) (H : Heap) (locs : List Loc) (ls : Array Slot) : Cx2 G base A g0 A h s.heap H locs → lo_has ls 8 [(0, .ref (A o)), (1, .int x1), (2, .int x2), (3, .int x3), (4, .int x4), (5, .int x5), (7, .int x7)] → wp_X12_longestBy_J41 o x1 x2 x3 x4 x5 x7 s0 KH K60 Q h → W p l e rm_X12_longestBy s m args below meth c H locs 0 0 (MQ below (va_Qi Q (PU2 G base A g0 A) (fun q => base ≤ q)) args s 0 0 (fun q => base ≤ q)) (F0 m 41 ls [.int s0]) := by
  intro hC hl hw
  unfold wp_X12_longestBy_J41 at hw
  obtain ⟨hx, hb, hr, hml, hown, hts, hg, hs, hlk, hnm⟩ := id hM
  refine lo_istore (lv' := [(6, .int s0), (0, .ref (A o)), (1, .int x1), (2, .int x2), (3, .int x3), (4, .int x4), (5, .int x5), (7, .int x7)]) hx hb dX12_longestBy_41 hl (by decide) rfl (fun ls hl => ?_)
  refine lv_iload hx hb dX12_longestBy_43 (lo_at hl 0 rfl) ?_
  refine lv_iload hx hb dX12_longestBy_45 (lo_at hl 6 rfl) ?_
  refine lv_icmp_le (tgt := 54) hx hb dX12_longestBy_47 (by decide) (fun c6 => ?_) (fun c6 => ?_)
  ·
    replace hw := (if_pos c6).mp hw
    obtain ⟨v7, ev7⟩ : ∃ y : Int32, y = x7 + (1 : Int32) := ⟨_, rfl⟩
    replace hw := hw v7 ev7
    refine lo_iinc (v := v7) (lv' := [(7, .int v7), (6, .int s0), (0, .ref (A o)), (1, .int x1), (2, .int x2), (3, .int x3), (4, .int x4), (5, .int x5)]) hx hb dX12_longestBy_54 hl (k := 7) rfl (by rw [ev7]; rfl) (by decide) rfl (fun ls hl => ?_)
    refine lv_goto (tgt := 9) hx hb dX12_longestBy_57 (by decide) ?_
    exact hKH x5 s0 v7 h H locs ls hC (lo_sub hl [2, 3, 4, 5, 6, 7, 1, 0] rfl) hw
  ·
    replace hw := (if_neg c6).mp hw
    refine lv_iload hx hb dX12_longestBy_50 (lo_at hl 0 rfl) ?_
    refine lo_istore (lv' := [(5, .int s0), (6, .int s0), (0, .ref (A o)), (1, .int x1), (2, .int x2), (3, .int x3), (4, .int x4), (7, .int x7)]) hx hb dX12_longestBy_52 hl (by decide) rfl (fun ls hl => ?_)
    obtain ⟨v8, ev8⟩ : ∃ y : Int32, y = x7 + (1 : Int32) := ⟨_, rfl⟩
    replace hw := hw v8 ev8
    refine lo_iinc (v := v8) (lv' := [(7, .int v8), (5, .int s0), (6, .int s0), (0, .ref (A o)), (1, .int x1), (2, .int x2), (3, .int x3), (4, .int x4)]) hx hb dX12_longestBy_54 hl (k := 7) rfl (by rw [ev8]; rfl) (by decide) rfl (fun ls hl => ?_)
    refine lv_goto (tgt := 9) hx hb dX12_longestBy_57 (by decide) ?_
    exact hKH s0 s0 v8 h H locs ls hC (lo_sub hl [3, 4, 5, 6, 7, 1, 2, 0] rfl) hw
set_option maxHeartbeats 4000000 in
set_option maxRecDepth 100000 in
theorem t_X12_longestBy_L9 {p : Program} {l : Launch} {e : Env} {s : State} {m : MethodId} {args : Array Value} {below : List Frame} {meth : Method} {c : Code} {G : GG} {base : Nat} {A : Nat → Nat} {g0 : Hp} (hM : Mx G base p s m args meth c cX12_longestBy 8 (some .int) RX12 "longestBy") (o : Nat) (x1 : Int32) (x2 : Int32) (x3 : Int32) (x4 : Int32) (K60 : Int32 → Hp → Prop) (Q : Int32 → Hp → Prop) (hK60 : ∀ (y5 : Int32) (h : Hp) (H : Heap) (locs : List Loc) (ls : Array Slot), Cx2 G base A g0 A h s.heap H locs → lo_has ls 8 [(5, .int y5)] → K60 y5 h → W p l e rm_X12_longestBy s m args below meth c H locs 0 0 (MQ below (va_Qi Q (PU2 G base A g0 A) (fun q => base ≤ q)) args s 0 0 (fun q => base ≤ q)) (F0 m 60 ls [])) : ∀ (n : Nat) (x5 : Int32) (x6 : Int32) (x7 : Int32) (h : Hp) (H : Heap) (locs : List Loc) (ls : Array Slot), Cx2 G base A g0 A h s.heap H locs → lo_has ls 8 [(0, .ref (A o)), (1, .int x1), (2, .int x2), (3, .int x3), (4, .int x4), (5, .int x5), (6, .int x6), (7, .int x7)] → wp_X12_longestBy_L9 o x1 x2 x3 x4 K60 Q n x5 x6 x7 h → W p l e rm_X12_longestBy s m args below meth c H locs 0 0 (MQ below (va_Qi Q (PU2 G base A g0 A) (fun q => base ≤ q)) args s 0 0 (fun q => base ≤ q)) (F0 m 9 ls []) := by
  intro n
  induction n with
  | zero =>
    intro x5 x6 x7 h H locs ls hC hl hw
    rw [wp_X12_longestBy_L9] at hw
    exact hw.elim
  | succ n ih =>
    intro x5 x6 x7 h H locs ls hC hl hw
    rw [wp_X12_longestBy_L9] at hw
    obtain ⟨hx, hb, hr, hml, hown, hts, hg, hs, hlk, hnm⟩ := id hM
    refine lv_iload hx hb dX12_longestBy_9 (lo_at hl 7 rfl) ?_
    refine lv_bipush (v := 64) hx hb dX12_longestBy_11 (by decide) ?_
    refine lv_icmp_ge (tgt := 60) hx hb dX12_longestBy_13 (by decide) (fun c1 => ?_) (fun c1 => ?_)
    ·
      replace hw := (if_pos c1).mp hw
      exact hK60 x5 h H locs ls hC (lo_sub hl [5] rfl) hw
    ·
      replace hw := (if_neg c1).mp hw
      refine lv_aload_n hx hb dX12_longestBy_16 rfl (lo_at hl 0 rfl) ?_
      refine lv_iload_n hx hb dX12_longestBy_17 rfl (lo_at hl 1 rfl) ?_
      refine lv_iload_n hx hb dX12_longestBy_18 rfl (lo_at hl 2 rfl) ?_
      refine lv_iload_n hx hb dX12_longestBy_19 rfl (lo_at hl 3 rfl) ?_
      refine lv_iload hx hb dX12_longestBy_20 (lo_at hl 7 rfl) ?_
      refine lv_bipush (v := 32) hx hb dX12_longestBy_22 (by decide) ?_
      refine lv_irem hx hb dX12_longestBy_24 (by decide) ?_
      refine lv_iload hx hb dX12_longestBy_25 (lo_at hl 4 rfl) ?_
      obtain ⟨k2, hw⟩ := hw
      refine res2_i hC (run2_V (As := [.int x1, .int x2, .int x3, .int (x7 - x7 / (32 : Int32) * (32 : Int32)), .int x4]) (rest := []) hM hC hl.1.1 kv_RX12_298 (c_X12_runs l G base A o x1 x2 x3 (x7 - x7 / (32 : Int32) * (32 : Int32)) x4 h _ hw) (hc_10) k2 rfl rfl rfl ⟨Nat.le_of_ble_eq_true rfl, Nat.le_of_ble_eq_true rfl⟩ (Nat.le_of_ble_eq_true rfl) ⟨Nat.le_of_ble_eq_true rfl, Nat.le_of_ble_eq_true rfl⟩ dX12_longestBy_27) (fun z4 h3 H locs hw hC => ?_)
      refine lv_if_eq (tgt := 40) hx hb dX12_longestBy_30 (by decide) (fun c5 => ?_) (fun c5 => ?_)
      ·
        replace hw := (if_pos c5).mp hw
        refine lv_iconst (v := 0) hx hb dX12_longestBy_40 (by decide) ?_
        exact t_X12_longestBy_J41 hM o x1 x2 x3 x4 x5 x7 (0 : Int32) (wp_X12_longestBy_L9 o x1 x2 x3 x4 K60 Q n) K60 Q ih hK60 h3 H locs ls hC (lo_sub hl [0, 1, 2, 3, 4, 5, 7] rfl) hw
      ·
        replace hw := (if_neg c5).mp hw
        refine lv_iload hx hb dX12_longestBy_33 (lo_at hl 6 rfl) ?_
        refine lv_iconst (v := 1) hx hb dX12_longestBy_35 (by decide) ?_
        refine lv_iadd hx hb dX12_longestBy_36 ?_
        refine lv_goto (tgt := 41) hx hb dX12_longestBy_37 (by decide) ?_
        exact t_X12_longestBy_J41 hM o x1 x2 x3 x4 x5 x7 (x6 + (1 : Int32)) (wp_X12_longestBy_L9 o x1 x2 x3 x4 K60 Q n) K60 Q ih hK60 h3 H locs ls hC (lo_sub hl [0, 1, 2, 3, 4, 5, 7] rfl) hw
set_option maxHeartbeats 4000000 in
set_option maxRecDepth 100000 in
theorem c_X12_longestBy (l : Launch) (G : GG) (base : Nat) (A : Nat → Nat) (o : Nat) (x1 : Int32) (x2 : Int32) (x3 : Int32) (x4 : Int32) (h : Hp) (Q : Int32 → Hp → Prop) (hw : wp_X12_longestBy o x1 x2 x3 x4 h Q) : Met l yX12_longestBy (ww yX12_longestBy cX12_longestBy 8 (some .int)) rm_X12_longestBy (va_Pc [.ref (A o), .int x1, .int x2, .int x3, .int x4] (PU2 G base A h A h)) (va_Qi Q (PU2 G base A h A) (fun q => base ≤ q)) 0 0 (fun q => base ≤ q) := by
  refine met2_of (own := RX12) (nm := "longestBy") (by decide) rfl rfl (List.forall_mem_cons.mpr ⟨rfl, (List.forall_mem_cons.mpr ⟨rfl, (List.forall_mem_cons.mpr ⟨rfl, (List.forall_mem_cons.mpr ⟨rfl, (List.forall_mem_cons.mpr ⟨rfl, (fun _ h => absurd h List.not_mem_nil)⟩)⟩)⟩)⟩)⟩) (Nat.le_of_ble_eq_true rfl) rfl ?_
  intro p e s m args below meth c H locs ls hM hC hl
  obtain ⟨hx, hb, hr, hml, hown, hts, hg, hs, hlk, hnm⟩ := id hM
  unfold wp_X12_longestBy at hw
  refine lv_iconst (v := 0) hx hb dX12_longestBy_0 (by decide) ?_
  refine lo_istore (lv' := [(5, .int ((0 : Int32))), (0, .ref (A o)), (1, .int x1), (2, .int x2), (3, .int x3), (4, .int x4)]) hx hb dX12_longestBy_1 hl (by decide) rfl (fun ls hl => ?_)
  refine lv_iconst (v := 0) hx hb dX12_longestBy_3 (by decide) ?_
  refine lo_istore (lv' := [(6, .int ((0 : Int32))), (5, .int ((0 : Int32))), (0, .ref (A o)), (1, .int x1), (2, .int x2), (3, .int x3), (4, .int x4)]) hx hb dX12_longestBy_4 hl (by decide) rfl (fun ls hl => ?_)
  refine lv_iconst (v := 0) hx hb dX12_longestBy_6 (by decide) ?_
  refine lo_istore (lv' := [(7, .int ((0 : Int32))), (6, .int ((0 : Int32))), (5, .int ((0 : Int32))), (0, .ref (A o)), (1, .int x1), (2, .int x2), (3, .int x3), (4, .int x4)]) hx hb dX12_longestBy_7 hl (by decide) rfl (fun ls hl => ?_)
  refine t_X12_longestBy_L9 hM o x1 x2 x3 x4 _ Q ?_ fuel (0 : Int32) (0 : Int32) (0 : Int32) h H locs ls hC (lo_sub hl [3, 4, 5, 6, 7, 2, 1, 0] rfl) hw
  intro y10 h9 H locs ls hC hl hw
  refine lv_iload hx hb dX12_longestBy_60 (lo_at hl 0 rfl) ?_
  refine lv_bipush (v := 32) hx hb dX12_longestBy_62 (by decide) ?_
  refine lv_icmp_le (tgt := 72) hx hb dX12_longestBy_64 (by decide) (fun c11 => ?_) (fun c11 => ?_)
  ·
    replace hw := (if_pos c11).mp hw
    refine lv_iload hx hb dX12_longestBy_72 (lo_at hl 0 rfl) ?_
    exact ret2_i hM hC hw dX12_longestBy_74
  ·
    replace hw := (if_neg c11).mp hw
    refine lv_bipush (v := 32) hx hb dX12_longestBy_67 (by decide) ?_
    refine lv_goto (tgt := 74) hx hb dX12_longestBy_69 (by decide) ?_
    exact ret2_i hM hC hw dX12_longestBy_74
abbrev rm_X12_greater : Room := { frames := 0, cells := 0, slots := 0, locals := 0 }
set_option maxRecDepth 100000 in
def wp_X12_greater (o : Nat) (x1 : Int32) (x2 : Int32) (h : Hp) (Q : Int32 → Hp → Prop) : Prop := (if x1 ≤ x2 then (Q x2 h) else (Q x1 h))
set_option maxHeartbeats 4000000 in
set_option maxRecDepth 100000 in
theorem c_X12_greater (l : Launch) (G : GG) (base : Nat) (A : Nat → Nat) (o : Nat) (x1 : Int32) (x2 : Int32) (h : Hp) (Q : Int32 → Hp → Prop) (hw : wp_X12_greater o x1 x2 h Q) : Met l yX12_greater (ww yX12_greater cX12_greater 3 (some .int)) rm_X12_greater (va_Pc [.ref (A o), .int x1, .int x2] (PU2 G base A h A h)) (va_Qi Q (PU2 G base A h A) (fun q => base ≤ q)) 0 0 (fun q => base ≤ q) := by
  refine met2_of (own := RX12) (nm := "greater") (by decide) rfl rfl (List.forall_mem_cons.mpr ⟨rfl, (List.forall_mem_cons.mpr ⟨rfl, (List.forall_mem_cons.mpr ⟨rfl, (fun _ h => absurd h List.not_mem_nil)⟩)⟩)⟩) (Nat.le_of_ble_eq_true rfl) rfl ?_
  intro p e s m args below meth c H locs ls hM hC hl
  obtain ⟨hx, hb, hr, hml, hown, hts, hg, hs, hlk, hnm⟩ := id hM
  unfold wp_X12_greater at hw
  refine lv_iload_n hx hb dX12_greater_0 rfl (lo_at hl 1 rfl) ?_
  refine lv_iload_n hx hb dX12_greater_1 rfl (lo_at hl 2 rfl) ?_
  refine lv_icmp_le (tgt := 9) hx hb dX12_greater_2 (by decide) (fun c1 => ?_) (fun c1 => ?_)
  ·
    replace hw := (if_pos c1).mp hw
    refine lv_iload_n hx hb dX12_greater_9 rfl (lo_at hl 2 rfl) ?_
    exact ret2_i hM hC hw dX12_greater_10
  ·
    replace hw := (if_neg c1).mp hw
    refine lv_iload_n hx hb dX12_greater_5 rfl (lo_at hl 1 rfl) ?_
    refine lv_goto (tgt := 10) hx hb dX12_greater_6 (by decide) ?_
    exact ret2_i hM hC hw dX12_greater_10
abbrev rm_X12_piecesOf : Room := { frames := 1, cells := 0, slots := 0, locals := 28 }
set_option maxRecDepth 100000 in
def wp_X12_piecesOf_L3 (o : Nat) (x1 : Int32) (x2 : Int32) (x3 : Int32) (K38 : Hp → Prop) (Q : Int32 → Hp → Prop) : Nat → Int32 → Hp → Prop
  | 0, _, _ => False
  | n + 1, x4, h => (if (128 : Int32) ≤ x4 then (K38 h) else (((hpK h o).1 = 20 + 10) ∧ ((if (32 : Int32) ≤ x4 then (okA h (hpR h o 47) 1 x4 ∧ (∀ h5 : Hp, h5 = stI h (ad (hpR h o 47)) (x4).toNatClampNeg (-1000 : Int32) → (∀ v6 : Int32, v6 = x4 + (1 : Int32) → (wp_X12_piecesOf_L3 o x1 x2 x3 K38 Q n v6 h5)))) else (okA h (hpR h o 47) 1 x4 ∧ (∀ h8 : Hp, h8 = stI h (ad (hpR h o 47)) (x4).toNatClampNeg (0 : Int32) → (∀ v9 : Int32, v9 = x4 + (1 : Int32) → (wp_X12_piecesOf_L3 o x1 x2 x3 K38 Q n v9 h8))))))))
set_option maxRecDepth 100000 in
def wp_X12_piecesOf_J142 (o : Nat) (x1 : Int32) (x2 : Int32) (x3 : Int32) (x4 : Int32) (x5 : Int32) (x6 : Int32) (x7 : Int32) (KH : Int32 → Hp → Prop) (K177 : Hp → Prop) (Q : Int32 → Hp → Prop) (h : Hp) : Prop := ((hpK h o).1 = 20 + 10) ∧ (wp_X12_runs o x1 x2 x3 x4 x6 h (fun (z20 : Int32) (h19 : Hp) => (if z20 = 0 then (okA h19 (hpR h o 48) 1 x5 ∧ (∀ h23 : Hp, h23 = stI h19 (ad (hpR h o 48)) (x5).toNatClampNeg (x7 + (0 : Int32)) → (∀ v24 : Int32, v24 = x5 + (1 : Int32) → (KH v24 h23)))) else (okA h19 (hpR h o 48) 1 x5 ∧ (∀ h26 : Hp, h26 = stI h19 (ad (hpR h o 48)) (x5).toNatClampNeg (x7 + (1 : Int32)) → (∀ v27 : Int32, v27 = x5 + (1 : Int32) → (KH v27 h26)))))))
set_option maxRecDepth 100000 in
def wp_X12_piecesOf_L51 (o : Nat) (x1 : Int32) (x2 : Int32) (x3 : Int32) (x4 : Int32) (K177 : Hp → Prop) (Q : Int32 → Hp → Prop) : Nat → Int32 → Hp → Prop
  | 0, _, _ => False
  | n + 1, x5, h => (if (128 : Int32) ≤ x5 then (K177 h) else (∀ v13 : Int32, v13 = x5 - x5 / (32 : Int32) * (32 : Int32) → (((hpK h o).1 = 20 + 10) ∧ (okA h (hpR h o 47) 1 x5 ∧ (∀ v16 : Int32, v16 = hpI h (ad (hpR h o 47)) (x5).toNatClampNeg → ((if x5 < (32 : Int32) then (wp_X12_piecesOf_J142 o x1 x2 x3 x4 x5 v13 v16 (wp_X12_piecesOf_L51 o x1 x2 x3 x4 K177 Q n) K177 Q h) else ((if x4 ≤ 0 then (wp_X12_piecesOf_J142 o x1 x2 x3 x4 x5 v13 v16 (wp_X12_piecesOf_L51 o x1 x2 x3 x4 K177 Q n) K177 Q h) else (okA h (hpR h o 47) 1 (((x5 - (32 : Int32)) - v13) + ((v13 + (1 : Int32)) - (v13 + (1 : Int32)) / (32 : Int32) * (32 : Int32))) ∧ (∀ v30 : Int32, v30 = hpI h (ad (hpR h o 47)) (((x5 - (32 : Int32)) - v13) + ((v13 + (1 : Int32)) - (v13 + (1 : Int32)) / (32 : Int32) * (32 : Int32))).toNatClampNeg → (okA h (hpR h o 47) 1 (((x5 - (32 : Int32)) - v13) + ((v13 + (31 : Int32)) - (v13 + (31 : Int32)) / (32 : Int32) * (32 : Int32))) ∧ (∀ v32 : Int32, v32 = hpI h (ad (hpR h o 47)) (((x5 - (32 : Int32)) - v13) + ((v13 + (31 : Int32)) - (v13 + (31 : Int32)) / (32 : Int32) * (32 : Int32))).toNatClampNeg → (wp_X12_greater o v30 v32 h (fun (z34 : Int32) (h33 : Hp) => ((hpK h33 o).1 = 20 + 10) ∧ (wp_X12_greater o v16 z34 h33 (fun (z37 : Int32) (h36 : Hp) => wp_X12_piecesOf_J142 o x1 x2 x3 x4 x5 v13 z37 (wp_X12_piecesOf_L51 o x1 x2 x3 x4 K177 Q n) K177 Q h36)))))))))))))))))
set_option maxRecDepth 100000 in
def wp_X12_piecesOf_L180 (o : Nat) (x1 : Int32) (x2 : Int32) (x3 : Int32) (x4 : Int32) (K208 : Hp → Prop) (Q : Int32 → Hp → Prop) : Nat → Int32 → Hp → Prop
  | 0, _, _ => False
  | n + 1, x5, h => (if (128 : Int32) ≤ x5 then (K208 h) else (((hpK h o).1 = 20 + 10) ∧ (okA h (hpR h o 48) 1 x5 ∧ (∀ v42 : Int32, v42 = hpI h (ad (hpR h o 48)) (x5).toNatClampNeg → (okA h (hpR h o 47) 1 x5 ∧ (∀ h44 : Hp, h44 = stI h (ad (hpR h o 47)) (x5).toNatClampNeg v42 → (∀ v45 : Int32, v45 = x5 + (1 : Int32) → (wp_X12_piecesOf_L180 o x1 x2 x3 x4 K208 Q n v45 h44))))))))
set_option maxRecDepth 100000 in
def wp_X12_piecesOf_L41 (o : Nat) (x1 : Int32) (x2 : Int32) (x3 : Int32) (K214 : Hp → Prop) (Q : Int32 → Hp → Prop) : Nat → Int32 → Hp → Prop
  | 0, _, _ => False
  | n + 1, x4, h => (if (32 : Int32) ≤ x4 then (K214 h) else (wp_X12_piecesOf_L51 o x1 x2 x3 x4 (fun (h38 : Hp) => wp_X12_piecesOf_L180 o x1 x2 x3 x4 (fun (h46 : Hp) => ∀ v47 : Int32, v47 = x4 + (1 : Int32) → (wp_X12_piecesOf_L41 o x1 x2 x3 K214 Q n v47 h46)) Q fuel (0 : Int32) h38) Q fuel (0 : Int32) h))
set_option maxRecDepth 100000 in
def wp_X12_piecesOf_L220 (o : Nat) (K249 : Int32 → Hp → Prop) (Q : Int32 → Hp → Prop) : Nat → Int32 → Int32 → Hp → Prop
  | 0, _, _, _ => False
  | n + 1, x4, x5, h => (if (128 : Int32) ≤ x5 then (K249 x4 h) else (((hpK h o).1 = 20 + 10) ∧ (okA h (hpR h o 47) 1 x5 ∧ (∀ v52 : Int32, v52 = hpI h (ad (hpR h o 47)) (x5).toNatClampNeg → (wp_X12_greater o x4 v52 h (fun (z54 : Int32) (h53 : Hp) => ∀ v55 : Int32, v55 = x5 + (1 : Int32) → (wp_X12_piecesOf_L220 o K249 Q n z54 v55 h53)))))))
set_option maxRecDepth 100000 in
def wp_X12_piecesOf (o : Nat) (x1 : Int32) (x2 : Int32) (x3 : Int32) (h : Hp) (Q : Int32 → Hp → Prop) : Prop := wp_X12_piecesOf_L3 o x1 x2 x3 (fun (h10 : Hp) => wp_X12_piecesOf_L41 o x1 x2 x3 (fun (h48 : Hp) => wp_X12_piecesOf_L220 o (fun (y57 : Int32) (h56 : Hp) => Q y57 h56) Q fuel (0 : Int32) (0 : Int32) h48) Q fuel (0 : Int32) h10) Q fuel (0 : Int32) h
set_option maxHeartbeats 4000000 in
set_option maxRecDepth 100000 in
theorem t_X12_piecesOf_L3 {p : Program} {l : Launch} {e : Env} {s : State} {m : MethodId} {args : Array Value} {below : List Frame} {meth : Method} {c : Code} {G : GG} {base : Nat} {A : Nat → Nat} {g0 : Hp} (hM : Mx G base p s m args meth c cX12_piecesOf 8 (some .int) RX12 "piecesOf") (o : Nat) (x1 : Int32) (x2 : Int32) (x3 : Int32) (K38 : Hp → Prop) (Q : Int32 → Hp → Prop) (hK38 : ∀ (h : Hp) (H : Heap) (locs : List Loc) (ls : Array Slot), Cx2 G base A g0 A h s.heap H locs → lo_has ls 8 [(0, .ref (A o)), (1, .int x1), (2, .int x2), (3, .int x3)] → K38 h → W p l e rm_X12_piecesOf s m args below meth c H locs 0 0 (MQ below (va_Qi Q (PU2 G base A g0 A) (fun q => base ≤ q)) args s 0 0 (fun q => base ≤ q)) (F0 m 38 ls [])) : ∀ (n : Nat) (x4 : Int32) (h : Hp) (H : Heap) (locs : List Loc) (ls : Array Slot), Cx2 G base A g0 A h s.heap H locs → lo_has ls 8 [(0, .ref (A o)), (1, .int x1), (2, .int x2), (3, .int x3), (4, .int x4)] → wp_X12_piecesOf_L3 o x1 x2 x3 K38 Q n x4 h → W p l e rm_X12_piecesOf s m args below meth c H locs 0 0 (MQ below (va_Qi Q (PU2 G base A g0 A) (fun q => base ≤ q)) args s 0 0 (fun q => base ≤ q)) (F0 m 3 ls []) := by
  intro n
  induction n with
  | zero =>
    intro x4 h H locs ls hC hl hw
    rw [wp_X12_piecesOf_L3] at hw
    exact hw.elim
  | succ n ih =>
    intro x4 h H locs ls hC hl hw
    rw [wp_X12_piecesOf_L3] at hw
    obtain ⟨hx, hb, hr, hml, hown, hts, hg, hs, hlk, hnm⟩ := id hM
    refine lv_iload hx hb dX12_piecesOf_3 (lo_at hl 4 rfl) ?_
    refine lv_sipush (v := 128) hx hb dX12_piecesOf_5 (by decide) ?_
    refine lv_icmp_ge (tgt := 38) hx hb dX12_piecesOf_8 (by decide) (fun c1 => ?_) (fun c1 => ?_)
    ·
      replace hw := (if_pos c1).mp hw
      exact hK38  h H locs ls hC (lo_sub hl [0, 1, 2, 3] rfl) hw
    ·
      replace hw := (if_neg c1).mp hw
      refine lv_aload_n hx hb dX12_piecesOf_11 rfl (lo_at hl 0 rfl) ?_
      obtain ⟨k2, hw⟩ := hw
      refine s_getR hx hb hts hown hg hC fb_10_47 k2 mk_f_RX12_95 dX12_piecesOf_12 ?_
      refine lv_iload hx hb dX12_piecesOf_15 (lo_at hl 4 rfl) ?_
      refine lv_iload hx hb dX12_piecesOf_17 (lo_at hl 4 rfl) ?_
      refine lv_bipush (v := 32) hx hb dX12_piecesOf_19 (by decide) ?_
      refine lv_icmp_ge (tgt := 28) hx hb dX12_piecesOf_21 (by decide) (fun c3 => ?_) (fun c3 => ?_)
      ·
        replace hw := (if_pos c3).mp hw
        refine lv_sipush (v := -1000) hx hb dX12_piecesOf_28 (by decide) ?_
        obtain ⟨k4, hw⟩ := hw
        refine sf_3 k4.1 ?_
        refine s_iast hx hb hg hC k4.2.1 k4.2.2 dX12_piecesOf_31 (fun h5 H locs eh5 hC => ?_)
        replace hw := hw h5 eh5
        obtain ⟨v6, ev6⟩ : ∃ y : Int32, y = x4 + (1 : Int32) := ⟨_, rfl⟩
        replace hw := hw v6 ev6
        refine lo_iinc (v := v6) (lv' := [(4, .int v6), (0, .ref (A o)), (1, .int x1), (2, .int x2), (3, .int x3)]) hx hb dX12_piecesOf_32 hl (k := 4) rfl (by rw [ev6]; rfl) (by decide) rfl (fun ls hl => ?_)
        refine lv_goto (tgt := 3) hx hb dX12_piecesOf_35 (by decide) ?_
        exact ih v6 h5 H locs ls hC (lo_sub hl [1, 2, 3, 4, 0] rfl) hw
      ·
        replace hw := (if_neg c3).mp hw
        refine lv_iconst (v := 0) hx hb dX12_piecesOf_24 (by decide) ?_
        refine lv_goto (tgt := 31) hx hb dX12_piecesOf_25 (by decide) ?_
        obtain ⟨k7, hw⟩ := hw
        refine sf_3 k7.1 ?_
        refine s_iast hx hb hg hC k7.2.1 k7.2.2 dX12_piecesOf_31 (fun h8 H locs eh8 hC => ?_)
        replace hw := hw h8 eh8
        obtain ⟨v9, ev9⟩ : ∃ y : Int32, y = x4 + (1 : Int32) := ⟨_, rfl⟩
        replace hw := hw v9 ev9
        refine lo_iinc (v := v9) (lv' := [(4, .int v9), (0, .ref (A o)), (1, .int x1), (2, .int x2), (3, .int x3)]) hx hb dX12_piecesOf_32 hl (k := 4) rfl (by rw [ev9]; rfl) (by decide) rfl (fun ls hl => ?_)
        refine lv_goto (tgt := 3) hx hb dX12_piecesOf_35 (by decide) ?_
        exact ih v9 h8 H locs ls hC (lo_sub hl [1, 2, 3, 4, 0] rfl) hw
set_option maxHeartbeats 4000000 in
set_option maxRecDepth 100000 in
theorem t_X12_piecesOf_J142 {p : Program} {l : Launch} {e : Env} {s : State} {m : MethodId} {args : Array Value} {below : List Frame} {meth : Method} {c : Code} {G : GG} {base : Nat} {A : Nat → Nat} {g0 : Hp} (hM : Mx G base p s m args meth c cX12_piecesOf 8 (some .int) RX12 "piecesOf") (o : Nat) (x1 : Int32) (x2 : Int32) (x3 : Int32) (x4 : Int32) (x5 : Int32) (x6 : Int32) (x7 : Int32) (KH : Int32 → Hp → Prop) (K177 : Hp → Prop) (Q : Int32 → Hp → Prop) (hKH : ∀ (y5 : Int32) (h : Hp) (H : Heap) (locs : List Loc) (ls : Array Slot), Cx2 G base A g0 A h s.heap H locs → lo_has ls 8 [(0, .ref (A o)), (1, .int x1), (2, .int x2), (3, .int x3), (4, .int x4), (5, .int y5)] → KH y5 h → W p l e rm_X12_piecesOf s m args below meth c H locs 0 0 (MQ below (va_Qi Q (PU2 G base A g0 A) (fun q => base ≤ q)) args s 0 0 (fun q => base ≤ q)) (F0 m 51 ls [])) (hK177 : ∀ (h : Hp) (H : Heap) (locs : List Loc) (ls : Array Slot), Cx2 G base A g0 A h s.heap H locs → lo_has ls 8 [(0, .ref (A o)), (1, .int x1), (2, .int x2), (3, .int x3), (4, .int x4)] → K177 h → W p l e rm_X12_piecesOf s m args below meth c H locs 0 0 (MQ below (va_Qi Q (PU2 G base A g0 A) (fun q => base ≤ q)) args s 0 0 (fun q => base ≤ q)) (F0 m 177 ls [])) (h : Hp) (H : Heap) (locs : List Loc) (ls : Array Slot) : Cx2 G base A g0 A h s.heap H locs → lo_has ls 8 [(0, .ref (A o)), (1, .int x1), (2, .int x2), (3, .int x3), (4, .int x4), (5, .int x5), (6, .int x6), (7, .int x7)] → wp_X12_piecesOf_J142 o x1 x2 x3 x4 x5 x6 x7 KH K177 Q h → W p l e rm_X12_piecesOf s m args below meth c H locs 0 0 (MQ below (va_Qi Q (PU2 G base A g0 A) (fun q => base ≤ q)) args s 0 0 (fun q => base ≤ q)) (F0 m 142 ls []) := by
  intro hC hl hw
  unfold wp_X12_piecesOf_J142 at hw
  obtain ⟨hx, hb, hr, hml, hown, hts, hg, hs, hlk, hnm⟩ := id hM
  refine lv_aload_n hx hb dX12_piecesOf_142 rfl (lo_at hl 0 rfl) ?_
  obtain ⟨k18, hw⟩ := hw
  refine s_getR hx hb hts hown hg hC fb_10_48 k18 mk_f_RX12_98 dX12_piecesOf_143 ?_
  refine lv_iload hx hb dX12_piecesOf_146 (lo_at hl 5 rfl) ?_
  refine lv_iload hx hb dX12_piecesOf_148 (lo_at hl 7 rfl) ?_
  refine lv_aload_n hx hb dX12_piecesOf_150 rfl (lo_at hl 0 rfl) ?_
  refine lv_iload_n hx hb dX12_piecesOf_151 rfl (lo_at hl 1 rfl) ?_
  refine lv_iload_n hx hb dX12_piecesOf_152 rfl (lo_at hl 2 rfl) ?_
  refine lv_iload_n hx hb dX12_piecesOf_153 rfl (lo_at hl 3 rfl) ?_
  refine lv_iload hx hb dX12_piecesOf_154 (lo_at hl 4 rfl) ?_
  refine lv_iload hx hb dX12_piecesOf_156 (lo_at hl 6 rfl) ?_
  refine res2_i hC (run2_V (As := [.int x1, .int x2, .int x3, .int x4, .int x6]) (rest := [.int x7, .int x5, va_rf (Option.map A (hpR h o 48))]) hM hC hl.1.1 kv_RX12_298 (c_X12_runs l G base A o x1 x2 x3 x4 x6 h _ hw) (hc_10) k18 rfl rfl rfl ⟨Nat.le_of_ble_eq_true rfl, Nat.le_of_ble_eq_true rfl⟩ (rest_le (List.forall_mem_cons.mpr ⟨rfl, (List.forall_mem_cons.mpr ⟨rfl, (List.forall_mem_cons.mpr ⟨va_rf_cat _, (fun _ h => absurd h List.not_mem_nil)⟩)⟩)⟩) (Nat.le_of_ble_eq_true rfl)) ⟨Nat.le_of_ble_eq_true rfl, Nat.le_of_ble_eq_true rfl⟩ dX12_piecesOf_158) (fun z20 h19 H locs hw hC => ?_)
  refine lv_if_eq (tgt := 168) hx hb dX12_piecesOf_161 (by decide) (fun c21 => ?_) (fun c21 => ?_)
  ·
    replace hw := (if_pos c21).mp hw
    refine lv_iconst (v := 0) hx hb dX12_piecesOf_168 (by decide) ?_
    refine lv_iadd hx hb dX12_piecesOf_169 ?_
    obtain ⟨k22, hw⟩ := hw
    refine sf_3 k22.1 ?_
    refine s_iast hx hb hg hC k22.2.1 k22.2.2 dX12_piecesOf_170 (fun h23 H locs eh23 hC => ?_)
    replace hw := hw h23 eh23
    obtain ⟨v24, ev24⟩ : ∃ y : Int32, y = x5 + (1 : Int32) := ⟨_, rfl⟩
    replace hw := hw v24 ev24
    refine lo_iinc (v := v24) (lv' := [(5, .int v24), (0, .ref (A o)), (1, .int x1), (2, .int x2), (3, .int x3), (4, .int x4), (6, .int x6), (7, .int x7)]) hx hb dX12_piecesOf_171 hl (k := 5) rfl (by rw [ev24]; rfl) (by decide) rfl (fun ls hl => ?_)
    refine lv_goto (tgt := 51) hx hb dX12_piecesOf_174 (by decide) ?_
    exact hKH v24 h23 H locs ls hC (lo_sub hl [1, 2, 3, 4, 5, 0] rfl) hw
  ·
    replace hw := (if_neg c21).mp hw
    refine lv_iconst (v := 1) hx hb dX12_piecesOf_164 (by decide) ?_
    refine lv_goto (tgt := 169) hx hb dX12_piecesOf_165 (by decide) ?_
    refine lv_iadd hx hb dX12_piecesOf_169 ?_
    obtain ⟨k25, hw⟩ := hw
    refine sf_3 k25.1 ?_
    refine s_iast hx hb hg hC k25.2.1 k25.2.2 dX12_piecesOf_170 (fun h26 H locs eh26 hC => ?_)
    replace hw := hw h26 eh26
    obtain ⟨v27, ev27⟩ : ∃ y : Int32, y = x5 + (1 : Int32) := ⟨_, rfl⟩
    replace hw := hw v27 ev27
    refine lo_iinc (v := v27) (lv' := [(5, .int v27), (0, .ref (A o)), (1, .int x1), (2, .int x2), (3, .int x3), (4, .int x4), (6, .int x6), (7, .int x7)]) hx hb dX12_piecesOf_171 hl (k := 5) rfl (by rw [ev27]; rfl) (by decide) rfl (fun ls hl => ?_)
    refine lv_goto (tgt := 51) hx hb dX12_piecesOf_174 (by decide) ?_
    exact hKH v27 h26 H locs ls hC (lo_sub hl [1, 2, 3, 4, 5, 0] rfl) hw
set_option maxHeartbeats 4000000 in
set_option maxRecDepth 100000 in
theorem t_X12_piecesOf_L51 {p : Program} {l : Launch} {e : Env} {s : State} {m : MethodId} {args : Array Value} {below : List Frame} {meth : Method} {c : Code} {G : GG} {base : Nat} {A : Nat → Nat} {g0 : Hp} (hM : Mx G base p s m args meth c cX12_piecesOf 8 (some .int) RX12 "piecesOf") (o : Nat) (x1 : Int32) (x2 : Int32) (x3 : Int32) (x4 : Int32) (K177 : Hp → Prop) (Q : Int32 → Hp → Prop) (hK177 : ∀ (h : Hp) (H : Heap) (locs : List Loc) (ls : Array Slot), Cx2 G base A g0 A h s.heap H locs → lo_has ls 8 [(0, .ref (A o)), (1, .int x1), (2, .int x2), (3, .int x3), (4, .int x4)] → K177 h → W p l e rm_X12_piecesOf s m args below meth c H locs 0 0 (MQ below (va_Qi Q (PU2 G base A g0 A) (fun q => base ≤ q)) args s 0 0 (fun q => base ≤ q)) (F0 m 177 ls [])) : ∀ (n : Nat) (x5 : Int32) (h : Hp) (H : Heap) (locs : List Loc) (ls : Array Slot), Cx2 G base A g0 A h s.heap H locs → lo_has ls 8 [(0, .ref (A o)), (1, .int x1), (2, .int x2), (3, .int x3), (4, .int x4), (5, .int x5)] → wp_X12_piecesOf_L51 o x1 x2 x3 x4 K177 Q n x5 h → W p l e rm_X12_piecesOf s m args below meth c H locs 0 0 (MQ below (va_Qi Q (PU2 G base A g0 A) (fun q => base ≤ q)) args s 0 0 (fun q => base ≤ q)) (F0 m 51 ls []) := by
  intro n
  induction n with
  | zero =>
    intro x5 h H locs ls hC hl hw
    rw [wp_X12_piecesOf_L51] at hw
    exact hw.elim
  | succ n ih =>
    intro x5 h H locs ls hC hl hw
    rw [wp_X12_piecesOf_L51] at hw
    obtain ⟨hx, hb, hr, hml, hown, hts, hg, hs, hlk, hnm⟩ := id hM
    refine lv_iload hx hb dX12_piecesOf_51 (lo_at hl 5 rfl) ?_
    refine lv_sipush (v := 128) hx hb dX12_piecesOf_53 (by decide) ?_
    refine lv_icmp_ge (tgt := 177) hx hb dX12_piecesOf_56 (by decide) (fun c12 => ?_) (fun c12 => ?_)
    ·
      replace hw := (if_pos c12).mp hw
      exact hK177  h H locs ls hC (lo_sub hl [0, 1, 2, 3, 4] rfl) hw
    ·
      replace hw := (if_neg c12).mp hw
      refine lv_iload hx hb dX12_piecesOf_59 (lo_at hl 5 rfl) ?_
      refine lv_bipush (v := 32) hx hb dX12_piecesOf_61 (by decide) ?_
      refine lv_irem hx hb dX12_piecesOf_63 (by decide) ?_
      refine lv_topi (fun v13 ev13 => ?_)
      replace hw := hw v13 ev13
      refine lo_istore (lv' := [(6, .int v13), (0, .ref (A o)), (1, .int x1), (2, .int x2), (3, .int x3), (4, .int x4), (5, .int x5)]) hx hb dX12_piecesOf_64 hl (by decide) rfl (fun ls hl => ?_)
      refine lv_aload_n hx hb dX12_piecesOf_66 rfl (lo_at hl 1 rfl) ?_
      obtain ⟨k14, hw⟩ := hw
      refine s_getR hx hb hts hown hg hC fb_10_47 k14 mk_f_RX12_95 dX12_piecesOf_67 ?_
      refine lv_iload hx hb dX12_piecesOf_70 (lo_at hl 6 rfl) ?_
      obtain ⟨k15, hw⟩ := hw
      refine sf_2 k15.1 ?_
      refine s_iald hx hb hg hC k15.2.1 k15.2.2 dX12_piecesOf_72 ?_
      refine lv_topi (fun v16 ev16 => ?_)
      replace hw := hw v16 ev16
      refine lo_istore (lv' := [(7, .int v16), (6, .int v13), (0, .ref (A o)), (1, .int x1), (2, .int x2), (3, .int x3), (4, .int x4), (5, .int x5)]) hx hb dX12_piecesOf_73 hl (by decide) rfl (fun ls hl => ?_)
      refine lv_iload hx hb dX12_piecesOf_75 (lo_at hl 7 rfl) ?_
      refine lv_bipush (v := 32) hx hb dX12_piecesOf_77 (by decide) ?_
      refine lv_icmp_lt (tgt := 142) hx hb dX12_piecesOf_79 (by decide) (fun c17 => ?_) (fun c17 => ?_)
      ·
        replace hw := (if_pos c17).mp hw
        exact t_X12_piecesOf_J142 hM o x1 x2 x3 x4 x5 v13 v16 (wp_X12_piecesOf_L51 o x1 x2 x3 x4 K177 Q n) K177 Q ih hK177 h H locs ls hC (lo_sub hl [2, 3, 4, 5, 6, 7, 1, 0] rfl) hw
      ·
        replace hw := (if_neg c17).mp hw
        refine lv_iload hx hb dX12_piecesOf_82 (lo_at hl 6 rfl) ?_
        refine lv_if_le (tgt := 142) hx hb dX12_piecesOf_84 (by decide) (fun c28 => ?_) (fun c28 => ?_)
        ·
          replace hw := (if_pos c28).mp hw
          exact t_X12_piecesOf_J142 hM o x1 x2 x3 x4 x5 v13 v16 (wp_X12_piecesOf_L51 o x1 x2 x3 x4 K177 Q n) K177 Q ih hK177 h H locs ls hC (lo_sub hl [2, 3, 4, 5, 6, 7, 1, 0] rfl) hw
        ·
          replace hw := (if_neg c28).mp hw
          refine lv_aload_n hx hb dX12_piecesOf_87 rfl (lo_at hl 2 rfl) ?_
          refine lv_iload hx hb dX12_piecesOf_88 (lo_at hl 0 rfl) ?_
          refine lv_aload_n hx hb dX12_piecesOf_90 rfl (lo_at hl 2 rfl) ?_
          refine lv_aload_n hx hb dX12_piecesOf_91 rfl (lo_at hl 2 rfl) ?_
          refine s_getR hx hb hts hown hg hC fb_10_47 k14 mk_f_RX12_95 dX12_piecesOf_92 ?_
          refine lv_iload hx hb dX12_piecesOf_95 (lo_at hl 7 rfl) ?_
          refine lv_bipush (v := 32) hx hb dX12_piecesOf_97 (by decide) ?_
          refine lv_isub hx hb dX12_piecesOf_99 ?_
          refine lv_iload hx hb dX12_piecesOf_100 (lo_at hl 1 rfl) ?_
          refine lv_isub hx hb dX12_piecesOf_102 ?_
          refine lv_iload hx hb dX12_piecesOf_103 (lo_at hl 1 rfl) ?_
          refine lv_iconst (v := 1) hx hb dX12_piecesOf_105 (by decide) ?_
          refine lv_iadd hx hb dX12_piecesOf_106 ?_
          refine lv_bipush (v := 32) hx hb dX12_piecesOf_107 (by decide) ?_
          refine lv_irem hx hb dX12_piecesOf_109 (by decide) ?_
          refine lv_iadd hx hb dX12_piecesOf_110 ?_
          obtain ⟨k29, hw⟩ := hw
          refine sf_2 k29.1 ?_
          refine s_iald hx hb hg hC k29.2.1 k29.2.2 dX12_piecesOf_111 ?_
          refine lv_topi (fun v30 ev30 => ?_)
          replace hw := hw v30 ev30
          refine lv_aload_n hx hb dX12_piecesOf_112 rfl (lo_at hl 2 rfl) ?_
          refine s_getR hx hb hts hown hg hC fb_10_47 k14 mk_f_RX12_95 dX12_piecesOf_113 ?_
          refine lv_iload hx hb dX12_piecesOf_116 (lo_at hl 7 rfl) ?_
          refine lv_bipush (v := 32) hx hb dX12_piecesOf_118 (by decide) ?_
          refine lv_isub hx hb dX12_piecesOf_120 ?_
          refine lv_iload hx hb dX12_piecesOf_121 (lo_at hl 1 rfl) ?_
          refine lv_isub hx hb dX12_piecesOf_123 ?_
          refine lv_iload hx hb dX12_piecesOf_124 (lo_at hl 1 rfl) ?_
          refine lv_bipush (v := 31) hx hb dX12_piecesOf_126 (by decide) ?_
          refine lv_iadd hx hb dX12_piecesOf_128 ?_
          refine lv_bipush (v := 32) hx hb dX12_piecesOf_129 (by decide) ?_
          refine lv_irem hx hb dX12_piecesOf_131 (by decide) ?_
          refine lv_iadd hx hb dX12_piecesOf_132 ?_
          obtain ⟨k31, hw⟩ := hw
          refine sf_2 k31.1 ?_
          refine s_iald hx hb hg hC k31.2.1 k31.2.2 dX12_piecesOf_133 ?_
          refine lv_topi (fun v32 ev32 => ?_)
          replace hw := hw v32 ev32
          refine res2_i hC (run2_V (As := [.int v30, .int v32]) (rest := [.int v16, .ref (A o)]) hM hC hl.1.1 kv_RX12_306 (c_X12_greater l G base A o v30 v32 h _ hw) (hc_10) k14 rfl rfl rfl ⟨Nat.le_of_ble_eq_true rfl, Nat.le_of_ble_eq_true rfl⟩ (Nat.le_of_ble_eq_true rfl) ⟨Nat.le_of_ble_eq_true rfl, Nat.le_of_ble_eq_true rfl⟩ dX12_piecesOf_134) (fun z34 h33 H locs hw hC => ?_)
          obtain ⟨k35, hw⟩ := hw
          refine res2_i hC (run2_V (As := [.int v16, .int z34]) (rest := []) hM hC hl.1.1 kv_RX12_306 (c_X12_greater l G base A o v16 z34 h33 _ hw) (hc_10) k35 rfl rfl rfl ⟨Nat.le_of_ble_eq_true rfl, Nat.le_of_ble_eq_true rfl⟩ (Nat.le_of_ble_eq_true rfl) ⟨Nat.le_of_ble_eq_true rfl, Nat.le_of_ble_eq_true rfl⟩ dX12_piecesOf_137) (fun z37 h36 H locs hw hC => ?_)
          refine lo_istore (lv' := [(7, .int z37), (6, .int v13), (0, .ref (A o)), (1, .int x1), (2, .int x2), (3, .int x3), (4, .int x4), (5, .int x5)]) hx hb dX12_piecesOf_140 hl (by decide) rfl (fun ls hl => ?_)
          exact t_X12_piecesOf_J142 hM o x1 x2 x3 x4 x5 v13 z37 (wp_X12_piecesOf_L51 o x1 x2 x3 x4 K177 Q n) K177 Q ih hK177 h36 H locs ls hC (lo_sub hl [2, 3, 4, 5, 6, 7, 1, 0] rfl) hw
set_option maxHeartbeats 4000000 in
set_option maxRecDepth 100000 in
theorem t_X12_piecesOf_L180 {p : Program} {l : Launch} {e : Env} {s : State} {m : MethodId} {args : Array Value} {below : List Frame} {meth : Method} {c : Code} {G : GG} {base : Nat} {A : Nat → Nat} {g0 : Hp} (hM : Mx G base p s m args meth c cX12_piecesOf 8 (some .int) RX12 "piecesOf") (o : Nat) (x1 : Int32) (x2 : Int32) (x3 : Int32) (x4 : Int32) (K208 : Hp → Prop) (Q : Int32 → Hp → Prop) (hK208 : ∀ (h : Hp) (H : Heap) (locs : List Loc) (ls : Array Slot), Cx2 G base A g0 A h s.heap H locs → lo_has ls 8 [(0, .ref (A o)), (1, .int x1), (2, .int x2), (3, .int x3), (4, .int x4)] → K208 h → W p l e rm_X12_piecesOf s m args below meth c H locs 0 0 (MQ below (va_Qi Q (PU2 G base A g0 A) (fun q => base ≤ q)) args s 0 0 (fun q => base ≤ q)) (F0 m 208 ls [])) : ∀ (n : Nat) (x5 : Int32) (h : Hp) (H : Heap) (locs : List Loc) (ls : Array Slot), Cx2 G base A g0 A h s.heap H locs → lo_has ls 8 [(0, .ref (A o)), (1, .int x1), (2, .int x2), (3, .int x3), (4, .int x4), (5, .int x5)] → wp_X12_piecesOf_L180 o x1 x2 x3 x4 K208 Q n x5 h → W p l e rm_X12_piecesOf s m args below meth c H locs 0 0 (MQ below (va_Qi Q (PU2 G base A g0 A) (fun q => base ≤ q)) args s 0 0 (fun q => base ≤ q)) (F0 m 180 ls []) := by
  intro n
  induction n with
  | zero =>
    intro x5 h H locs ls hC hl hw
    rw [wp_X12_piecesOf_L180] at hw
    exact hw.elim
  | succ n ih =>
    intro x5 h H locs ls hC hl hw
    rw [wp_X12_piecesOf_L180] at hw
    obtain ⟨hx, hb, hr, hml, hown, hts, hg, hs, hlk, hnm⟩ := id hM
    refine lv_iload hx hb dX12_piecesOf_180 (lo_at hl 5 rfl) ?_
    refine lv_sipush (v := 128) hx hb dX12_piecesOf_182 (by decide) ?_
    refine lv_icmp_ge (tgt := 208) hx hb dX12_piecesOf_185 (by decide) (fun c39 => ?_) (fun c39 => ?_)
    ·
      replace hw := (if_pos c39).mp hw
      exact hK208  h H locs ls hC (lo_sub hl [0, 1, 2, 3, 4] rfl) hw
    ·
      replace hw := (if_neg c39).mp hw
      refine lv_aload_n hx hb dX12_piecesOf_188 rfl (lo_at hl 0 rfl) ?_
      obtain ⟨k40, hw⟩ := hw
      refine s_getR hx hb hts hown hg hC fb_10_47 k40 mk_f_RX12_95 dX12_piecesOf_189 ?_
      refine lv_iload hx hb dX12_piecesOf_192 (lo_at hl 5 rfl) ?_
      refine lv_aload_n hx hb dX12_piecesOf_194 rfl (lo_at hl 0 rfl) ?_
      refine s_getR hx hb hts hown hg hC fb_10_48 k40 mk_f_RX12_98 dX12_piecesOf_195 ?_
      refine lv_iload hx hb dX12_piecesOf_198 (lo_at hl 5 rfl) ?_
      obtain ⟨k41, hw⟩ := hw
      refine sf_2 k41.1 ?_
      refine s_iald hx hb hg hC k41.2.1 k41.2.2 dX12_piecesOf_200 ?_
      refine lv_topi (fun v42 ev42 => ?_)
      replace hw := hw v42 ev42
      obtain ⟨k43, hw⟩ := hw
      refine sf_3 k43.1 ?_
      refine s_iast hx hb hg hC k43.2.1 k43.2.2 dX12_piecesOf_201 (fun h44 H locs eh44 hC => ?_)
      replace hw := hw h44 eh44
      obtain ⟨v45, ev45⟩ : ∃ y : Int32, y = x5 + (1 : Int32) := ⟨_, rfl⟩
      replace hw := hw v45 ev45
      refine lo_iinc (v := v45) (lv' := [(5, .int v45), (0, .ref (A o)), (1, .int x1), (2, .int x2), (3, .int x3), (4, .int x4)]) hx hb dX12_piecesOf_202 hl (k := 5) rfl (by rw [ev45]; rfl) (by decide) rfl (fun ls hl => ?_)
      refine lv_goto (tgt := 180) hx hb dX12_piecesOf_205 (by decide) ?_
      exact ih v45 h44 H locs ls hC (lo_sub hl [1, 2, 3, 4, 5, 0] rfl) hw
set_option maxHeartbeats 4000000 in
set_option maxRecDepth 100000 in
theorem t_X12_piecesOf_L41 {p : Program} {l : Launch} {e : Env} {s : State} {m : MethodId} {args : Array Value} {below : List Frame} {meth : Method} {c : Code} {G : GG} {base : Nat} {A : Nat → Nat} {g0 : Hp} (hM : Mx G base p s m args meth c cX12_piecesOf 8 (some .int) RX12 "piecesOf") (o : Nat) (x1 : Int32) (x2 : Int32) (x3 : Int32) (K214 : Hp → Prop) (Q : Int32 → Hp → Prop) (hK214 : ∀ (h : Hp) (H : Heap) (locs : List Loc) (ls : Array Slot), Cx2 G base A g0 A h s.heap H locs → lo_has ls 8 [(0, .ref (A o))] → K214 h → W p l e rm_X12_piecesOf s m args below meth c H locs 0 0 (MQ below (va_Qi Q (PU2 G base A g0 A) (fun q => base ≤ q)) args s 0 0 (fun q => base ≤ q)) (F0 m 214 ls [])) : ∀ (n : Nat) (x4 : Int32) (h : Hp) (H : Heap) (locs : List Loc) (ls : Array Slot), Cx2 G base A g0 A h s.heap H locs → lo_has ls 8 [(0, .ref (A o)), (1, .int x1), (2, .int x2), (3, .int x3), (4, .int x4)] → wp_X12_piecesOf_L41 o x1 x2 x3 K214 Q n x4 h → W p l e rm_X12_piecesOf s m args below meth c H locs 0 0 (MQ below (va_Qi Q (PU2 G base A g0 A) (fun q => base ≤ q)) args s 0 0 (fun q => base ≤ q)) (F0 m 41 ls []) := by
  intro n
  induction n with
  | zero =>
    intro x4 h H locs ls hC hl hw
    rw [wp_X12_piecesOf_L41] at hw
    exact hw.elim
  | succ n ih =>
    intro x4 h H locs ls hC hl hw
    rw [wp_X12_piecesOf_L41] at hw
    obtain ⟨hx, hb, hr, hml, hown, hts, hg, hs, hlk, hnm⟩ := id hM
    refine lv_iload hx hb dX12_piecesOf_41 (lo_at hl 4 rfl) ?_
    refine lv_bipush (v := 32) hx hb dX12_piecesOf_43 (by decide) ?_
    refine lv_icmp_ge (tgt := 214) hx hb dX12_piecesOf_45 (by decide) (fun c11 => ?_) (fun c11 => ?_)
    ·
      replace hw := (if_pos c11).mp hw
      exact hK214  h H locs ls hC (lo_sub hl [0] rfl) hw
    ·
      replace hw := (if_neg c11).mp hw
      refine lv_iconst (v := 0) hx hb dX12_piecesOf_48 (by decide) ?_
      refine lo_istore (lv' := [(5, .int ((0 : Int32))), (0, .ref (A o)), (1, .int x1), (2, .int x2), (3, .int x3), (4, .int x4)]) hx hb dX12_piecesOf_49 hl (by decide) rfl (fun ls hl => ?_)
      refine t_X12_piecesOf_L51 hM o x1 x2 x3 x4 _ Q ?_ fuel (0 : Int32) h H locs ls hC (lo_sub hl [1, 2, 3, 4, 5, 0] rfl) hw
      intro  h38 H locs ls hC hl hw
      refine lv_iconst (v := 0) hx hb dX12_piecesOf_177 (by decide) ?_
      refine lo_istore (lv' := [(5, .int ((0 : Int32))), (0, .ref (A o)), (1, .int x1), (2, .int x2), (3, .int x3), (4, .int x4)]) hx hb dX12_piecesOf_178 hl (by decide) rfl (fun ls hl => ?_)
      refine t_X12_piecesOf_L180 hM o x1 x2 x3 x4 _ Q ?_ fuel (0 : Int32) h38 H locs ls hC (lo_sub hl [1, 2, 3, 4, 5, 0] rfl) hw
      intro  h46 H locs ls hC hl hw
      obtain ⟨v47, ev47⟩ : ∃ y : Int32, y = x4 + (1 : Int32) := ⟨_, rfl⟩
      replace hw := hw v47 ev47
      refine lo_iinc (v := v47) (lv' := [(4, .int v47), (0, .ref (A o)), (1, .int x1), (2, .int x2), (3, .int x3)]) hx hb dX12_piecesOf_208 hl (k := 4) rfl (by rw [ev47]; rfl) (by decide) rfl (fun ls hl => ?_)
      refine lv_goto (tgt := 41) hx hb dX12_piecesOf_211 (by decide) ?_
      exact ih v47 h46 H locs ls hC (lo_sub hl [1, 2, 3, 4, 0] rfl) hw
set_option maxHeartbeats 4000000 in
set_option maxRecDepth 100000 in
theorem t_X12_piecesOf_L220 {p : Program} {l : Launch} {e : Env} {s : State} {m : MethodId} {args : Array Value} {below : List Frame} {meth : Method} {c : Code} {G : GG} {base : Nat} {A : Nat → Nat} {g0 : Hp} (hM : Mx G base p s m args meth c cX12_piecesOf 8 (some .int) RX12 "piecesOf") (o : Nat) (K249 : Int32 → Hp → Prop) (Q : Int32 → Hp → Prop) (hK249 : ∀ (y4 : Int32) (h : Hp) (H : Heap) (locs : List Loc) (ls : Array Slot), Cx2 G base A g0 A h s.heap H locs → lo_has ls 8 [(4, .int y4)] → K249 y4 h → W p l e rm_X12_piecesOf s m args below meth c H locs 0 0 (MQ below (va_Qi Q (PU2 G base A g0 A) (fun q => base ≤ q)) args s 0 0 (fun q => base ≤ q)) (F0 m 249 ls [])) : ∀ (n : Nat) (x4 : Int32) (x5 : Int32) (h : Hp) (H : Heap) (locs : List Loc) (ls : Array Slot), Cx2 G base A g0 A h s.heap H locs → lo_has ls 8 [(0, .ref (A o)), (4, .int x4), (5, .int x5)] → wp_X12_piecesOf_L220 o K249 Q n x4 x5 h → W p l e rm_X12_piecesOf s m args below meth c H locs 0 0 (MQ below (va_Qi Q (PU2 G base A g0 A) (fun q => base ≤ q)) args s 0 0 (fun q => base ≤ q)) (F0 m 220 ls []) := by
  intro n
  induction n with
  | zero =>
    intro x4 x5 h H locs ls hC hl hw
    rw [wp_X12_piecesOf_L220] at hw
    exact hw.elim
  | succ n ih =>
    intro x4 x5 h H locs ls hC hl hw
    rw [wp_X12_piecesOf_L220] at hw
    obtain ⟨hx, hb, hr, hml, hown, hts, hg, hs, hlk, hnm⟩ := id hM
    refine lv_iload hx hb dX12_piecesOf_220 (lo_at hl 2 rfl) ?_
    refine lv_sipush (v := 128) hx hb dX12_piecesOf_222 (by decide) ?_
    refine lv_icmp_ge (tgt := 249) hx hb dX12_piecesOf_225 (by decide) (fun c49 => ?_) (fun c49 => ?_)
    ·
      replace hw := (if_pos c49).mp hw
      exact hK249 x4 h H locs ls hC (lo_sub hl [1] rfl) hw
    ·
      replace hw := (if_neg c49).mp hw
      refine lv_aload_n hx hb dX12_piecesOf_228 rfl (lo_at hl 0 rfl) ?_
      refine lv_iload hx hb dX12_piecesOf_229 (lo_at hl 1 rfl) ?_
      refine lv_aload_n hx hb dX12_piecesOf_231 rfl (lo_at hl 0 rfl) ?_
      obtain ⟨k50, hw⟩ := hw
      refine s_getR hx hb hts hown hg hC fb_10_47 k50 mk_f_RX12_95 dX12_piecesOf_232 ?_
      refine lv_iload hx hb dX12_piecesOf_235 (lo_at hl 2 rfl) ?_
      obtain ⟨k51, hw⟩ := hw
      refine sf_2 k51.1 ?_
      refine s_iald hx hb hg hC k51.2.1 k51.2.2 dX12_piecesOf_237 ?_
      refine lv_topi (fun v52 ev52 => ?_)
      replace hw := hw v52 ev52
      refine res2_i hC (run2_V (As := [.int x4, .int v52]) (rest := []) hM hC hl.1.1 kv_RX12_306 (c_X12_greater l G base A o x4 v52 h _ hw) (hc_10) k50 rfl rfl rfl ⟨Nat.le_of_ble_eq_true rfl, Nat.le_of_ble_eq_true rfl⟩ (Nat.le_of_ble_eq_true rfl) ⟨Nat.le_of_ble_eq_true rfl, Nat.le_of_ble_eq_true rfl⟩ dX12_piecesOf_238) (fun z54 h53 H locs hw hC => ?_)
      refine lo_istore (lv' := [(4, .int z54), (0, .ref (A o)), (5, .int x5)]) hx hb dX12_piecesOf_241 hl (by decide) rfl (fun ls hl => ?_)
      obtain ⟨v55, ev55⟩ : ∃ y : Int32, y = x5 + (1 : Int32) := ⟨_, rfl⟩
      replace hw := hw v55 ev55
      refine lo_iinc (v := v55) (lv' := [(5, .int v55), (4, .int z54), (0, .ref (A o))]) hx hb dX12_piecesOf_243 hl (k := 2) rfl (by rw [ev55]; rfl) (by decide) rfl (fun ls hl => ?_)
      refine lv_goto (tgt := 220) hx hb dX12_piecesOf_246 (by decide) ?_
      exact ih z54 v55 h53 H locs ls hC (lo_sub hl [2, 1, 0] rfl) hw
set_option maxHeartbeats 4000000 in
set_option maxRecDepth 100000 in
theorem c_X12_piecesOf (l : Launch) (G : GG) (base : Nat) (A : Nat → Nat) (o : Nat) (x1 : Int32) (x2 : Int32) (x3 : Int32) (h : Hp) (Q : Int32 → Hp → Prop) (hw : wp_X12_piecesOf o x1 x2 x3 h Q) : Met l yX12_piecesOf (ww yX12_piecesOf cX12_piecesOf 8 (some .int)) rm_X12_piecesOf (va_Pc [.ref (A o), .int x1, .int x2, .int x3] (PU2 G base A h A h)) (va_Qi Q (PU2 G base A h A) (fun q => base ≤ q)) 0 0 (fun q => base ≤ q) := by
  refine met2_of (own := RX12) (nm := "piecesOf") (by decide) rfl rfl (List.forall_mem_cons.mpr ⟨rfl, (List.forall_mem_cons.mpr ⟨rfl, (List.forall_mem_cons.mpr ⟨rfl, (List.forall_mem_cons.mpr ⟨rfl, (fun _ h => absurd h List.not_mem_nil)⟩)⟩)⟩)⟩) (Nat.le_of_ble_eq_true rfl) rfl ?_
  intro p e s m args below meth c H locs ls hM hC hl
  obtain ⟨hx, hb, hr, hml, hown, hts, hg, hs, hlk, hnm⟩ := id hM
  unfold wp_X12_piecesOf at hw
  refine lv_iconst (v := 0) hx hb dX12_piecesOf_0 (by decide) ?_
  refine lo_istore (lv' := [(4, .int ((0 : Int32))), (0, .ref (A o)), (1, .int x1), (2, .int x2), (3, .int x3)]) hx hb dX12_piecesOf_1 hl (by decide) rfl (fun ls hl => ?_)
  refine t_X12_piecesOf_L3 hM o x1 x2 x3 _ Q ?_ fuel (0 : Int32) h H locs ls hC (lo_sub hl [1, 2, 3, 4, 0] rfl) hw
  intro  h10 H locs ls hC hl hw
  refine lv_iconst (v := 0) hx hb dX12_piecesOf_38 (by decide) ?_
  refine lo_istore (lv' := [(4, .int ((0 : Int32))), (0, .ref (A o)), (1, .int x1), (2, .int x2), (3, .int x3)]) hx hb dX12_piecesOf_39 hl (by decide) rfl (fun ls hl => ?_)
  refine t_X12_piecesOf_L41 hM o x1 x2 x3 _ Q ?_ fuel (0 : Int32) h10 H locs ls hC (lo_sub hl [1, 2, 3, 4, 0] rfl) hw
  intro  h48 H locs ls hC hl hw
  refine lv_iconst (v := 0) hx hb dX12_piecesOf_214 (by decide) ?_
  refine lo_istore (lv' := [(4, .int ((0 : Int32))), (0, .ref (A o))]) hx hb dX12_piecesOf_215 hl (by decide) rfl (fun ls hl => ?_)
  refine lv_iconst (v := 0) hx hb dX12_piecesOf_217 (by decide) ?_
  refine lo_istore (lv' := [(5, .int ((0 : Int32))), (4, .int ((0 : Int32))), (0, .ref (A o))]) hx hb dX12_piecesOf_218 hl (by decide) rfl (fun ls hl => ?_)
  refine t_X12_piecesOf_L220 hM o _ Q ?_ fuel (0 : Int32) (0 : Int32) h48 H locs ls hC (lo_sub hl [2, 1, 0] rfl) hw
  intro y57 h56 H locs ls hC hl hw
  refine lv_iload hx hb dX12_piecesOf_249 (lo_at hl 0 rfl) ?_
  exact ret2_i hM hC hw dX12_piecesOf_251
abbrev rm_X12_lackOf : Room := { frames := 1, cells := 0, slots := 0, locals := 23 }
set_option maxRecDepth 100000 in
def wp_X12_lackOf (o : Nat) (x1 : Int32) (x2 : Int32) (h : Hp) (Q : Int32 → Hp → Prop) : Prop := ((hpK h o).1 = 20 + 10) ∧ (wp_X12_missingOf o x1 h (fun (z3 : Int32) (h2 : Hp) => ((hpK h2 o).1 = 20 + 10) ∧ (wp_X12_missingOf o x2 h2 (fun (z6 : Int32) (h5 : Hp) => Q (z3 + z6) h5))))
set_option maxHeartbeats 4000000 in
set_option maxRecDepth 100000 in
theorem c_X12_lackOf (l : Launch) (G : GG) (base : Nat) (A : Nat → Nat) (o : Nat) (x1 : Int32) (x2 : Int32) (h : Hp) (Q : Int32 → Hp → Prop) (hw : wp_X12_lackOf o x1 x2 h Q) : Met l yX12_lackOf (ww yX12_lackOf cX12_lackOf 3 (some .int)) rm_X12_lackOf (va_Pc [.ref (A o), .int x1, .int x2] (PU2 G base A h A h)) (va_Qi Q (PU2 G base A h A) (fun q => base ≤ q)) 0 0 (fun q => base ≤ q) := by
  refine met2_of (own := RX12) (nm := "lackOf") (by decide) rfl rfl (List.forall_mem_cons.mpr ⟨rfl, (List.forall_mem_cons.mpr ⟨rfl, (List.forall_mem_cons.mpr ⟨rfl, (fun _ h => absurd h List.not_mem_nil)⟩)⟩)⟩) (Nat.le_of_ble_eq_true rfl) rfl ?_
  intro p e s m args below meth c H locs ls hM hC hl
  obtain ⟨hx, hb, hr, hml, hown, hts, hg, hs, hlk, hnm⟩ := id hM
  unfold wp_X12_lackOf at hw
  refine lv_aload_n hx hb dX12_lackOf_0 rfl (lo_at hl 0 rfl) ?_
  refine lv_iload_n hx hb dX12_lackOf_1 rfl (lo_at hl 1 rfl) ?_
  obtain ⟨k1, hw⟩ := hw
  refine res2_i hC (run2_V (As := [.int x1]) (rest := []) hM hC hl.1.1 kv_RX12_171 (c_X12_missingOf l G base A o x1 h _ hw) (hc_10) k1 rfl rfl rfl ⟨Nat.le_of_ble_eq_true rfl, Nat.le_of_ble_eq_true rfl⟩ (Nat.le_of_ble_eq_true rfl) ⟨Nat.le_of_ble_eq_true rfl, Nat.le_of_ble_eq_true rfl⟩ dX12_lackOf_2) (fun z3 h2 H locs hw hC => ?_)
  refine lv_aload_n hx hb dX12_lackOf_5 rfl (lo_at hl 0 rfl) ?_
  refine lv_iload_n hx hb dX12_lackOf_6 rfl (lo_at hl 2 rfl) ?_
  obtain ⟨k4, hw⟩ := hw
  refine res2_i hC (run2_V (As := [.int x2]) (rest := [.int z3]) hM hC hl.1.1 kv_RX12_171 (c_X12_missingOf l G base A o x2 h2 _ hw) (hc_10) k4 rfl rfl rfl ⟨Nat.le_of_ble_eq_true rfl, Nat.le_of_ble_eq_true rfl⟩ (Nat.le_of_ble_eq_true rfl) ⟨Nat.le_of_ble_eq_true rfl, Nat.le_of_ble_eq_true rfl⟩ dX12_lackOf_7) (fun z6 h5 H locs hw hC => ?_)
  refine lv_iadd hx hb dX12_lackOf_10 ?_
  exact ret2_i hM hC hw dX12_lackOf_11
abbrev rm_X12_slid : Room := { frames := 3, cells := 0, slots := 0, locals := 81 }
set_option maxRecDepth 100000 in
def wp_X12_slid (o : Nat) (x1 : Int32) (x2 : Int32) (x3 : Int32) (x4 : Int32) (h : Hp) (Q : Int32 → Hp → Prop) : Prop := ((hpK h o).1 = 20 + 10) ∧ (∀ h2 : Hp, h2 = stI h o 0 (0 : Int32) → (((hpK h2 o).1 = 20 + 10) ∧ (wp_X12_isLooker o x1 h2 (fun (z5 : Int32) (h4 : Hp) => (if z5 = 0 then (Q (-1 : Int32) h4) else (((hpK h4 o).1 = 20 + 10) ∧ (wp_X12_isBall o x2 h4 (fun (z9 : Int32) (h8 : Hp) => (if z9 = 0 then (Q (-1 : Int32) h8) else (((hpK h8 o).1 = 20 + 10) ∧ (wp_X12_isBall o x3 h8 (fun (z13 : Int32) (h12 : Hp) => (if z13 = 0 then (Q (-1 : Int32) h12) else (((hpK h12 o).1 = 20 + 10) ∧ (wp_X12_isIn o x4 (32 : Int32) (63 : Int32) h12 (fun (z17 : Int32) (h16 : Hp) => (if z17 = 0 then (((hpK h16 o).1 = 20 + 10) ∧ (wp_X12_isIn o x4 (0 : Int32) (4 : Int32) h16 (fun (z21 : Int32) (h20 : Hp) => (if z21 = 0 then (Q (-1 : Int32) h20) else ((if x4 = (3 : Int32) then (((hpK h20 o).1 = 20 + 10) ∧ (wp_X12_piecesOf o x1 x2 x3 h20 (fun (z41 : Int32) (h40 : Hp) => Q z41 h40))) else ((if x4 = (4 : Int32) then (((hpK h20 o).1 = 20 + 10) ∧ (wp_X12_lackOf o x2 x3 h20 (fun (z38 : Int32) (h37 : Hp) => Q z38 h37))) else (((hpK h20 o).1 = 20 + 10) ∧ (wp_X12_bestSlide o x1 x2 x3 h20 (fun (z27 : Int32) (h26 : Hp) => (if x4 = 0 then (((hpK h26 o).1 = 20 + 10) ∧ (wp_X12_manyOf o x1 x2 x3 z27 h26 (fun (z35 : Int32) (h34 : Hp) => Q z35 h34))) else ((if x4 = (1 : Int32) then (Q z27 h26) else (((hpK h26 o).1 = 20 + 10) ∧ (wp_X12_longestBy o x1 x2 x3 z27 h26 (fun (z32 : Int32) (h31 : Hp) => Q z32 h31))))))))))))))))) else (((hpK h16 o).1 = 20 + 10) ∧ (wp_X12_manyOf o x1 x2 x3 (x4 - (32 : Int32)) h16 (fun (z44 : Int32) (h43 : Hp) => Q z44 h43))))))))))))))))))))
set_option maxHeartbeats 4000000 in
set_option maxRecDepth 100000 in
theorem c_X12_slid (l : Launch) (G : GG) (base : Nat) (A : Nat → Nat) (o : Nat) (x1 : Int32) (x2 : Int32) (x3 : Int32) (x4 : Int32) (h : Hp) (Q : Int32 → Hp → Prop) (hw : wp_X12_slid o x1 x2 x3 x4 h Q) : Met l yX12_slid (ww yX12_slid cX12_slid 6 (some .int)) rm_X12_slid (va_Pc [.ref (A o), .int x1, .int x2, .int x3, .int x4] (PU2 G base A h A h)) (va_Qi Q (PU2 G base A h A) (fun q => base ≤ q)) 0 0 (fun q => base ≤ q) := by
  refine met2_of (own := RX12) (nm := "slid") (by decide) rfl rfl (List.forall_mem_cons.mpr ⟨rfl, (List.forall_mem_cons.mpr ⟨rfl, (List.forall_mem_cons.mpr ⟨rfl, (List.forall_mem_cons.mpr ⟨rfl, (List.forall_mem_cons.mpr ⟨rfl, (fun _ h => absurd h List.not_mem_nil)⟩)⟩)⟩)⟩)⟩) (Nat.le_of_ble_eq_true rfl) rfl ?_
  intro p e s m args below meth c H locs ls hM hC hl
  obtain ⟨hx, hb, hr, hml, hown, hts, hg, hs, hlk, hnm⟩ := id hM
  unfold wp_X12_slid at hw
  refine lv_aload_n hx hb dX12_slid_0 rfl (lo_at hl 0 rfl) ?_
  refine lv_iconst (v := 0) hx hb dX12_slid_1 (by decide) ?_
  obtain ⟨k1, hw⟩ := hw
  refine s_putI hx hb hts hown hg hC fb_10_0 k1 rfl rfl mk_f_RX12_132 dX12_slid_2 (fun h2 H locs eh2 hC => ?_)
  replace hw := hw h2 eh2
  refine lv_aload_n hx hb dX12_slid_5 rfl (lo_at hl 0 rfl) ?_
  refine lv_iload_n hx hb dX12_slid_6 rfl (lo_at hl 1 rfl) ?_
  obtain ⟨k3, hw⟩ := hw
  refine res2_i hC (run2_V (As := [.int x1]) (rest := []) hM hC hl.1.1 kv_RX12_309 (c_X12_isLooker l G base A o x1 h2 _ hw) (hc_10) k3 rfl rfl rfl ⟨Nat.le_of_ble_eq_true rfl, Nat.le_of_ble_eq_true rfl⟩ (Nat.le_of_ble_eq_true rfl) ⟨Nat.le_of_ble_eq_true rfl, Nat.le_of_ble_eq_true rfl⟩ dX12_slid_7) (fun z5 h4 H locs hw hC => ?_)
  refine lv_if_eq (tgt := 29) hx hb dX12_slid_10 (by decide) (fun c6 => ?_) (fun c6 => ?_)
  ·
    replace hw := (if_pos c6).mp hw
    refine lv_iconst (v := -1) hx hb dX12_slid_29 (by decide) ?_
    exact ret2_i hM hC hw dX12_slid_30
  ·
    replace hw := (if_neg c6).mp hw
    refine lv_aload_n hx hb dX12_slid_13 rfl (lo_at hl 0 rfl) ?_
    refine lv_iload_n hx hb dX12_slid_14 rfl (lo_at hl 2 rfl) ?_
    obtain ⟨k7, hw⟩ := hw
    refine res2_i hC (run2_V (As := [.int x2]) (rest := []) hM hC hl.1.1 kv_RX12_168 (c_X12_isBall l G base A o x2 h4 _ hw) (hc_10) k7 rfl rfl rfl ⟨Nat.le_of_ble_eq_true rfl, Nat.le_of_ble_eq_true rfl⟩ (Nat.le_of_ble_eq_true rfl) ⟨Nat.le_of_ble_eq_true rfl, Nat.le_of_ble_eq_true rfl⟩ dX12_slid_15) (fun z9 h8 H locs hw hC => ?_)
    refine lv_if_eq (tgt := 29) hx hb dX12_slid_18 (by decide) (fun c10 => ?_) (fun c10 => ?_)
    ·
      replace hw := (if_pos c10).mp hw
      refine lv_iconst (v := -1) hx hb dX12_slid_29 (by decide) ?_
      exact ret2_i hM hC hw dX12_slid_30
    ·
      replace hw := (if_neg c10).mp hw
      refine lv_aload_n hx hb dX12_slid_21 rfl (lo_at hl 0 rfl) ?_
      refine lv_iload_n hx hb dX12_slid_22 rfl (lo_at hl 3 rfl) ?_
      obtain ⟨k11, hw⟩ := hw
      refine res2_i hC (run2_V (As := [.int x3]) (rest := []) hM hC hl.1.1 kv_RX12_168 (c_X12_isBall l G base A o x3 h8 _ hw) (hc_10) k11 rfl rfl rfl ⟨Nat.le_of_ble_eq_true rfl, Nat.le_of_ble_eq_true rfl⟩ (Nat.le_of_ble_eq_true rfl) ⟨Nat.le_of_ble_eq_true rfl, Nat.le_of_ble_eq_true rfl⟩ dX12_slid_23) (fun z13 h12 H locs hw hC => ?_)
      refine lv_if_ne (tgt := 31) hx hb dX12_slid_26 (by decide) (fun c14 => ?_) (fun c14 => ?_)
      ·
        replace hw := (if_neg c14).mp hw
        refine lv_aload_n hx hb dX12_slid_31 rfl (lo_at hl 0 rfl) ?_
        refine lv_iload hx hb dX12_slid_32 (lo_at hl 4 rfl) ?_
        refine lv_bipush (v := 32) hx hb dX12_slid_34 (by decide) ?_
        refine lv_bipush (v := 63) hx hb dX12_slid_36 (by decide) ?_
        obtain ⟨k15, hw⟩ := hw
        refine res2_i hC (run2_V (As := [.int x4, .int ((32 : Int32)), .int ((63 : Int32))]) (rest := []) hM hC hl.1.1 kv_RX12_144 (c_X12_isIn l G base A o x4 (32 : Int32) (63 : Int32) h12 _ hw) (hc_10) k15 rfl rfl rfl ⟨Nat.le_of_ble_eq_true rfl, Nat.le_of_ble_eq_true rfl⟩ (Nat.le_of_ble_eq_true rfl) ⟨Nat.le_of_ble_eq_true rfl, Nat.le_of_ble_eq_true rfl⟩ dX12_slid_38) (fun z17 h16 H locs hw hC => ?_)
        refine lv_if_eq (tgt := 57) hx hb dX12_slid_41 (by decide) (fun c18 => ?_) (fun c18 => ?_)
        ·
          replace hw := (if_pos c18).mp hw
          refine lv_aload_n hx hb dX12_slid_57 rfl (lo_at hl 0 rfl) ?_
          refine lv_iload hx hb dX12_slid_58 (lo_at hl 4 rfl) ?_
          refine lv_iconst (v := 0) hx hb dX12_slid_60 (by decide) ?_
          refine lv_iconst (v := 4) hx hb dX12_slid_61 (by decide) ?_
          obtain ⟨k19, hw⟩ := hw
          refine res2_i hC (run2_V (As := [.int x4, .int ((0 : Int32)), .int ((4 : Int32))]) (rest := []) hM hC hl.1.1 kv_RX12_144 (c_X12_isIn l G base A o x4 (0 : Int32) (4 : Int32) h16 _ hw) (hc_10) k19 rfl rfl rfl ⟨Nat.le_of_ble_eq_true rfl, Nat.le_of_ble_eq_true rfl⟩ (Nat.le_of_ble_eq_true rfl) ⟨Nat.le_of_ble_eq_true rfl, Nat.le_of_ble_eq_true rfl⟩ dX12_slid_62) (fun z21 h20 H locs hw hC => ?_)
          refine lv_if_ne (tgt := 70) hx hb dX12_slid_65 (by decide) (fun c22 => ?_) (fun c22 => ?_)
          ·
            replace hw := (if_neg c22).mp hw
            refine lv_iload hx hb dX12_slid_70 (lo_at hl 4 rfl) ?_
            refine lv_iconst (v := 3) hx hb dX12_slid_72 (by decide) ?_
            refine lv_icmp_ne (tgt := 84) hx hb dX12_slid_73 (by decide) (fun c23 => ?_) (fun c23 => ?_)
            ·
              replace hw := (if_neg c23).mp hw
              refine lv_iload hx hb dX12_slid_84 (lo_at hl 4 rfl) ?_
              refine lv_iconst (v := 4) hx hb dX12_slid_86 (by decide) ?_
              refine lv_icmp_ne (tgt := 97) hx hb dX12_slid_87 (by decide) (fun c24 => ?_) (fun c24 => ?_)
              ·
                replace hw := (if_neg c24).mp hw
                refine lv_aload_n hx hb dX12_slid_97 rfl (lo_at hl 0 rfl) ?_
                refine lv_iload_n hx hb dX12_slid_98 rfl (lo_at hl 1 rfl) ?_
                refine lv_iload_n hx hb dX12_slid_99 rfl (lo_at hl 2 rfl) ?_
                refine lv_iload_n hx hb dX12_slid_100 rfl (lo_at hl 3 rfl) ?_
                obtain ⟨k25, hw⟩ := hw
                refine res2_i hC (run2_V (As := [.int x1, .int x2, .int x3]) (rest := []) hM hC hl.1.1 kv_RX12_318 (c_X12_bestSlide l G base A o x1 x2 x3 h20 _ hw) (hc_10) k25 rfl rfl rfl ⟨Nat.le_of_ble_eq_true rfl, Nat.le_of_ble_eq_true rfl⟩ (Nat.le_of_ble_eq_true rfl) ⟨Nat.le_of_ble_eq_true rfl, Nat.le_of_ble_eq_true rfl⟩ dX12_slid_101) (fun z27 h26 H locs hw hC => ?_)
                refine lo_istore (lv' := [(5, .int z27), (0, .ref (A o)), (1, .int x1), (2, .int x2), (3, .int x3), (4, .int x4)]) hx hb dX12_slid_104 hl (by decide) rfl (fun ls hl => ?_)
                refine lv_iload hx hb dX12_slid_106 (lo_at hl 5 rfl) ?_
                refine lv_if_ne (tgt := 123) hx hb dX12_slid_108 (by decide) (fun c28 => ?_) (fun c28 => ?_)
                ·
                  replace hw := (if_neg c28).mp hw
                  refine lv_iload hx hb dX12_slid_123 (lo_at hl 5 rfl) ?_
                  refine lv_iconst (v := 1) hx hb dX12_slid_125 (by decide) ?_
                  refine lv_icmp_ne (tgt := 134) hx hb dX12_slid_126 (by decide) (fun c29 => ?_) (fun c29 => ?_)
                  ·
                    replace hw := (if_neg c29).mp hw
                    refine lv_aload_n hx hb dX12_slid_134 rfl (lo_at hl 1 rfl) ?_
                    refine lv_iload_n hx hb dX12_slid_135 rfl (lo_at hl 2 rfl) ?_
                    refine lv_iload_n hx hb dX12_slid_136 rfl (lo_at hl 3 rfl) ?_
                    refine lv_iload_n hx hb dX12_slid_137 rfl (lo_at hl 4 rfl) ?_
                    refine lv_iload hx hb dX12_slid_138 (lo_at hl 0 rfl) ?_
                    obtain ⟨k30, hw⟩ := hw
                    refine res2_i hC (run2_V (As := [.int x1, .int x2, .int x3, .int z27]) (rest := []) hM hC hl.1.1 kv_RX12_321 (c_X12_longestBy l G base A o x1 x2 x3 z27 h26 _ hw) (hc_10) k30 rfl rfl rfl ⟨Nat.le_of_ble_eq_true rfl, Nat.le_of_ble_eq_true rfl⟩ (Nat.le_of_ble_eq_true rfl) ⟨Nat.le_of_ble_eq_true rfl, Nat.le_of_ble_eq_true rfl⟩ dX12_slid_140) (fun z32 h31 H locs hw hC => ?_)
                    exact ret2_i hM hC hw dX12_slid_143
                  ·
                    replace hw := (if_pos c29).mp hw
                    refine lv_iload hx hb dX12_slid_129 (lo_at hl 0 rfl) ?_
                    refine lv_goto (tgt := 143) hx hb dX12_slid_131 (by decide) ?_
                    exact ret2_i hM hC hw dX12_slid_143
                ·
                  replace hw := (if_pos c28).mp hw
                  refine lv_aload_n hx hb dX12_slid_111 rfl (lo_at hl 1 rfl) ?_
                  refine lv_iload_n hx hb dX12_slid_112 rfl (lo_at hl 2 rfl) ?_
                  refine lv_iload_n hx hb dX12_slid_113 rfl (lo_at hl 3 rfl) ?_
                  refine lv_iload_n hx hb dX12_slid_114 rfl (lo_at hl 4 rfl) ?_
                  refine lv_iload hx hb dX12_slid_115 (lo_at hl 0 rfl) ?_
                  obtain ⟨k33, hw⟩ := hw
                  refine res2_i hC (run2_V (As := [.int x1, .int x2, .int x3, .int z27]) (rest := []) hM hC hl.1.1 kv_RX12_302 (c_X12_manyOf l G base A o x1 x2 x3 z27 h26 _ hw) (hc_10) k33 rfl rfl rfl ⟨Nat.le_of_ble_eq_true rfl, Nat.le_of_ble_eq_true rfl⟩ (Nat.le_of_ble_eq_true rfl) ⟨Nat.le_of_ble_eq_true rfl, Nat.le_of_ble_eq_true rfl⟩ dX12_slid_117) (fun z35 h34 H locs hw hC => ?_)
                  refine lv_goto (tgt := 143) hx hb dX12_slid_120 (by decide) ?_
                  exact ret2_i hM hC hw dX12_slid_143
              ·
                replace hw := (if_pos c24).mp hw
                refine lv_aload_n hx hb dX12_slid_90 rfl (lo_at hl 0 rfl) ?_
                refine lv_iload_n hx hb dX12_slid_91 rfl (lo_at hl 2 rfl) ?_
                refine lv_iload_n hx hb dX12_slid_92 rfl (lo_at hl 3 rfl) ?_
                obtain ⟨k36, hw⟩ := hw
                refine res2_i hC (run2_V (As := [.int x2, .int x3]) (rest := []) hM hC hl.1.1 kv_RX12_315 (c_X12_lackOf l G base A o x2 x3 h20 _ hw) (hc_10) k36 rfl rfl rfl ⟨Nat.le_of_ble_eq_true rfl, Nat.le_of_ble_eq_true rfl⟩ (Nat.le_of_ble_eq_true rfl) ⟨Nat.le_of_ble_eq_true rfl, Nat.le_of_ble_eq_true rfl⟩ dX12_slid_93) (fun z38 h37 H locs hw hC => ?_)
                exact ret2_i hM hC hw dX12_slid_96
            ·
              replace hw := (if_pos c23).mp hw
              refine lv_aload_n hx hb dX12_slid_76 rfl (lo_at hl 0 rfl) ?_
              refine lv_iload_n hx hb dX12_slid_77 rfl (lo_at hl 1 rfl) ?_
              refine lv_iload_n hx hb dX12_slid_78 rfl (lo_at hl 2 rfl) ?_
              refine lv_iload_n hx hb dX12_slid_79 rfl (lo_at hl 3 rfl) ?_
              obtain ⟨k39, hw⟩ := hw
              refine res2_i hC (run2_V (As := [.int x1, .int x2, .int x3]) (rest := []) hM hC hl.1.1 kv_RX12_312 (c_X12_piecesOf l G base A o x1 x2 x3 h20 _ hw) (hc_10) k39 rfl rfl rfl ⟨Nat.le_of_ble_eq_true rfl, Nat.le_of_ble_eq_true rfl⟩ (Nat.le_of_ble_eq_true rfl) ⟨Nat.le_of_ble_eq_true rfl, Nat.le_of_ble_eq_true rfl⟩ dX12_slid_80) (fun z41 h40 H locs hw hC => ?_)
              exact ret2_i hM hC hw dX12_slid_83
          ·
            replace hw := (if_pos c22).mp hw
            refine lv_iconst (v := -1) hx hb dX12_slid_68 (by decide) ?_
            exact ret2_i hM hC hw dX12_slid_69
        ·
          replace hw := (if_neg c18).mp hw
          refine lv_aload_n hx hb dX12_slid_44 rfl (lo_at hl 0 rfl) ?_
          refine lv_iload_n hx hb dX12_slid_45 rfl (lo_at hl 1 rfl) ?_
          refine lv_iload_n hx hb dX12_slid_46 rfl (lo_at hl 2 rfl) ?_
          refine lv_iload_n hx hb dX12_slid_47 rfl (lo_at hl 3 rfl) ?_
          refine lv_iload hx hb dX12_slid_48 (lo_at hl 4 rfl) ?_
          refine lv_bipush (v := 32) hx hb dX12_slid_50 (by decide) ?_
          refine lv_isub hx hb dX12_slid_52 ?_
          obtain ⟨k42, hw⟩ := hw
          refine res2_i hC (run2_V (As := [.int x1, .int x2, .int x3, .int (x4 - (32 : Int32))]) (rest := []) hM hC hl.1.1 kv_RX12_302 (c_X12_manyOf l G base A o x1 x2 x3 (x4 - (32 : Int32)) h16 _ hw) (hc_10) k42 rfl rfl rfl ⟨Nat.le_of_ble_eq_true rfl, Nat.le_of_ble_eq_true rfl⟩ (Nat.le_of_ble_eq_true rfl) ⟨Nat.le_of_ble_eq_true rfl, Nat.le_of_ble_eq_true rfl⟩ dX12_slid_53) (fun z44 h43 H locs hw hC => ?_)
          exact ret2_i hM hC hw dX12_slid_56
      ·
        replace hw := (if_pos c14).mp hw
        refine lv_iconst (v := -1) hx hb dX12_slid_29 (by decide) ?_
        exact ret2_i hM hC hw dX12_slid_30
