abbrev rm_X11_found : Room := { frames := 2, cells := 2, slots := 37, locals := 103 }
set_option maxRecDepth 100000 in
def wp_X11_found (o : Nat) (h : Hp) (Q : Int32 → Hp → Prop) : Prop := ((hpK h o).1 = 20 + 9) ∧ ((if (hpI h o 5) < (40 : Int32) then (okP h (some o) ∧ (okP h (hpR h o 4) ∧ (∃ q3 : Nat, (hpK h q3).1 = 0 ∧ (∀ h4 : Hp, h4 = alc h q3 (20 + 0) 0 → (((hpK h4 o).1 = 20 + 9) ∧ (((hpK h4 q3).1 = 20 + 0) ∧ (okP h4 (some o) ∧ (okP h4 (some q3) ∧ (okP h4 (hpR h o 4) ∧ (wp_X0_init q3 (hpI h4 o 5) none (-1 : Int32) h4 (fun (h16 : Hp) => ((hpK h16 q3).1 = 20 + 0) ∧ (okA h16 (hpR h o 4) 3 (hpI h o 5) ∧ (∀ h24 : Hp, h24 = stR h16 (ad (hpR h o 4)) (hpI h o 5).toNatClampNeg (some q3) → (((hpK h24 o).1 = 20 + 9) ∧ (∀ h26 : Hp, h26 = stI h24 o 5 ((hpI h24 o 5) + (1 : Int32)) → (((hpK h26 o).1 = 20 + 9) ∧ (∀ h28 : Hp, h28 = stI h26 o 6 ((hpI h26 o 6) + (1 : Int32)) → (((hpK h28 o).1 = 20 + 9) ∧ (Q ((hpI h28 o 5) - (1 : Int32)) h28))))))))))))))))))) else (Q (-1 : Int32) h)))
set_option maxHeartbeats 4000000 in
set_option maxRecDepth 100000 in
theorem c_X11_found (l : Launch) (G : GG) (base : Nat) (A : Nat → Nat) (o : Nat) (h : Hp) (Q : Int32 → Hp → Prop) (hw : wp_X11_found o h Q) : Met l yX11_found (ww yX11_found cX11_found 1 (some .int)) rm_X11_found (va_Pc [.ref (A o)] (PU2 G base A h A h)) (va_Qi (fun r (u : (Nat → Nat) × Hp) => Q r u.2) (fun u t => PU2 G base A h u.1 u.2 t) (fun q => base ≤ q)) 2 37 (fun q => base ≤ q) := by
  refine met2_of (own := RX11) (nm := "found") (by decide) rfl rfl (List.forall_mem_cons.mpr ⟨rfl, (fun _ h => absurd h List.not_mem_nil)⟩) (Nat.le_of_ble_eq_true rfl) rfl ?_
  intro p e s m args below meth c H locs ls hM hC hl
  obtain ⟨hx, hb, hr, hml, hown, hts, hg, hs, hlk, hnm⟩ := id hM
  unfold wp_X11_found at hw
  refine lv_aload_n hx hb dX11_found_0 rfl (lo_at hl 0 rfl) ?_
  obtain ⟨k1, hw⟩ := hw
  refine s_getI hx hb hts hown hg hC fb_9_5 k1 mk_f_RX11_122 dX11_found_1 ?_
  refine lv_bipush (v := 40) hx hb dX11_found_4 (by decide) ?_
  refine lv_icmp_lt (tgt := 11) hx hb dX11_found_6 (by decide) (fun c2 => ?_) (fun c2 => ?_)
  ·
    replace hw := (if_pos c2).mp hw
    refine lv_aload_n hx hb dX11_found_11 rfl (lo_at hl 0 rfl) ?_
    refine s_getR hx hb hts hown hg hC fb_9_4 k1 mk_f_RX11_23 dX11_found_12 ?_
    refine lv_aload_n hx hb dX11_found_15 rfl (lo_at hl 0 rfl) ?_
    refine s_getI hx hb hts hown hg hC fb_9_5 k1 mk_f_RX11_122 dX11_found_16 ?_
    obtain ⟨k6, hw⟩ := hw
    obtain ⟨k7, hw⟩ := hw
    obtain ⟨q3, k5, hw⟩ := hw
    refine s_new hx hb hts hown hg hC cb_0 df_0 mk_c_RX11_21 mk_ins_OneBarrel_Ball mk_ini_OneBarrel_Ball q3 k5 (Nat.le_of_ble_eq_true rfl) (Nat.le_of_ble_eq_true rfl) dX11_found_19 (fun A8 h4 H eh4 hE hC => ?_)
    replace hw := hw h4 eh4
    have e9 : A o = A8 o := ((hE _ (k6 _ rfl)).2).symm
    try rw [e9] at hl
    try rw [e9]
    have e10 : Option.map A (hpR h o 4) = Option.map A8 (hpR h o 4) := hE.map k7
    try rw [e10] at hl
    try rw [e10]
    refine W.widen (k := 1) (n := 5) (Nat.le_of_ble_eq_true rfl) (Nat.le_of_ble_eq_true rfl) ?_
    refine lv_dup hx hb dX11_found_22 rfl ?_
    refine lv_aload_n hx hb dX11_found_23 rfl (lo_at hl 0 rfl) ?_
    obtain ⟨k11, hw⟩ := hw
    refine s_getI hx hb hts hown hg hC fb_9_5 k11 mk_f_RX11_122 dX11_found_24 ?_
    refine lv_null hx hb dX11_found_27 ?_
    refine lv_iconst (v := -1) hx hb dX11_found_28 (by decide) ?_
    obtain ⟨k12, hw⟩ := hw
    obtain ⟨k13, hw⟩ := hw
    obtain ⟨k14, hw⟩ := hw
    obtain ⟨k15, hw⟩ := hw
    refine res2_va hC (run2_I (As := [.int (hpI h4 o 5), va_rf (Option.map A8 none), .int ((-1 : Int32))]) (rest := [.ref (A8 q3), .int (hpI h o 5), va_rf (Option.map A8 (hpR h o 4))]) hM hC hl.1.1 kv_RX11_125 (c_X0_init l G base A8 q3 (hpI h4 o 5) none (-1 : Int32) h4 _ hw) rfl rfl rfl ⟨Nat.le_of_ble_eq_true rfl, Nat.le_of_ble_eq_true rfl⟩ (rest_le (List.forall_mem_cons.mpr ⟨rfl, (List.forall_mem_cons.mpr ⟨rfl, (List.forall_mem_cons.mpr ⟨va_rf_cat _, (fun _ h => absurd h List.not_mem_nil)⟩)⟩)⟩) (Nat.le_of_ble_eq_true rfl)) ⟨Nat.le_of_ble_eq_true rfl, Nat.le_of_ble_eq_true rfl⟩ dX11_found_29) (fun A18 h16 H locs hw hE hC => ?_)
    have e19 : A8 o = A18 o := ((hE _ (k13 _ rfl)).2).symm
    try rw [e19] at hl
    try rw [e19]
    have e20 : A8 q3 = A18 q3 := ((hE _ (k14 _ rfl)).2).symm
    try rw [e20] at hl
    try rw [e20]
    have e21 : Option.map A8 (hpR h o 4) = Option.map A18 (hpR h o 4) := hE.map k15
    try rw [e21] at hl
    try rw [e21]
    refine W.widen (k := 2) (n := 37) (Nat.le_of_ble_eq_true rfl) (Nat.le_of_ble_eq_true rfl) ?_
    obtain ⟨k22, hw⟩ := hw
    obtain ⟨k23, hw⟩ := hw
    refine sf_3 k23.1 ?_
    refine s_aast (kd := 3) (t0 := 2) (ci := 0) (q := (RX0, TX0, 5)) hx hb hg hC k23.2.1 (by decide) rfl rfl k22 k23.2.2 dX11_found_32 (fun h24 H locs eh24 hC => ?_)
    replace hw := hw h24 eh24
    refine lv_aload_n hx hb dX11_found_33 rfl (lo_at hl 0 rfl) ?_
    refine lv_dup hx hb dX11_found_34 rfl ?_
    obtain ⟨k25, hw⟩ := hw
    refine s_getI hx hb hts hown hg hC fb_9_5 k25 mk_f_RX11_122 dX11_found_35 ?_
    refine lv_iconst (v := 1) hx hb dX11_found_38 (by decide) ?_
    refine lv_iadd hx hb dX11_found_39 ?_
    refine s_putI hx hb hts hown hg hC fb_9_5 k25 rfl rfl mk_f_RX11_122 dX11_found_40 (fun h26 H locs eh26 hC => ?_)
    replace hw := hw h26 eh26
    refine lv_aload_n hx hb dX11_found_43 rfl (lo_at hl 0 rfl) ?_
    refine lv_dup hx hb dX11_found_44 rfl ?_
    obtain ⟨k27, hw⟩ := hw
    refine s_getI hx hb hts hown hg hC fb_9_6 k27 mk_f_RX11_137 dX11_found_45 ?_
    refine lv_iconst (v := 1) hx hb dX11_found_48 (by decide) ?_
    refine lv_iadd hx hb dX11_found_49 ?_
    refine s_putI hx hb hts hown hg hC fb_9_6 k27 rfl rfl mk_f_RX11_137 dX11_found_50 (fun h28 H locs eh28 hC => ?_)
    replace hw := hw h28 eh28
    refine lv_aload_n hx hb dX11_found_53 rfl (lo_at hl 0 rfl) ?_
    obtain ⟨k29, hw⟩ := hw
    refine s_getI hx hb hts hown hg hC fb_9_5 k29 mk_f_RX11_122 dX11_found_54 ?_
    refine lv_iconst (v := 1) hx hb dX11_found_57 (by decide) ?_
    refine lv_isub hx hb dX11_found_58 ?_
    exact ret2_ia hM hC hw dX11_found_59
  ·
    replace hw := (if_neg c2).mp hw
    refine lv_iconst (v := -1) hx hb dX11_found_9 (by decide) ?_
    refine W.widen (k := 2) (n := 37) (Nat.le_of_ble_eq_true rfl) (Nat.le_of_ble_eq_true rfl) ?_
    exact ret2_ia hM hC hw dX11_found_10
abbrev rm_X11_feed : Room := { frames := 1, cells := 0, slots := 0, locals := 22 }
set_option maxRecDepth 100000 in
def wp_X11_feed (o : Nat) (x1 : Int32) (x2 : Int32) (x3 : Int32) (x4 : Int32) (x5 : Int32) (h : Hp) (Q : Int32 → Hp → Prop) : Prop := ((hpK h o).1 = 20 + 9) ∧ (okO h (hpR h o 12) 6 ∧ ((if ((hpI h (ad (hpR h o 12)) 1) + (20 : Int32)) ≤ (600 : Int32) then (wp_X8_put (ad (hpR h o 12)) x1 h (fun (h4 : Hp) => ((hpK h4 o).1 = 20 + 9) ∧ (okO h4 (hpR h4 o 12) 6 ∧ (wp_X8_put (ad (hpR h4 o 12)) x2 h4 (fun (h8 : Hp) => ((hpK h8 o).1 = 20 + 9) ∧ (okO h8 (hpR h8 o 12) 6 ∧ (wp_X8_put (ad (hpR h8 o 12)) x3 h8 (fun (h12 : Hp) => ((hpK h12 o).1 = 20 + 9) ∧ (okO h12 (hpR h12 o 12) 6 ∧ (wp_X8_put (ad (hpR h12 o 12)) x4 h12 (fun (h16 : Hp) => ((hpK h16 o).1 = 20 + 9) ∧ (okO h16 (hpR h16 o 12) 6 ∧ (wp_X8_put (ad (hpR h16 o 12)) x5 h16 (fun (h20 : Hp) => ((hpK h20 o).1 = 20 + 9) ∧ (okO h20 (hpR h20 o 12) 6 ∧ (Q (hpI h20 (ad (hpR h20 o 12)) 1) h20)))))))))))))))) else (Q (-1 : Int32) h))))
set_option maxHeartbeats 4000000 in
set_option maxRecDepth 100000 in
theorem c_X11_feed (l : Launch) (G : GG) (base : Nat) (A : Nat → Nat) (o : Nat) (x1 : Int32) (x2 : Int32) (x3 : Int32) (x4 : Int32) (x5 : Int32) (h : Hp) (Q : Int32 → Hp → Prop) (hw : wp_X11_feed o x1 x2 x3 x4 x5 h Q) : Met l yX11_feed (ww yX11_feed cX11_feed 6 (some .int)) rm_X11_feed (va_Pc [.ref (A o), .int x1, .int x2, .int x3, .int x4, .int x5] (PU2 G base A h A h)) (va_Qi Q (PU2 G base A h A) (fun q => base ≤ q)) 0 0 (fun q => base ≤ q) := by
  refine met2_of (own := RX11) (nm := "feed") (by decide) rfl rfl (List.forall_mem_cons.mpr ⟨rfl, (List.forall_mem_cons.mpr ⟨rfl, (List.forall_mem_cons.mpr ⟨rfl, (List.forall_mem_cons.mpr ⟨rfl, (List.forall_mem_cons.mpr ⟨rfl, (List.forall_mem_cons.mpr ⟨rfl, (fun _ h => absurd h List.not_mem_nil)⟩)⟩)⟩)⟩)⟩)⟩) (Nat.le_of_ble_eq_true rfl) rfl ?_
  intro p e s m args below meth c H locs ls hM hC hl
  obtain ⟨hx, hb, hr, hml, hown, hts, hg, hs, hlk, hnm⟩ := id hM
  unfold wp_X11_feed at hw
  refine lv_aload_n hx hb dX11_feed_0 rfl (lo_at hl 0 rfl) ?_
  obtain ⟨k1, hw⟩ := hw
  refine s_getR hx hb hts hown hg hC fb_9_12 k1 mk_f_RX11_46 dX11_feed_1 ?_
  obtain ⟨k2, hw⟩ := hw
  refine sf_1 k2.1 ?_
  refine s_getI hx hb hts hown hg hC fb_6_1 k2.2 mk_f_RX11_163 dX11_feed_4 ?_
  refine lv_bipush (v := 20) hx hb dX11_feed_7 (by decide) ?_
  refine lv_iadd hx hb dX11_feed_9 ?_
  refine lv_sipush (v := 600) hx hb dX11_feed_10 (by decide) ?_
  refine lv_icmp_le (tgt := 18) hx hb dX11_feed_13 (by decide) (fun c3 => ?_) (fun c3 => ?_)
  ·
    replace hw := (if_pos c3).mp hw
    refine lv_aload_n hx hb dX11_feed_18 rfl (lo_at hl 0 rfl) ?_
    refine s_getR hx hb hts hown hg hC fb_9_12 k1 mk_f_RX11_46 dX11_feed_19 ?_
    refine lv_iload_n hx hb dX11_feed_22 rfl (lo_at hl 1 rfl) ?_
    refine sf_2 k2.1 ?_
    refine res2_v hC (run2_V (As := [.int x1]) (rest := []) hM hC hl.1.1 kv_RX11_166 (c_X8_put l G base A (ad (hpR h o 12)) x1 h _ hw) (hc_6) k2.2 rfl rfl rfl ⟨Nat.le_of_ble_eq_true rfl, Nat.le_of_ble_eq_true rfl⟩ (Nat.le_of_ble_eq_true rfl) ⟨Nat.le_of_ble_eq_true rfl, Nat.le_of_ble_eq_true rfl⟩ dX11_feed_23) (fun h4 H locs hw hC => ?_)
    refine lv_aload_n hx hb dX11_feed_26 rfl (lo_at hl 0 rfl) ?_
    obtain ⟨k6, hw⟩ := hw
    refine s_getR hx hb hts hown hg hC fb_9_12 k6 mk_f_RX11_46 dX11_feed_27 ?_
    refine lv_iload_n hx hb dX11_feed_30 rfl (lo_at hl 2 rfl) ?_
    obtain ⟨k7, hw⟩ := hw
    refine sf_2 k7.1 ?_
    refine res2_v hC (run2_V (As := [.int x2]) (rest := []) hM hC hl.1.1 kv_RX11_166 (c_X8_put l G base A (ad (hpR h4 o 12)) x2 h4 _ hw) (hc_6) k7.2 rfl rfl rfl ⟨Nat.le_of_ble_eq_true rfl, Nat.le_of_ble_eq_true rfl⟩ (Nat.le_of_ble_eq_true rfl) ⟨Nat.le_of_ble_eq_true rfl, Nat.le_of_ble_eq_true rfl⟩ dX11_feed_31) (fun h8 H locs hw hC => ?_)
    refine lv_aload_n hx hb dX11_feed_34 rfl (lo_at hl 0 rfl) ?_
    obtain ⟨k10, hw⟩ := hw
    refine s_getR hx hb hts hown hg hC fb_9_12 k10 mk_f_RX11_46 dX11_feed_35 ?_
    refine lv_iload_n hx hb dX11_feed_38 rfl (lo_at hl 3 rfl) ?_
    obtain ⟨k11, hw⟩ := hw
    refine sf_2 k11.1 ?_
    refine res2_v hC (run2_V (As := [.int x3]) (rest := []) hM hC hl.1.1 kv_RX11_166 (c_X8_put l G base A (ad (hpR h8 o 12)) x3 h8 _ hw) (hc_6) k11.2 rfl rfl rfl ⟨Nat.le_of_ble_eq_true rfl, Nat.le_of_ble_eq_true rfl⟩ (Nat.le_of_ble_eq_true rfl) ⟨Nat.le_of_ble_eq_true rfl, Nat.le_of_ble_eq_true rfl⟩ dX11_feed_39) (fun h12 H locs hw hC => ?_)
    refine lv_aload_n hx hb dX11_feed_42 rfl (lo_at hl 0 rfl) ?_
    obtain ⟨k14, hw⟩ := hw
    refine s_getR hx hb hts hown hg hC fb_9_12 k14 mk_f_RX11_46 dX11_feed_43 ?_
    refine lv_iload hx hb dX11_feed_46 (lo_at hl 4 rfl) ?_
    obtain ⟨k15, hw⟩ := hw
    refine sf_2 k15.1 ?_
    refine res2_v hC (run2_V (As := [.int x4]) (rest := []) hM hC hl.1.1 kv_RX11_166 (c_X8_put l G base A (ad (hpR h12 o 12)) x4 h12 _ hw) (hc_6) k15.2 rfl rfl rfl ⟨Nat.le_of_ble_eq_true rfl, Nat.le_of_ble_eq_true rfl⟩ (Nat.le_of_ble_eq_true rfl) ⟨Nat.le_of_ble_eq_true rfl, Nat.le_of_ble_eq_true rfl⟩ dX11_feed_48) (fun h16 H locs hw hC => ?_)
    refine lv_aload_n hx hb dX11_feed_51 rfl (lo_at hl 0 rfl) ?_
    obtain ⟨k18, hw⟩ := hw
    refine s_getR hx hb hts hown hg hC fb_9_12 k18 mk_f_RX11_46 dX11_feed_52 ?_
    refine lv_iload hx hb dX11_feed_55 (lo_at hl 5 rfl) ?_
    obtain ⟨k19, hw⟩ := hw
    refine sf_2 k19.1 ?_
    refine res2_v hC (run2_V (As := [.int x5]) (rest := []) hM hC hl.1.1 kv_RX11_166 (c_X8_put l G base A (ad (hpR h16 o 12)) x5 h16 _ hw) (hc_6) k19.2 rfl rfl rfl ⟨Nat.le_of_ble_eq_true rfl, Nat.le_of_ble_eq_true rfl⟩ (Nat.le_of_ble_eq_true rfl) ⟨Nat.le_of_ble_eq_true rfl, Nat.le_of_ble_eq_true rfl⟩ dX11_feed_57) (fun h20 H locs hw hC => ?_)
    refine lv_aload_n hx hb dX11_feed_60 rfl (lo_at hl 0 rfl) ?_
    obtain ⟨k22, hw⟩ := hw
    refine s_getR hx hb hts hown hg hC fb_9_12 k22 mk_f_RX11_46 dX11_feed_61 ?_
    obtain ⟨k23, hw⟩ := hw
    refine sf_1 k23.1 ?_
    refine s_getI hx hb hts hown hg hC fb_6_1 k23.2 mk_f_RX11_163 dX11_feed_64 ?_
    exact ret2_i hM hC hw dX11_feed_67
  ·
    replace hw := (if_neg c3).mp hw
    refine lv_iconst (v := -1) hx hb dX11_feed_16 (by decide) ?_
    exact ret2_i hM hC hw dX11_feed_17
abbrev rm_X11_end : Room := { frames := 0, cells := 0, slots := 0, locals := 0 }
set_option maxRecDepth 100000 in
def wp_X11_end (o : Nat) (x1 : Int32) (h : Hp) (Q : Int32 → Hp → Prop) : Prop := (if x1 < 0 then (Q (0 : Int32) h) else (((hpK h o).1 = 20 + 9) ∧ (okO h (hpR h o 12) 6 ∧ ((if x1 ≤ (hpI h (ad (hpR h o 12)) 1) then (∀ h5 : Hp, h5 = stI h (ad (hpR h o 12)) 1 x1 → (Q (1 : Int32) h5)) else (Q (0 : Int32) h))))))
set_option maxHeartbeats 4000000 in
set_option maxRecDepth 100000 in
theorem c_X11_end (l : Launch) (G : GG) (base : Nat) (A : Nat → Nat) (o : Nat) (x1 : Int32) (h : Hp) (Q : Int32 → Hp → Prop) (hw : wp_X11_end o x1 h Q) : Met l yX11_end (ww yX11_end cX11_end 2 (some .boolean)) rm_X11_end (va_Pc [.ref (A o), .int x1] (PU2 G base A h A h)) (va_Qi Q (PU2 G base A h A) (fun q => base ≤ q)) 0 0 (fun q => base ≤ q) := by
  refine met2_of (own := RX11) (nm := "end") (by decide) rfl rfl (List.forall_mem_cons.mpr ⟨rfl, (List.forall_mem_cons.mpr ⟨rfl, (fun _ h => absurd h List.not_mem_nil)⟩)⟩) (Nat.le_of_ble_eq_true rfl) rfl ?_
  intro p e s m args below meth c H locs ls hM hC hl
  obtain ⟨hx, hb, hr, hml, hown, hts, hg, hs, hlk, hnm⟩ := id hM
  unfold wp_X11_end at hw
  refine lv_iload_n hx hb dX11_end_0 rfl (lo_at hl 1 rfl) ?_
  refine lv_if_lt (tgt := 15) hx hb dX11_end_1 (by decide) (fun c1 => ?_) (fun c1 => ?_)
  ·
    replace hw := (if_pos c1).mp hw
    refine lv_iconst (v := 0) hx hb dX11_end_15 (by decide) ?_
    exact ret2_t hM hC rfl hw dX11_end_16
  ·
    replace hw := (if_neg c1).mp hw
    refine lv_iload_n hx hb dX11_end_4 rfl (lo_at hl 1 rfl) ?_
    refine lv_aload_n hx hb dX11_end_5 rfl (lo_at hl 0 rfl) ?_
    obtain ⟨k2, hw⟩ := hw
    refine s_getR hx hb hts hown hg hC fb_9_12 k2 mk_f_RX11_46 dX11_end_6 ?_
    obtain ⟨k3, hw⟩ := hw
    refine sf_1 k3.1 ?_
    refine s_getI hx hb hts hown hg hC fb_6_1 k3.2 mk_f_RX11_163 dX11_end_9 ?_
    refine lv_icmp_le (tgt := 17) hx hb dX11_end_12 (by decide) (fun c4 => ?_) (fun c4 => ?_)
    ·
      replace hw := (if_pos c4).mp hw
      refine lv_aload_n hx hb dX11_end_17 rfl (lo_at hl 0 rfl) ?_
      refine s_getR hx hb hts hown hg hC fb_9_12 k2 mk_f_RX11_46 dX11_end_18 ?_
      refine lv_iload_n hx hb dX11_end_21 rfl (lo_at hl 1 rfl) ?_
      refine sf_2 k3.1 ?_
      refine s_putI hx hb hts hown hg hC fb_6_1 k3.2 rfl rfl mk_f_RX11_163 dX11_end_22 (fun h5 H locs eh5 hC => ?_)
      replace hw := hw h5 eh5
      refine lv_iconst (v := 1) hx hb dX11_end_25 (by decide) ?_
      exact ret2_t hM hC rfl hw dX11_end_26
    ·
      replace hw := (if_neg c4).mp hw
      refine lv_iconst (v := 0) hx hb dX11_end_15 (by decide) ?_
      exact ret2_t hM hC rfl hw dX11_end_16
abbrev rm_X11_fault : Room := { frames := 0, cells := 0, slots := 0, locals := 0 }
set_option maxRecDepth 100000 in
def wp_X11_fault (o : Nat) (x1 : Int32) (h : Hp) (Q : Int32 → Hp → Prop) : Prop := (if x1 = 0 then (((hpK h o).1 = 20 + 9) ∧ (okO h (hpR h o 13) 4 ∧ (Q (hpI h (ad (hpR h o 13)) 0) h))) else ((if x1 = (1 : Int32) then (((hpK h o).1 = 20 + 9) ∧ (okO h (hpR h o 13) 4 ∧ (Q (hpI h (ad (hpR h o 13)) 1) h))) else (Q (-1 : Int32) h))))
set_option maxHeartbeats 4000000 in
set_option maxRecDepth 100000 in
theorem c_X11_fault (l : Launch) (G : GG) (base : Nat) (A : Nat → Nat) (o : Nat) (x1 : Int32) (h : Hp) (Q : Int32 → Hp → Prop) (hw : wp_X11_fault o x1 h Q) : Met l yX11_fault (ww yX11_fault cX11_fault 2 (some .int)) rm_X11_fault (va_Pc [.ref (A o), .int x1] (PU2 G base A h A h)) (va_Qi Q (PU2 G base A h A) (fun q => base ≤ q)) 0 0 (fun q => base ≤ q) := by
  refine met2_of (own := RX11) (nm := "fault") (by decide) rfl rfl (List.forall_mem_cons.mpr ⟨rfl, (List.forall_mem_cons.mpr ⟨rfl, (fun _ h => absurd h List.not_mem_nil)⟩)⟩) (Nat.le_of_ble_eq_true rfl) rfl ?_
  intro p e s m args below meth c H locs ls hM hC hl
  obtain ⟨hx, hb, hr, hml, hown, hts, hg, hs, hlk, hnm⟩ := id hM
  unfold wp_X11_fault at hw
  refine lv_iload_n hx hb dX11_fault_0 rfl (lo_at hl 1 rfl) ?_
  refine lv_if_ne (tgt := 12) hx hb dX11_fault_1 (by decide) (fun c1 => ?_) (fun c1 => ?_)
  ·
    replace hw := (if_neg c1).mp hw
    refine lv_iload_n hx hb dX11_fault_12 rfl (lo_at hl 1 rfl) ?_
    refine lv_iconst (v := 1) hx hb dX11_fault_13 (by decide) ?_
    refine lv_icmp_ne (tgt := 27) hx hb dX11_fault_14 (by decide) (fun c2 => ?_) (fun c2 => ?_)
    ·
      replace hw := (if_neg c2).mp hw
      refine lv_iconst (v := -1) hx hb dX11_fault_27 (by decide) ?_
      exact ret2_i hM hC hw dX11_fault_28
    ·
      replace hw := (if_pos c2).mp hw
      refine lv_aload_n hx hb dX11_fault_17 rfl (lo_at hl 0 rfl) ?_
      obtain ⟨k3, hw⟩ := hw
      refine s_getR hx hb hts hown hg hC fb_9_13 k3 mk_f_RX11_55 dX11_fault_18 ?_
      obtain ⟨k4, hw⟩ := hw
      refine sf_1 k4.1 ?_
      refine s_getI hx hb hts hown hg hC fb_4_1 k4.2 mk_f_RX11_192 dX11_fault_21 ?_
      refine lv_goto (tgt := 28) hx hb dX11_fault_24 (by decide) ?_
      exact ret2_i hM hC hw dX11_fault_28
  ·
    replace hw := (if_pos c1).mp hw
    refine lv_aload_n hx hb dX11_fault_4 rfl (lo_at hl 0 rfl) ?_
    obtain ⟨k5, hw⟩ := hw
    refine s_getR hx hb hts hown hg hC fb_9_13 k5 mk_f_RX11_55 dX11_fault_5 ?_
    obtain ⟨k6, hw⟩ := hw
    refine sf_1 k6.1 ?_
    refine s_getI hx hb hts hown hg hC fb_4_0 k6.2 mk_f_RX11_189 dX11_fault_8 ?_
    exact ret2_i hM hC hw dX11_fault_11
abbrev rm_X11_look : Room := { frames := 0, cells := 0, slots := 0, locals := 0 }
set_option maxRecDepth 100000 in
def wp_X11_look (o : Nat) (x1 : Int32) (h : Hp) (Q : Int32 → Hp → Prop) : Prop := (if x1 = (0 : Int32) then (((hpK h o).1 = 20 + 9) ∧ (Q (hpI h o 1) h)) else if x1 = (1 : Int32) then (((hpK h o).1 = 20 + 9) ∧ (Q (hpI h o 3) h)) else if x1 = (2 : Int32) then (((hpK h o).1 = 20 + 9) ∧ (Q (hpI h o 5) h)) else if x1 = (3 : Int32) then (((hpK h o).1 = 20 + 9) ∧ (Q (hpI h o 8) h)) else if x1 = (4 : Int32) then (((hpK h o).1 = 20 + 9) ∧ (Q (hpI h o 10) h)) else if x1 = (5 : Int32) then (((hpK h o).1 = 20 + 9) ∧ (okO h (hpR h o 14) 5 ∧ (Q (hpI h (ad (hpR h o 14)) 7) h))) else if x1 = (6 : Int32) then (((hpK h o).1 = 20 + 9) ∧ (Q (hpI h o 6) h)) else Q (-1 : Int32) h)
set_option maxHeartbeats 4000000 in
set_option maxRecDepth 100000 in
theorem c_X11_look (l : Launch) (G : GG) (base : Nat) (A : Nat → Nat) (o : Nat) (x1 : Int32) (h : Hp) (Q : Int32 → Hp → Prop) (hw : wp_X11_look o x1 h Q) : Met l yX11_look (ww yX11_look cX11_look 2 (some .int)) rm_X11_look (va_Pc [.ref (A o), .int x1] (PU2 G base A h A h)) (va_Qi Q (PU2 G base A h A) (fun q => base ≤ q)) 0 0 (fun q => base ≤ q) := by
  refine met2_of (own := RX11) (nm := "look") (by decide) rfl rfl (List.forall_mem_cons.mpr ⟨rfl, (List.forall_mem_cons.mpr ⟨rfl, (fun _ h => absurd h List.not_mem_nil)⟩)⟩) (Nat.le_of_ble_eq_true rfl) rfl ?_
  intro p e s m args below meth c H locs ls hM hC hl
  obtain ⟨hx, hb, hr, hml, hown, hts, hg, hs, hlk, hnm⟩ := id hM
  unfold wp_X11_look at hw
  refine lv_iload_n hx hb dX11_look_0 rfl (lo_at hl 1 rfl) ?_
  by_cases c1 : x1 = (0 : Int32)
  ·
    replace hw := (if_pos c1).mp hw
    refine lv_tableIn (tgt := 44) hx hb dX11_look_1 (by rw [c1]; decide) (by rw [c1]; decide) (by rw [c1]; first | done | rfl) (by decide) ?_
    refine lv_aload_n hx hb dX11_look_44 rfl (lo_at hl 0 rfl) ?_
    obtain ⟨k2, hw⟩ := hw
    refine s_getI hx hb hts hown hg hC fb_9_1 k2 mk_f_RX11_73 dX11_look_45 ?_
    exact ret2_i hM hC hw dX11_look_48
  replace hw := (if_neg c1).mp hw
  by_cases c3 : x1 = (1 : Int32)
  ·
    replace hw := (if_pos c3).mp hw
    refine lv_tableIn (tgt := 49) hx hb dX11_look_1 (by rw [c3]; decide) (by rw [c3]; decide) (by rw [c3]; first | done | rfl) (by decide) ?_
    refine lv_aload_n hx hb dX11_look_49 rfl (lo_at hl 0 rfl) ?_
    obtain ⟨k4, hw⟩ := hw
    refine s_getI hx hb hts hown hg hC fb_9_3 k4 mk_f_RX11_95 dX11_look_50 ?_
    exact ret2_i hM hC hw dX11_look_53
  replace hw := (if_neg c3).mp hw
  by_cases c5 : x1 = (2 : Int32)
  ·
    replace hw := (if_pos c5).mp hw
    refine lv_tableIn (tgt := 54) hx hb dX11_look_1 (by rw [c5]; decide) (by rw [c5]; decide) (by rw [c5]; first | done | rfl) (by decide) ?_
    refine lv_aload_n hx hb dX11_look_54 rfl (lo_at hl 0 rfl) ?_
    obtain ⟨k6, hw⟩ := hw
    refine s_getI hx hb hts hown hg hC fb_9_5 k6 mk_f_RX11_122 dX11_look_55 ?_
    exact ret2_i hM hC hw dX11_look_58
  replace hw := (if_neg c5).mp hw
  by_cases c7 : x1 = (3 : Int32)
  ·
    replace hw := (if_pos c7).mp hw
    refine lv_tableIn (tgt := 59) hx hb dX11_look_1 (by rw [c7]; decide) (by rw [c7]; decide) (by rw [c7]; first | done | rfl) (by decide) ?_
    refine lv_aload_n hx hb dX11_look_59 rfl (lo_at hl 0 rfl) ?_
    obtain ⟨k8, hw⟩ := hw
    refine s_getI hx hb hts hown hg hC fb_9_8 k8 mk_f_RX11_195 dX11_look_60 ?_
    exact ret2_i hM hC hw dX11_look_63
  replace hw := (if_neg c7).mp hw
  by_cases c9 : x1 = (4 : Int32)
  ·
    replace hw := (if_pos c9).mp hw
    refine lv_tableIn (tgt := 64) hx hb dX11_look_1 (by rw [c9]; decide) (by rw [c9]; decide) (by rw [c9]; first | done | rfl) (by decide) ?_
    refine lv_aload_n hx hb dX11_look_64 rfl (lo_at hl 0 rfl) ?_
    obtain ⟨k10, hw⟩ := hw
    refine s_getI hx hb hts hown hg hC fb_9_10 k10 mk_f_RX11_258 dX11_look_65 ?_
    exact ret2_i hM hC hw dX11_look_68
  replace hw := (if_neg c9).mp hw
  by_cases c11 : x1 = (5 : Int32)
  ·
    replace hw := (if_pos c11).mp hw
    refine lv_tableIn (tgt := 69) hx hb dX11_look_1 (by rw [c11]; decide) (by rw [c11]; decide) (by rw [c11]; first | done | rfl) (by decide) ?_
    refine lv_aload_n hx hb dX11_look_69 rfl (lo_at hl 0 rfl) ?_
    obtain ⟨k12, hw⟩ := hw
    refine s_getR hx hb hts hown hg hC fb_9_14 k12 mk_f_RX11_62 dX11_look_70 ?_
    obtain ⟨k13, hw⟩ := hw
    refine sf_1 k13.1 ?_
    refine s_getI hx hb hts hown hg hC fb_5_7 k13.2 mk_f_RX11_177 dX11_look_73 ?_
    exact ret2_i hM hC hw dX11_look_76
  replace hw := (if_neg c11).mp hw
  by_cases c14 : x1 = (6 : Int32)
  ·
    replace hw := (if_pos c14).mp hw
    refine lv_tableIn (tgt := 77) hx hb dX11_look_1 (by rw [c14]; decide) (by rw [c14]; decide) (by rw [c14]; first | done | rfl) (by decide) ?_
    refine lv_aload_n hx hb dX11_look_77 rfl (lo_at hl 0 rfl) ?_
    obtain ⟨k15, hw⟩ := hw
    refine s_getI hx hb hts hown hg hC fb_9_6 k15 mk_f_RX11_137 dX11_look_78 ?_
    exact ret2_i hM hC hw dX11_look_81
  replace hw := (if_neg c14).mp hw
  refine lv_tableOut (tgt := 82) hx hb dX11_look_1 (sw_out 0 7 (by decide) (fun k hk => match k, hk with | 0, _ => c1 | 1, _ => c3 | 2, _ => c5 | 3, _ => c7 | 4, _ => c9 | 5, _ => c11 | 6, _ => c14 | k + 7, hk => absurd hk (by omega))) (by decide) ?_
  refine lv_iconst (v := -1) hx hb dX11_look_82 (by decide) ?_
  exact ret2_i hM hC hw dX11_look_83
abbrev rm_X11_isHair : Room := { frames := 0, cells := 0, slots := 0, locals := 0 }
set_option maxRecDepth 100000 in
def wp_X11_isHair (x0 : Int32) (h : Hp) (Q : Int32 → Hp → Prop) : Prop := (if x0 < 0 then (Q (0 : Int32) h) else ((if (32 : Int32) ≤ x0 then (Q (0 : Int32) h) else (Q (1 : Int32) h))))
set_option maxHeartbeats 4000000 in
set_option maxRecDepth 100000 in
theorem c_X11_isHair (l : Launch) (G : GG) (base : Nat) (A : Nat → Nat) (x0 : Int32) (h : Hp) (Q : Int32 → Hp → Prop) (hw : wp_X11_isHair x0 h Q) : Met l yX11_isHair (ww yX11_isHair cX11_isHair 1 (some .boolean)) rm_X11_isHair (va_Pc [.int x0] (PU2 G base A h A h)) (va_Qi Q (PU2 G base A h A) (fun q => base ≤ q)) 0 0 (fun q => base ≤ q) := by
  refine met2_of (own := RX11) (nm := "isHair") (by decide) rfl rfl (List.forall_mem_cons.mpr ⟨rfl, (fun _ h => absurd h List.not_mem_nil)⟩) (Nat.le_of_ble_eq_true rfl) rfl ?_
  intro p e s m args below meth c H locs ls hM hC hl
  obtain ⟨hx, hb, hr, hml, hown, hts, hg, hs, hlk, hnm⟩ := id hM
  unfold wp_X11_isHair at hw
  refine lv_iload_n hx hb dX11_isHair_0 rfl (lo_at hl 0 rfl) ?_
  refine lv_if_lt (tgt := 14) hx hb dX11_isHair_1 (by decide) (fun c1 => ?_) (fun c1 => ?_)
  ·
    replace hw := (if_pos c1).mp hw
    refine lv_iconst (v := 0) hx hb dX11_isHair_14 (by decide) ?_
    exact ret2_t hM hC rfl hw dX11_isHair_15
  ·
    replace hw := (if_neg c1).mp hw
    refine lv_iload_n hx hb dX11_isHair_4 rfl (lo_at hl 0 rfl) ?_
    refine lv_bipush (v := 32) hx hb dX11_isHair_5 (by decide) ?_
    refine lv_icmp_ge (tgt := 14) hx hb dX11_isHair_7 (by decide) (fun c2 => ?_) (fun c2 => ?_)
    ·
      replace hw := (if_pos c2).mp hw
      refine lv_iconst (v := 0) hx hb dX11_isHair_14 (by decide) ?_
      exact ret2_t hM hC rfl hw dX11_isHair_15
    ·
      replace hw := (if_neg c2).mp hw
      refine lv_iconst (v := 1) hx hb dX11_isHair_10 (by decide) ?_
      refine lv_goto (tgt := 15) hx hb dX11_isHair_11 (by decide) ?_
      exact ret2_t hM hC rfl hw dX11_isHair_15
abbrev rm_X11_isHeight : Room := { frames := 0, cells := 0, slots := 0, locals := 0 }
set_option maxRecDepth 100000 in
def wp_X11_isHeight (x0 : Int32) (h : Hp) (Q : Int32 → Hp → Prop) : Prop := (if x0 < 0 then (Q (0 : Int32) h) else ((if (63 : Int32) < x0 then (Q (0 : Int32) h) else (Q (1 : Int32) h))))
set_option maxHeartbeats 4000000 in
set_option maxRecDepth 100000 in
theorem c_X11_isHeight (l : Launch) (G : GG) (base : Nat) (A : Nat → Nat) (x0 : Int32) (h : Hp) (Q : Int32 → Hp → Prop) (hw : wp_X11_isHeight x0 h Q) : Met l yX11_isHeight (ww yX11_isHeight cX11_isHeight 1 (some .boolean)) rm_X11_isHeight (va_Pc [.int x0] (PU2 G base A h A h)) (va_Qi Q (PU2 G base A h A) (fun q => base ≤ q)) 0 0 (fun q => base ≤ q) := by
  refine met2_of (own := RX11) (nm := "isHeight") (by decide) rfl rfl (List.forall_mem_cons.mpr ⟨rfl, (fun _ h => absurd h List.not_mem_nil)⟩) (Nat.le_of_ble_eq_true rfl) rfl ?_
  intro p e s m args below meth c H locs ls hM hC hl
  obtain ⟨hx, hb, hr, hml, hown, hts, hg, hs, hlk, hnm⟩ := id hM
  unfold wp_X11_isHeight at hw
  refine lv_iload_n hx hb dX11_isHeight_0 rfl (lo_at hl 0 rfl) ?_
  refine lv_if_lt (tgt := 14) hx hb dX11_isHeight_1 (by decide) (fun c1 => ?_) (fun c1 => ?_)
  ·
    replace hw := (if_pos c1).mp hw
    refine lv_iconst (v := 0) hx hb dX11_isHeight_14 (by decide) ?_
    exact ret2_t hM hC rfl hw dX11_isHeight_15
  ·
    replace hw := (if_neg c1).mp hw
    refine lv_iload_n hx hb dX11_isHeight_4 rfl (lo_at hl 0 rfl) ?_
    refine lv_bipush (v := 63) hx hb dX11_isHeight_5 (by decide) ?_
    refine lv_icmp_gt (tgt := 14) hx hb dX11_isHeight_7 (by decide) (fun c2 => ?_) (fun c2 => ?_)
    ·
      replace hw := (if_pos c2).mp hw
      refine lv_iconst (v := 0) hx hb dX11_isHeight_14 (by decide) ?_
      exact ret2_t hM hC rfl hw dX11_isHeight_15
    ·
      replace hw := (if_neg c2).mp hw
      refine lv_iconst (v := 1) hx hb dX11_isHeight_10 (by decide) ?_
      refine lv_goto (tgt := 15) hx hb dX11_isHeight_11 (by decide) ?_
      exact ret2_t hM hC rfl hw dX11_isHeight_15
abbrev rm_X11_toolAt : Room := { frames := 0, cells := 0, slots := 0, locals := 0 }
set_option maxRecDepth 100000 in
def wp_X11_toolAt (o : Nat) (x1 : Int32) (h : Hp) (Q : Option Nat → Hp → Prop) : Prop := (if x1 < 0 then (Q none h) else ((if (6 : Int32) ≤ x1 then (Q none h) else (((hpK h o).1 = 20 + 9) ∧ (okA h (hpR h o 0) 10 x1 ∧ (Q (hpR h (ad (hpR h o 0)) (x1).toNatClampNeg) h))))))
set_option maxHeartbeats 4000000 in
set_option maxRecDepth 100000 in
theorem c_X11_toolAt (l : Launch) (G : GG) (base : Nat) (A : Nat → Nat) (o : Nat) (x1 : Int32) (h : Hp) (Q : Option Nat → Hp → Prop) (hw : wp_X11_toolAt o x1 h Q) : Met l yX11_toolAt (ww yX11_toolAt cX11_toolAt 2 (some (.object "OneBarrel$Tool"))) rm_X11_toolAt (va_Pc [.ref (A o), .int x1] (PU2 G base A h A h)) (va_Qq (fun ra u => ∃ r, ra = Option.map A r ∧ Q r u) (PU2 G base A h A) (fun q => base ≤ q)) 0 0 (fun q => base ≤ q) := by
  refine met2_of (own := RX11) (nm := "toolAt") (by decide) rfl rfl (List.forall_mem_cons.mpr ⟨rfl, (List.forall_mem_cons.mpr ⟨rfl, (fun _ h => absurd h List.not_mem_nil)⟩)⟩) (Nat.le_of_ble_eq_true rfl) rfl ?_
  intro p e s m args below meth c H locs ls hM hC hl
  obtain ⟨hx, hb, hr, hml, hown, hts, hg, hs, hlk, hnm⟩ := id hM
  unfold wp_X11_toolAt at hw
  refine lv_iload_n hx hb dX11_toolAt_0 rfl (lo_at hl 1 rfl) ?_
  refine lv_if_lt (tgt := 19) hx hb dX11_toolAt_1 (by decide) (fun c1 => ?_) (fun c1 => ?_)
  ·
    replace hw := (if_pos c1).mp hw
    refine lv_null hx hb dX11_toolAt_19 ?_
    exact ret2_q (r := none) (Or.inl ⟨_, rfl⟩) hM hC hw dX11_toolAt_20
  ·
    replace hw := (if_neg c1).mp hw
    refine lv_iload_n hx hb dX11_toolAt_4 rfl (lo_at hl 1 rfl) ?_
    refine lv_bipush (v := 6) hx hb dX11_toolAt_5 (by decide) ?_
    refine lv_icmp_ge (tgt := 19) hx hb dX11_toolAt_7 (by decide) (fun c2 => ?_) (fun c2 => ?_)
    ·
      replace hw := (if_pos c2).mp hw
      refine lv_null hx hb dX11_toolAt_19 ?_
      exact ret2_q (r := none) (Or.inl ⟨_, rfl⟩) hM hC hw dX11_toolAt_20
    ·
      replace hw := (if_neg c2).mp hw
      refine lv_aload_n hx hb dX11_toolAt_10 rfl (lo_at hl 0 rfl) ?_
      obtain ⟨k3, hw⟩ := hw
      refine s_getR hx hb hts hown hg hC fb_9_0 k3 mk_f_RX11_11 dX11_toolAt_11 ?_
      refine lv_iload_n hx hb dX11_toolAt_14 rfl (lo_at hl 1 rfl) ?_
      obtain ⟨k4, hw⟩ := hw
      refine sf_2 k4.1 ?_
      refine s_aald (kd := 10) (t0 := 6) hx hb hg hC k4.2.1 (by decide) rfl k4.2.2 dX11_toolAt_15 ?_
      refine lv_goto (tgt := 20) hx hb dX11_toolAt_16 (by decide) ?_
      exact ret2_q (r := hpR h (ad (hpR h o 0)) (x1).toNatClampNeg) (Or.inl ⟨_, rfl⟩) hM hC hw dX11_toolAt_20
abbrev rm_X11_barrelAt : Room := { frames := 0, cells := 0, slots := 0, locals := 0 }
set_option maxRecDepth 100000 in
def wp_X11_barrelAt (o : Nat) (x1 : Int32) (h : Hp) (Q : Option Nat → Hp → Prop) : Prop := (if x1 < 0 then (Q none h) else ((if (16 : Int32) ≤ x1 then (Q none h) else (((hpK h o).1 = 20 + 9) ∧ (okA h (hpR h o 2) 4 x1 ∧ (Q (hpR h (ad (hpR h o 2)) (x1).toNatClampNeg) h))))))
set_option maxHeartbeats 4000000 in
set_option maxRecDepth 100000 in
theorem c_X11_barrelAt (l : Launch) (G : GG) (base : Nat) (A : Nat → Nat) (o : Nat) (x1 : Int32) (h : Hp) (Q : Option Nat → Hp → Prop) (hw : wp_X11_barrelAt o x1 h Q) : Met l yX11_barrelAt (ww yX11_barrelAt cX11_barrelAt 2 (some (.object "OneBarrel$Barrel"))) rm_X11_barrelAt (va_Pc [.ref (A o), .int x1] (PU2 G base A h A h)) (va_Qq (fun ra u => ∃ r, ra = Option.map A r ∧ Q r u) (PU2 G base A h A) (fun q => base ≤ q)) 0 0 (fun q => base ≤ q) := by
  refine met2_of (own := RX11) (nm := "barrelAt") (by decide) rfl rfl (List.forall_mem_cons.mpr ⟨rfl, (List.forall_mem_cons.mpr ⟨rfl, (fun _ h => absurd h List.not_mem_nil)⟩)⟩) (Nat.le_of_ble_eq_true rfl) rfl ?_
  intro p e s m args below meth c H locs ls hM hC hl
  obtain ⟨hx, hb, hr, hml, hown, hts, hg, hs, hlk, hnm⟩ := id hM
  unfold wp_X11_barrelAt at hw
  refine lv_iload_n hx hb dX11_barrelAt_0 rfl (lo_at hl 1 rfl) ?_
  refine lv_if_lt (tgt := 19) hx hb dX11_barrelAt_1 (by decide) (fun c1 => ?_) (fun c1 => ?_)
  ·
    replace hw := (if_pos c1).mp hw
    refine lv_null hx hb dX11_barrelAt_19 ?_
    exact ret2_q (r := none) (Or.inl ⟨_, rfl⟩) hM hC hw dX11_barrelAt_20
  ·
    replace hw := (if_neg c1).mp hw
    refine lv_iload_n hx hb dX11_barrelAt_4 rfl (lo_at hl 1 rfl) ?_
    refine lv_bipush (v := 16) hx hb dX11_barrelAt_5 (by decide) ?_
    refine lv_icmp_ge (tgt := 19) hx hb dX11_barrelAt_7 (by decide) (fun c2 => ?_) (fun c2 => ?_)
    ·
      replace hw := (if_pos c2).mp hw
      refine lv_null hx hb dX11_barrelAt_19 ?_
      exact ret2_q (r := none) (Or.inl ⟨_, rfl⟩) hM hC hw dX11_barrelAt_20
    ·
      replace hw := (if_neg c2).mp hw
      refine lv_aload_n hx hb dX11_barrelAt_10 rfl (lo_at hl 0 rfl) ?_
      obtain ⟨k3, hw⟩ := hw
      refine s_getR hx hb hts hown hg hC fb_9_2 k3 mk_f_RX11_17 dX11_barrelAt_11 ?_
      refine lv_iload_n hx hb dX11_barrelAt_14 rfl (lo_at hl 1 rfl) ?_
      obtain ⟨k4, hw⟩ := hw
      refine sf_2 k4.1 ?_
      refine s_aald (kd := 4) (t0 := 3) hx hb hg hC k4.2.1 (by decide) rfl k4.2.2 dX11_barrelAt_15 ?_
      refine lv_goto (tgt := 20) hx hb dX11_barrelAt_16 (by decide) ?_
      exact ret2_q (r := hpR h (ad (hpR h o 2)) (x1).toNatClampNeg) (Or.inl ⟨_, rfl⟩) hM hC hw dX11_barrelAt_20
abbrev rm_X11_ballAt : Room := { frames := 0, cells := 0, slots := 0, locals := 0 }
set_option maxRecDepth 100000 in
def wp_X11_ballAt (o : Nat) (x1 : Int32) (h : Hp) (Q : Option Nat → Hp → Prop) : Prop := (if x1 < 0 then (Q none h) else ((if (40 : Int32) ≤ x1 then (Q none h) else (((hpK h o).1 = 20 + 9) ∧ (okA h (hpR h o 4) 3 x1 ∧ (Q (hpR h (ad (hpR h o 4)) (x1).toNatClampNeg) h))))))
set_option maxHeartbeats 4000000 in
set_option maxRecDepth 100000 in
theorem c_X11_ballAt (l : Launch) (G : GG) (base : Nat) (A : Nat → Nat) (o : Nat) (x1 : Int32) (h : Hp) (Q : Option Nat → Hp → Prop) (hw : wp_X11_ballAt o x1 h Q) : Met l yX11_ballAt (ww yX11_ballAt cX11_ballAt 2 (some (.object "OneBarrel$Ball"))) rm_X11_ballAt (va_Pc [.ref (A o), .int x1] (PU2 G base A h A h)) (va_Qq (fun ra u => ∃ r, ra = Option.map A r ∧ Q r u) (PU2 G base A h A) (fun q => base ≤ q)) 0 0 (fun q => base ≤ q) := by
  refine met2_of (own := RX11) (nm := "ballAt") (by decide) rfl rfl (List.forall_mem_cons.mpr ⟨rfl, (List.forall_mem_cons.mpr ⟨rfl, (fun _ h => absurd h List.not_mem_nil)⟩)⟩) (Nat.le_of_ble_eq_true rfl) rfl ?_
  intro p e s m args below meth c H locs ls hM hC hl
  obtain ⟨hx, hb, hr, hml, hown, hts, hg, hs, hlk, hnm⟩ := id hM
  unfold wp_X11_ballAt at hw
  refine lv_iload_n hx hb dX11_ballAt_0 rfl (lo_at hl 1 rfl) ?_
  refine lv_if_lt (tgt := 19) hx hb dX11_ballAt_1 (by decide) (fun c1 => ?_) (fun c1 => ?_)
  ·
    replace hw := (if_pos c1).mp hw
    refine lv_null hx hb dX11_ballAt_19 ?_
    exact ret2_q (r := none) (Or.inl ⟨_, rfl⟩) hM hC hw dX11_ballAt_20
  ·
    replace hw := (if_neg c1).mp hw
    refine lv_iload_n hx hb dX11_ballAt_4 rfl (lo_at hl 1 rfl) ?_
    refine lv_bipush (v := 40) hx hb dX11_ballAt_5 (by decide) ?_
    refine lv_icmp_ge (tgt := 19) hx hb dX11_ballAt_7 (by decide) (fun c2 => ?_) (fun c2 => ?_)
    ·
      replace hw := (if_pos c2).mp hw
      refine lv_null hx hb dX11_ballAt_19 ?_
      exact ret2_q (r := none) (Or.inl ⟨_, rfl⟩) hM hC hw dX11_ballAt_20
    ·
      replace hw := (if_neg c2).mp hw
      refine lv_aload_n hx hb dX11_ballAt_10 rfl (lo_at hl 0 rfl) ?_
      obtain ⟨k3, hw⟩ := hw
      refine s_getR hx hb hts hown hg hC fb_9_4 k3 mk_f_RX11_23 dX11_ballAt_11 ?_
      refine lv_iload_n hx hb dX11_ballAt_14 rfl (lo_at hl 1 rfl) ?_
      obtain ⟨k4, hw⟩ := hw
      refine sf_2 k4.1 ?_
      refine s_aald (kd := 3) (t0 := 2) hx hb hg hC k4.2.1 (by decide) rfl k4.2.2 dX11_ballAt_15 ?_
      refine lv_goto (tgt := 20) hx hb dX11_ballAt_16 (by decide) ?_
      exact ret2_q (r := hpR h (ad (hpR h o 4)) (x1).toNatClampNeg) (Or.inl ⟨_, rfl⟩) hM hC hw dX11_ballAt_20
abbrev rm_X11_lookerAt : Room := { frames := 0, cells := 0, slots := 0, locals := 0 }
set_option maxRecDepth 100000 in
def wp_X11_lookerAt (o : Nat) (x1 : Int32) (h : Hp) (Q : Option Nat → Hp → Prop) : Prop := (if x1 < 0 then (Q none h) else ((if (6 : Int32) ≤ x1 then (Q none h) else (((hpK h o).1 = 20 + 9) ∧ (okA h (hpR h o 7) 5 x1 ∧ (Q (hpR h (ad (hpR h o 7)) (x1).toNatClampNeg) h))))))
set_option maxHeartbeats 4000000 in
set_option maxRecDepth 100000 in
theorem c_X11_lookerAt (l : Launch) (G : GG) (base : Nat) (A : Nat → Nat) (o : Nat) (x1 : Int32) (h : Hp) (Q : Option Nat → Hp → Prop) (hw : wp_X11_lookerAt o x1 h Q) : Met l yX11_lookerAt (ww yX11_lookerAt cX11_lookerAt 2 (some (.object "OneBarrel$Looker"))) rm_X11_lookerAt (va_Pc [.ref (A o), .int x1] (PU2 G base A h A h)) (va_Qq (fun ra u => ∃ r, ra = Option.map A r ∧ Q r u) (PU2 G base A h A) (fun q => base ≤ q)) 0 0 (fun q => base ≤ q) := by
  refine met2_of (own := RX11) (nm := "lookerAt") (by decide) rfl rfl (List.forall_mem_cons.mpr ⟨rfl, (List.forall_mem_cons.mpr ⟨rfl, (fun _ h => absurd h List.not_mem_nil)⟩)⟩) (Nat.le_of_ble_eq_true rfl) rfl ?_
  intro p e s m args below meth c H locs ls hM hC hl
  obtain ⟨hx, hb, hr, hml, hown, hts, hg, hs, hlk, hnm⟩ := id hM
  unfold wp_X11_lookerAt at hw
  refine lv_iload_n hx hb dX11_lookerAt_0 rfl (lo_at hl 1 rfl) ?_
  refine lv_if_lt (tgt := 19) hx hb dX11_lookerAt_1 (by decide) (fun c1 => ?_) (fun c1 => ?_)
  ·
    replace hw := (if_pos c1).mp hw
    refine lv_null hx hb dX11_lookerAt_19 ?_
    exact ret2_q (r := none) (Or.inl ⟨_, rfl⟩) hM hC hw dX11_lookerAt_20
  ·
    replace hw := (if_neg c1).mp hw
    refine lv_iload_n hx hb dX11_lookerAt_4 rfl (lo_at hl 1 rfl) ?_
    refine lv_bipush (v := 6) hx hb dX11_lookerAt_5 (by decide) ?_
    refine lv_icmp_ge (tgt := 19) hx hb dX11_lookerAt_7 (by decide) (fun c2 => ?_) (fun c2 => ?_)
    ·
      replace hw := (if_pos c2).mp hw
      refine lv_null hx hb dX11_lookerAt_19 ?_
      exact ret2_q (r := none) (Or.inl ⟨_, rfl⟩) hM hC hw dX11_lookerAt_20
    ·
      replace hw := (if_neg c2).mp hw
      refine lv_aload_n hx hb dX11_lookerAt_10 rfl (lo_at hl 0 rfl) ?_
      obtain ⟨k3, hw⟩ := hw
      refine s_getR hx hb hts hown hg hC fb_9_7 k3 mk_f_RX11_29 dX11_lookerAt_11 ?_
      refine lv_iload_n hx hb dX11_lookerAt_14 rfl (lo_at hl 1 rfl) ?_
      obtain ⟨k4, hw⟩ := hw
      refine sf_2 k4.1 ?_
      refine s_aald (kd := 5) (t0 := 4) hx hb hg hC k4.2.1 (by decide) rfl k4.2.2 dX11_lookerAt_15 ?_
      refine lv_goto (tgt := 20) hx hb dX11_lookerAt_16 (by decide) ?_
      exact ret2_q (r := hpR h (ad (hpR h o 7)) (x1).toNatClampNeg) (Or.inl ⟨_, rfl⟩) hM hC hw dX11_lookerAt_20
abbrev rm_X11_rowOf : Room := { frames := 1, cells := 0, slots := 0, locals := 21 }
set_option maxRecDepth 100000 in
def wp_X11_rowOf (o : Nat) (x1 : Int32) (x2 : Int32) (h : Hp) (Q : Option Nat → Hp → Prop) : Prop := (if x1 = 0 then (((hpK h o).1 = 20 + 9) ∧ (wp_X11_toolAt o x2 h (fun (z16 : Option Nat) (h15 : Hp) => (if z16 = none then (Q none h15) else (okO h15 z16 7 ∧ (Q (hpR h15 (ad z16) 0) h15)))))) else ((if x1 = (1 : Int32) then (((hpK h o).1 = 20 + 9) ∧ (wp_X11_barrelAt o x2 h (fun (z11 : Option Nat) (h10 : Hp) => (if z11 = none then (Q none h10) else (okO h10 z11 1 ∧ (Q (hpR h10 (ad z11) 3) h10)))))) else (((hpK h o).1 = 20 + 9) ∧ (wp_X11_ballAt o x2 h (fun (z5 : Option Nat) (h4 : Hp) => (if x1 = (2 : Int32) then ((if z5 = none then (Q none h4) else (okO h4 z5 0 ∧ (Q (hpR h4 (ad z5) 4) h4)))) else (Q none h4))))))))
set_option maxHeartbeats 4000000 in
set_option maxRecDepth 100000 in
theorem c_X11_rowOf (l : Launch) (G : GG) (base : Nat) (A : Nat → Nat) (o : Nat) (x1 : Int32) (x2 : Int32) (h : Hp) (Q : Option Nat → Hp → Prop) (hw : wp_X11_rowOf o x1 x2 h Q) : Met l yX11_rowOf (ww yX11_rowOf cX11_rowOf 4 (some (.array .int))) rm_X11_rowOf (va_Pc [.ref (A o), .int x1, .int x2] (PU2 G base A h A h)) (va_Qq (fun ra u => ∃ r, ra = Option.map A r ∧ Q r u) (PU2 G base A h A) (fun q => base ≤ q)) 0 0 (fun q => base ≤ q) := by
  refine met2_of (own := RX11) (nm := "rowOf") (by decide) rfl rfl (List.forall_mem_cons.mpr ⟨rfl, (List.forall_mem_cons.mpr ⟨rfl, (List.forall_mem_cons.mpr ⟨rfl, (fun _ h => absurd h List.not_mem_nil)⟩)⟩)⟩) (Nat.le_of_ble_eq_true rfl) rfl ?_
  intro p e s m args below meth c H locs ls hM hC hl
  obtain ⟨hx, hb, hr, hml, hown, hts, hg, hs, hlk, hnm⟩ := id hM
  unfold wp_X11_rowOf at hw
  refine lv_iload_n hx hb dX11_rowOf_0 rfl (lo_at hl 1 rfl) ?_
  refine lv_if_ne (tgt := 23) hx hb dX11_rowOf_1 (by decide) (fun c1 => ?_) (fun c1 => ?_)
  ·
    replace hw := (if_neg c1).mp hw
    refine lv_iload_n hx hb dX11_rowOf_23 rfl (lo_at hl 1 rfl) ?_
    refine lv_iconst (v := 1) hx hb dX11_rowOf_24 (by decide) ?_
    refine lv_icmp_ne (tgt := 47) hx hb dX11_rowOf_25 (by decide) (fun c2 => ?_) (fun c2 => ?_)
    ·
      replace hw := (if_neg c2).mp hw
      refine lv_aload_n hx hb dX11_rowOf_47 rfl (lo_at hl 0 rfl) ?_
      refine lv_iload_n hx hb dX11_rowOf_48 rfl (lo_at hl 2 rfl) ?_
      obtain ⟨k3, hw⟩ := hw
      refine res2_q hC (run2_V (As := [.int x2]) (rest := []) hM hC hl.1.1 kv_RX11_140 (c_X11_ballAt l G base A o x2 h _ hw) (hc_9) k3 rfl rfl rfl ⟨Nat.le_of_ble_eq_true rfl, Nat.le_of_ble_eq_true rfl⟩ (Nat.le_of_ble_eq_true rfl) ⟨Nat.le_of_ble_eq_true rfl, Nat.le_of_ble_eq_true rfl⟩ dX11_rowOf_49) (fun z5 h4 H locs hw hC => ?_)
      refine lo_astore_n (r := Option.map A z5) (lv' := [(3, va_rf (Option.map A z5)), (0, .ref (A o)), (1, .int x1), (2, .int x2)]) hx hb dX11_rowOf_52 rfl hl (by decide) rfl (fun ls hl => ?_)
      refine lv_iload_n hx hb dX11_rowOf_53 rfl (lo_at hl 2 rfl) ?_
      refine lv_iconst (v := 2) hx hb dX11_rowOf_54 (by decide) ?_
      refine lv_icmp_ne (tgt := 62) hx hb dX11_rowOf_55 (by decide) (fun c6 => ?_) (fun c6 => ?_)
      ·
        replace hw := (if_neg c6).mp hw
        refine lv_null hx hb dX11_rowOf_62 ?_
        refine lv_goto (tgt := 70) hx hb dX11_rowOf_63 (by decide) ?_
        exact ret2_q (r := none) (Or.inr ⟨_, rfl⟩) hM hC hw dX11_rowOf_70
      ·
        replace hw := (if_pos c6).mp hw
        refine lo_aload_n (r := Option.map A z5) hx hb dX11_rowOf_58 rfl (lo_at hl 0 rfl) ?_
        refine s_ifnonnull (r := z5) (A := A) (tgt := 66) hx hb dX11_rowOf_59 (by decide) (fun c7 => ?_) (fun c7 => ?_)
        ·
          replace hw := (if_neg c7).mp hw
          refine lo_aload_n (r := Option.map A z5) hx hb dX11_rowOf_66 rfl (lo_at hl 0 rfl) ?_
          obtain ⟨k8, hw⟩ := hw
          refine sf_1 k8.1 ?_
          refine s_getR hx hb hts hown hg hC fb_0_4 k8.2 mk_f_RX11_131 dX11_rowOf_67 ?_
          exact ret2_q (r := hpR h4 (ad z5) 4) (Or.inr ⟨_, rfl⟩) hM hC hw dX11_rowOf_70
        ·
          replace hw := (if_pos c7).mp hw
          refine lv_null hx hb dX11_rowOf_62 ?_
          refine lv_goto (tgt := 70) hx hb dX11_rowOf_63 (by decide) ?_
          exact ret2_q (r := none) (Or.inr ⟨_, rfl⟩) hM hC hw dX11_rowOf_70
    ·
      replace hw := (if_pos c2).mp hw
      refine lv_aload_n hx hb dX11_rowOf_28 rfl (lo_at hl 0 rfl) ?_
      refine lv_iload_n hx hb dX11_rowOf_29 rfl (lo_at hl 2 rfl) ?_
      obtain ⟨k9, hw⟩ := hw
      refine res2_q hC (run2_V (As := [.int x2]) (rest := []) hM hC hl.1.1 kv_RX11_115 (c_X11_barrelAt l G base A o x2 h _ hw) (hc_9) k9 rfl rfl rfl ⟨Nat.le_of_ble_eq_true rfl, Nat.le_of_ble_eq_true rfl⟩ (Nat.le_of_ble_eq_true rfl) ⟨Nat.le_of_ble_eq_true rfl, Nat.le_of_ble_eq_true rfl⟩ dX11_rowOf_30) (fun z11 h10 H locs hw hC => ?_)
      refine lo_astore_n (r := Option.map A z11) (lv' := [(3, va_rf (Option.map A z11)), (0, .ref (A o)), (1, .int x1), (2, .int x2)]) hx hb dX11_rowOf_33 rfl hl (by decide) rfl (fun ls hl => ?_)
      refine lo_aload_n (r := Option.map A z11) hx hb dX11_rowOf_34 rfl (lo_at hl 0 rfl) ?_
      refine s_ifnonnull (r := z11) (A := A) (tgt := 42) hx hb dX11_rowOf_35 (by decide) (fun c12 => ?_) (fun c12 => ?_)
      ·
        replace hw := (if_neg c12).mp hw
        refine lo_aload_n (r := Option.map A z11) hx hb dX11_rowOf_42 rfl (lo_at hl 0 rfl) ?_
        obtain ⟨k13, hw⟩ := hw
        refine sf_1 k13.1 ?_
        refine s_getR hx hb hts hown hg hC fb_1_3 k13.2 mk_f_RX11_133 dX11_rowOf_43 ?_
        exact ret2_q (r := hpR h10 (ad z11) 3) (Or.inr ⟨_, rfl⟩) hM hC hw dX11_rowOf_46
      ·
        replace hw := (if_pos c12).mp hw
        refine lv_null hx hb dX11_rowOf_38 ?_
        refine lv_goto (tgt := 46) hx hb dX11_rowOf_39 (by decide) ?_
        exact ret2_q (r := none) (Or.inr ⟨_, rfl⟩) hM hC hw dX11_rowOf_46
  ·
    replace hw := (if_pos c1).mp hw
    refine lv_aload_n hx hb dX11_rowOf_4 rfl (lo_at hl 0 rfl) ?_
    refine lv_iload_n hx hb dX11_rowOf_5 rfl (lo_at hl 2 rfl) ?_
    obtain ⟨k14, hw⟩ := hw
    refine res2_q hC (run2_V (As := [.int x2]) (rest := []) hM hC hl.1.1 kv_RX11_80 (c_X11_toolAt l G base A o x2 h _ hw) (hc_9) k14 rfl rfl rfl ⟨Nat.le_of_ble_eq_true rfl, Nat.le_of_ble_eq_true rfl⟩ (Nat.le_of_ble_eq_true rfl) ⟨Nat.le_of_ble_eq_true rfl, Nat.le_of_ble_eq_true rfl⟩ dX11_rowOf_6) (fun z16 h15 H locs hw hC => ?_)
    refine lo_astore_n (r := Option.map A z16) (lv' := [(3, va_rf (Option.map A z16)), (0, .ref (A o)), (1, .int x1), (2, .int x2)]) hx hb dX11_rowOf_9 rfl hl (by decide) rfl (fun ls hl => ?_)
    refine lo_aload_n (r := Option.map A z16) hx hb dX11_rowOf_10 rfl (lo_at hl 0 rfl) ?_
    refine s_ifnonnull (r := z16) (A := A) (tgt := 18) hx hb dX11_rowOf_11 (by decide) (fun c17 => ?_) (fun c17 => ?_)
    ·
      replace hw := (if_neg c17).mp hw
      refine lo_aload_n (r := Option.map A z16) hx hb dX11_rowOf_18 rfl (lo_at hl 0 rfl) ?_
      obtain ⟨k18, hw⟩ := hw
      refine sf_1 k18.1 ?_
      refine s_getR hx hb hts hown hg hC fb_7_0 k18.2 mk_f_RX11_91 dX11_rowOf_19 ?_
      exact ret2_q (r := hpR h15 (ad z16) 0) (Or.inr ⟨_, rfl⟩) hM hC hw dX11_rowOf_22
    ·
      replace hw := (if_pos c17).mp hw
      refine lv_null hx hb dX11_rowOf_14 ?_
      refine lv_goto (tgt := 22) hx hb dX11_rowOf_15 (by decide) ?_
      exact ret2_q (r := none) (Or.inr ⟨_, rfl⟩) hM hC hw dX11_rowOf_22
abbrev rm_X11_ofBall : Room := { frames := 1, cells := 0, slots := 0, locals := 22 }
set_option maxRecDepth 100000 in
def wp_X11_ofBall (r0 : Option Nat) (x1 : Int32) (h : Hp) (Q : Int32 → Hp → Prop) : Prop := (if r0 = none then (Q (-2 : Int32) h) else ((if x1 = (0 : Int32) then (okO h r0 0 ∧ ((if (hpR h (ad r0) 1) = none then (Q (-1 : Int32) h) else (okO h (hpR h (ad r0) 1) 1 ∧ (Q (hpI h (ad (hpR h (ad r0) 1)) 0) h))))) else if x1 = (1 : Int32) then (okO h r0 0 ∧ (Q (hpI h (ad r0) 2) h)) else if x1 = (2 : Int32) then (okO h r0 0 ∧ (Q (hpI h (ad r0) 3) h)) else if x1 = (3 : Int32) then (okO h r0 0 ∧ (wp_X0_missing (ad r0) h (fun (z13 : Int32) (h12 : Hp) => Q z13 h12))) else Q (-2 : Int32) h)))
set_option maxHeartbeats 4000000 in
set_option maxRecDepth 100000 in
theorem c_X11_ofBall (l : Launch) (G : GG) (base : Nat) (A : Nat → Nat) (r0 : Option Nat) (x1 : Int32) (h : Hp) (Q : Int32 → Hp → Prop) (hw : wp_X11_ofBall r0 x1 h Q) : Met l yX11_ofBall (ww yX11_ofBall cX11_ofBall 2 (some .int)) rm_X11_ofBall (va_Pc [va_rf (Option.map A r0), .int x1] (PU2 G base A h A h)) (va_Qi Q (PU2 G base A h A) (fun q => base ≤ q)) 0 0 (fun q => base ≤ q) := by
  refine met2_of (own := RX11) (nm := "ofBall") (by decide) rfl rfl (List.forall_mem_cons.mpr ⟨va_rf_cat _, (List.forall_mem_cons.mpr ⟨rfl, (fun _ h => absurd h List.not_mem_nil)⟩)⟩) (Nat.le_of_ble_eq_true rfl) rfl ?_
  intro p e s m args below meth c H locs ls hM hC hl
  obtain ⟨hx, hb, hr, hml, hown, hts, hg, hs, hlk, hnm⟩ := id hM
  unfold wp_X11_ofBall at hw
  refine lo_aload_n (r := Option.map A r0) hx hb dX11_ofBall_0 rfl (lo_at hl 0 rfl) ?_
  refine s_ifnonnull (r := r0) (A := A) (tgt := 7) hx hb dX11_ofBall_1 (by decide) (fun c1 => ?_) (fun c1 => ?_)
  ·
    replace hw := (if_neg c1).mp hw
    refine lv_iload_n hx hb dX11_ofBall_7 rfl (lo_at hl 1 rfl) ?_
    by_cases c2 : x1 = (0 : Int32)
    ·
      replace hw := (if_pos c2).mp hw
      refine lv_tableIn (tgt := 40) hx hb dX11_ofBall_8 (by rw [c2]; decide) (by rw [c2]; decide) (by rw [c2]; first | done | rfl) (by decide) ?_
      refine lo_aload_n (r := Option.map A r0) hx hb dX11_ofBall_40 rfl (lo_at hl 0 rfl) ?_
      obtain ⟨k3, hw⟩ := hw
      refine sf_1 k3.1 ?_
      refine s_getR hx hb hts hown hg hC fb_0_1 k3.2 mk_f_RX11_302 dX11_ofBall_41 ?_
      refine s_ifnonnull (r := hpR h (ad r0) 1) (A := A) (tgt := 51) hx hb dX11_ofBall_44 (by decide) (fun c4 => ?_) (fun c4 => ?_)
      ·
        replace hw := (if_neg c4).mp hw
        refine lo_aload_n (r := Option.map A r0) hx hb dX11_ofBall_51 rfl (lo_at hl 0 rfl) ?_
        refine sf_1 k3.1 ?_
        refine s_getR hx hb hts hown hg hC fb_0_1 k3.2 mk_f_RX11_302 dX11_ofBall_52 ?_
        obtain ⟨k5, hw⟩ := hw
        refine sf_1 k5.1 ?_
        refine s_getI hx hb hts hown hg hC fb_1_0 k5.2 mk_f_RX11_306 dX11_ofBall_55 ?_
        exact ret2_i hM hC hw dX11_ofBall_58
      ·
        replace hw := (if_pos c4).mp hw
        refine lv_iconst (v := -1) hx hb dX11_ofBall_47 (by decide) ?_
        refine lv_goto (tgt := 58) hx hb dX11_ofBall_48 (by decide) ?_
        exact ret2_i hM hC hw dX11_ofBall_58
    replace hw := (if_neg c2).mp hw
    by_cases c6 : x1 = (1 : Int32)
    ·
      replace hw := (if_pos c6).mp hw
      refine lv_tableIn (tgt := 59) hx hb dX11_ofBall_8 (by rw [c6]; decide) (by rw [c6]; decide) (by rw [c6]; first | done | rfl) (by decide) ?_
      refine lo_aload_n (r := Option.map A r0) hx hb dX11_ofBall_59 rfl (lo_at hl 0 rfl) ?_
      obtain ⟨k7, hw⟩ := hw
      refine sf_1 k7.1 ?_
      refine s_getI hx hb hts hown hg hC fb_0_2 k7.2 mk_f_RX11_244 dX11_ofBall_60 ?_
      exact ret2_i hM hC hw dX11_ofBall_63
    replace hw := (if_neg c6).mp hw
    by_cases c8 : x1 = (2 : Int32)
    ·
      replace hw := (if_pos c8).mp hw
      refine lv_tableIn (tgt := 64) hx hb dX11_ofBall_8 (by rw [c8]; decide) (by rw [c8]; decide) (by rw [c8]; first | done | rfl) (by decide) ?_
      refine lo_aload_n (r := Option.map A r0) hx hb dX11_ofBall_64 rfl (lo_at hl 0 rfl) ?_
      obtain ⟨k9, hw⟩ := hw
      refine sf_1 k9.1 ?_
      refine s_getI hx hb hts hown hg hC fb_0_3 k9.2 mk_f_RX11_307 dX11_ofBall_65 ?_
      exact ret2_i hM hC hw dX11_ofBall_68
    replace hw := (if_neg c8).mp hw
    by_cases c10 : x1 = (3 : Int32)
    ·
      replace hw := (if_pos c10).mp hw
      refine lv_tableIn (tgt := 69) hx hb dX11_ofBall_8 (by rw [c10]; decide) (by rw [c10]; decide) (by rw [c10]; first | done | rfl) (by decide) ?_
      refine lo_aload_n (r := Option.map A r0) hx hb dX11_ofBall_69 rfl (lo_at hl 0 rfl) ?_
      obtain ⟨k11, hw⟩ := hw
      refine sf_1 k11.1 ?_
      refine res2_i hC (run2_V (As := []) (rest := []) hM hC hl.1.1 kv_RX11_219 (c_X0_missing l G base A (ad r0) h _ hw) (hc_0) k11.2 rfl rfl rfl ⟨Nat.le_of_ble_eq_true rfl, Nat.le_of_ble_eq_true rfl⟩ (Nat.le_of_ble_eq_true rfl) ⟨Nat.le_of_ble_eq_true rfl, Nat.le_of_ble_eq_true rfl⟩ dX11_ofBall_70) (fun z13 h12 H locs hw hC => ?_)
      exact ret2_i hM hC hw dX11_ofBall_73
    replace hw := (if_neg c10).mp hw
    refine lv_tableOut (tgt := 74) hx hb dX11_ofBall_8 (sw_out 0 4 (by decide) (fun k hk => match k, hk with | 0, _ => c2 | 1, _ => c6 | 2, _ => c8 | 3, _ => c10 | k + 4, hk => absurd hk (by omega))) (by decide) ?_
    refine lv_bipush (v := -2) hx hb dX11_ofBall_74 (by decide) ?_
    exact ret2_i hM hC hw dX11_ofBall_76
  ·
    replace hw := (if_pos c1).mp hw
    refine lv_bipush (v := -2) hx hb dX11_ofBall_4 (by decide) ?_
    exact ret2_i hM hC hw dX11_ofBall_6
abbrev rm_X11_ofBarrel : Room := { frames := 0, cells := 0, slots := 0, locals := 0 }
set_option maxRecDepth 100000 in
def wp_X11_ofBarrel (r0 : Option Nat) (x1 : Int32) (h : Hp) (Q : Int32 → Hp → Prop) : Prop := (if r0 = none then (Q (-2 : Int32) h) else ((if x1 = (10 : Int32) then (okO h r0 1 ∧ (Q (hpI h (ad r0) 1) h)) else if x1 = (11 : Int32) then (okO h r0 1 ∧ (Q (hpI h (ad r0) 2) h)) else if x1 = (12 : Int32) then (okO h r0 1 ∧ (Q (hpI h (ad r0) 5) h)) else if x1 = (13 : Int32) then (okO h r0 1 ∧ (Q (hpI h (ad r0) 6) h)) else Q (-2 : Int32) h)))
set_option maxHeartbeats 4000000 in
set_option maxRecDepth 100000 in
theorem c_X11_ofBarrel (l : Launch) (G : GG) (base : Nat) (A : Nat → Nat) (r0 : Option Nat) (x1 : Int32) (h : Hp) (Q : Int32 → Hp → Prop) (hw : wp_X11_ofBarrel r0 x1 h Q) : Met l yX11_ofBarrel (ww yX11_ofBarrel cX11_ofBarrel 2 (some .int)) rm_X11_ofBarrel (va_Pc [va_rf (Option.map A r0), .int x1] (PU2 G base A h A h)) (va_Qi Q (PU2 G base A h A) (fun q => base ≤ q)) 0 0 (fun q => base ≤ q) := by
  refine met2_of (own := RX11) (nm := "ofBarrel") (by decide) rfl rfl (List.forall_mem_cons.mpr ⟨va_rf_cat _, (List.forall_mem_cons.mpr ⟨rfl, (fun _ h => absurd h List.not_mem_nil)⟩)⟩) (Nat.le_of_ble_eq_true rfl) rfl ?_
  intro p e s m args below meth c H locs ls hM hC hl
  obtain ⟨hx, hb, hr, hml, hown, hts, hg, hs, hlk, hnm⟩ := id hM
  unfold wp_X11_ofBarrel at hw
  refine lo_aload_n (r := Option.map A r0) hx hb dX11_ofBarrel_0 rfl (lo_at hl 0 rfl) ?_
  refine s_ifnonnull (r := r0) (A := A) (tgt := 7) hx hb dX11_ofBarrel_1 (by decide) (fun c1 => ?_) (fun c1 => ?_)
  ·
    replace hw := (if_neg c1).mp hw
    refine lv_iload_n hx hb dX11_ofBarrel_7 rfl (lo_at hl 1 rfl) ?_
    by_cases c2 : x1 = (10 : Int32)
    ·
      replace hw := (if_pos c2).mp hw
      refine lv_tableIn (tgt := 40) hx hb dX11_ofBarrel_8 (by rw [c2]; decide) (by rw [c2]; decide) (by rw [c2]; first | done | rfl) (by decide) ?_
      refine lo_aload_n (r := Option.map A r0) hx hb dX11_ofBarrel_40 rfl (lo_at hl 0 rfl) ?_
      obtain ⟨k3, hw⟩ := hw
      refine sf_1 k3.1 ?_
      refine s_getI hx hb hts hown hg hC fb_1_1 k3.2 mk_f_RX11_310 dX11_ofBarrel_41 ?_
      exact ret2_i hM hC hw dX11_ofBarrel_44
    replace hw := (if_neg c2).mp hw
    by_cases c4 : x1 = (11 : Int32)
    ·
      replace hw := (if_pos c4).mp hw
      refine lv_tableIn (tgt := 45) hx hb dX11_ofBarrel_8 (by rw [c4]; decide) (by rw [c4]; decide) (by rw [c4]; first | done | rfl) (by decide) ?_
      refine lo_aload_n (r := Option.map A r0) hx hb dX11_ofBarrel_45 rfl (lo_at hl 0 rfl) ?_
      obtain ⟨k5, hw⟩ := hw
      refine sf_1 k5.1 ?_
      refine s_getI hx hb hts hown hg hC fb_1_2 k5.2 mk_f_RX11_313 dX11_ofBarrel_46 ?_
      exact ret2_i hM hC hw dX11_ofBarrel_49
    replace hw := (if_neg c4).mp hw
    by_cases c6 : x1 = (12 : Int32)
    ·
      replace hw := (if_pos c6).mp hw
      refine lv_tableIn (tgt := 50) hx hb dX11_ofBarrel_8 (by rw [c6]; decide) (by rw [c6]; decide) (by rw [c6]; first | done | rfl) (by decide) ?_
      refine lo_aload_n (r := Option.map A r0) hx hb dX11_ofBarrel_50 rfl (lo_at hl 0 rfl) ?_
      obtain ⟨k7, hw⟩ := hw
      refine sf_1 k7.1 ?_
      refine s_getI hx hb hts hown hg hC fb_1_5 k7.2 mk_f_RX11_128 dX11_ofBarrel_51 ?_
      exact ret2_i hM hC hw dX11_ofBarrel_54
    replace hw := (if_neg c6).mp hw
    by_cases c8 : x1 = (13 : Int32)
    ·
      replace hw := (if_pos c8).mp hw
      refine lv_tableIn (tgt := 55) hx hb dX11_ofBarrel_8 (by rw [c8]; decide) (by rw [c8]; decide) (by rw [c8]; first | done | rfl) (by decide) ?_
      refine lo_aload_n (r := Option.map A r0) hx hb dX11_ofBarrel_55 rfl (lo_at hl 0 rfl) ?_
      obtain ⟨k9, hw⟩ := hw
      refine sf_1 k9.1 ?_
      refine s_getI hx hb hts hown hg hC fb_1_6 k9.2 mk_f_RX11_119 dX11_ofBarrel_56 ?_
      exact ret2_i hM hC hw dX11_ofBarrel_59
    replace hw := (if_neg c8).mp hw
    refine lv_tableOut (tgt := 60) hx hb dX11_ofBarrel_8 (sw_out 10 4 (by decide) (fun k hk => match k, hk with | 0, _ => c2 | 1, _ => c4 | 2, _ => c6 | 3, _ => c8 | k + 4, hk => absurd hk (by omega))) (by decide) ?_
    refine lv_bipush (v := -2) hx hb dX11_ofBarrel_60 (by decide) ?_
    exact ret2_i hM hC hw dX11_ofBarrel_62
  ·
    replace hw := (if_pos c1).mp hw
    refine lv_bipush (v := -2) hx hb dX11_ofBarrel_4 (by decide) ?_
    exact ret2_i hM hC hw dX11_ofBarrel_6
abbrev rm_X11_truthOf : Room := { frames := 0, cells := 0, slots := 0, locals := 0 }
set_option maxRecDepth 100000 in
def wp_X11_truthOf (r0 : Option Nat) (r1 : Option Nat) (h : Hp) (Q : Int32 → Hp → Prop) : Prop := (if r0 = none then (Q (-1 : Int32) h) else ((if r1 = none then (Q (-1 : Int32) h) else (okO h r0 0 ∧ ((if (hpR h (ad r0) 1) = none then (Q (-1 : Int32) h) else (okO h r1 0 ∧ ((if (hpR h (ad r1) 1) = none then (Q (-1 : Int32) h) else ((if (hpI h (ad r0) 0) = (hpI h (ad r1) 0) then (Q (-1 : Int32) h) else (okO h (hpR h (ad r0) 1) 1 ∧ (okO h (hpR h (ad r1) 1) 1 ∧ ((if (hpI h (ad (hpR h (ad r0) 1)) 0) = (hpI h (ad (hpR h (ad r1) 1)) 0) then (Q (0 : Int32) h) else ((if (hpI h (ad (hpR h (ad r0) 1)) 1) = (hpI h (ad (hpR h (ad r1) 1)) 1) then (Q (1 : Int32) h) else (Q (2 : Int32) h))))))))))))))))))
set_option maxHeartbeats 4000000 in
set_option maxRecDepth 100000 in
theorem c_X11_truthOf (l : Launch) (G : GG) (base : Nat) (A : Nat → Nat) (r0 : Option Nat) (r1 : Option Nat) (h : Hp) (Q : Int32 → Hp → Prop) (hw : wp_X11_truthOf r0 r1 h Q) : Met l yX11_truthOf (ww yX11_truthOf cX11_truthOf 2 (some .int)) rm_X11_truthOf (va_Pc [va_rf (Option.map A r0), va_rf (Option.map A r1)] (PU2 G base A h A h)) (va_Qi Q (PU2 G base A h A) (fun q => base ≤ q)) 0 0 (fun q => base ≤ q) := by
  refine met2_of (own := RX11) (nm := "truthOf") (by decide) rfl rfl (List.forall_mem_cons.mpr ⟨va_rf_cat _, (List.forall_mem_cons.mpr ⟨va_rf_cat _, (fun _ h => absurd h List.not_mem_nil)⟩)⟩) (Nat.le_of_ble_eq_true rfl) rfl ?_
  intro p e s m args below meth c H locs ls hM hC hl
  obtain ⟨hx, hb, hr, hml, hown, hts, hg, hs, hlk, hnm⟩ := id hM
  unfold wp_X11_truthOf at hw
  refine lo_aload_n (r := Option.map A r0) hx hb dX11_truthOf_0 rfl (lo_at hl 0 rfl) ?_
  refine s_ifnull (r := r0) (A := A) (tgt := 33) hx hb dX11_truthOf_1 (by decide) (fun c1 => ?_) (fun c1 => ?_)
  ·
    replace hw := (if_pos c1).mp hw
    refine lv_iconst (v := -1) hx hb dX11_truthOf_33 (by decide) ?_
    exact ret2_i hM hC hw dX11_truthOf_34
  ·
    replace hw := (if_neg c1).mp hw
    refine lo_aload_n (r := Option.map A r1) hx hb dX11_truthOf_4 rfl (lo_at hl 1 rfl) ?_
    refine s_ifnull (r := r1) (A := A) (tgt := 33) hx hb dX11_truthOf_5 (by decide) (fun c2 => ?_) (fun c2 => ?_)
    ·
      replace hw := (if_pos c2).mp hw
      refine lv_iconst (v := -1) hx hb dX11_truthOf_33 (by decide) ?_
      exact ret2_i hM hC hw dX11_truthOf_34
    ·
      replace hw := (if_neg c2).mp hw
      refine lo_aload_n (r := Option.map A r0) hx hb dX11_truthOf_8 rfl (lo_at hl 0 rfl) ?_
      obtain ⟨k3, hw⟩ := hw
      refine sf_1 k3.1 ?_
      refine s_getR hx hb hts hown hg hC fb_0_1 k3.2 mk_f_RX11_302 dX11_truthOf_9 ?_
      refine s_ifnull (r := hpR h (ad r0) 1) (A := A) (tgt := 33) hx hb dX11_truthOf_12 (by decide) (fun c4 => ?_) (fun c4 => ?_)
      ·
        replace hw := (if_pos c4).mp hw
        refine lv_iconst (v := -1) hx hb dX11_truthOf_33 (by decide) ?_
        exact ret2_i hM hC hw dX11_truthOf_34
      ·
        replace hw := (if_neg c4).mp hw
        refine lo_aload_n (r := Option.map A r1) hx hb dX11_truthOf_15 rfl (lo_at hl 1 rfl) ?_
        obtain ⟨k5, hw⟩ := hw
        refine sf_1 k5.1 ?_
        refine s_getR hx hb hts hown hg hC fb_0_1 k5.2 mk_f_RX11_302 dX11_truthOf_16 ?_
        refine s_ifnull (r := hpR h (ad r1) 1) (A := A) (tgt := 33) hx hb dX11_truthOf_19 (by decide) (fun c6 => ?_) (fun c6 => ?_)
        ·
          replace hw := (if_pos c6).mp hw
          refine lv_iconst (v := -1) hx hb dX11_truthOf_33 (by decide) ?_
          exact ret2_i hM hC hw dX11_truthOf_34
        ·
          replace hw := (if_neg c6).mp hw
          refine lo_aload_n (r := Option.map A r0) hx hb dX11_truthOf_22 rfl (lo_at hl 0 rfl) ?_
          refine sf_1 k3.1 ?_
          refine s_getI hx hb hts hown hg hC fb_0_0 k3.2 mk_f_RX11_134 dX11_truthOf_23 ?_
          refine lo_aload_n (r := Option.map A r1) hx hb dX11_truthOf_26 rfl (lo_at hl 1 rfl) ?_
          refine sf_1 k5.1 ?_
          refine s_getI hx hb hts hown hg hC fb_0_0 k5.2 mk_f_RX11_134 dX11_truthOf_27 ?_
          refine lv_icmp_ne (tgt := 35) hx hb dX11_truthOf_30 (by decide) (fun c7 => ?_) (fun c7 => ?_)
          ·
            replace hw := (if_neg c7).mp hw
            refine lo_aload_n (r := Option.map A r0) hx hb dX11_truthOf_35 rfl (lo_at hl 0 rfl) ?_
            refine sf_1 k3.1 ?_
            refine s_getR hx hb hts hown hg hC fb_0_1 k3.2 mk_f_RX11_302 dX11_truthOf_36 ?_
            obtain ⟨k8, hw⟩ := hw
            refine sf_1 k8.1 ?_
            refine s_getI hx hb hts hown hg hC fb_1_0 k8.2 mk_f_RX11_306 dX11_truthOf_39 ?_
            refine lo_aload_n (r := Option.map A r1) hx hb dX11_truthOf_42 rfl (lo_at hl 1 rfl) ?_
            refine sf_1 k5.1 ?_
            refine s_getR hx hb hts hown hg hC fb_0_1 k5.2 mk_f_RX11_302 dX11_truthOf_43 ?_
            obtain ⟨k9, hw⟩ := hw
            refine sf_1 k9.1 ?_
            refine s_getI hx hb hts hown hg hC fb_1_0 k9.2 mk_f_RX11_306 dX11_truthOf_46 ?_
            refine lv_icmp_ne (tgt := 54) hx hb dX11_truthOf_49 (by decide) (fun c10 => ?_) (fun c10 => ?_)
            ·
              replace hw := (if_neg c10).mp hw
              refine lo_aload_n (r := Option.map A r0) hx hb dX11_truthOf_54 rfl (lo_at hl 0 rfl) ?_
              refine sf_1 k3.1 ?_
              refine s_getR hx hb hts hown hg hC fb_0_1 k3.2 mk_f_RX11_302 dX11_truthOf_55 ?_
              refine sf_1 k8.1 ?_
              refine s_getI hx hb hts hown hg hC fb_1_1 k8.2 mk_f_RX11_310 dX11_truthOf_58 ?_
              refine lo_aload_n (r := Option.map A r1) hx hb dX11_truthOf_61 rfl (lo_at hl 1 rfl) ?_
              refine sf_1 k5.1 ?_
              refine s_getR hx hb hts hown hg hC fb_0_1 k5.2 mk_f_RX11_302 dX11_truthOf_62 ?_
              refine sf_1 k9.1 ?_
              refine s_getI hx hb hts hown hg hC fb_1_1 k9.2 mk_f_RX11_310 dX11_truthOf_65 ?_
              refine lv_icmp_ne (tgt := 75) hx hb dX11_truthOf_68 (by decide) (fun c11 => ?_) (fun c11 => ?_)
              ·
                replace hw := (if_neg c11).mp hw
                refine lv_iconst (v := 2) hx hb dX11_truthOf_75 (by decide) ?_
                exact ret2_i hM hC hw dX11_truthOf_76
              ·
                replace hw := (if_pos c11).mp hw
                refine lv_iconst (v := 1) hx hb dX11_truthOf_71 (by decide) ?_
                refine lv_goto (tgt := 76) hx hb dX11_truthOf_72 (by decide) ?_
                exact ret2_i hM hC hw dX11_truthOf_76
            ·
              replace hw := (if_pos c10).mp hw
              refine lv_iconst (v := 0) hx hb dX11_truthOf_52 (by decide) ?_
              exact ret2_i hM hC hw dX11_truthOf_53
          ·
            replace hw := (if_pos c7).mp hw
            refine lv_iconst (v := -1) hx hb dX11_truthOf_33 (by decide) ?_
            exact ret2_i hM hC hw dX11_truthOf_34
abbrev rm_X11_misledBy : Room := { frames := 0, cells := 0, slots := 0, locals := 0 }
set_option maxRecDepth 100000 in
def wp_X11_misledBy_L4 (o : Nat) (x1 : Int32) (K39 : Int32 → Hp → Prop) (Q : Int32 → Hp → Prop) : Nat → Int32 → Int32 → Hp → Prop
  | 0, _, _, _ => False
  | n + 1, x2, x3, h => ((hpK h o).1 = 20 + 9) ∧ ((if (hpI h o 10) ≤ x3 then (K39 x2 h) else ((if ((((x1).toUInt32 >>> ((x3).toUInt32 &&& Int32.toUInt32 31)).toInt32) &&& (1 : Int32)) = (1 : Int32) then (okO h (hpR h o 15) 8 ∧ (okA h (hpR h (ad (hpR h o 15)) 4) 1 x3 ∧ (∀ v7 : Int32, v7 = hpI h (ad (hpR h (ad (hpR h o 15)) 4)) (x3).toNatClampNeg → (∀ v8 : Int32, v8 = x2 ||| v7 → (∀ v9 : Int32, v9 = x3 + (1 : Int32) → (wp_X11_misledBy_L4 o x1 K39 Q n v8 v9 h)))))) else (∀ v4 : Int32, v4 = x3 + (1 : Int32) → (wp_X11_misledBy_L4 o x1 K39 Q n x2 v4 h))))))
set_option maxRecDepth 100000 in
def wp_X11_misledBy (o : Nat) (x1 : Int32) (h : Hp) (Q : Int32 → Hp → Prop) : Prop := wp_X11_misledBy_L4 o x1 (fun (y11 : Int32) (h10 : Hp) => Q y11 h10) Q fuel (0 : Int32) (0 : Int32) h
set_option maxHeartbeats 4000000 in
set_option maxRecDepth 100000 in
theorem t_X11_misledBy_L4 {p : Program} {l : Launch} {e : Env} {s : State} {m : MethodId} {args : Array Value} {below : List Frame} {meth : Method} {c : Code} {G : GG} {base : Nat} {A : Nat → Nat} {g0 : Hp} (hM : Mx G base p s m args meth c cX11_misledBy 4 (some .int) RX11 "misledBy") (o : Nat) (x1 : Int32) (K39 : Int32 → Hp → Prop) (Q : Int32 → Hp → Prop) (hK39 : ∀ (y2 : Int32) (h : Hp) (H : Heap) (locs : List Loc) (ls : Array Slot), Cx2 G base A g0 A h s.heap H locs → lo_has ls 4 [(2, .int y2)] → K39 y2 h → W p l e rm_X11_misledBy s m args below meth c H locs 0 0 (MQ below (va_Qi Q (PU2 G base A g0 A) (fun q => base ≤ q)) args s 0 0 (fun q => base ≤ q)) (F0 m 39 ls [])) : ∀ (n : Nat) (x2 : Int32) (x3 : Int32) (h : Hp) (H : Heap) (locs : List Loc) (ls : Array Slot), Cx2 G base A g0 A h s.heap H locs → lo_has ls 4 [(0, .ref (A o)), (1, .int x1), (2, .int x2), (3, .int x3)] → wp_X11_misledBy_L4 o x1 K39 Q n x2 x3 h → W p l e rm_X11_misledBy s m args below meth c H locs 0 0 (MQ below (va_Qi Q (PU2 G base A g0 A) (fun q => base ≤ q)) args s 0 0 (fun q => base ≤ q)) (F0 m 4 ls []) := by
  intro n
  induction n with
  | zero =>
    intro x2 x3 h H locs ls hC hl hw
    rw [wp_X11_misledBy_L4] at hw
    exact hw.elim
  | succ n ih =>
    intro x2 x3 h H locs ls hC hl hw
    rw [wp_X11_misledBy_L4] at hw
    obtain ⟨hx, hb, hr, hml, hown, hts, hg, hs, hlk, hnm⟩ := id hM
    refine lv_iload_n hx hb dX11_misledBy_4 rfl (lo_at hl 3 rfl) ?_
    refine lv_aload_n hx hb dX11_misledBy_5 rfl (lo_at hl 0 rfl) ?_
    obtain ⟨k1, hw⟩ := hw
    refine s_getI hx hb hts hown hg hC fb_9_10 k1 mk_f_RX11_258 dX11_misledBy_6 ?_
    refine lv_icmp_ge (tgt := 39) hx hb dX11_misledBy_9 (by decide) (fun c2 => ?_) (fun c2 => ?_)
    ·
      replace hw := (if_pos c2).mp hw
      exact hK39 x2 h H locs ls hC (lo_sub hl [2] rfl) hw
    ·
      replace hw := (if_neg c2).mp hw
      refine lv_iload_n hx hb dX11_misledBy_12 rfl (lo_at hl 1 rfl) ?_
      refine lv_iload_n hx hb dX11_misledBy_13 rfl (lo_at hl 3 rfl) ?_
      refine lv_iushr hx hb dX11_misledBy_14 (v := ((x1).toUInt32 >>> ((x3).toUInt32 &&& Int32.toUInt32 31)).toInt32) rfl ?_
      refine lv_iconst (v := 1) hx hb dX11_misledBy_15 (by decide) ?_
      refine lv_iand hx hb dX11_misledBy_16 ?_
      refine lv_iconst (v := 1) hx hb dX11_misledBy_17 (by decide) ?_
      refine lv_icmp_ne (tgt := 33) hx hb dX11_misledBy_18 (by decide) (fun c3 => ?_) (fun c3 => ?_)
      ·
        replace hw := (if_neg c3).mp hw
        obtain ⟨v4, ev4⟩ : ∃ y : Int32, y = x3 + (1 : Int32) := ⟨_, rfl⟩
        replace hw := hw v4 ev4
        refine lo_iinc (v := v4) (lv' := [(3, .int v4), (0, .ref (A o)), (1, .int x1), (2, .int x2)]) hx hb dX11_misledBy_33 hl (k := 3) rfl (by rw [ev4]; rfl) (by decide) rfl (fun ls hl => ?_)
        refine lv_goto (tgt := 4) hx hb dX11_misledBy_36 (by decide) ?_
        exact ih x2 v4 h H locs ls hC (lo_sub hl [1, 2, 3, 0] rfl) hw
      ·
        replace hw := (if_pos c3).mp hw
        refine lv_iload_n hx hb dX11_misledBy_21 rfl (lo_at hl 2 rfl) ?_
        refine lv_aload_n hx hb dX11_misledBy_22 rfl (lo_at hl 0 rfl) ?_
        refine s_getR hx hb hts hown hg hC fb_9_15 k1 mk_f_RX11_69 dX11_misledBy_23 ?_
        obtain ⟨k5, hw⟩ := hw
        refine sf_1 k5.1 ?_
        refine s_getR hx hb hts hown hg hC fb_8_4 k5.2 mk_f_RX11_318 dX11_misledBy_26 ?_
        refine lv_iload_n hx hb dX11_misledBy_29 rfl (lo_at hl 3 rfl) ?_
        obtain ⟨k6, hw⟩ := hw
        refine sf_2 k6.1 ?_
        refine s_iald hx hb hg hC k6.2.1 k6.2.2 dX11_misledBy_30 ?_
        refine lv_topi (fun v7 ev7 => ?_)
        replace hw := hw v7 ev7
        refine lv_ior hx hb dX11_misledBy_31 ?_
        refine lv_topi (fun v8 ev8 => ?_)
        replace hw := hw v8 ev8
        refine lo_istore_n (lv' := [(2, .int v8), (0, .ref (A o)), (1, .int x1), (3, .int x3)]) hx hb dX11_misledBy_32 rfl hl (by decide) rfl (fun ls hl => ?_)
        obtain ⟨v9, ev9⟩ : ∃ y : Int32, y = x3 + (1 : Int32) := ⟨_, rfl⟩
        replace hw := hw v9 ev9
        refine lo_iinc (v := v9) (lv' := [(3, .int v9), (2, .int v8), (0, .ref (A o)), (1, .int x1)]) hx hb dX11_misledBy_33 hl (k := 3) rfl (by rw [ev9]; rfl) (by decide) rfl (fun ls hl => ?_)
        refine lv_goto (tgt := 4) hx hb dX11_misledBy_36 (by decide) ?_
        exact ih v8 v9 h H locs ls hC (lo_sub hl [2, 3, 1, 0] rfl) hw
set_option maxHeartbeats 4000000 in
set_option maxRecDepth 100000 in
theorem c_X11_misledBy (l : Launch) (G : GG) (base : Nat) (A : Nat → Nat) (o : Nat) (x1 : Int32) (h : Hp) (Q : Int32 → Hp → Prop) (hw : wp_X11_misledBy o x1 h Q) : Met l yX11_misledBy (ww yX11_misledBy cX11_misledBy 4 (some .int)) rm_X11_misledBy (va_Pc [.ref (A o), .int x1] (PU2 G base A h A h)) (va_Qi Q (PU2 G base A h A) (fun q => base ≤ q)) 0 0 (fun q => base ≤ q) := by
  refine met2_of (own := RX11) (nm := "misledBy") (by decide) rfl rfl (List.forall_mem_cons.mpr ⟨rfl, (List.forall_mem_cons.mpr ⟨rfl, (fun _ h => absurd h List.not_mem_nil)⟩)⟩) (Nat.le_of_ble_eq_true rfl) rfl ?_
  intro p e s m args below meth c H locs ls hM hC hl
  obtain ⟨hx, hb, hr, hml, hown, hts, hg, hs, hlk, hnm⟩ := id hM
  unfold wp_X11_misledBy at hw
  refine lv_iconst (v := 0) hx hb dX11_misledBy_0 (by decide) ?_
  refine lo_istore_n (lv' := [(2, .int ((0 : Int32))), (0, .ref (A o)), (1, .int x1)]) hx hb dX11_misledBy_1 rfl hl (by decide) rfl (fun ls hl => ?_)
  refine lv_iconst (v := 0) hx hb dX11_misledBy_2 (by decide) ?_
  refine lo_istore_n (lv' := [(3, .int ((0 : Int32))), (2, .int ((0 : Int32))), (0, .ref (A o)), (1, .int x1)]) hx hb dX11_misledBy_3 rfl hl (by decide) rfl (fun ls hl => ?_)
  refine t_X11_misledBy_L4 hM o x1 _ Q ?_ fuel (0 : Int32) (0 : Int32) h H locs ls hC (lo_sub hl [2, 3, 1, 0] rfl) hw
  intro y11 h10 H locs ls hC hl hw
  refine lv_iload_n hx hb dX11_misledBy_39 rfl (lo_at hl 0 rfl) ?_
  exact ret2_i hM hC hw dX11_misledBy_40
abbrev rm_X11_hoursOf : Room := { frames := 0, cells := 0, slots := 0, locals := 0 }
set_option maxRecDepth 100000 in
def wp_X11_hoursOf_L4 (o : Nat) (x1 : Int32) (K48 : Int32 → Hp → Prop) (Q : Int32 → Hp → Prop) : Nat → Int32 → Int32 → Hp → Prop
  | 0, _, _, _ => False
  | n + 1, x2, x3, h => ((hpK h o).1 = 20 + 9) ∧ ((if (hpI h o 10) ≤ x3 then (K48 x2 h) else (okA h (hpR h o 9) 6 x3 ∧ ((if (hpR h (ad (hpR h o 9)) (x3).toNatClampNeg) = none then (∀ v5 : Int32, v5 = x3 + (1 : Int32) → (wp_X11_hoursOf_L4 o x1 K48 Q n x2 v5 h)) else ((if ((((x1).toUInt32 >>> ((x3).toUInt32 &&& Int32.toUInt32 31)).toInt32) &&& (1 : Int32)) = (1 : Int32) then (okO h (hpR h (ad (hpR h o 9)) (x3).toNatClampNeg) 3 ∧ (∀ v9 : Int32, v9 = x2 + (hpI h (ad (hpR h (ad (hpR h o 9)) (x3).toNatClampNeg)) 2) → (∀ v10 : Int32, v10 = x3 + (1 : Int32) → (wp_X11_hoursOf_L4 o x1 K48 Q n v9 v10 h)))) else (∀ v7 : Int32, v7 = x3 + (1 : Int32) → (wp_X11_hoursOf_L4 o x1 K48 Q n x2 v7 h)))))))))
set_option maxRecDepth 100000 in
def wp_X11_hoursOf (o : Nat) (x1 : Int32) (h : Hp) (Q : Int32 → Hp → Prop) : Prop := wp_X11_hoursOf_L4 o x1 (fun (y12 : Int32) (h11 : Hp) => Q y12 h11) Q fuel (0 : Int32) (0 : Int32) h
set_option maxHeartbeats 4000000 in
set_option maxRecDepth 100000 in
theorem t_X11_hoursOf_L4 {p : Program} {l : Launch} {e : Env} {s : State} {m : MethodId} {args : Array Value} {below : List Frame} {meth : Method} {c : Code} {G : GG} {base : Nat} {A : Nat → Nat} {g0 : Hp} (hM : Mx G base p s m args meth c cX11_hoursOf 5 (some .int) RX11 "hoursOf") (o : Nat) (x1 : Int32) (K48 : Int32 → Hp → Prop) (Q : Int32 → Hp → Prop) (hK48 : ∀ (y2 : Int32) (h : Hp) (H : Heap) (locs : List Loc) (ls : Array Slot), Cx2 G base A g0 A h s.heap H locs → lo_has ls 5 [(2, .int y2)] → K48 y2 h → W p l e rm_X11_hoursOf s m args below meth c H locs 0 0 (MQ below (va_Qi Q (PU2 G base A g0 A) (fun q => base ≤ q)) args s 0 0 (fun q => base ≤ q)) (F0 m 48 ls [])) : ∀ (n : Nat) (x2 : Int32) (x3 : Int32) (h : Hp) (H : Heap) (locs : List Loc) (ls : Array Slot), Cx2 G base A g0 A h s.heap H locs → lo_has ls 5 [(0, .ref (A o)), (1, .int x1), (2, .int x2), (3, .int x3)] → wp_X11_hoursOf_L4 o x1 K48 Q n x2 x3 h → W p l e rm_X11_hoursOf s m args below meth c H locs 0 0 (MQ below (va_Qi Q (PU2 G base A g0 A) (fun q => base ≤ q)) args s 0 0 (fun q => base ≤ q)) (F0 m 4 ls []) := by
  intro n
  induction n with
  | zero =>
    intro x2 x3 h H locs ls hC hl hw
    rw [wp_X11_hoursOf_L4] at hw
    exact hw.elim
  | succ n ih =>
    intro x2 x3 h H locs ls hC hl hw
    rw [wp_X11_hoursOf_L4] at hw
    obtain ⟨hx, hb, hr, hml, hown, hts, hg, hs, hlk, hnm⟩ := id hM
    refine lv_iload_n hx hb dX11_hoursOf_4 rfl (lo_at hl 3 rfl) ?_
    refine lv_aload_n hx hb dX11_hoursOf_5 rfl (lo_at hl 0 rfl) ?_
    obtain ⟨k1, hw⟩ := hw
    refine s_getI hx hb hts hown hg hC fb_9_10 k1 mk_f_RX11_258 dX11_hoursOf_6 ?_
    refine lv_icmp_ge (tgt := 48) hx hb dX11_hoursOf_9 (by decide) (fun c2 => ?_) (fun c2 => ?_)
    ·
      replace hw := (if_pos c2).mp hw
      exact hK48 x2 h H locs ls hC (lo_sub hl [2] rfl) hw
    ·
      replace hw := (if_neg c2).mp hw
      refine lv_aload_n hx hb dX11_hoursOf_12 rfl (lo_at hl 0 rfl) ?_
      refine s_getR hx hb hts hown hg hC fb_9_9 k1 mk_f_RX11_35 dX11_hoursOf_13 ?_
      refine lv_iload_n hx hb dX11_hoursOf_16 rfl (lo_at hl 3 rfl) ?_
      obtain ⟨k3, hw⟩ := hw
      refine sf_2 k3.1 ?_
      refine s_aald (kd := 6) (t0 := 5) hx hb hg hC k3.2.1 (by decide) rfl k3.2.2 dX11_hoursOf_17 ?_
      refine lo_astore (r := Option.map A (hpR h (ad (hpR h o 9)) (x3).toNatClampNeg)) (lv' := [(4, va_rf (Option.map A (hpR h (ad (hpR h o 9)) (x3).toNatClampNeg))), (0, .ref (A o)), (1, .int x1), (2, .int x2), (3, .int x3)]) hx hb dX11_hoursOf_18 hl (by decide) rfl (fun ls hl => ?_)
      refine lo_aload (r := Option.map A (hpR h (ad (hpR h o 9)) (x3).toNatClampNeg)) hx hb dX11_hoursOf_20 (lo_at hl 0 rfl) ?_
      refine s_ifnull (r := hpR h (ad (hpR h o 9)) (x3).toNatClampNeg) (A := A) (tgt := 42) hx hb dX11_hoursOf_22 (by decide) (fun c4 => ?_) (fun c4 => ?_)
      ·
        replace hw := (if_pos c4).mp hw
        obtain ⟨v5, ev5⟩ : ∃ y : Int32, y = x3 + (1 : Int32) := ⟨_, rfl⟩
        replace hw := hw v5 ev5
        refine lo_iinc (v := v5) (lv' := [(3, .int v5), (4, va_rf (Option.map A (hpR h (ad (hpR h o 9)) (x3).toNatClampNeg))), (0, .ref (A o)), (1, .int x1), (2, .int x2)]) hx hb dX11_hoursOf_42 hl (k := 4) rfl (by rw [ev5]; rfl) (by decide) rfl (fun ls hl => ?_)
        refine lv_goto (tgt := 4) hx hb dX11_hoursOf_45 (by decide) ?_
        exact ih x2 v5 h H locs ls hC (lo_sub hl [2, 3, 4, 0] rfl) hw
      ·
        replace hw := (if_neg c4).mp hw
        refine lv_iload_n hx hb dX11_hoursOf_25 rfl (lo_at hl 2 rfl) ?_
        refine lv_iload_n hx hb dX11_hoursOf_26 rfl (lo_at hl 4 rfl) ?_
        refine lv_iushr hx hb dX11_hoursOf_27 (v := ((x1).toUInt32 >>> ((x3).toUInt32 &&& Int32.toUInt32 31)).toInt32) rfl ?_
        refine lv_iconst (v := 1) hx hb dX11_hoursOf_28 (by decide) ?_
        refine lv_iand hx hb dX11_hoursOf_29 ?_
        refine lv_iconst (v := 1) hx hb dX11_hoursOf_30 (by decide) ?_
        refine lv_icmp_ne (tgt := 42) hx hb dX11_hoursOf_31 (by decide) (fun c6 => ?_) (fun c6 => ?_)
        ·
          replace hw := (if_neg c6).mp hw
          obtain ⟨v7, ev7⟩ : ∃ y : Int32, y = x3 + (1 : Int32) := ⟨_, rfl⟩
          replace hw := hw v7 ev7
          refine lo_iinc (v := v7) (lv' := [(3, .int v7), (4, va_rf (Option.map A (hpR h (ad (hpR h o 9)) (x3).toNatClampNeg))), (0, .ref (A o)), (1, .int x1), (2, .int x2)]) hx hb dX11_hoursOf_42 hl (k := 4) rfl (by rw [ev7]; rfl) (by decide) rfl (fun ls hl => ?_)
          refine lv_goto (tgt := 4) hx hb dX11_hoursOf_45 (by decide) ?_
          exact ih x2 v7 h H locs ls hC (lo_sub hl [2, 3, 4, 0] rfl) hw
        ·
          replace hw := (if_pos c6).mp hw
          refine lv_iload_n hx hb dX11_hoursOf_34 rfl (lo_at hl 3 rfl) ?_
          refine lo_aload (r := Option.map A (hpR h (ad (hpR h o 9)) (x3).toNatClampNeg)) hx hb dX11_hoursOf_35 (lo_at hl 0 rfl) ?_
          obtain ⟨k8, hw⟩ := hw
          refine sf_1 k8.1 ?_
          refine s_getI hx hb hts hown hg hC fb_3_2 k8.2 mk_f_RX11_327 dX11_hoursOf_37 ?_
          refine lv_iadd hx hb dX11_hoursOf_40 ?_
          refine lv_topi (fun v9 ev9 => ?_)
          replace hw := hw v9 ev9
          refine lo_istore_n (lv' := [(2, .int v9), (4, va_rf (Option.map A (hpR h (ad (hpR h o 9)) (x3).toNatClampNeg))), (0, .ref (A o)), (1, .int x1), (3, .int x3)]) hx hb dX11_hoursOf_41 rfl hl (by decide) rfl (fun ls hl => ?_)
          obtain ⟨v10, ev10⟩ : ∃ y : Int32, y = x3 + (1 : Int32) := ⟨_, rfl⟩
          replace hw := hw v10 ev10
          refine lo_iinc (v := v10) (lv' := [(3, .int v10), (2, .int v9), (4, va_rf (Option.map A (hpR h (ad (hpR h o 9)) (x3).toNatClampNeg))), (0, .ref (A o)), (1, .int x1)]) hx hb dX11_hoursOf_42 hl (k := 4) rfl (by rw [ev10]; rfl) (by decide) rfl (fun ls hl => ?_)
          refine lv_goto (tgt := 4) hx hb dX11_hoursOf_45 (by decide) ?_
          exact ih v9 v10 h H locs ls hC (lo_sub hl [3, 4, 1, 0] rfl) hw
set_option maxHeartbeats 4000000 in
set_option maxRecDepth 100000 in
theorem c_X11_hoursOf (l : Launch) (G : GG) (base : Nat) (A : Nat → Nat) (o : Nat) (x1 : Int32) (h : Hp) (Q : Int32 → Hp → Prop) (hw : wp_X11_hoursOf o x1 h Q) : Met l yX11_hoursOf (ww yX11_hoursOf cX11_hoursOf 5 (some .int)) rm_X11_hoursOf (va_Pc [.ref (A o), .int x1] (PU2 G base A h A h)) (va_Qi Q (PU2 G base A h A) (fun q => base ≤ q)) 0 0 (fun q => base ≤ q) := by
  refine met2_of (own := RX11) (nm := "hoursOf") (by decide) rfl rfl (List.forall_mem_cons.mpr ⟨rfl, (List.forall_mem_cons.mpr ⟨rfl, (fun _ h => absurd h List.not_mem_nil)⟩)⟩) (Nat.le_of_ble_eq_true rfl) rfl ?_
  intro p e s m args below meth c H locs ls hM hC hl
  obtain ⟨hx, hb, hr, hml, hown, hts, hg, hs, hlk, hnm⟩ := id hM
  unfold wp_X11_hoursOf at hw
  refine lv_iconst (v := 0) hx hb dX11_hoursOf_0 (by decide) ?_
  refine lo_istore_n (lv' := [(2, .int ((0 : Int32))), (0, .ref (A o)), (1, .int x1)]) hx hb dX11_hoursOf_1 rfl hl (by decide) rfl (fun ls hl => ?_)
  refine lv_iconst (v := 0) hx hb dX11_hoursOf_2 (by decide) ?_
  refine lo_istore_n (lv' := [(3, .int ((0 : Int32))), (2, .int ((0 : Int32))), (0, .ref (A o)), (1, .int x1)]) hx hb dX11_hoursOf_3 rfl hl (by decide) rfl (fun ls hl => ?_)
  refine t_X11_hoursOf_L4 hM o x1 _ Q ?_ fuel (0 : Int32) (0 : Int32) h H locs ls hC (lo_sub hl [2, 3, 1, 0] rfl) hw
  intro y12 h11 H locs ls hC hl hw
  refine lv_iload_n hx hb dX11_hoursOf_48 rfl (lo_at hl 0 rfl) ?_
  exact ret2_i hM hC hw dX11_hoursOf_49
abbrev rm_X11_isOfScene : Room := { frames := 0, cells := 0, slots := 0, locals := 0 }
set_option maxRecDepth 100000 in
def wp_X11_isOfScene (o : Nat) (x1 : Int32) (x2 : Int32) (h : Hp) (Q : Int32 → Hp → Prop) : Prop := ((hpK h o).1 = 20 + 9) ∧ (okA h (hpR h o 11) 2 x1 ∧ (∀ v3 : Int64, v3 = hpL h (ad (hpR h o 11)) (x1).toNatClampNeg → ((if (lg_cmp ((((v3).toUInt64 >>> ((x2).toInt64.toUInt64 &&& Int64.toUInt64 63)).toInt64) &&& (1 : Int64)) (1 : Int64)) = 0 then (Q (1 : Int32) h) else (Q (0 : Int32) h)))))
set_option maxHeartbeats 4000000 in
set_option maxRecDepth 100000 in
theorem c_X11_isOfScene (l : Launch) (G : GG) (base : Nat) (A : Nat → Nat) (o : Nat) (x1 : Int32) (x2 : Int32) (h : Hp) (Q : Int32 → Hp → Prop) (hw : wp_X11_isOfScene o x1 x2 h Q) : Met l yX11_isOfScene (ww yX11_isOfScene cX11_isOfScene 3 (some .boolean)) rm_X11_isOfScene (va_Pc [.ref (A o), .int x1, .int x2] (PU2 G base A h A h)) (va_Qi Q (PU2 G base A h A) (fun q => base ≤ q)) 0 0 (fun q => base ≤ q) := by
  refine met2_of (own := RX11) (nm := "isOfScene") (by decide) rfl rfl (List.forall_mem_cons.mpr ⟨rfl, (List.forall_mem_cons.mpr ⟨rfl, (List.forall_mem_cons.mpr ⟨rfl, (fun _ h => absurd h List.not_mem_nil)⟩)⟩)⟩) (Nat.le_of_ble_eq_true rfl) rfl ?_
  intro p e s m args below meth c H locs ls hM hC hl
  obtain ⟨hx, hb, hr, hml, hown, hts, hg, hs, hlk, hnm⟩ := id hM
  unfold wp_X11_isOfScene at hw
  refine lv_aload_n hx hb dX11_isOfScene_0 rfl (lo_at hl 0 rfl) ?_
  obtain ⟨k1, hw⟩ := hw
  refine s_getR hx hb hts hown hg hC fb_9_11 k1 mk_f_RX11_39 dX11_isOfScene_1 ?_
  refine lv_iload_n hx hb dX11_isOfScene_4 rfl (lo_at hl 1 rfl) ?_
  obtain ⟨k2, hw⟩ := hw
  refine sf_2 k2.1 ?_
  refine s_lald hx hb hg hC k2.2.1 k2.2.2 dX11_isOfScene_5 ?_
  refine lv_topl (fun v3 ev3 => ?_)
  replace hw := hw v3 ev3
  refine lv_iload_n hx hb dX11_isOfScene_6 rfl (lo_at hl 2 rfl) ?_
  refine lv_lushr hx hb dX11_isOfScene_7 (v := ((v3).toUInt64 >>> ((x2).toInt64.toUInt64 &&& Int64.toUInt64 63)).toInt64) rfl ?_
  refine lv_lconst (v := 1) hx hb dX11_isOfScene_8 (by decide) ?_
  refine lv_land hx hb dX11_isOfScene_9 ?_
  refine lv_lconst (v := 1) hx hb dX11_isOfScene_10 (by decide) ?_
  refine W.lcmp hx hb dX11_isOfScene_11 ?_
  refine lv_if_ne (tgt := 19) hx hb dX11_isOfScene_12 (by decide) (fun c4 => ?_) (fun c4 => ?_)
  ·
    replace hw := (if_neg c4).mp hw
    refine lv_iconst (v := 0) hx hb dX11_isOfScene_19 (by decide) ?_
    exact ret2_t hM hC rfl hw dX11_isOfScene_20
  ·
    replace hw := (if_pos c4).mp hw
    refine lv_iconst (v := 1) hx hb dX11_isOfScene_15 (by decide) ?_
    refine lv_goto (tgt := 20) hx hb dX11_isOfScene_16 (by decide) ?_
    exact ret2_t hM hC rfl hw dX11_isOfScene_20
abbrev rm_X11_groupCount : Room := { frames := 0, cells := 0, slots := 0, locals := 0 }
set_option maxRecDepth 100000 in
def wp_X11_groupCount_L4 (o : Nat) (K43 : Int32 → Hp → Prop) (Q : Int32 → Hp → Prop) : Nat → Int32 → Int32 → Hp → Prop
  | 0, _, _, _ => False
  | n + 1, x1, x2, h => (if (8 : Int32) ≤ x2 then (K43 x1 h) else (((hpK h o).1 = 20 + 9) ∧ (okA h (hpR h o 11) 2 x2 ∧ (∀ v4 : Int64, v4 = hpL h (ad (hpR h o 11)) (x2).toNatClampNeg → ((if (lg_cmp v4 (0 : Int64)) = 0 then (∀ v6 : Int32, v6 = x2 + (1 : Int32) → (wp_X11_groupCount_L4 o K43 Q n x1 v6 h)) else (okO h (hpR h o 15) 8 ∧ (okA h (hpR h (ad (hpR h o 15)) 5) 1 x2 ∧ (∀ v9 : Int32, v9 = hpI h (ad (hpR h (ad (hpR h o 15)) 5)) (x2).toNatClampNeg → ((if v9 = x2 then (∀ v12 : Int32, v12 = x1 + (1 : Int32) → (∀ v13 : Int32, v13 = x2 + (1 : Int32) → (wp_X11_groupCount_L4 o K43 Q n v12 v13 h))) else (∀ v11 : Int32, v11 = x2 + (1 : Int32) → (wp_X11_groupCount_L4 o K43 Q n x1 v11 h)))))))))))))
set_option maxRecDepth 100000 in
def wp_X11_groupCount (o : Nat) (h : Hp) (Q : Int32 → Hp → Prop) : Prop := wp_X11_groupCount_L4 o (fun (y15 : Int32) (h14 : Hp) => Q y15 h14) Q fuel (0 : Int32) (0 : Int32) h
set_option maxHeartbeats 4000000 in
set_option maxRecDepth 100000 in
theorem t_X11_groupCount_L4 {p : Program} {l : Launch} {e : Env} {s : State} {m : MethodId} {args : Array Value} {below : List Frame} {meth : Method} {c : Code} {G : GG} {base : Nat} {A : Nat → Nat} {g0 : Hp} (hM : Mx G base p s m args meth c cX11_groupCount 3 (some .int) RX11 "groupCount") (o : Nat) (K43 : Int32 → Hp → Prop) (Q : Int32 → Hp → Prop) (hK43 : ∀ (y1 : Int32) (h : Hp) (H : Heap) (locs : List Loc) (ls : Array Slot), Cx2 G base A g0 A h s.heap H locs → lo_has ls 3 [(1, .int y1)] → K43 y1 h → W p l e rm_X11_groupCount s m args below meth c H locs 0 0 (MQ below (va_Qi Q (PU2 G base A g0 A) (fun q => base ≤ q)) args s 0 0 (fun q => base ≤ q)) (F0 m 43 ls [])) : ∀ (n : Nat) (x1 : Int32) (x2 : Int32) (h : Hp) (H : Heap) (locs : List Loc) (ls : Array Slot), Cx2 G base A g0 A h s.heap H locs → lo_has ls 3 [(0, .ref (A o)), (1, .int x1), (2, .int x2)] → wp_X11_groupCount_L4 o K43 Q n x1 x2 h → W p l e rm_X11_groupCount s m args below meth c H locs 0 0 (MQ below (va_Qi Q (PU2 G base A g0 A) (fun q => base ≤ q)) args s 0 0 (fun q => base ≤ q)) (F0 m 4 ls []) := by
  intro n
  induction n with
  | zero =>
    intro x1 x2 h H locs ls hC hl hw
    rw [wp_X11_groupCount_L4] at hw
    exact hw.elim
  | succ n ih =>
    intro x1 x2 h H locs ls hC hl hw
    rw [wp_X11_groupCount_L4] at hw
    obtain ⟨hx, hb, hr, hml, hown, hts, hg, hs, hlk, hnm⟩ := id hM
    refine lv_iload_n hx hb dX11_groupCount_4 rfl (lo_at hl 2 rfl) ?_
    refine lv_bipush (v := 8) hx hb dX11_groupCount_5 (by decide) ?_
    refine lv_icmp_ge (tgt := 43) hx hb dX11_groupCount_7 (by decide) (fun c1 => ?_) (fun c1 => ?_)
    ·
      replace hw := (if_pos c1).mp hw
      exact hK43 x1 h H locs ls hC (lo_sub hl [1] rfl) hw
    ·
      replace hw := (if_neg c1).mp hw
      refine lv_aload_n hx hb dX11_groupCount_10 rfl (lo_at hl 0 rfl) ?_
      obtain ⟨k2, hw⟩ := hw
      refine s_getR hx hb hts hown hg hC fb_9_11 k2 mk_f_RX11_39 dX11_groupCount_11 ?_
      refine lv_iload_n hx hb dX11_groupCount_14 rfl (lo_at hl 2 rfl) ?_
      obtain ⟨k3, hw⟩ := hw
      refine sf_2 k3.1 ?_
      refine s_lald hx hb hg hC k3.2.1 k3.2.2 dX11_groupCount_15 ?_
      refine lv_topl (fun v4 ev4 => ?_)
      replace hw := hw v4 ev4
      refine lv_lconst (v := 0) hx hb dX11_groupCount_16 (by decide) ?_
      refine W.lcmp hx hb dX11_groupCount_17 ?_
      refine lv_if_eq (tgt := 37) hx hb dX11_groupCount_18 (by decide) (fun c5 => ?_) (fun c5 => ?_)
      ·
        replace hw := (if_pos c5).mp hw
        obtain ⟨v6, ev6⟩ : ∃ y : Int32, y = x2 + (1 : Int32) := ⟨_, rfl⟩
        replace hw := hw v6 ev6
        refine lo_iinc (v := v6) (lv' := [(2, .int v6), (0, .ref (A o)), (1, .int x1)]) hx hb dX11_groupCount_37 hl (k := 2) rfl (by rw [ev6]; rfl) (by decide) rfl (fun ls hl => ?_)
        refine lv_goto (tgt := 4) hx hb dX11_groupCount_40 (by decide) ?_
        exact ih x1 v6 h H locs ls hC (lo_sub hl [1, 2, 0] rfl) hw
      ·
        replace hw := (if_neg c5).mp hw
        refine lv_aload_n hx hb dX11_groupCount_21 rfl (lo_at hl 0 rfl) ?_
        refine s_getR hx hb hts hown hg hC fb_9_15 k2 mk_f_RX11_69 dX11_groupCount_22 ?_
        obtain ⟨k7, hw⟩ := hw
        refine sf_1 k7.1 ?_
        refine s_getR hx hb hts hown hg hC fb_8_5 k7.2 mk_f_RX11_299 dX11_groupCount_25 ?_
        refine lv_iload_n hx hb dX11_groupCount_28 rfl (lo_at hl 2 rfl) ?_
        obtain ⟨k8, hw⟩ := hw
        refine sf_2 k8.1 ?_
        refine s_iald hx hb hg hC k8.2.1 k8.2.2 dX11_groupCount_29 ?_
        refine lv_topi (fun v9 ev9 => ?_)
        replace hw := hw v9 ev9
        refine lv_iload_n hx hb dX11_groupCount_30 rfl (lo_at hl 2 rfl) ?_
        refine lv_icmp_ne (tgt := 37) hx hb dX11_groupCount_31 (by decide) (fun c10 => ?_) (fun c10 => ?_)
        ·
          replace hw := (if_neg c10).mp hw
          obtain ⟨v11, ev11⟩ : ∃ y : Int32, y = x2 + (1 : Int32) := ⟨_, rfl⟩
          replace hw := hw v11 ev11
          refine lo_iinc (v := v11) (lv' := [(2, .int v11), (0, .ref (A o)), (1, .int x1)]) hx hb dX11_groupCount_37 hl (k := 2) rfl (by rw [ev11]; rfl) (by decide) rfl (fun ls hl => ?_)
          refine lv_goto (tgt := 4) hx hb dX11_groupCount_40 (by decide) ?_
          exact ih x1 v11 h H locs ls hC (lo_sub hl [1, 2, 0] rfl) hw
        ·
          replace hw := (if_pos c10).mp hw
          obtain ⟨v12, ev12⟩ : ∃ y : Int32, y = x1 + (1 : Int32) := ⟨_, rfl⟩
          replace hw := hw v12 ev12
          refine lo_iinc (v := v12) (lv' := [(1, .int v12), (0, .ref (A o)), (2, .int x2)]) hx hb dX11_groupCount_34 hl (k := 1) rfl (by rw [ev12]; rfl) (by decide) rfl (fun ls hl => ?_)
          obtain ⟨v13, ev13⟩ : ∃ y : Int32, y = x2 + (1 : Int32) := ⟨_, rfl⟩
          replace hw := hw v13 ev13
          refine lo_iinc (v := v13) (lv' := [(2, .int v13), (1, .int v12), (0, .ref (A o))]) hx hb dX11_groupCount_37 hl (k := 2) rfl (by rw [ev13]; rfl) (by decide) rfl (fun ls hl => ?_)
          refine lv_goto (tgt := 4) hx hb dX11_groupCount_40 (by decide) ?_
          exact ih v12 v13 h H locs ls hC (lo_sub hl [2, 1, 0] rfl) hw
set_option maxHeartbeats 4000000 in
set_option maxRecDepth 100000 in
theorem c_X11_groupCount (l : Launch) (G : GG) (base : Nat) (A : Nat → Nat) (o : Nat) (h : Hp) (Q : Int32 → Hp → Prop) (hw : wp_X11_groupCount o h Q) : Met l yX11_groupCount (ww yX11_groupCount cX11_groupCount 3 (some .int)) rm_X11_groupCount (va_Pc [.ref (A o)] (PU2 G base A h A h)) (va_Qi Q (PU2 G base A h A) (fun q => base ≤ q)) 0 0 (fun q => base ≤ q) := by
  refine met2_of (own := RX11) (nm := "groupCount") (by decide) rfl rfl (List.forall_mem_cons.mpr ⟨rfl, (fun _ h => absurd h List.not_mem_nil)⟩) (Nat.le_of_ble_eq_true rfl) rfl ?_
  intro p e s m args below meth c H locs ls hM hC hl
  obtain ⟨hx, hb, hr, hml, hown, hts, hg, hs, hlk, hnm⟩ := id hM
  unfold wp_X11_groupCount at hw
  refine lv_iconst (v := 0) hx hb dX11_groupCount_0 (by decide) ?_
  refine lo_istore_n (lv' := [(1, .int ((0 : Int32))), (0, .ref (A o))]) hx hb dX11_groupCount_1 rfl hl (by decide) rfl (fun ls hl => ?_)
  refine lv_iconst (v := 0) hx hb dX11_groupCount_2 (by decide) ?_
  refine lo_istore_n (lv' := [(2, .int ((0 : Int32))), (1, .int ((0 : Int32))), (0, .ref (A o))]) hx hb dX11_groupCount_3 rfl hl (by decide) rfl (fun ls hl => ?_)
  refine t_X11_groupCount_L4 hM o _ Q ?_ fuel (0 : Int32) (0 : Int32) h H locs ls hC (lo_sub hl [2, 1, 0] rfl) hw
  intro y15 h14 H locs ls hC hl hw
  refine lv_iload_n hx hb dX11_groupCount_43 rfl (lo_at hl 0 rfl) ?_
  exact ret2_i hM hC hw dX11_groupCount_44
abbrev rm_X12_init : Room := { frames := 1, cells := 38, slots := 42891, locals := 20 }
set_option maxRecDepth 100000 in
def wp_X12_init_J977 (o : Nat) (Q : Hp → Prop) (h : Hp) : Prop := okP h (some o) ∧ (∃ q532 : Nat, (hpK h q532).1 = 0 ∧ (∀ h533 : Hp, h533 = alc h q532 1 10 → (((hpK h533 o).1 = 20 + 10) ∧ (okP h533 (some q532) ∧ (∀ h539 : Hp, h539 = stR h533 o 55 (some q532) → (okP h539 (some o) ∧ (∃ q541 : Nat, (hpK h539 q541).1 = 0 ∧ (∀ h542 : Hp, h542 = alc h539 q541 1 10 → (((hpK h542 o).1 = 20 + 10) ∧ (okP h542 (some q541) ∧ (∀ h548 : Hp, h548 = stR h542 o 56 (some q541) → (okP h548 (some o) ∧ (∃ q550 : Nat, (hpK h548 q550).1 = 0 ∧ (∀ h551 : Hp, h551 = alc h548 q550 1 6 → (((hpK h551 o).1 = 20 + 10) ∧ (okP h551 (some q550) ∧ (∀ h557 : Hp, h557 = stR h551 o 57 (some q550) → (okP h557 (some o) ∧ (∃ q559 : Nat, (hpK h557 q559).1 = 0 ∧ (∀ h560 : Hp, h560 = alc h557 q559 2 8 → (((hpK h560 o).1 = 20 + 10) ∧ (okP h560 (some q559) ∧ (∀ h566 : Hp, h566 = stR h560 o 58 (some q559) → (okP h566 (some o) ∧ (∃ q568 : Nat, (hpK h566 q568).1 = 0 ∧ (∀ h569 : Hp, h569 = alc h566 q568 1 8 → (((hpK h569 o).1 = 20 + 10) ∧ (okP h569 (some q568) ∧ (∀ h575 : Hp, h575 = stR h569 o 59 (some q568) → (Q h575))))))))))))))))))))))))))))))
set_option maxRecDepth 100000 in
def wp_X12_init_J748 (o : Nat) (s0 : Int32) (s1 : Int32) (s2 : Nat) (s3 : Nat) (s4 : Nat) (Q : Hp → Prop) (h : Hp) : Prop := okA h (some s2) 1 s1 ∧ (∀ h342 : Hp, h342 = stI h s2 (s1).toNatClampNeg s0 → (okA h342 (some s3) 1 (105 : Int32) ∧ (∀ h344 : Hp, h344 = stI h342 s3 ((105 : Int32)).toNatClampNeg (108 : Int32) → (okA h344 (some s3) 1 (106 : Int32) ∧ (∀ h346 : Hp, h346 = stI h344 s3 ((106 : Int32)).toNatClampNeg (97 : Int32) → (okA h346 (some s3) 1 (107 : Int32) ∧ (∀ h348 : Hp, h348 = stI h346 s3 ((107 : Int32)).toNatClampNeg (99 : Int32) → (okA h348 (some s3) 1 (108 : Int32) ∧ (∀ h350 : Hp, h350 = stI h348 s3 ((108 : Int32)).toNatClampNeg (107 : Int32) → (okA h350 (some s3) 1 (109 : Int32) ∧ (∀ h352 : Hp, h352 = stI h350 s3 ((109 : Int32)).toNatClampNeg (32 : Int32) → (okA h352 (some s3) 1 (110 : Int32) ∧ (∀ h354 : Hp, h354 = stI h352 s3 ((110 : Int32)).toNatClampNeg (116 : Int32) → (okA h354 (some s3) 1 (111 : Int32) ∧ (∀ h356 : Hp, h356 = stI h354 s3 ((111 : Int32)).toNatClampNeg (111 : Int32) → (okA h356 (some s3) 1 (112 : Int32) ∧ (∀ h358 : Hp, h358 = stI h356 s3 ((112 : Int32)).toNatClampNeg (108 : Int32) → (okA h358 (some s3) 1 (113 : Int32) ∧ (∀ h360 : Hp, h360 = stI h358 s3 ((113 : Int32)).toNatClampNeg (100 : Int32) → (okA h360 (some s3) 1 (114 : Int32) ∧ (∀ h362 : Hp, h362 = stI h360 s3 ((114 : Int32)).toNatClampNeg (32 : Int32) → (((hpK h362 s4).1 = 20 + 10) ∧ (okP h362 (some s3) ∧ (∀ h364 : Hp, h364 = stR h362 s4 24 (some s3) → (okP h364 (some o) ∧ (∃ q366 : Nat, (hpK h364 q366).1 = 0 ∧ (∀ h367 : Hp, h367 = alc h364 q366 1 8 → (((hpK h367 o).1 = 20 + 10) ∧ (okP h367 (some q366) ∧ (∀ h373 : Hp, h373 = stR h367 o 25 (some q366) → (okP h373 (some o) ∧ (∃ q375 : Nat, (hpK h373 q375).1 = 0 ∧ (∀ h376 : Hp, h376 = alc h373 q375 1 128 → (((hpK h376 o).1 = 20 + 10) ∧ (okP h376 (some q375) ∧ (∀ h382 : Hp, h382 = stR h376 o 26 (some q375) → (okP h382 (some o) ∧ (∃ q384 : Nat, (hpK h382 q384).1 = 0 ∧ (∀ h385 : Hp, h385 = alc h382 q384 1 128 → (((hpK h385 o).1 = 20 + 10) ∧ (okP h385 (some q384) ∧ (∀ h391 : Hp, h391 = stR h385 o 27 (some q384) → (okP h391 (some o) ∧ (∃ q393 : Nat, (hpK h391 q393).1 = 0 ∧ (∀ h394 : Hp, h394 = alc h391 q393 1 128 → (((hpK h394 o).1 = 20 + 10) ∧ (okP h394 (some q393) ∧ (∀ h400 : Hp, h400 = stR h394 o 28 (some q393) → (okP h400 (some o) ∧ (∃ q402 : Nat, (hpK h400 q402).1 = 0 ∧ (∀ h403 : Hp, h403 = alc h400 q402 1 128 → (((hpK h403 o).1 = 20 + 10) ∧ (okP h403 (some q402) ∧ (∀ h409 : Hp, h409 = stR h403 o 29 (some q402) → (okP h409 (some o) ∧ (∃ q411 : Nat, (hpK h409 q411).1 = 0 ∧ (∀ h412 : Hp, h412 = alc h409 q411 1 4800 → (((hpK h412 o).1 = 20 + 10) ∧ (okP h412 (some q411) ∧ (∀ h418 : Hp, h418 = stR h412 o 30 (some q411) → (okP h418 (some o) ∧ (∃ q420 : Nat, (hpK h418 q420).1 = 0 ∧ (∀ h421 : Hp, h421 = alc h418 q420 1 4800 → (((hpK h421 o).1 = 20 + 10) ∧ (okP h421 (some q420) ∧ (∀ h427 : Hp, h427 = stR h421 o 31 (some q420) → (okP h427 (some o) ∧ (∃ q429 : Nat, (hpK h427 q429).1 = 0 ∧ (∀ h430 : Hp, h430 = alc h427 q429 1 40 → (((hpK h430 o).1 = 20 + 10) ∧ (okP h430 (some q429) ∧ (∀ h436 : Hp, h436 = stR h430 o 35 (some q429) → (((hpK h436 o).1 = 20 + 10) ∧ (∀ h439 : Hp, h439 = stI h436 o 40 (-1 : Int32) → (okP h439 (some o) ∧ (∃ q440 : Nat, (hpK h439 q440).1 = 0 ∧ (∀ h441 : Hp, h441 = alc h439 q440 1 14 → (((hpK h441 o).1 = 20 + 10) ∧ (okP h441 (some q440) ∧ (∀ h447 : Hp, h447 = stR h441 o 41 (some q440) → (okP h447 (some o) ∧ (∃ q449 : Nat, (hpK h447 q449).1 = 0 ∧ (∀ h450 : Hp, h450 = alc h447 q449 1 620 → (((hpK h450 o).1 = 20 + 10) ∧ (okP h450 (some q449) ∧ (∀ h456 : Hp, h456 = stR h450 o 42 (some q449) → (okP h456 (some o) ∧ (∃ q458 : Nat, (hpK h456 q458).1 = 0 ∧ (∀ h459 : Hp, h459 = alc h456 q458 1 32 → (((hpK h459 o).1 = 20 + 10) ∧ (okP h459 (some q458) ∧ (∀ h465 : Hp, h465 = stR h459 o 44 (some q458) → (okP h465 (some o) ∧ (∃ q467 : Nat, (hpK h465 q467).1 = 0 ∧ (∀ h468 : Hp, h468 = alc h465 q467 1 6 → (((hpK h468 o).1 = 20 + 10) ∧ (okP h468 (some q467) ∧ (∀ h474 : Hp, h474 = stR h468 o 46 (some q467) → (okP h474 (some o) ∧ (∃ q476 : Nat, (hpK h474 q476).1 = 0 ∧ (∀ h477 : Hp, h477 = alc h474 q476 1 128 → (((hpK h477 o).1 = 20 + 10) ∧ (okP h477 (some q476) ∧ (∀ h483 : Hp, h483 = stR h477 o 47 (some q476) → (okP h483 (some o) ∧ (∃ q485 : Nat, (hpK h483 q485).1 = 0 ∧ (∀ h486 : Hp, h486 = alc h483 q485 1 128 → (((hpK h486 o).1 = 20 + 10) ∧ (okP h486 (some q485) ∧ (∀ h492 : Hp, h492 = stR h486 o 48 (some q485) → (((hpK h492 o).1 = 20 + 10) ∧ (∀ h495 : Hp, h495 = stI h492 o 49 (-1 : Int32) → (okP h495 (some o) ∧ (∃ q496 : Nat, (hpK h495 q496).1 = 0 ∧ (∀ h497 : Hp, h497 = alc h495 q496 1 19200 → (((hpK h497 o).1 = 20 + 10) ∧ (okP h497 (some q496) ∧ (∀ h503 : Hp, h503 = stR h497 o 50 (some q496) → (okP h503 (some o) ∧ (∃ q505 : Nat, (hpK h503 q505).1 = 0 ∧ (∀ h506 : Hp, h506 = alc h503 q505 1 9600 → (((hpK h506 o).1 = 20 + 10) ∧ (okP h506 (some q505) ∧ (∀ h512 : Hp, h512 = stR h506 o 51 (some q505) → (okP h512 (some o) ∧ (∃ q514 : Nat, (hpK h512 q514).1 = 0 ∧ (∀ h515 : Hp, h515 = alc h512 q514 1 40 → (((hpK h515 o).1 = 20 + 10) ∧ (okP h515 (some q514) ∧ (∀ h521 : Hp, h521 = stR h515 o 52 (some q514) → (okP h521 (some o) ∧ (∃ q523 : Nat, (hpK h521 q523).1 = 0 ∧ (∀ h524 : Hp, h524 = alc h521 q523 1 10 → (((hpK h524 o).1 = 20 + 10) ∧ (okP h524 (some q523) ∧ (∀ h530 : Hp, h530 = stR h524 o 54 (some q523) → (wp_X12_init_J977 o Q h530)))))))))))))))))))))))))))))))))))))))))))))))))))))))))))))))))))))))))))))))))))))))))))))))))))))))))))))))))))))))))))))))))))))))))
set_option maxRecDepth 100000 in
def wp_X12_init_J568 (o : Nat) (s0 : Int32) (s1 : Int32) (s2 : Nat) (s3 : Nat) (s4 : Nat) (Q : Hp → Prop) (h : Hp) : Prop := okA h (some s2) 1 s1 ∧ (∀ h282 : Hp, h282 = stI h s2 (s1).toNatClampNeg s0 → (okA h282 (some s3) 1 (75 : Int32) ∧ (∀ h284 : Hp, h284 = stI h282 s3 ((75 : Int32)).toNatClampNeg (111 : Int32) → (okA h284 (some s3) 1 (76 : Int32) ∧ (∀ h286 : Hp, h286 = stI h284 s3 ((76 : Int32)).toNatClampNeg (102 : Int32) → (okA h286 (some s3) 1 (77 : Int32) ∧ (∀ h288 : Hp, h288 = stI h286 s3 ((77 : Int32)).toNatClampNeg (116 : Int32) → (okA h288 (some s3) 1 (78 : Int32) ∧ (∀ h290 : Hp, h290 = stI h288 s3 ((78 : Int32)).toNatClampNeg (32 : Int32) → (okA h290 (some s3) 1 (79 : Int32) ∧ (∀ h292 : Hp, h292 = stI h290 s3 ((79 : Int32)).toNatClampNeg (98 : Int32) → (okA h292 (some s3) 1 (80 : Int32) ∧ (∀ h294 : Hp, h294 = stI h292 s3 ((80 : Int32)).toNatClampNeg (101 : Int32) → (okA h294 (some s3) 1 (81 : Int32) ∧ (∀ h296 : Hp, h296 = stI h294 s3 ((81 : Int32)).toNatClampNeg (115 : Int32) → (okA h296 (some s3) 1 (82 : Int32) ∧ (∀ h298 : Hp, h298 = stI h296 s3 ((82 : Int32)).toNatClampNeg (116 : Int32) → (okA h298 (some s3) 1 (83 : Int32) ∧ (∀ h300 : Hp, h300 = stI h298 s3 ((83 : Int32)).toNatClampNeg (32 : Int32) → (okA h300 (some s3) 1 (84 : Int32) ∧ (∀ h302 : Hp, h302 = stI h300 s3 ((84 : Int32)).toNatClampNeg (108 : Int32) → (okA h302 (some s3) 1 (85 : Int32) ∧ (∀ h304 : Hp, h304 = stI h302 s3 ((85 : Int32)).toNatClampNeg (111 : Int32) → (okA h304 (some s3) 1 (86 : Int32) ∧ (∀ h306 : Hp, h306 = stI h304 s3 ((86 : Int32)).toNatClampNeg (110 : Int32) → (okA h306 (some s3) 1 (87 : Int32) ∧ (∀ h308 : Hp, h308 = stI h306 s3 ((87 : Int32)).toNatClampNeg (103 : Int32) → (okA h308 (some s3) 1 (88 : Int32) ∧ (∀ h310 : Hp, h310 = stI h308 s3 ((88 : Int32)).toNatClampNeg (101 : Int32) → (okA h310 (some s3) 1 (89 : Int32) ∧ (∀ h312 : Hp, h312 = stI h310 s3 ((89 : Int32)).toNatClampNeg (115 : Int32) → (okA h312 (some s3) 1 (90 : Int32) ∧ (∀ h314 : Hp, h314 = stI h312 s3 ((90 : Int32)).toNatClampNeg (116 : Int32) → (okA h314 (some s3) 1 (91 : Int32) ∧ (∀ h316 : Hp, h316 = stI h314 s3 ((91 : Int32)).toNatClampNeg (32 : Int32) → (okA h316 (some s3) 1 (92 : Int32) ∧ (∀ h318 : Hp, h318 = stI h316 s3 ((92 : Int32)).toNatClampNeg (115 : Int32) → (okA h318 (some s3) 1 (93 : Int32) ∧ (∀ h320 : Hp, h320 = stI h318 s3 ((93 : Int32)).toNatClampNeg (108 : Int32) → (okA h320 (some s3) 1 (94 : Int32) ∧ (∀ h322 : Hp, h322 = stI h320 s3 ((94 : Int32)).toNatClampNeg (105 : Int32) → (okA h322 (some s3) 1 (95 : Int32) ∧ (∀ h324 : Hp, h324 = stI h322 s3 ((95 : Int32)).toNatClampNeg (100 : Int32) → (okA h324 (some s3) 1 (96 : Int32) ∧ (∀ h326 : Hp, h326 = stI h324 s3 ((96 : Int32)).toNatClampNeg (101 : Int32) → (okA h326 (some s3) 1 (97 : Int32) ∧ (∀ h328 : Hp, h328 = stI h326 s3 ((97 : Int32)).toNatClampNeg (32 : Int32) → (okA h328 (some s3) 1 (98 : Int32) ∧ (∀ h330 : Hp, h330 = stI h328 s3 ((98 : Int32)).toNatClampNeg (112 : Int32) → (okA h330 (some s3) 1 (99 : Int32) ∧ (∀ h332 : Hp, h332 = stI h330 s3 ((99 : Int32)).toNatClampNeg (105 : Int32) → (okA h332 (some s3) 1 (100 : Int32) ∧ (∀ h334 : Hp, h334 = stI h332 s3 ((100 : Int32)).toNatClampNeg (101 : Int32) → (okA h334 (some s3) 1 (101 : Int32) ∧ (∀ h336 : Hp, h336 = stI h334 s3 ((101 : Int32)).toNatClampNeg (99 : Int32) → (okA h336 (some s3) 1 (102 : Int32) ∧ (∀ h338 : Hp, h338 = stI h336 s3 ((102 : Int32)).toNatClampNeg (101 : Int32) → (okA h338 (some s3) 1 (103 : Int32) ∧ (∀ h340 : Hp, h340 = stI h338 s3 ((103 : Int32)).toNatClampNeg (115 : Int32) → (wp_X12_init_J748 o (32 : Int32) (104 : Int32) s3 s3 s4 Q h340))))))))))))))))))))))))))))))))))))))))))))))))))))))))))))
set_option maxRecDepth 100000 in
def wp_X12_init_J388 (o : Nat) (s0 : Int32) (s1 : Int32) (s2 : Nat) (s3 : Nat) (s4 : Nat) (Q : Hp → Prop) (h : Hp) : Prop := okA h (some s2) 1 s1 ∧ (∀ h222 : Hp, h222 = stI h s2 (s1).toNatClampNeg s0 → (okA h222 (some s3) 1 (45 : Int32) ∧ (∀ h224 : Hp, h224 = stI h222 s3 ((45 : Int32)).toNatClampNeg (104 : Int32) → (okA h224 (some s3) 1 (46 : Int32) ∧ (∀ h226 : Hp, h226 = stI h224 s3 ((46 : Int32)).toNatClampNeg (32 : Int32) → (okA h226 (some s3) 1 (47 : Int32) ∧ (∀ h228 : Hp, h228 = stI h226 s3 ((47 : Int32)).toNatClampNeg (108 : Int32) → (okA h228 (some s3) 1 (48 : Int32) ∧ (∀ h230 : Hp, h230 = stI h228 s3 ((48 : Int32)).toNatClampNeg (101 : Int32) → (okA h230 (some s3) 1 (49 : Int32) ∧ (∀ h232 : Hp, h232 = stI h230 s3 ((49 : Int32)).toNatClampNeg (102 : Int32) → (okA h232 (some s3) 1 (50 : Int32) ∧ (∀ h234 : Hp, h234 = stI h232 s3 ((50 : Int32)).toNatClampNeg (116 : Int32) → (okA h234 (some s3) 1 (51 : Int32) ∧ (∀ h236 : Hp, h236 = stI h234 s3 ((51 : Int32)).toNatClampNeg (32 : Int32) → (okA h236 (some s3) 1 (52 : Int32) ∧ (∀ h238 : Hp, h238 = stI h236 s3 ((52 : Int32)).toNatClampNeg (114 : Int32) → (okA h238 (some s3) 1 (53 : Int32) ∧ (∀ h240 : Hp, h240 = stI h238 s3 ((53 : Int32)).toNatClampNeg (105 : Int32) → (okA h240 (some s3) 1 (54 : Int32) ∧ (∀ h242 : Hp, h242 = stI h240 s3 ((54 : Int32)).toNatClampNeg (103 : Int32) → (okA h242 (some s3) 1 (55 : Int32) ∧ (∀ h244 : Hp, h244 = stI h242 s3 ((55 : Int32)).toNatClampNeg (104 : Int32) → (okA h244 (some s3) 1 (56 : Int32) ∧ (∀ h246 : Hp, h246 = stI h244 s3 ((56 : Int32)).toNatClampNeg (116 : Int32) → (okA h246 (some s3) 1 (57 : Int32) ∧ (∀ h248 : Hp, h248 = stI h246 s3 ((57 : Int32)).toNatClampNeg (32 : Int32) → (okA h248 (some s3) 1 (58 : Int32) ∧ (∀ h250 : Hp, h250 = stI h248 s3 ((58 : Int32)).toNatClampNeg (100 : Int32) → (okA h250 (some s3) 1 (59 : Int32) ∧ (∀ h252 : Hp, h252 = stI h250 s3 ((59 : Int32)).toNatClampNeg (114 : Int32) → (okA h252 (some s3) 1 (60 : Int32) ∧ (∀ h254 : Hp, h254 = stI h252 s3 ((60 : Int32)).toNatClampNeg (97 : Int32) → (okA h254 (some s3) 1 (61 : Int32) ∧ (∀ h256 : Hp, h256 = stI h254 s3 ((61 : Int32)).toNatClampNeg (119 : Int32) → (okA h256 (some s3) 1 (62 : Int32) ∧ (∀ h258 : Hp, h258 = stI h256 s3 ((62 : Int32)).toNatClampNeg (32 : Int32) → (okA h258 (some s3) 1 (63 : Int32) ∧ (∀ h260 : Hp, h260 = stI h258 s3 ((63 : Int32)).toNatClampNeg (115 : Int32) → (okA h260 (some s3) 1 (64 : Int32) ∧ (∀ h262 : Hp, h262 = stI h260 s3 ((64 : Int32)).toNatClampNeg (104 : Int32) → (okA h262 (some s3) 1 (65 : Int32) ∧ (∀ h264 : Hp, h264 = stI h262 s3 ((65 : Int32)).toNatClampNeg (111 : Int32) → (okA h264 (some s3) 1 (66 : Int32) ∧ (∀ h266 : Hp, h266 = stI h264 s3 ((66 : Int32)).toNatClampNeg (116 : Int32) → (okA h266 (some s3) 1 (67 : Int32) ∧ (∀ h268 : Hp, h268 = stI h266 s3 ((67 : Int32)).toNatClampNeg (115 : Int32) → (okA h268 (some s3) 1 (68 : Int32) ∧ (∀ h270 : Hp, h270 = stI h268 s3 ((68 : Int32)).toNatClampNeg (32 : Int32) → (okA h270 (some s3) 1 (69 : Int32) ∧ (∀ h272 : Hp, h272 = stI h270 s3 ((69 : Int32)).toNatClampNeg (114 : Int32) → (okA h272 (some s3) 1 (70 : Int32) ∧ (∀ h274 : Hp, h274 = stI h272 s3 ((70 : Int32)).toNatClampNeg (117 : Int32) → (okA h274 (some s3) 1 (71 : Int32) ∧ (∀ h276 : Hp, h276 = stI h274 s3 ((71 : Int32)).toNatClampNeg (115 : Int32) → (okA h276 (some s3) 1 (72 : Int32) ∧ (∀ h278 : Hp, h278 = stI h276 s3 ((72 : Int32)).toNatClampNeg (116 : Int32) → (okA h278 (some s3) 1 (73 : Int32) ∧ (∀ h280 : Hp, h280 = stI h278 s3 ((73 : Int32)).toNatClampNeg (32 : Int32) → (wp_X12_init_J568 o (115 : Int32) (74 : Int32) s3 s3 s4 Q h280))))))))))))))))))))))))))))))))))))))))))))))))))))))))))))
set_option maxRecDepth 100000 in
def wp_X12_init_J208 (o : Nat) (s0 : Int32) (s1 : Int32) (s2 : Nat) (s3 : Nat) (s4 : Nat) (Q : Hp → Prop) (h : Hp) : Prop := okA h (some s2) 1 s1 ∧ (∀ h162 : Hp, h162 = stI h s2 (s1).toNatClampNeg s0 → (okA h162 (some s3) 1 (15 : Int32) ∧ (∀ h164 : Hp, h164 = stI h162 s3 ((15 : Int32)).toNatClampNeg (115 : Int32) → (okA h164 (some s3) 1 (16 : Int32) ∧ (∀ h166 : Hp, h166 = stI h164 s3 ((16 : Int32)).toNatClampNeg (97 : Int32) → (okA h166 (some s3) 1 (17 : Int32) ∧ (∀ h168 : Hp, h168 = stI h166 s3 ((17 : Int32)).toNatClampNeg (109 : Int32) → (okA h168 (some s3) 1 (18 : Int32) ∧ (∀ h170 : Hp, h170 = stI h168 s3 ((18 : Int32)).toNatClampNeg (101 : Int32) → (okA h170 (some s3) 1 (19 : Int32) ∧ (∀ h172 : Hp, h172 = stI h170 s3 ((19 : Int32)).toNatClampNeg (32 : Int32) → (okA h172 (some s3) 1 (20 : Int32) ∧ (∀ h174 : Hp, h174 = stI h172 s3 ((20 : Int32)).toNatClampNeg (110 : Int32) → (okA h174 (some s3) 1 (21 : Int32) ∧ (∀ h176 : Hp, h176 = stI h174 s3 ((21 : Int32)).toNatClampNeg (111 : Int32) → (okA h176 (some s3) 1 (22 : Int32) ∧ (∀ h178 : Hp, h178 = stI h176 s3 ((22 : Int32)).toNatClampNeg (116 : Int32) → (okA h178 (some s3) 1 (23 : Int32) ∧ (∀ h180 : Hp, h180 = stI h178 s3 ((23 : Int32)).toNatClampNeg (32 : Int32) → (okA h180 (some s3) 1 (24 : Int32) ∧ (∀ h182 : Hp, h182 = stI h180 s3 ((24 : Int32)).toNatClampNeg (119 : Int32) → (okA h182 (some s3) 1 (25 : Int32) ∧ (∀ h184 : Hp, h184 = stI h182 s3 ((25 : Int32)).toNatClampNeg (104 : Int32) → (okA h184 (some s3) 1 (26 : Int32) ∧ (∀ h186 : Hp, h186 = stI h184 s3 ((26 : Int32)).toNatClampNeg (101 : Int32) → (okA h186 (some s3) 1 (27 : Int32) ∧ (∀ h188 : Hp, h188 = stI h186 s3 ((27 : Int32)).toNatClampNeg (110 : Int32) → (okA h188 (some s3) 1 (28 : Int32) ∧ (∀ h190 : Hp, h190 = stI h188 s3 ((28 : Int32)).toNatClampNeg (32 : Int32) → (okA h190 (some s3) 1 (29 : Int32) ∧ (∀ h192 : Hp, h192 = stI h190 s3 ((29 : Int32)).toNatClampNeg (111 : Int32) → (okA h192 (some s3) 1 (30 : Int32) ∧ (∀ h194 : Hp, h194 = stI h192 s3 ((30 : Int32)).toNatClampNeg (114 : Int32) → (okA h194 (some s3) 1 (31 : Int32) ∧ (∀ h196 : Hp, h196 = stI h194 s3 ((31 : Int32)).toNatClampNeg (32 : Int32) → (okA h196 (some s3) 1 (32 : Int32) ∧ (∀ h198 : Hp, h198 = stI h196 s3 ((32 : Int32)).toNatClampNeg (97 : Int32) → (okA h198 (some s3) 1 (33 : Int32) ∧ (∀ h200 : Hp, h200 = stI h198 s3 ((33 : Int32)).toNatClampNeg (110 : Int32) → (okA h200 (some s3) 1 (34 : Int32) ∧ (∀ h202 : Hp, h202 = stI h200 s3 ((34 : Int32)).toNatClampNeg (100 : Int32) → (okA h202 (some s3) 1 (35 : Int32) ∧ (∀ h204 : Hp, h204 = stI h202 s3 ((35 : Int32)).toNatClampNeg (32 : Int32) → (okA h204 (some s3) 1 (36 : Int32) ∧ (∀ h206 : Hp, h206 = stI h204 s3 ((36 : Int32)).toNatClampNeg (110 : Int32) → (okA h206 (some s3) 1 (37 : Int32) ∧ (∀ h208 : Hp, h208 = stI h206 s3 ((37 : Int32)).toNatClampNeg (111 : Int32) → (okA h208 (some s3) 1 (38 : Int32) ∧ (∀ h210 : Hp, h210 = stI h208 s3 ((38 : Int32)).toNatClampNeg (32 : Int32) → (okA h210 (some s3) 1 (39 : Int32) ∧ (∀ h212 : Hp, h212 = stI h210 s3 ((39 : Int32)).toNatClampNeg (97 : Int32) → (okA h212 (some s3) 1 (40 : Int32) ∧ (∀ h214 : Hp, h214 = stI h212 s3 ((40 : Int32)).toNatClampNeg (116 : Int32) → (okA h214 (some s3) 1 (41 : Int32) ∧ (∀ h216 : Hp, h216 = stI h214 s3 ((41 : Int32)).toNatClampNeg (32 : Int32) → (okA h216 (some s3) 1 (42 : Int32) ∧ (∀ h218 : Hp, h218 = stI h216 s3 ((42 : Int32)).toNatClampNeg (104 : Int32) → (okA h218 (some s3) 1 (43 : Int32) ∧ (∀ h220 : Hp, h220 = stI h218 s3 ((43 : Int32)).toNatClampNeg (105 : Int32) → (wp_X12_init_J388 o (103 : Int32) (44 : Int32) s3 s3 s4 Q h220))))))))))))))))))))))))))))))))))))))))))))))))))))))))))))
set_option maxRecDepth 100000 in
def wp_X12_init (o : Nat) (h : Hp) (Q : Hp → Prop) : Prop := okP h (some o) ∧ (∃ q1 : Nat, (hpK h q1).1 = 0 ∧ (∀ h2 : Hp, h2 = alc h q1 1 192 → (((hpK h2 o).1 = 20 + 10) ∧ (okP h2 (some q1) ∧ (∀ h8 : Hp, h8 = stR h2 o 2 (some q1) → (okP h8 (some o) ∧ (∃ q10 : Nat, (hpK h8 q10).1 = 0 ∧ (∀ h11 : Hp, h11 = alc h8 q10 1 6 → (((hpK h11 o).1 = 20 + 10) ∧ (okP h11 (some q10) ∧ (∀ h17 : Hp, h17 = stR h11 o 3 (some q10) → (okP h17 (some o) ∧ (∃ q19 : Nat, (hpK h17 q19).1 = 0 ∧ (∀ h20 : Hp, h20 = alc h17 q19 1 6 → (((hpK h20 o).1 = 20 + 10) ∧ (okP h20 (some q19) ∧ (∀ h26 : Hp, h26 = stR h20 o 4 (some q19) → (okP h26 (some o) ∧ (∃ q28 : Nat, (hpK h26 q28).1 = 0 ∧ (∀ h29 : Hp, h29 = alc h26 q28 1 512 → (((hpK h29 o).1 = 20 + 10) ∧ (okP h29 (some q28) ∧ (∀ h35 : Hp, h35 = stR h29 o 6 (some q28) → (okP h35 (some o) ∧ (∃ q37 : Nat, (hpK h35 q37).1 = 0 ∧ (∀ h38 : Hp, h38 = alc h35 q37 1 16 → (((hpK h38 o).1 = 20 + 10) ∧ (okP h38 (some q37) ∧ (∀ h44 : Hp, h44 = stR h38 o 7 (some q37) → (okP h44 (some o) ∧ (∃ q46 : Nat, (hpK h44 q46).1 = 0 ∧ (∀ h47 : Hp, h47 = alc h44 q46 1 16 → (((hpK h47 o).1 = 20 + 10) ∧ (okP h47 (some q46) ∧ (∀ h53 : Hp, h53 = stR h47 o 8 (some q46) → (okP h53 (some o) ∧ (∃ q55 : Nat, (hpK h53 q55).1 = 0 ∧ (∀ h56 : Hp, h56 = alc h53 q55 1 16 → (((hpK h56 o).1 = 20 + 10) ∧ (okP h56 (some q55) ∧ (∀ h62 : Hp, h62 = stR h56 o 9 (some q55) → (okP h62 (some o) ∧ (∃ q64 : Nat, (hpK h62 q64).1 = 0 ∧ (∀ h65 : Hp, h65 = alc h62 q64 1 16 → (((hpK h65 o).1 = 20 + 10) ∧ (okP h65 (some q64) ∧ (∀ h71 : Hp, h71 = stR h65 o 10 (some q64) → (okP h71 (some o) ∧ (∃ q73 : Nat, (hpK h71 q73).1 = 0 ∧ (∀ h74 : Hp, h74 = alc h71 q73 1 16 → (((hpK h74 o).1 = 20 + 10) ∧ (okP h74 (some q73) ∧ (∀ h80 : Hp, h80 = stR h74 o 11 (some q73) → (okP h80 (some o) ∧ (∃ q82 : Nat, (hpK h80 q82).1 = 0 ∧ (∀ h83 : Hp, h83 = alc h80 q82 1 1280 → (((hpK h83 o).1 = 20 + 10) ∧ (okP h83 (some q82) ∧ (∀ h89 : Hp, h89 = stR h83 o 13 (some q82) → (okP h89 (some o) ∧ (∃ q91 : Nat, (hpK h89 q91).1 = 0 ∧ (∀ h92 : Hp, h92 = alc h89 q91 1 40 → (((hpK h92 o).1 = 20 + 10) ∧ (okP h92 (some q91) ∧ (∀ h98 : Hp, h98 = stR h92 o 14 (some q91) → (okP h98 (some o) ∧ (∃ q100 : Nat, (hpK h98 q100).1 = 0 ∧ (∀ h101 : Hp, h101 = alc h98 q100 1 40 → (((hpK h101 o).1 = 20 + 10) ∧ (okP h101 (some q100) ∧ (∀ h107 : Hp, h107 = stR h101 o 15 (some q100) → (okP h107 (some o) ∧ (∃ q109 : Nat, (hpK h107 q109).1 = 0 ∧ (∀ h110 : Hp, h110 = alc h107 q109 1 40 → (((hpK h110 o).1 = 20 + 10) ∧ (okP h110 (some q109) ∧ (∀ h116 : Hp, h116 = stR h110 o 16 (some q109) → (okP h116 (some o) ∧ (∃ q118 : Nat, (hpK h116 q118).1 = 0 ∧ (∀ h119 : Hp, h119 = alc h116 q118 1 600 → (((hpK h119 o).1 = 20 + 10) ∧ (okP h119 (some q118) ∧ (∀ h125 : Hp, h125 = stR h119 o 18 (some q118) → (okP h125 (some o) ∧ (∃ q127 : Nat, (hpK h125 q127).1 = 0 ∧ (∀ h128 : Hp, h128 = alc h125 q127 1 115 → (okA h128 (some q127) 1 (0 : Int32) ∧ (∀ h134 : Hp, h134 = stI h128 q127 ((0 : Int32)).toNatClampNeg (32 : Int32) → (okA h134 (some q127) 1 (1 : Int32) ∧ (∀ h136 : Hp, h136 = stI h134 q127 ((1 : Int32)).toNatClampNeg (99 : Int32) → (okA h136 (some q127) 1 (2 : Int32) ∧ (∀ h138 : Hp, h138 = stI h136 q127 ((2 : Int32)).toNatClampNeg (117 : Int32) → (okA h138 (some q127) 1 (3 : Int32) ∧ (∀ h140 : Hp, h140 = stI h138 q127 ((3 : Int32)).toNatClampNeg (116 : Int32) → (okA h140 (some q127) 1 (4 : Int32) ∧ (∀ h142 : Hp, h142 = stI h140 q127 ((4 : Int32)).toNatClampNeg (32 : Int32) → (okA h142 (some q127) 1 (5 : Int32) ∧ (∀ h144 : Hp, h144 = stI h142 q127 ((5 : Int32)).toNatClampNeg (119 : Int32) → (okA h144 (some q127) 1 (6 : Int32) ∧ (∀ h146 : Hp, h146 = stI h144 q127 ((6 : Int32)).toNatClampNeg (101 : Int32) → (okA h146 (some q127) 1 (7 : Int32) ∧ (∀ h148 : Hp, h148 = stI h146 q127 ((7 : Int32)).toNatClampNeg (97 : Int32) → (okA h148 (some q127) 1 (8 : Int32) ∧ (∀ h150 : Hp, h150 = stI h148 q127 ((8 : Int32)).toNatClampNeg (114 : Int32) → (okA h150 (some q127) 1 (9 : Int32) ∧ (∀ h152 : Hp, h152 = stI h150 q127 ((9 : Int32)).toNatClampNeg (32 : Int32) → (okA h152 (some q127) 1 (10 : Int32) ∧ (∀ h154 : Hp, h154 = stI h152 q127 ((10 : Int32)).toNatClampNeg (116 : Int32) → (okA h154 (some q127) 1 (11 : Int32) ∧ (∀ h156 : Hp, h156 = stI h154 q127 ((11 : Int32)).toNatClampNeg (97 : Int32) → (okA h156 (some q127) 1 (12 : Int32) ∧ (∀ h158 : Hp, h158 = stI h156 q127 ((12 : Int32)).toNatClampNeg (107 : Int32) → (okA h158 (some q127) 1 (13 : Int32) ∧ (∀ h160 : Hp, h160 = stI h158 q127 ((13 : Int32)).toNatClampNeg (101 : Int32) → (wp_X12_init_J208 o (32 : Int32) (14 : Int32) q127 q127 o Q h160)))))))))))))))))))))))))))))))))))))))))))))))))))))))))))))))))))))))))))))))))))))))))))))))))))))))))))))))))))
set_option maxHeartbeats 4000000 in
set_option maxRecDepth 100000 in
theorem t_X12_init_J977 {p : Program} {l : Launch} {e : Env} {s : State} {m : MethodId} {args : Array Value} {below : List Frame} {meth : Method} {c : Code} {G : GG} {base : Nat} {A0 : Nat → Nat} {g0 : Hp} (hM : Mx G base p s m args meth c cX12_init 1 none RX12 "<init>") (o : Nat) (Q : Hp → Prop) (A : Nat → Nat) (h : Hp) (H : Heap) (locs : List Loc) (ls : Array Slot) : Cx2 G base A0 g0 A h s.heap H locs → lo_has ls 1 [(0, .ref (A o))] → wp_X12_init_J977 o Q h → W p l e rm_X12_init s m args below meth c H locs 33 42849 (MQ below (va_Qv (fun (u : (Nat → Nat) × Hp) => Q u.2) (fun u t => PU2 G base A0 g0 u.1 u.2 t) (fun q => base ≤ q)) args s 38 42891 (fun q => base ≤ q)) (F0 m 977 ls []) := by
  intro hC hl hw
  unfold wp_X12_init_J977 at hw
  obtain ⟨hx, hb, hr, hml, hown, hts, hg, hs, hlk, hnm⟩ := id hM
  refine lv_aload_n hx hb dX12_init_977 rfl (lo_at hl 0 rfl) ?_
  refine lv_bipush (v := 10) hx hb dX12_init_978 (by decide) ?_
  obtain ⟨k535, hw⟩ := hw
  obtain ⟨q532, k534, hw⟩ := hw
  refine s_newI (N := 10) hx hb hts mk_arc_int hg hC q532 k534 (by decide) rfl (by decide) (Nat.le_of_ble_eq_true rfl) (Nat.le_of_ble_eq_true rfl) dX12_init_980 (fun A536 h533 H eh533 hE hC => ?_)
  replace hw := hw h533 eh533
  have e537 : A o = A536 o := ((hE _ (k535 _ rfl)).2).symm
  try rw [e537] at hl
  try rw [e537]
  refine W.widen (k := 34) (n := 42859) (Nat.le_of_ble_eq_true rfl) (Nat.le_of_ble_eq_true rfl) ?_
  obtain ⟨k538, hw⟩ := hw
  obtain ⟨k540, hw⟩ := hw
  refine s_putFR (v := some q532) hx hb hts hown hnm hg hC fb_10_55 k538 k540 (nv_a) (fv_a) mk_f_RX12_116 dX12_init_982 (fun h539 H locs eh539 hC => ?_)
  replace hw := hw h539 eh539
  refine lv_aload_n hx hb dX12_init_985 rfl (lo_at hl 0 rfl) ?_
  refine lv_bipush (v := 10) hx hb dX12_init_986 (by decide) ?_
  obtain ⟨k544, hw⟩ := hw
  obtain ⟨q541, k543, hw⟩ := hw
  refine s_newI (N := 10) hx hb hts mk_arc_int hg hC q541 k543 (by decide) rfl (by decide) (Nat.le_of_ble_eq_true rfl) (Nat.le_of_ble_eq_true rfl) dX12_init_988 (fun A545 h542 H eh542 hE hC => ?_)
  replace hw := hw h542 eh542
  have e546 : A536 o = A545 o := ((hE _ (k544 _ rfl)).2).symm
  try rw [e546] at hl
  try rw [e546]
  refine W.widen (k := 35) (n := 42869) (Nat.le_of_ble_eq_true rfl) (Nat.le_of_ble_eq_true rfl) ?_
  obtain ⟨k547, hw⟩ := hw
  obtain ⟨k549, hw⟩ := hw
  refine s_putFR (v := some q541) hx hb hts hown hnm hg hC fb_10_56 k547 k549 (nv_a) (fv_a) mk_f_RX12_119 dX12_init_990 (fun h548 H locs eh548 hC => ?_)
  replace hw := hw h548 eh548
  refine lv_aload_n hx hb dX12_init_993 rfl (lo_at hl 0 rfl) ?_
  refine lv_bipush (v := 6) hx hb dX12_init_994 (by decide) ?_
  obtain ⟨k553, hw⟩ := hw
  obtain ⟨q550, k552, hw⟩ := hw
  refine s_newI (N := 6) hx hb hts mk_arc_int hg hC q550 k552 (by decide) rfl (by decide) (Nat.le_of_ble_eq_true rfl) (Nat.le_of_ble_eq_true rfl) dX12_init_996 (fun A554 h551 H eh551 hE hC => ?_)
  replace hw := hw h551 eh551
  have e555 : A545 o = A554 o := ((hE _ (k553 _ rfl)).2).symm
  try rw [e555] at hl
  try rw [e555]
  refine W.widen (k := 36) (n := 42875) (Nat.le_of_ble_eq_true rfl) (Nat.le_of_ble_eq_true rfl) ?_
  obtain ⟨k556, hw⟩ := hw
  obtain ⟨k558, hw⟩ := hw
  refine s_putFR (v := some q550) hx hb hts hown hnm hg hC fb_10_57 k556 k558 (nv_a) (fv_a) mk_f_RX12_122 dX12_init_998 (fun h557 H locs eh557 hC => ?_)
  replace hw := hw h557 eh557
  refine lv_aload_n hx hb dX12_init_1001 rfl (lo_at hl 0 rfl) ?_
  refine lv_bipush (v := 8) hx hb dX12_init_1002 (by decide) ?_
  obtain ⟨k562, hw⟩ := hw
  obtain ⟨q559, k561, hw⟩ := hw
  refine s_newL (N := 8) hx hb hts mk_arc_long hg hC q559 k561 (by decide) rfl (by decide) (Nat.le_of_ble_eq_true rfl) (Nat.le_of_ble_eq_true rfl) dX12_init_1004 (fun A563 h560 H eh560 hE hC => ?_)
  replace hw := hw h560 eh560
  have e564 : A554 o = A563 o := ((hE _ (k562 _ rfl)).2).symm
  try rw [e564] at hl
  try rw [e564]
  refine W.widen (k := 37) (n := 42883) (Nat.le_of_ble_eq_true rfl) (Nat.le_of_ble_eq_true rfl) ?_
  obtain ⟨k565, hw⟩ := hw
  obtain ⟨k567, hw⟩ := hw
  refine s_putFR (v := some q559) hx hb hts hown hnm hg hC fb_10_58 k565 k567 (nv_a) (fv_a) mk_f_RX12_125 dX12_init_1006 (fun h566 H locs eh566 hC => ?_)
  replace hw := hw h566 eh566
  refine lv_aload_n hx hb dX12_init_1009 rfl (lo_at hl 0 rfl) ?_
  refine lv_bipush (v := 8) hx hb dX12_init_1010 (by decide) ?_
  obtain ⟨k571, hw⟩ := hw
  obtain ⟨q568, k570, hw⟩ := hw
  refine s_newI (N := 8) hx hb hts mk_arc_int hg hC q568 k570 (by decide) rfl (by decide) (Nat.le_of_ble_eq_true rfl) (Nat.le_of_ble_eq_true rfl) dX12_init_1012 (fun A572 h569 H eh569 hE hC => ?_)
  replace hw := hw h569 eh569
  have e573 : A563 o = A572 o := ((hE _ (k571 _ rfl)).2).symm
  try rw [e573] at hl
  try rw [e573]
  refine W.widen (k := 38) (n := 42891) (Nat.le_of_ble_eq_true rfl) (Nat.le_of_ble_eq_true rfl) ?_
  obtain ⟨k574, hw⟩ := hw
  obtain ⟨k576, hw⟩ := hw
  refine s_putFR (v := some q568) hx hb hts hown hnm hg hC fb_10_59 k574 k576 (nv_a) (fv_a) mk_f_RX12_129 dX12_init_1014 (fun h575 H locs eh575 hC => ?_)
  replace hw := hw h575 eh575
  exact ret2_va hM hC hw dX12_init_1017
set_option maxHeartbeats 4000000 in
set_option maxRecDepth 100000 in
theorem t_X12_init_J748 {p : Program} {l : Launch} {e : Env} {s : State} {m : MethodId} {args : Array Value} {below : List Frame} {meth : Method} {c : Code} {G : GG} {base : Nat} {A0 : Nat → Nat} {g0 : Hp} (hM : Mx G base p s m args meth c cX12_init 1 none RX12 "<init>") (o : Nat) (s0 : Int32) (s1 : Int32) (s2 : Nat) (s3 : Nat) (s4 : Nat) (Q : Hp → Prop) (A : Nat → Nat) (h : Hp) (H : Heap) (locs : List Loc) (ls : Array Slot) : Cx2 G base A0 g0 A h s.heap H locs → lo_has ls 1 [(0, .ref (A o))] → wp_X12_init_J748 o s0 s1 s2 s3 s4 Q h → W p l e rm_X12_init s m args below meth c H locs 15 2911 (MQ below (va_Qv (fun (u : (Nat → Nat) × Hp) => Q u.2) (fun u t => PU2 G base A0 g0 u.1 u.2 t) (fun q => base ≤ q)) args s 38 42891 (fun q => base ≤ q)) (F0 m 748 ls [.int s0, .int s1, .ref (A s2), .ref (A s3), .ref (A s4)]) := by
  intro hC hl hw
  unfold wp_X12_init_J748 at hw
  obtain ⟨hx, hb, hr, hml, hown, hts, hg, hs, hlk, hnm⟩ := id hM
  obtain ⟨k341, hw⟩ := hw
  refine s_iast hx hb hg hC k341.2.1 k341.2.2 dX12_init_748 (fun h342 H locs eh342 hC => ?_)
  replace hw := hw h342 eh342
  refine lv_dup hx hb dX12_init_749 rfl ?_
  refine lv_bipush (v := 105) hx hb dX12_init_750 (by decide) ?_
  refine lv_bipush (v := 108) hx hb dX12_init_752 (by decide) ?_
  obtain ⟨k343, hw⟩ := hw
  refine s_iast hx hb hg hC k343.2.1 k343.2.2 dX12_init_754 (fun h344 H locs eh344 hC => ?_)
  replace hw := hw h344 eh344
  refine lv_dup hx hb dX12_init_755 rfl ?_
  refine lv_bipush (v := 106) hx hb dX12_init_756 (by decide) ?_
  refine lv_bipush (v := 97) hx hb dX12_init_758 (by decide) ?_
  obtain ⟨k345, hw⟩ := hw
  refine s_iast hx hb hg hC k345.2.1 k345.2.2 dX12_init_760 (fun h346 H locs eh346 hC => ?_)
  replace hw := hw h346 eh346
  refine lv_dup hx hb dX12_init_761 rfl ?_
  refine lv_bipush (v := 107) hx hb dX12_init_762 (by decide) ?_
  refine lv_bipush (v := 99) hx hb dX12_init_764 (by decide) ?_
  obtain ⟨k347, hw⟩ := hw
  refine s_iast hx hb hg hC k347.2.1 k347.2.2 dX12_init_766 (fun h348 H locs eh348 hC => ?_)
  replace hw := hw h348 eh348
  refine lv_dup hx hb dX12_init_767 rfl ?_
  refine lv_bipush (v := 108) hx hb dX12_init_768 (by decide) ?_
  refine lv_bipush (v := 107) hx hb dX12_init_770 (by decide) ?_
  obtain ⟨k349, hw⟩ := hw
  refine s_iast hx hb hg hC k349.2.1 k349.2.2 dX12_init_772 (fun h350 H locs eh350 hC => ?_)
  replace hw := hw h350 eh350
  refine lv_dup hx hb dX12_init_773 rfl ?_
  refine lv_bipush (v := 109) hx hb dX12_init_774 (by decide) ?_
  refine lv_bipush (v := 32) hx hb dX12_init_776 (by decide) ?_
  obtain ⟨k351, hw⟩ := hw
  refine s_iast hx hb hg hC k351.2.1 k351.2.2 dX12_init_778 (fun h352 H locs eh352 hC => ?_)
  replace hw := hw h352 eh352
  refine lv_dup hx hb dX12_init_779 rfl ?_
  refine lv_bipush (v := 110) hx hb dX12_init_780 (by decide) ?_
  refine lv_bipush (v := 116) hx hb dX12_init_782 (by decide) ?_
  obtain ⟨k353, hw⟩ := hw
  refine s_iast hx hb hg hC k353.2.1 k353.2.2 dX12_init_784 (fun h354 H locs eh354 hC => ?_)
  replace hw := hw h354 eh354
  refine lv_dup hx hb dX12_init_785 rfl ?_
  refine lv_bipush (v := 111) hx hb dX12_init_786 (by decide) ?_
  refine lv_bipush (v := 111) hx hb dX12_init_788 (by decide) ?_
  obtain ⟨k355, hw⟩ := hw
  refine s_iast hx hb hg hC k355.2.1 k355.2.2 dX12_init_790 (fun h356 H locs eh356 hC => ?_)
  replace hw := hw h356 eh356
  refine lv_dup hx hb dX12_init_791 rfl ?_
  refine lv_bipush (v := 112) hx hb dX12_init_792 (by decide) ?_
  refine lv_bipush (v := 108) hx hb dX12_init_794 (by decide) ?_
  obtain ⟨k357, hw⟩ := hw
  refine s_iast hx hb hg hC k357.2.1 k357.2.2 dX12_init_796 (fun h358 H locs eh358 hC => ?_)
  replace hw := hw h358 eh358
  refine lv_dup hx hb dX12_init_797 rfl ?_
  refine lv_bipush (v := 113) hx hb dX12_init_798 (by decide) ?_
  refine lv_bipush (v := 100) hx hb dX12_init_800 (by decide) ?_
  obtain ⟨k359, hw⟩ := hw
  refine s_iast hx hb hg hC k359.2.1 k359.2.2 dX12_init_802 (fun h360 H locs eh360 hC => ?_)
  replace hw := hw h360 eh360
  refine lv_dup hx hb dX12_init_803 rfl ?_
  refine lv_bipush (v := 114) hx hb dX12_init_804 (by decide) ?_
  refine lv_bipush (v := 32) hx hb dX12_init_806 (by decide) ?_
  obtain ⟨k361, hw⟩ := hw
  refine s_iast hx hb hg hC k361.2.1 k361.2.2 dX12_init_808 (fun h362 H locs eh362 hC => ?_)
  replace hw := hw h362 eh362
  obtain ⟨k363, hw⟩ := hw
  obtain ⟨k365, hw⟩ := hw
  refine s_putFR (v := some s3) hx hb hts hown hnm hg hC fb_10_24 k363 k365 (nv_a) (fv_a) mk_f_RX12_52 dX12_init_809 (fun h364 H locs eh364 hC => ?_)
  replace hw := hw h364 eh364
  refine lv_aload_n hx hb dX12_init_812 rfl (lo_at hl 0 rfl) ?_
  refine lv_bipush (v := 8) hx hb dX12_init_813 (by decide) ?_
  obtain ⟨k369, hw⟩ := hw
  obtain ⟨q366, k368, hw⟩ := hw
  refine s_newI (N := 8) hx hb hts mk_arc_int hg hC q366 k368 (by decide) rfl (by decide) (Nat.le_of_ble_eq_true rfl) (Nat.le_of_ble_eq_true rfl) dX12_init_815 (fun A370 h367 H eh367 hE hC => ?_)
  replace hw := hw h367 eh367
  have e371 : A o = A370 o := ((hE _ (k369 _ rfl)).2).symm
  try rw [e371] at hl
  try rw [e371]
  refine W.widen (k := 16) (n := 2919) (Nat.le_of_ble_eq_true rfl) (Nat.le_of_ble_eq_true rfl) ?_
  obtain ⟨k372, hw⟩ := hw
  obtain ⟨k374, hw⟩ := hw
  refine s_putFR (v := some q366) hx hb hts hown hnm hg hC fb_10_25 k372 k374 (nv_a) (fv_a) mk_f_RX12_55 dX12_init_817 (fun h373 H locs eh373 hC => ?_)
  replace hw := hw h373 eh373
  refine lv_aload_n hx hb dX12_init_820 rfl (lo_at hl 0 rfl) ?_
  refine lv_sipush (v := 128) hx hb dX12_init_821 (by decide) ?_
  obtain ⟨k378, hw⟩ := hw
  obtain ⟨q375, k377, hw⟩ := hw
  refine s_newI (N := 128) hx hb hts mk_arc_int hg hC q375 k377 (by decide) rfl (by decide) (Nat.le_of_ble_eq_true rfl) (Nat.le_of_ble_eq_true rfl) dX12_init_824 (fun A379 h376 H eh376 hE hC => ?_)
  replace hw := hw h376 eh376
  have e380 : A370 o = A379 o := ((hE _ (k378 _ rfl)).2).symm
  try rw [e380] at hl
  try rw [e380]
  refine W.widen (k := 17) (n := 3047) (Nat.le_of_ble_eq_true rfl) (Nat.le_of_ble_eq_true rfl) ?_
  obtain ⟨k381, hw⟩ := hw
  obtain ⟨k383, hw⟩ := hw
  refine s_putFR (v := some q375) hx hb hts hown hnm hg hC fb_10_26 k381 k383 (nv_a) (fv_a) mk_f_RX12_58 dX12_init_826 (fun h382 H locs eh382 hC => ?_)
  replace hw := hw h382 eh382
  refine lv_aload_n hx hb dX12_init_829 rfl (lo_at hl 0 rfl) ?_
  refine lv_sipush (v := 128) hx hb dX12_init_830 (by decide) ?_
  obtain ⟨k387, hw⟩ := hw
  obtain ⟨q384, k386, hw⟩ := hw
  refine s_newI (N := 128) hx hb hts mk_arc_int hg hC q384 k386 (by decide) rfl (by decide) (Nat.le_of_ble_eq_true rfl) (Nat.le_of_ble_eq_true rfl) dX12_init_833 (fun A388 h385 H eh385 hE hC => ?_)
  replace hw := hw h385 eh385
  have e389 : A379 o = A388 o := ((hE _ (k387 _ rfl)).2).symm
  try rw [e389] at hl
  try rw [e389]
  refine W.widen (k := 18) (n := 3175) (Nat.le_of_ble_eq_true rfl) (Nat.le_of_ble_eq_true rfl) ?_
  obtain ⟨k390, hw⟩ := hw
  obtain ⟨k392, hw⟩ := hw
  refine s_putFR (v := some q384) hx hb hts hown hnm hg hC fb_10_27 k390 k392 (nv_a) (fv_a) mk_f_RX12_61 dX12_init_835 (fun h391 H locs eh391 hC => ?_)
  replace hw := hw h391 eh391
  refine lv_aload_n hx hb dX12_init_838 rfl (lo_at hl 0 rfl) ?_
  refine lv_sipush (v := 128) hx hb dX12_init_839 (by decide) ?_
  obtain ⟨k396, hw⟩ := hw
  obtain ⟨q393, k395, hw⟩ := hw
  refine s_newI (N := 128) hx hb hts mk_arc_int hg hC q393 k395 (by decide) rfl (by decide) (Nat.le_of_ble_eq_true rfl) (Nat.le_of_ble_eq_true rfl) dX12_init_842 (fun A397 h394 H eh394 hE hC => ?_)
  replace hw := hw h394 eh394
  have e398 : A388 o = A397 o := ((hE _ (k396 _ rfl)).2).symm
  try rw [e398] at hl
  try rw [e398]
  refine W.widen (k := 19) (n := 3303) (Nat.le_of_ble_eq_true rfl) (Nat.le_of_ble_eq_true rfl) ?_
  obtain ⟨k399, hw⟩ := hw
  obtain ⟨k401, hw⟩ := hw
  refine s_putFR (v := some q393) hx hb hts hown hnm hg hC fb_10_28 k399 k401 (nv_a) (fv_a) mk_f_RX12_64 dX12_init_844 (fun h400 H locs eh400 hC => ?_)
  replace hw := hw h400 eh400
  refine lv_aload_n hx hb dX12_init_847 rfl (lo_at hl 0 rfl) ?_
  refine lv_sipush (v := 128) hx hb dX12_init_848 (by decide) ?_
  obtain ⟨k405, hw⟩ := hw
  obtain ⟨q402, k404, hw⟩ := hw
  refine s_newI (N := 128) hx hb hts mk_arc_int hg hC q402 k404 (by decide) rfl (by decide) (Nat.le_of_ble_eq_true rfl) (Nat.le_of_ble_eq_true rfl) dX12_init_851 (fun A406 h403 H eh403 hE hC => ?_)
  replace hw := hw h403 eh403
  have e407 : A397 o = A406 o := ((hE _ (k405 _ rfl)).2).symm
  try rw [e407] at hl
  try rw [e407]
  refine W.widen (k := 20) (n := 3431) (Nat.le_of_ble_eq_true rfl) (Nat.le_of_ble_eq_true rfl) ?_
  obtain ⟨k408, hw⟩ := hw
  obtain ⟨k410, hw⟩ := hw
  refine s_putFR (v := some q402) hx hb hts hown hnm hg hC fb_10_29 k408 k410 (nv_a) (fv_a) mk_f_RX12_67 dX12_init_853 (fun h409 H locs eh409 hC => ?_)
  replace hw := hw h409 eh409
  refine lv_aload_n hx hb dX12_init_856 rfl (lo_at hl 0 rfl) ?_
  refine lv_sipush (v := 4800) hx hb dX12_init_857 (by decide) ?_
  obtain ⟨k414, hw⟩ := hw
  obtain ⟨q411, k413, hw⟩ := hw
  refine s_newI (N := 4800) hx hb hts mk_arc_int hg hC q411 k413 (by decide) rfl (by decide) (Nat.le_of_ble_eq_true rfl) (Nat.le_of_ble_eq_true rfl) dX12_init_860 (fun A415 h412 H eh412 hE hC => ?_)
  replace hw := hw h412 eh412
  have e416 : A406 o = A415 o := ((hE _ (k414 _ rfl)).2).symm
  try rw [e416] at hl
  try rw [e416]
  refine W.widen (k := 21) (n := 8231) (Nat.le_of_ble_eq_true rfl) (Nat.le_of_ble_eq_true rfl) ?_
  obtain ⟨k417, hw⟩ := hw
  obtain ⟨k419, hw⟩ := hw
  refine s_putFR (v := some q411) hx hb hts hown hnm hg hC fb_10_30 k417 k419 (nv_a) (fv_a) mk_f_RX12_70 dX12_init_862 (fun h418 H locs eh418 hC => ?_)
  replace hw := hw h418 eh418
  refine lv_aload_n hx hb dX12_init_865 rfl (lo_at hl 0 rfl) ?_
  refine lv_sipush (v := 4800) hx hb dX12_init_866 (by decide) ?_
  obtain ⟨k423, hw⟩ := hw
  obtain ⟨q420, k422, hw⟩ := hw
  refine s_newI (N := 4800) hx hb hts mk_arc_int hg hC q420 k422 (by decide) rfl (by decide) (Nat.le_of_ble_eq_true rfl) (Nat.le_of_ble_eq_true rfl) dX12_init_869 (fun A424 h421 H eh421 hE hC => ?_)
  replace hw := hw h421 eh421
  have e425 : A415 o = A424 o := ((hE _ (k423 _ rfl)).2).symm
  try rw [e425] at hl
  try rw [e425]
  refine W.widen (k := 22) (n := 13031) (Nat.le_of_ble_eq_true rfl) (Nat.le_of_ble_eq_true rfl) ?_
  obtain ⟨k426, hw⟩ := hw
  obtain ⟨k428, hw⟩ := hw
  refine s_putFR (v := some q420) hx hb hts hown hnm hg hC fb_10_31 k426 k428 (nv_a) (fv_a) mk_f_RX12_73 dX12_init_871 (fun h427 H locs eh427 hC => ?_)
  replace hw := hw h427 eh427
  refine lv_aload_n hx hb dX12_init_874 rfl (lo_at hl 0 rfl) ?_
  refine lv_bipush (v := 40) hx hb dX12_init_875 (by decide) ?_
  obtain ⟨k432, hw⟩ := hw
  obtain ⟨q429, k431, hw⟩ := hw
  refine s_newI (N := 40) hx hb hts mk_arc_int hg hC q429 k431 (by decide) rfl (by decide) (Nat.le_of_ble_eq_true rfl) (Nat.le_of_ble_eq_true rfl) dX12_init_877 (fun A433 h430 H eh430 hE hC => ?_)
  replace hw := hw h430 eh430
  have e434 : A424 o = A433 o := ((hE _ (k432 _ rfl)).2).symm
  try rw [e434] at hl
  try rw [e434]
  refine W.widen (k := 23) (n := 13071) (Nat.le_of_ble_eq_true rfl) (Nat.le_of_ble_eq_true rfl) ?_
  obtain ⟨k435, hw⟩ := hw
  obtain ⟨k437, hw⟩ := hw
  refine s_putFR (v := some q429) hx hb hts hown hnm hg hC fb_10_35 k435 k437 (nv_a) (fv_a) mk_f_RX12_76 dX12_init_879 (fun h436 H locs eh436 hC => ?_)
  replace hw := hw h436 eh436
  refine lv_aload_n hx hb dX12_init_882 rfl (lo_at hl 0 rfl) ?_
  refine lv_iconst (v := -1) hx hb dX12_init_883 (by decide) ?_
  obtain ⟨k438, hw⟩ := hw
  refine s_putI hx hb hts hown hg hC fb_10_40 k438 rfl rfl mk_f_RX12_79 dX12_init_884 (fun h439 H locs eh439 hC => ?_)
  replace hw := hw h439 eh439
  refine lv_aload_n hx hb dX12_init_887 rfl (lo_at hl 0 rfl) ?_
  refine lv_bipush (v := 14) hx hb dX12_init_888 (by decide) ?_
  obtain ⟨k443, hw⟩ := hw
  obtain ⟨q440, k442, hw⟩ := hw
  refine s_newI (N := 14) hx hb hts mk_arc_int hg hC q440 k442 (by decide) rfl (by decide) (Nat.le_of_ble_eq_true rfl) (Nat.le_of_ble_eq_true rfl) dX12_init_890 (fun A444 h441 H eh441 hE hC => ?_)
  replace hw := hw h441 eh441
  have e445 : A433 o = A444 o := ((hE _ (k443 _ rfl)).2).symm
  try rw [e445] at hl
  try rw [e445]
  refine W.widen (k := 24) (n := 13085) (Nat.le_of_ble_eq_true rfl) (Nat.le_of_ble_eq_true rfl) ?_
  obtain ⟨k446, hw⟩ := hw
  obtain ⟨k448, hw⟩ := hw
  refine s_putFR (v := some q440) hx hb hts hown hnm hg hC fb_10_41 k446 k448 (nv_a) (fv_a) mk_f_RX12_83 dX12_init_892 (fun h447 H locs eh447 hC => ?_)
  replace hw := hw h447 eh447
  refine lv_aload_n hx hb dX12_init_895 rfl (lo_at hl 0 rfl) ?_
  refine lv_sipush (v := 620) hx hb dX12_init_896 (by decide) ?_
  obtain ⟨k452, hw⟩ := hw
  obtain ⟨q449, k451, hw⟩ := hw
  refine s_newI (N := 620) hx hb hts mk_arc_int hg hC q449 k451 (by decide) rfl (by decide) (Nat.le_of_ble_eq_true rfl) (Nat.le_of_ble_eq_true rfl) dX12_init_899 (fun A453 h450 H eh450 hE hC => ?_)
  replace hw := hw h450 eh450
  have e454 : A444 o = A453 o := ((hE _ (k452 _ rfl)).2).symm
  try rw [e454] at hl
  try rw [e454]
  refine W.widen (k := 25) (n := 13705) (Nat.le_of_ble_eq_true rfl) (Nat.le_of_ble_eq_true rfl) ?_
  obtain ⟨k455, hw⟩ := hw
  obtain ⟨k457, hw⟩ := hw
  refine s_putFR (v := some q449) hx hb hts hown hnm hg hC fb_10_42 k455 k457 (nv_a) (fv_a) mk_f_RX12_86 dX12_init_901 (fun h456 H locs eh456 hC => ?_)
  replace hw := hw h456 eh456
  refine lv_aload_n hx hb dX12_init_904 rfl (lo_at hl 0 rfl) ?_
  refine lv_bipush (v := 32) hx hb dX12_init_905 (by decide) ?_
  obtain ⟨k461, hw⟩ := hw
  obtain ⟨q458, k460, hw⟩ := hw
  refine s_newI (N := 32) hx hb hts mk_arc_int hg hC q458 k460 (by decide) rfl (by decide) (Nat.le_of_ble_eq_true rfl) (Nat.le_of_ble_eq_true rfl) dX12_init_907 (fun A462 h459 H eh459 hE hC => ?_)
  replace hw := hw h459 eh459
  have e463 : A453 o = A462 o := ((hE _ (k461 _ rfl)).2).symm
  try rw [e463] at hl
  try rw [e463]
  refine W.widen (k := 26) (n := 13737) (Nat.le_of_ble_eq_true rfl) (Nat.le_of_ble_eq_true rfl) ?_
  obtain ⟨k464, hw⟩ := hw
  obtain ⟨k466, hw⟩ := hw
  refine s_putFR (v := some q458) hx hb hts hown hnm hg hC fb_10_44 k464 k466 (nv_a) (fv_a) mk_f_RX12_89 dX12_init_909 (fun h465 H locs eh465 hC => ?_)
  replace hw := hw h465 eh465
  refine lv_aload_n hx hb dX12_init_912 rfl (lo_at hl 0 rfl) ?_
  refine lv_bipush (v := 6) hx hb dX12_init_913 (by decide) ?_
  obtain ⟨k470, hw⟩ := hw
  obtain ⟨q467, k469, hw⟩ := hw
  refine s_newI (N := 6) hx hb hts mk_arc_int hg hC q467 k469 (by decide) rfl (by decide) (Nat.le_of_ble_eq_true rfl) (Nat.le_of_ble_eq_true rfl) dX12_init_915 (fun A471 h468 H eh468 hE hC => ?_)
  replace hw := hw h468 eh468
  have e472 : A462 o = A471 o := ((hE _ (k470 _ rfl)).2).symm
  try rw [e472] at hl
  try rw [e472]
  refine W.widen (k := 27) (n := 13743) (Nat.le_of_ble_eq_true rfl) (Nat.le_of_ble_eq_true rfl) ?_
  obtain ⟨k473, hw⟩ := hw
  obtain ⟨k475, hw⟩ := hw
  refine s_putFR (v := some q467) hx hb hts hown hnm hg hC fb_10_46 k473 k475 (nv_a) (fv_a) mk_f_RX12_92 dX12_init_917 (fun h474 H locs eh474 hC => ?_)
  replace hw := hw h474 eh474
  refine lv_aload_n hx hb dX12_init_920 rfl (lo_at hl 0 rfl) ?_
  refine lv_sipush (v := 128) hx hb dX12_init_921 (by decide) ?_
  obtain ⟨k479, hw⟩ := hw
  obtain ⟨q476, k478, hw⟩ := hw
  refine s_newI (N := 128) hx hb hts mk_arc_int hg hC q476 k478 (by decide) rfl (by decide) (Nat.le_of_ble_eq_true rfl) (Nat.le_of_ble_eq_true rfl) dX12_init_924 (fun A480 h477 H eh477 hE hC => ?_)
  replace hw := hw h477 eh477
  have e481 : A471 o = A480 o := ((hE _ (k479 _ rfl)).2).symm
  try rw [e481] at hl
  try rw [e481]
  refine W.widen (k := 28) (n := 13871) (Nat.le_of_ble_eq_true rfl) (Nat.le_of_ble_eq_true rfl) ?_
  obtain ⟨k482, hw⟩ := hw
  obtain ⟨k484, hw⟩ := hw
  refine s_putFR (v := some q476) hx hb hts hown hnm hg hC fb_10_47 k482 k484 (nv_a) (fv_a) mk_f_RX12_95 dX12_init_926 (fun h483 H locs eh483 hC => ?_)
  replace hw := hw h483 eh483
  refine lv_aload_n hx hb dX12_init_929 rfl (lo_at hl 0 rfl) ?_
  refine lv_sipush (v := 128) hx hb dX12_init_930 (by decide) ?_
  obtain ⟨k488, hw⟩ := hw
  obtain ⟨q485, k487, hw⟩ := hw
  refine s_newI (N := 128) hx hb hts mk_arc_int hg hC q485 k487 (by decide) rfl (by decide) (Nat.le_of_ble_eq_true rfl) (Nat.le_of_ble_eq_true rfl) dX12_init_933 (fun A489 h486 H eh486 hE hC => ?_)
  replace hw := hw h486 eh486
  have e490 : A480 o = A489 o := ((hE _ (k488 _ rfl)).2).symm
  try rw [e490] at hl
  try rw [e490]
  refine W.widen (k := 29) (n := 13999) (Nat.le_of_ble_eq_true rfl) (Nat.le_of_ble_eq_true rfl) ?_
  obtain ⟨k491, hw⟩ := hw
  obtain ⟨k493, hw⟩ := hw
  refine s_putFR (v := some q485) hx hb hts hown hnm hg hC fb_10_48 k491 k493 (nv_a) (fv_a) mk_f_RX12_98 dX12_init_935 (fun h492 H locs eh492 hC => ?_)
  replace hw := hw h492 eh492
  refine lv_aload_n hx hb dX12_init_938 rfl (lo_at hl 0 rfl) ?_
  refine lv_iconst (v := -1) hx hb dX12_init_939 (by decide) ?_
  obtain ⟨k494, hw⟩ := hw
  refine s_putI hx hb hts hown hg hC fb_10_49 k494 rfl rfl mk_f_RX12_101 dX12_init_940 (fun h495 H locs eh495 hC => ?_)
  replace hw := hw h495 eh495
  refine lv_aload_n hx hb dX12_init_943 rfl (lo_at hl 0 rfl) ?_
  refine lv_sipush (v := 19200) hx hb dX12_init_944 (by decide) ?_
  obtain ⟨k499, hw⟩ := hw
  obtain ⟨q496, k498, hw⟩ := hw
  refine s_newI (N := 19200) hx hb hts mk_arc_int hg hC q496 k498 (by decide) rfl (by decide) (Nat.le_of_ble_eq_true rfl) (Nat.le_of_ble_eq_true rfl) dX12_init_947 (fun A500 h497 H eh497 hE hC => ?_)
  replace hw := hw h497 eh497
  have e501 : A489 o = A500 o := ((hE _ (k499 _ rfl)).2).symm
  try rw [e501] at hl
  try rw [e501]
  refine W.widen (k := 30) (n := 33199) (Nat.le_of_ble_eq_true rfl) (Nat.le_of_ble_eq_true rfl) ?_
  obtain ⟨k502, hw⟩ := hw
  obtain ⟨k504, hw⟩ := hw
  refine s_putFR (v := some q496) hx hb hts hown hnm hg hC fb_10_50 k502 k504 (nv_a) (fv_a) mk_f_RX12_104 dX12_init_949 (fun h503 H locs eh503 hC => ?_)
  replace hw := hw h503 eh503
  refine lv_aload_n hx hb dX12_init_952 rfl (lo_at hl 0 rfl) ?_
  refine lv_sipush (v := 9600) hx hb dX12_init_953 (by decide) ?_
  obtain ⟨k508, hw⟩ := hw
  obtain ⟨q505, k507, hw⟩ := hw
  refine s_newI (N := 9600) hx hb hts mk_arc_int hg hC q505 k507 (by decide) rfl (by decide) (Nat.le_of_ble_eq_true rfl) (Nat.le_of_ble_eq_true rfl) dX12_init_956 (fun A509 h506 H eh506 hE hC => ?_)
  replace hw := hw h506 eh506
  have e510 : A500 o = A509 o := ((hE _ (k508 _ rfl)).2).symm
  try rw [e510] at hl
  try rw [e510]
  refine W.widen (k := 31) (n := 42799) (Nat.le_of_ble_eq_true rfl) (Nat.le_of_ble_eq_true rfl) ?_
  obtain ⟨k511, hw⟩ := hw
  obtain ⟨k513, hw⟩ := hw
  refine s_putFR (v := some q505) hx hb hts hown hnm hg hC fb_10_51 k511 k513 (nv_a) (fv_a) mk_f_RX12_107 dX12_init_958 (fun h512 H locs eh512 hC => ?_)
  replace hw := hw h512 eh512
  refine lv_aload_n hx hb dX12_init_961 rfl (lo_at hl 0 rfl) ?_
  refine lv_bipush (v := 40) hx hb dX12_init_962 (by decide) ?_
  obtain ⟨k517, hw⟩ := hw
  obtain ⟨q514, k516, hw⟩ := hw
  refine s_newI (N := 40) hx hb hts mk_arc_int hg hC q514 k516 (by decide) rfl (by decide) (Nat.le_of_ble_eq_true rfl) (Nat.le_of_ble_eq_true rfl) dX12_init_964 (fun A518 h515 H eh515 hE hC => ?_)
  replace hw := hw h515 eh515
  have e519 : A509 o = A518 o := ((hE _ (k517 _ rfl)).2).symm
  try rw [e519] at hl
  try rw [e519]
  refine W.widen (k := 32) (n := 42839) (Nat.le_of_ble_eq_true rfl) (Nat.le_of_ble_eq_true rfl) ?_
  obtain ⟨k520, hw⟩ := hw
  obtain ⟨k522, hw⟩ := hw
  refine s_putFR (v := some q514) hx hb hts hown hnm hg hC fb_10_52 k520 k522 (nv_a) (fv_a) mk_f_RX12_110 dX12_init_966 (fun h521 H locs eh521 hC => ?_)
  replace hw := hw h521 eh521
  refine lv_aload_n hx hb dX12_init_969 rfl (lo_at hl 0 rfl) ?_
  refine lv_bipush (v := 10) hx hb dX12_init_970 (by decide) ?_
  obtain ⟨k526, hw⟩ := hw
  obtain ⟨q523, k525, hw⟩ := hw
  refine s_newI (N := 10) hx hb hts mk_arc_int hg hC q523 k525 (by decide) rfl (by decide) (Nat.le_of_ble_eq_true rfl) (Nat.le_of_ble_eq_true rfl) dX12_init_972 (fun A527 h524 H eh524 hE hC => ?_)
  replace hw := hw h524 eh524
  have e528 : A518 o = A527 o := ((hE _ (k526 _ rfl)).2).symm
  try rw [e528] at hl
  try rw [e528]
  refine W.widen (k := 33) (n := 42849) (Nat.le_of_ble_eq_true rfl) (Nat.le_of_ble_eq_true rfl) ?_
  obtain ⟨k529, hw⟩ := hw
  obtain ⟨k531, hw⟩ := hw
  refine s_putFR (v := some q523) hx hb hts hown hnm hg hC fb_10_54 k529 k531 (nv_a) (fv_a) mk_f_RX12_113 dX12_init_974 (fun h530 H locs eh530 hC => ?_)
  replace hw := hw h530 eh530
  exact t_X12_init_J977 hM o Q  A527 h530 H locs ls hC (lo_sub hl [0] rfl) hw
set_option maxHeartbeats 4000000 in
set_option maxRecDepth 100000 in
theorem t_X12_init_J568 {p : Program} {l : Launch} {e : Env} {s : State} {m : MethodId} {args : Array Value} {below : List Frame} {meth : Method} {c : Code} {G : GG} {base : Nat} {A0 : Nat → Nat} {g0 : Hp} (hM : Mx G base p s m args meth c cX12_init 1 none RX12 "<init>") (o : Nat) (s0 : Int32) (s1 : Int32) (s2 : Nat) (s3 : Nat) (s4 : Nat) (Q : Hp → Prop) (A : Nat → Nat) (h : Hp) (H : Heap) (locs : List Loc) (ls : Array Slot) : Cx2 G base A0 g0 A h s.heap H locs → lo_has ls 1 [(0, .ref (A o))] → wp_X12_init_J568 o s0 s1 s2 s3 s4 Q h → W p l e rm_X12_init s m args below meth c H locs 15 2911 (MQ below (va_Qv (fun (u : (Nat → Nat) × Hp) => Q u.2) (fun u t => PU2 G base A0 g0 u.1 u.2 t) (fun q => base ≤ q)) args s 38 42891 (fun q => base ≤ q)) (F0 m 568 ls [.int s0, .int s1, .ref (A s2), .ref (A s3), .ref (A s4)]) := by
  intro hC hl hw
  unfold wp_X12_init_J568 at hw
  obtain ⟨hx, hb, hr, hml, hown, hts, hg, hs, hlk, hnm⟩ := id hM
  obtain ⟨k281, hw⟩ := hw
  refine s_iast hx hb hg hC k281.2.1 k281.2.2 dX12_init_568 (fun h282 H locs eh282 hC => ?_)
  replace hw := hw h282 eh282
  refine lv_dup hx hb dX12_init_569 rfl ?_
  refine lv_bipush (v := 75) hx hb dX12_init_570 (by decide) ?_
  refine lv_bipush (v := 111) hx hb dX12_init_572 (by decide) ?_
  obtain ⟨k283, hw⟩ := hw
  refine s_iast hx hb hg hC k283.2.1 k283.2.2 dX12_init_574 (fun h284 H locs eh284 hC => ?_)
  replace hw := hw h284 eh284
  refine lv_dup hx hb dX12_init_575 rfl ?_
  refine lv_bipush (v := 76) hx hb dX12_init_576 (by decide) ?_
  refine lv_bipush (v := 102) hx hb dX12_init_578 (by decide) ?_
  obtain ⟨k285, hw⟩ := hw
  refine s_iast hx hb hg hC k285.2.1 k285.2.2 dX12_init_580 (fun h286 H locs eh286 hC => ?_)
  replace hw := hw h286 eh286
  refine lv_dup hx hb dX12_init_581 rfl ?_
  refine lv_bipush (v := 77) hx hb dX12_init_582 (by decide) ?_
  refine lv_bipush (v := 116) hx hb dX12_init_584 (by decide) ?_
  obtain ⟨k287, hw⟩ := hw
  refine s_iast hx hb hg hC k287.2.1 k287.2.2 dX12_init_586 (fun h288 H locs eh288 hC => ?_)
  replace hw := hw h288 eh288
  refine lv_dup hx hb dX12_init_587 rfl ?_
  refine lv_bipush (v := 78) hx hb dX12_init_588 (by decide) ?_
  refine lv_bipush (v := 32) hx hb dX12_init_590 (by decide) ?_
  obtain ⟨k289, hw⟩ := hw
  refine s_iast hx hb hg hC k289.2.1 k289.2.2 dX12_init_592 (fun h290 H locs eh290 hC => ?_)
  replace hw := hw h290 eh290
  refine lv_dup hx hb dX12_init_593 rfl ?_
  refine lv_bipush (v := 79) hx hb dX12_init_594 (by decide) ?_
  refine lv_bipush (v := 98) hx hb dX12_init_596 (by decide) ?_
  obtain ⟨k291, hw⟩ := hw
  refine s_iast hx hb hg hC k291.2.1 k291.2.2 dX12_init_598 (fun h292 H locs eh292 hC => ?_)
  replace hw := hw h292 eh292
  refine lv_dup hx hb dX12_init_599 rfl ?_
  refine lv_bipush (v := 80) hx hb dX12_init_600 (by decide) ?_
  refine lv_bipush (v := 101) hx hb dX12_init_602 (by decide) ?_
  obtain ⟨k293, hw⟩ := hw
  refine s_iast hx hb hg hC k293.2.1 k293.2.2 dX12_init_604 (fun h294 H locs eh294 hC => ?_)
  replace hw := hw h294 eh294
  refine lv_dup hx hb dX12_init_605 rfl ?_
  refine lv_bipush (v := 81) hx hb dX12_init_606 (by decide) ?_
  refine lv_bipush (v := 115) hx hb dX12_init_608 (by decide) ?_
  obtain ⟨k295, hw⟩ := hw
  refine s_iast hx hb hg hC k295.2.1 k295.2.2 dX12_init_610 (fun h296 H locs eh296 hC => ?_)
  replace hw := hw h296 eh296
  refine lv_dup hx hb dX12_init_611 rfl ?_
  refine lv_bipush (v := 82) hx hb dX12_init_612 (by decide) ?_
  refine lv_bipush (v := 116) hx hb dX12_init_614 (by decide) ?_
  obtain ⟨k297, hw⟩ := hw
  refine s_iast hx hb hg hC k297.2.1 k297.2.2 dX12_init_616 (fun h298 H locs eh298 hC => ?_)
  replace hw := hw h298 eh298
  refine lv_dup hx hb dX12_init_617 rfl ?_
  refine lv_bipush (v := 83) hx hb dX12_init_618 (by decide) ?_
  refine lv_bipush (v := 32) hx hb dX12_init_620 (by decide) ?_
  obtain ⟨k299, hw⟩ := hw
  refine s_iast hx hb hg hC k299.2.1 k299.2.2 dX12_init_622 (fun h300 H locs eh300 hC => ?_)
  replace hw := hw h300 eh300
  refine lv_dup hx hb dX12_init_623 rfl ?_
  refine lv_bipush (v := 84) hx hb dX12_init_624 (by decide) ?_
  refine lv_bipush (v := 108) hx hb dX12_init_626 (by decide) ?_
  obtain ⟨k301, hw⟩ := hw
  refine s_iast hx hb hg hC k301.2.1 k301.2.2 dX12_init_628 (fun h302 H locs eh302 hC => ?_)
  replace hw := hw h302 eh302
  refine lv_dup hx hb dX12_init_629 rfl ?_
  refine lv_bipush (v := 85) hx hb dX12_init_630 (by decide) ?_
  refine lv_bipush (v := 111) hx hb dX12_init_632 (by decide) ?_
  obtain ⟨k303, hw⟩ := hw
  refine s_iast hx hb hg hC k303.2.1 k303.2.2 dX12_init_634 (fun h304 H locs eh304 hC => ?_)
  replace hw := hw h304 eh304
  refine lv_dup hx hb dX12_init_635 rfl ?_
  refine lv_bipush (v := 86) hx hb dX12_init_636 (by decide) ?_
  refine lv_bipush (v := 110) hx hb dX12_init_638 (by decide) ?_
  obtain ⟨k305, hw⟩ := hw
  refine s_iast hx hb hg hC k305.2.1 k305.2.2 dX12_init_640 (fun h306 H locs eh306 hC => ?_)
  replace hw := hw h306 eh306
  refine lv_dup hx hb dX12_init_641 rfl ?_
  refine lv_bipush (v := 87) hx hb dX12_init_642 (by decide) ?_
  refine lv_bipush (v := 103) hx hb dX12_init_644 (by decide) ?_
  obtain ⟨k307, hw⟩ := hw
  refine s_iast hx hb hg hC k307.2.1 k307.2.2 dX12_init_646 (fun h308 H locs eh308 hC => ?_)
  replace hw := hw h308 eh308
  refine lv_dup hx hb dX12_init_647 rfl ?_
  refine lv_bipush (v := 88) hx hb dX12_init_648 (by decide) ?_
  refine lv_bipush (v := 101) hx hb dX12_init_650 (by decide) ?_
  obtain ⟨k309, hw⟩ := hw
  refine s_iast hx hb hg hC k309.2.1 k309.2.2 dX12_init_652 (fun h310 H locs eh310 hC => ?_)
  replace hw := hw h310 eh310
  refine lv_dup hx hb dX12_init_653 rfl ?_
  refine lv_bipush (v := 89) hx hb dX12_init_654 (by decide) ?_
  refine lv_bipush (v := 115) hx hb dX12_init_656 (by decide) ?_
  obtain ⟨k311, hw⟩ := hw
  refine s_iast hx hb hg hC k311.2.1 k311.2.2 dX12_init_658 (fun h312 H locs eh312 hC => ?_)
  replace hw := hw h312 eh312
  refine lv_dup hx hb dX12_init_659 rfl ?_
  refine lv_bipush (v := 90) hx hb dX12_init_660 (by decide) ?_
  refine lv_bipush (v := 116) hx hb dX12_init_662 (by decide) ?_
  obtain ⟨k313, hw⟩ := hw
  refine s_iast hx hb hg hC k313.2.1 k313.2.2 dX12_init_664 (fun h314 H locs eh314 hC => ?_)
  replace hw := hw h314 eh314
  refine lv_dup hx hb dX12_init_665 rfl ?_
  refine lv_bipush (v := 91) hx hb dX12_init_666 (by decide) ?_
  refine lv_bipush (v := 32) hx hb dX12_init_668 (by decide) ?_
  obtain ⟨k315, hw⟩ := hw
  refine s_iast hx hb hg hC k315.2.1 k315.2.2 dX12_init_670 (fun h316 H locs eh316 hC => ?_)
  replace hw := hw h316 eh316
  refine lv_dup hx hb dX12_init_671 rfl ?_
  refine lv_bipush (v := 92) hx hb dX12_init_672 (by decide) ?_
  refine lv_bipush (v := 115) hx hb dX12_init_674 (by decide) ?_
  obtain ⟨k317, hw⟩ := hw
  refine s_iast hx hb hg hC k317.2.1 k317.2.2 dX12_init_676 (fun h318 H locs eh318 hC => ?_)
  replace hw := hw h318 eh318
  refine lv_dup hx hb dX12_init_677 rfl ?_
  refine lv_bipush (v := 93) hx hb dX12_init_678 (by decide) ?_
  refine lv_bipush (v := 108) hx hb dX12_init_680 (by decide) ?_
  obtain ⟨k319, hw⟩ := hw
  refine s_iast hx hb hg hC k319.2.1 k319.2.2 dX12_init_682 (fun h320 H locs eh320 hC => ?_)
  replace hw := hw h320 eh320
  refine lv_dup hx hb dX12_init_683 rfl ?_
  refine lv_bipush (v := 94) hx hb dX12_init_684 (by decide) ?_
  refine lv_bipush (v := 105) hx hb dX12_init_686 (by decide) ?_
  obtain ⟨k321, hw⟩ := hw
  refine s_iast hx hb hg hC k321.2.1 k321.2.2 dX12_init_688 (fun h322 H locs eh322 hC => ?_)
  replace hw := hw h322 eh322
  refine lv_dup hx hb dX12_init_689 rfl ?_
  refine lv_bipush (v := 95) hx hb dX12_init_690 (by decide) ?_
  refine lv_bipush (v := 100) hx hb dX12_init_692 (by decide) ?_
  obtain ⟨k323, hw⟩ := hw
  refine s_iast hx hb hg hC k323.2.1 k323.2.2 dX12_init_694 (fun h324 H locs eh324 hC => ?_)
  replace hw := hw h324 eh324
  refine lv_dup hx hb dX12_init_695 rfl ?_
  refine lv_bipush (v := 96) hx hb dX12_init_696 (by decide) ?_
  refine lv_bipush (v := 101) hx hb dX12_init_698 (by decide) ?_
  obtain ⟨k325, hw⟩ := hw
  refine s_iast hx hb hg hC k325.2.1 k325.2.2 dX12_init_700 (fun h326 H locs eh326 hC => ?_)
  replace hw := hw h326 eh326
  refine lv_dup hx hb dX12_init_701 rfl ?_
  refine lv_bipush (v := 97) hx hb dX12_init_702 (by decide) ?_
  refine lv_bipush (v := 32) hx hb dX12_init_704 (by decide) ?_
  obtain ⟨k327, hw⟩ := hw
  refine s_iast hx hb hg hC k327.2.1 k327.2.2 dX12_init_706 (fun h328 H locs eh328 hC => ?_)
  replace hw := hw h328 eh328
  refine lv_dup hx hb dX12_init_707 rfl ?_
  refine lv_bipush (v := 98) hx hb dX12_init_708 (by decide) ?_
  refine lv_bipush (v := 112) hx hb dX12_init_710 (by decide) ?_
  obtain ⟨k329, hw⟩ := hw
  refine s_iast hx hb hg hC k329.2.1 k329.2.2 dX12_init_712 (fun h330 H locs eh330 hC => ?_)
  replace hw := hw h330 eh330
  refine lv_dup hx hb dX12_init_713 rfl ?_
  refine lv_bipush (v := 99) hx hb dX12_init_714 (by decide) ?_
  refine lv_bipush (v := 105) hx hb dX12_init_716 (by decide) ?_
  obtain ⟨k331, hw⟩ := hw
  refine s_iast hx hb hg hC k331.2.1 k331.2.2 dX12_init_718 (fun h332 H locs eh332 hC => ?_)
  replace hw := hw h332 eh332
  refine lv_dup hx hb dX12_init_719 rfl ?_
  refine lv_bipush (v := 100) hx hb dX12_init_720 (by decide) ?_
  refine lv_bipush (v := 101) hx hb dX12_init_722 (by decide) ?_
  obtain ⟨k333, hw⟩ := hw
  refine s_iast hx hb hg hC k333.2.1 k333.2.2 dX12_init_724 (fun h334 H locs eh334 hC => ?_)
  replace hw := hw h334 eh334
  refine lv_dup hx hb dX12_init_725 rfl ?_
  refine lv_bipush (v := 101) hx hb dX12_init_726 (by decide) ?_
  refine lv_bipush (v := 99) hx hb dX12_init_728 (by decide) ?_
  obtain ⟨k335, hw⟩ := hw
  refine s_iast hx hb hg hC k335.2.1 k335.2.2 dX12_init_730 (fun h336 H locs eh336 hC => ?_)
  replace hw := hw h336 eh336
  refine lv_dup hx hb dX12_init_731 rfl ?_
  refine lv_bipush (v := 102) hx hb dX12_init_732 (by decide) ?_
  refine lv_bipush (v := 101) hx hb dX12_init_734 (by decide) ?_
  obtain ⟨k337, hw⟩ := hw
  refine s_iast hx hb hg hC k337.2.1 k337.2.2 dX12_init_736 (fun h338 H locs eh338 hC => ?_)
  replace hw := hw h338 eh338
  refine lv_dup hx hb dX12_init_737 rfl ?_
  refine lv_bipush (v := 103) hx hb dX12_init_738 (by decide) ?_
  refine lv_bipush (v := 115) hx hb dX12_init_740 (by decide) ?_
  obtain ⟨k339, hw⟩ := hw
  refine s_iast hx hb hg hC k339.2.1 k339.2.2 dX12_init_742 (fun h340 H locs eh340 hC => ?_)
  replace hw := hw h340 eh340
  refine lv_dup hx hb dX12_init_743 rfl ?_
  refine lv_bipush (v := 104) hx hb dX12_init_744 (by decide) ?_
  refine lv_bipush (v := 32) hx hb dX12_init_746 (by decide) ?_
  exact t_X12_init_J748 hM o (32 : Int32) (104 : Int32) s3 s3 s4 Q  A h340 H locs ls hC (lo_sub hl [0] rfl) hw
set_option maxHeartbeats 4000000 in
set_option maxRecDepth 100000 in
theorem t_X12_init_J388 {p : Program} {l : Launch} {e : Env} {s : State} {m : MethodId} {args : Array Value} {below : List Frame} {meth : Method} {c : Code} {G : GG} {base : Nat} {A0 : Nat → Nat} {g0 : Hp} (hM : Mx G base p s m args meth c cX12_init 1 none RX12 "<init>") (o : Nat) (s0 : Int32) (s1 : Int32) (s2 : Nat) (s3 : Nat) (s4 : Nat) (Q : Hp → Prop) (A : Nat → Nat) (h : Hp) (H : Heap) (locs : List Loc) (ls : Array Slot) : Cx2 G base A0 g0 A h s.heap H locs → lo_has ls 1 [(0, .ref (A o))] → wp_X12_init_J388 o s0 s1 s2 s3 s4 Q h → W p l e rm_X12_init s m args below meth c H locs 15 2911 (MQ below (va_Qv (fun (u : (Nat → Nat) × Hp) => Q u.2) (fun u t => PU2 G base A0 g0 u.1 u.2 t) (fun q => base ≤ q)) args s 38 42891 (fun q => base ≤ q)) (F0 m 388 ls [.int s0, .int s1, .ref (A s2), .ref (A s3), .ref (A s4)]) := by
  intro hC hl hw
  unfold wp_X12_init_J388 at hw
  obtain ⟨hx, hb, hr, hml, hown, hts, hg, hs, hlk, hnm⟩ := id hM
  obtain ⟨k221, hw⟩ := hw
  refine s_iast hx hb hg hC k221.2.1 k221.2.2 dX12_init_388 (fun h222 H locs eh222 hC => ?_)
  replace hw := hw h222 eh222
  refine lv_dup hx hb dX12_init_389 rfl ?_
  refine lv_bipush (v := 45) hx hb dX12_init_390 (by decide) ?_
  refine lv_bipush (v := 104) hx hb dX12_init_392 (by decide) ?_
  obtain ⟨k223, hw⟩ := hw
  refine s_iast hx hb hg hC k223.2.1 k223.2.2 dX12_init_394 (fun h224 H locs eh224 hC => ?_)
  replace hw := hw h224 eh224
  refine lv_dup hx hb dX12_init_395 rfl ?_
  refine lv_bipush (v := 46) hx hb dX12_init_396 (by decide) ?_
  refine lv_bipush (v := 32) hx hb dX12_init_398 (by decide) ?_
  obtain ⟨k225, hw⟩ := hw
  refine s_iast hx hb hg hC k225.2.1 k225.2.2 dX12_init_400 (fun h226 H locs eh226 hC => ?_)
  replace hw := hw h226 eh226
  refine lv_dup hx hb dX12_init_401 rfl ?_
  refine lv_bipush (v := 47) hx hb dX12_init_402 (by decide) ?_
  refine lv_bipush (v := 108) hx hb dX12_init_404 (by decide) ?_
  obtain ⟨k227, hw⟩ := hw
  refine s_iast hx hb hg hC k227.2.1 k227.2.2 dX12_init_406 (fun h228 H locs eh228 hC => ?_)
  replace hw := hw h228 eh228
  refine lv_dup hx hb dX12_init_407 rfl ?_
  refine lv_bipush (v := 48) hx hb dX12_init_408 (by decide) ?_
  refine lv_bipush (v := 101) hx hb dX12_init_410 (by decide) ?_
  obtain ⟨k229, hw⟩ := hw
  refine s_iast hx hb hg hC k229.2.1 k229.2.2 dX12_init_412 (fun h230 H locs eh230 hC => ?_)
  replace hw := hw h230 eh230
  refine lv_dup hx hb dX12_init_413 rfl ?_
  refine lv_bipush (v := 49) hx hb dX12_init_414 (by decide) ?_
  refine lv_bipush (v := 102) hx hb dX12_init_416 (by decide) ?_
  obtain ⟨k231, hw⟩ := hw
  refine s_iast hx hb hg hC k231.2.1 k231.2.2 dX12_init_418 (fun h232 H locs eh232 hC => ?_)
  replace hw := hw h232 eh232
  refine lv_dup hx hb dX12_init_419 rfl ?_
  refine lv_bipush (v := 50) hx hb dX12_init_420 (by decide) ?_
  refine lv_bipush (v := 116) hx hb dX12_init_422 (by decide) ?_
  obtain ⟨k233, hw⟩ := hw
  refine s_iast hx hb hg hC k233.2.1 k233.2.2 dX12_init_424 (fun h234 H locs eh234 hC => ?_)
  replace hw := hw h234 eh234
  refine lv_dup hx hb dX12_init_425 rfl ?_
  refine lv_bipush (v := 51) hx hb dX12_init_426 (by decide) ?_
  refine lv_bipush (v := 32) hx hb dX12_init_428 (by decide) ?_
  obtain ⟨k235, hw⟩ := hw
  refine s_iast hx hb hg hC k235.2.1 k235.2.2 dX12_init_430 (fun h236 H locs eh236 hC => ?_)
  replace hw := hw h236 eh236
  refine lv_dup hx hb dX12_init_431 rfl ?_
  refine lv_bipush (v := 52) hx hb dX12_init_432 (by decide) ?_
  refine lv_bipush (v := 114) hx hb dX12_init_434 (by decide) ?_
  obtain ⟨k237, hw⟩ := hw
  refine s_iast hx hb hg hC k237.2.1 k237.2.2 dX12_init_436 (fun h238 H locs eh238 hC => ?_)
  replace hw := hw h238 eh238
  refine lv_dup hx hb dX12_init_437 rfl ?_
  refine lv_bipush (v := 53) hx hb dX12_init_438 (by decide) ?_
  refine lv_bipush (v := 105) hx hb dX12_init_440 (by decide) ?_
  obtain ⟨k239, hw⟩ := hw
  refine s_iast hx hb hg hC k239.2.1 k239.2.2 dX12_init_442 (fun h240 H locs eh240 hC => ?_)
  replace hw := hw h240 eh240
  refine lv_dup hx hb dX12_init_443 rfl ?_
  refine lv_bipush (v := 54) hx hb dX12_init_444 (by decide) ?_
  refine lv_bipush (v := 103) hx hb dX12_init_446 (by decide) ?_
  obtain ⟨k241, hw⟩ := hw
  refine s_iast hx hb hg hC k241.2.1 k241.2.2 dX12_init_448 (fun h242 H locs eh242 hC => ?_)
  replace hw := hw h242 eh242
  refine lv_dup hx hb dX12_init_449 rfl ?_
  refine lv_bipush (v := 55) hx hb dX12_init_450 (by decide) ?_
  refine lv_bipush (v := 104) hx hb dX12_init_452 (by decide) ?_
  obtain ⟨k243, hw⟩ := hw
  refine s_iast hx hb hg hC k243.2.1 k243.2.2 dX12_init_454 (fun h244 H locs eh244 hC => ?_)
  replace hw := hw h244 eh244
  refine lv_dup hx hb dX12_init_455 rfl ?_
  refine lv_bipush (v := 56) hx hb dX12_init_456 (by decide) ?_
  refine lv_bipush (v := 116) hx hb dX12_init_458 (by decide) ?_
  obtain ⟨k245, hw⟩ := hw
  refine s_iast hx hb hg hC k245.2.1 k245.2.2 dX12_init_460 (fun h246 H locs eh246 hC => ?_)
  replace hw := hw h246 eh246
  refine lv_dup hx hb dX12_init_461 rfl ?_
  refine lv_bipush (v := 57) hx hb dX12_init_462 (by decide) ?_
  refine lv_bipush (v := 32) hx hb dX12_init_464 (by decide) ?_
  obtain ⟨k247, hw⟩ := hw
  refine s_iast hx hb hg hC k247.2.1 k247.2.2 dX12_init_466 (fun h248 H locs eh248 hC => ?_)
  replace hw := hw h248 eh248
  refine lv_dup hx hb dX12_init_467 rfl ?_
  refine lv_bipush (v := 58) hx hb dX12_init_468 (by decide) ?_
  refine lv_bipush (v := 100) hx hb dX12_init_470 (by decide) ?_
  obtain ⟨k249, hw⟩ := hw
  refine s_iast hx hb hg hC k249.2.1 k249.2.2 dX12_init_472 (fun h250 H locs eh250 hC => ?_)
  replace hw := hw h250 eh250
  refine lv_dup hx hb dX12_init_473 rfl ?_
  refine lv_bipush (v := 59) hx hb dX12_init_474 (by decide) ?_
  refine lv_bipush (v := 114) hx hb dX12_init_476 (by decide) ?_
  obtain ⟨k251, hw⟩ := hw
  refine s_iast hx hb hg hC k251.2.1 k251.2.2 dX12_init_478 (fun h252 H locs eh252 hC => ?_)
  replace hw := hw h252 eh252
  refine lv_dup hx hb dX12_init_479 rfl ?_
  refine lv_bipush (v := 60) hx hb dX12_init_480 (by decide) ?_
  refine lv_bipush (v := 97) hx hb dX12_init_482 (by decide) ?_
  obtain ⟨k253, hw⟩ := hw
  refine s_iast hx hb hg hC k253.2.1 k253.2.2 dX12_init_484 (fun h254 H locs eh254 hC => ?_)
  replace hw := hw h254 eh254
  refine lv_dup hx hb dX12_init_485 rfl ?_
  refine lv_bipush (v := 61) hx hb dX12_init_486 (by decide) ?_
  refine lv_bipush (v := 119) hx hb dX12_init_488 (by decide) ?_
  obtain ⟨k255, hw⟩ := hw
  refine s_iast hx hb hg hC k255.2.1 k255.2.2 dX12_init_490 (fun h256 H locs eh256 hC => ?_)
  replace hw := hw h256 eh256
  refine lv_dup hx hb dX12_init_491 rfl ?_
  refine lv_bipush (v := 62) hx hb dX12_init_492 (by decide) ?_
  refine lv_bipush (v := 32) hx hb dX12_init_494 (by decide) ?_
  obtain ⟨k257, hw⟩ := hw
  refine s_iast hx hb hg hC k257.2.1 k257.2.2 dX12_init_496 (fun h258 H locs eh258 hC => ?_)
  replace hw := hw h258 eh258
  refine lv_dup hx hb dX12_init_497 rfl ?_
  refine lv_bipush (v := 63) hx hb dX12_init_498 (by decide) ?_
  refine lv_bipush (v := 115) hx hb dX12_init_500 (by decide) ?_
  obtain ⟨k259, hw⟩ := hw
  refine s_iast hx hb hg hC k259.2.1 k259.2.2 dX12_init_502 (fun h260 H locs eh260 hC => ?_)
  replace hw := hw h260 eh260
  refine lv_dup hx hb dX12_init_503 rfl ?_
  refine lv_bipush (v := 64) hx hb dX12_init_504 (by decide) ?_
  refine lv_bipush (v := 104) hx hb dX12_init_506 (by decide) ?_
  obtain ⟨k261, hw⟩ := hw
  refine s_iast hx hb hg hC k261.2.1 k261.2.2 dX12_init_508 (fun h262 H locs eh262 hC => ?_)
  replace hw := hw h262 eh262
  refine lv_dup hx hb dX12_init_509 rfl ?_
  refine lv_bipush (v := 65) hx hb dX12_init_510 (by decide) ?_
  refine lv_bipush (v := 111) hx hb dX12_init_512 (by decide) ?_
  obtain ⟨k263, hw⟩ := hw
  refine s_iast hx hb hg hC k263.2.1 k263.2.2 dX12_init_514 (fun h264 H locs eh264 hC => ?_)
  replace hw := hw h264 eh264
  refine lv_dup hx hb dX12_init_515 rfl ?_
  refine lv_bipush (v := 66) hx hb dX12_init_516 (by decide) ?_
  refine lv_bipush (v := 116) hx hb dX12_init_518 (by decide) ?_
  obtain ⟨k265, hw⟩ := hw
  refine s_iast hx hb hg hC k265.2.1 k265.2.2 dX12_init_520 (fun h266 H locs eh266 hC => ?_)
  replace hw := hw h266 eh266
  refine lv_dup hx hb dX12_init_521 rfl ?_
  refine lv_bipush (v := 67) hx hb dX12_init_522 (by decide) ?_
  refine lv_bipush (v := 115) hx hb dX12_init_524 (by decide) ?_
  obtain ⟨k267, hw⟩ := hw
  refine s_iast hx hb hg hC k267.2.1 k267.2.2 dX12_init_526 (fun h268 H locs eh268 hC => ?_)
  replace hw := hw h268 eh268
  refine lv_dup hx hb dX12_init_527 rfl ?_
  refine lv_bipush (v := 68) hx hb dX12_init_528 (by decide) ?_
  refine lv_bipush (v := 32) hx hb dX12_init_530 (by decide) ?_
  obtain ⟨k269, hw⟩ := hw
  refine s_iast hx hb hg hC k269.2.1 k269.2.2 dX12_init_532 (fun h270 H locs eh270 hC => ?_)
  replace hw := hw h270 eh270
  refine lv_dup hx hb dX12_init_533 rfl ?_
  refine lv_bipush (v := 69) hx hb dX12_init_534 (by decide) ?_
  refine lv_bipush (v := 114) hx hb dX12_init_536 (by decide) ?_
  obtain ⟨k271, hw⟩ := hw
  refine s_iast hx hb hg hC k271.2.1 k271.2.2 dX12_init_538 (fun h272 H locs eh272 hC => ?_)
  replace hw := hw h272 eh272
  refine lv_dup hx hb dX12_init_539 rfl ?_
  refine lv_bipush (v := 70) hx hb dX12_init_540 (by decide) ?_
  refine lv_bipush (v := 117) hx hb dX12_init_542 (by decide) ?_
  obtain ⟨k273, hw⟩ := hw
  refine s_iast hx hb hg hC k273.2.1 k273.2.2 dX12_init_544 (fun h274 H locs eh274 hC => ?_)
  replace hw := hw h274 eh274
  refine lv_dup hx hb dX12_init_545 rfl ?_
  refine lv_bipush (v := 71) hx hb dX12_init_546 (by decide) ?_
  refine lv_bipush (v := 115) hx hb dX12_init_548 (by decide) ?_
  obtain ⟨k275, hw⟩ := hw
  refine s_iast hx hb hg hC k275.2.1 k275.2.2 dX12_init_550 (fun h276 H locs eh276 hC => ?_)
  replace hw := hw h276 eh276
  refine lv_dup hx hb dX12_init_551 rfl ?_
  refine lv_bipush (v := 72) hx hb dX12_init_552 (by decide) ?_
  refine lv_bipush (v := 116) hx hb dX12_init_554 (by decide) ?_
  obtain ⟨k277, hw⟩ := hw
  refine s_iast hx hb hg hC k277.2.1 k277.2.2 dX12_init_556 (fun h278 H locs eh278 hC => ?_)
  replace hw := hw h278 eh278
  refine lv_dup hx hb dX12_init_557 rfl ?_
  refine lv_bipush (v := 73) hx hb dX12_init_558 (by decide) ?_
  refine lv_bipush (v := 32) hx hb dX12_init_560 (by decide) ?_
  obtain ⟨k279, hw⟩ := hw
  refine s_iast hx hb hg hC k279.2.1 k279.2.2 dX12_init_562 (fun h280 H locs eh280 hC => ?_)
  replace hw := hw h280 eh280
  refine lv_dup hx hb dX12_init_563 rfl ?_
  refine lv_bipush (v := 74) hx hb dX12_init_564 (by decide) ?_
  refine lv_bipush (v := 115) hx hb dX12_init_566 (by decide) ?_
  exact t_X12_init_J568 hM o (115 : Int32) (74 : Int32) s3 s3 s4 Q  A h280 H locs ls hC (lo_sub hl [0] rfl) hw
set_option maxHeartbeats 4000000 in
set_option maxRecDepth 100000 in
theorem t_X12_init_J208 {p : Program} {l : Launch} {e : Env} {s : State} {m : MethodId} {args : Array Value} {below : List Frame} {meth : Method} {c : Code} {G : GG} {base : Nat} {A0 : Nat → Nat} {g0 : Hp} (hM : Mx G base p s m args meth c cX12_init 1 none RX12 "<init>") (o : Nat) (s0 : Int32) (s1 : Int32) (s2 : Nat) (s3 : Nat) (s4 : Nat) (Q : Hp → Prop) (A : Nat → Nat) (h : Hp) (H : Heap) (locs : List Loc) (ls : Array Slot) : Cx2 G base A0 g0 A h s.heap H locs → lo_has ls 1 [(0, .ref (A o))] → wp_X12_init_J208 o s0 s1 s2 s3 s4 Q h → W p l e rm_X12_init s m args below meth c H locs 15 2911 (MQ below (va_Qv (fun (u : (Nat → Nat) × Hp) => Q u.2) (fun u t => PU2 G base A0 g0 u.1 u.2 t) (fun q => base ≤ q)) args s 38 42891 (fun q => base ≤ q)) (F0 m 208 ls [.int s0, .int s1, .ref (A s2), .ref (A s3), .ref (A s4)]) := by
  intro hC hl hw
  unfold wp_X12_init_J208 at hw
  obtain ⟨hx, hb, hr, hml, hown, hts, hg, hs, hlk, hnm⟩ := id hM
  obtain ⟨k161, hw⟩ := hw
  refine s_iast hx hb hg hC k161.2.1 k161.2.2 dX12_init_208 (fun h162 H locs eh162 hC => ?_)
  replace hw := hw h162 eh162
  refine lv_dup hx hb dX12_init_209 rfl ?_
  refine lv_bipush (v := 15) hx hb dX12_init_210 (by decide) ?_
  refine lv_bipush (v := 115) hx hb dX12_init_212 (by decide) ?_
  obtain ⟨k163, hw⟩ := hw
  refine s_iast hx hb hg hC k163.2.1 k163.2.2 dX12_init_214 (fun h164 H locs eh164 hC => ?_)
  replace hw := hw h164 eh164
  refine lv_dup hx hb dX12_init_215 rfl ?_
  refine lv_bipush (v := 16) hx hb dX12_init_216 (by decide) ?_
  refine lv_bipush (v := 97) hx hb dX12_init_218 (by decide) ?_
  obtain ⟨k165, hw⟩ := hw
  refine s_iast hx hb hg hC k165.2.1 k165.2.2 dX12_init_220 (fun h166 H locs eh166 hC => ?_)
  replace hw := hw h166 eh166
  refine lv_dup hx hb dX12_init_221 rfl ?_
  refine lv_bipush (v := 17) hx hb dX12_init_222 (by decide) ?_
  refine lv_bipush (v := 109) hx hb dX12_init_224 (by decide) ?_
  obtain ⟨k167, hw⟩ := hw
  refine s_iast hx hb hg hC k167.2.1 k167.2.2 dX12_init_226 (fun h168 H locs eh168 hC => ?_)
  replace hw := hw h168 eh168
  refine lv_dup hx hb dX12_init_227 rfl ?_
  refine lv_bipush (v := 18) hx hb dX12_init_228 (by decide) ?_
  refine lv_bipush (v := 101) hx hb dX12_init_230 (by decide) ?_
  obtain ⟨k169, hw⟩ := hw
  refine s_iast hx hb hg hC k169.2.1 k169.2.2 dX12_init_232 (fun h170 H locs eh170 hC => ?_)
  replace hw := hw h170 eh170
  refine lv_dup hx hb dX12_init_233 rfl ?_
  refine lv_bipush (v := 19) hx hb dX12_init_234 (by decide) ?_
  refine lv_bipush (v := 32) hx hb dX12_init_236 (by decide) ?_
  obtain ⟨k171, hw⟩ := hw
  refine s_iast hx hb hg hC k171.2.1 k171.2.2 dX12_init_238 (fun h172 H locs eh172 hC => ?_)
  replace hw := hw h172 eh172
  refine lv_dup hx hb dX12_init_239 rfl ?_
  refine lv_bipush (v := 20) hx hb dX12_init_240 (by decide) ?_
  refine lv_bipush (v := 110) hx hb dX12_init_242 (by decide) ?_
  obtain ⟨k173, hw⟩ := hw
  refine s_iast hx hb hg hC k173.2.1 k173.2.2 dX12_init_244 (fun h174 H locs eh174 hC => ?_)
  replace hw := hw h174 eh174
  refine lv_dup hx hb dX12_init_245 rfl ?_
  refine lv_bipush (v := 21) hx hb dX12_init_246 (by decide) ?_
  refine lv_bipush (v := 111) hx hb dX12_init_248 (by decide) ?_
  obtain ⟨k175, hw⟩ := hw
  refine s_iast hx hb hg hC k175.2.1 k175.2.2 dX12_init_250 (fun h176 H locs eh176 hC => ?_)
  replace hw := hw h176 eh176
  refine lv_dup hx hb dX12_init_251 rfl ?_
  refine lv_bipush (v := 22) hx hb dX12_init_252 (by decide) ?_
  refine lv_bipush (v := 116) hx hb dX12_init_254 (by decide) ?_
  obtain ⟨k177, hw⟩ := hw
  refine s_iast hx hb hg hC k177.2.1 k177.2.2 dX12_init_256 (fun h178 H locs eh178 hC => ?_)
  replace hw := hw h178 eh178
  refine lv_dup hx hb dX12_init_257 rfl ?_
  refine lv_bipush (v := 23) hx hb dX12_init_258 (by decide) ?_
  refine lv_bipush (v := 32) hx hb dX12_init_260 (by decide) ?_
  obtain ⟨k179, hw⟩ := hw
  refine s_iast hx hb hg hC k179.2.1 k179.2.2 dX12_init_262 (fun h180 H locs eh180 hC => ?_)
  replace hw := hw h180 eh180
  refine lv_dup hx hb dX12_init_263 rfl ?_
  refine lv_bipush (v := 24) hx hb dX12_init_264 (by decide) ?_
  refine lv_bipush (v := 119) hx hb dX12_init_266 (by decide) ?_
  obtain ⟨k181, hw⟩ := hw
  refine s_iast hx hb hg hC k181.2.1 k181.2.2 dX12_init_268 (fun h182 H locs eh182 hC => ?_)
  replace hw := hw h182 eh182
  refine lv_dup hx hb dX12_init_269 rfl ?_
  refine lv_bipush (v := 25) hx hb dX12_init_270 (by decide) ?_
  refine lv_bipush (v := 104) hx hb dX12_init_272 (by decide) ?_
  obtain ⟨k183, hw⟩ := hw
  refine s_iast hx hb hg hC k183.2.1 k183.2.2 dX12_init_274 (fun h184 H locs eh184 hC => ?_)
  replace hw := hw h184 eh184
  refine lv_dup hx hb dX12_init_275 rfl ?_
  refine lv_bipush (v := 26) hx hb dX12_init_276 (by decide) ?_
  refine lv_bipush (v := 101) hx hb dX12_init_278 (by decide) ?_
  obtain ⟨k185, hw⟩ := hw
  refine s_iast hx hb hg hC k185.2.1 k185.2.2 dX12_init_280 (fun h186 H locs eh186 hC => ?_)
  replace hw := hw h186 eh186
  refine lv_dup hx hb dX12_init_281 rfl ?_
  refine lv_bipush (v := 27) hx hb dX12_init_282 (by decide) ?_
  refine lv_bipush (v := 110) hx hb dX12_init_284 (by decide) ?_
  obtain ⟨k187, hw⟩ := hw
  refine s_iast hx hb hg hC k187.2.1 k187.2.2 dX12_init_286 (fun h188 H locs eh188 hC => ?_)
  replace hw := hw h188 eh188
  refine lv_dup hx hb dX12_init_287 rfl ?_
  refine lv_bipush (v := 28) hx hb dX12_init_288 (by decide) ?_
  refine lv_bipush (v := 32) hx hb dX12_init_290 (by decide) ?_
  obtain ⟨k189, hw⟩ := hw
  refine s_iast hx hb hg hC k189.2.1 k189.2.2 dX12_init_292 (fun h190 H locs eh190 hC => ?_)
  replace hw := hw h190 eh190
  refine lv_dup hx hb dX12_init_293 rfl ?_
  refine lv_bipush (v := 29) hx hb dX12_init_294 (by decide) ?_
  refine lv_bipush (v := 111) hx hb dX12_init_296 (by decide) ?_
  obtain ⟨k191, hw⟩ := hw
  refine s_iast hx hb hg hC k191.2.1 k191.2.2 dX12_init_298 (fun h192 H locs eh192 hC => ?_)
  replace hw := hw h192 eh192
  refine lv_dup hx hb dX12_init_299 rfl ?_
  refine lv_bipush (v := 30) hx hb dX12_init_300 (by decide) ?_
  refine lv_bipush (v := 114) hx hb dX12_init_302 (by decide) ?_
  obtain ⟨k193, hw⟩ := hw
  refine s_iast hx hb hg hC k193.2.1 k193.2.2 dX12_init_304 (fun h194 H locs eh194 hC => ?_)
  replace hw := hw h194 eh194
  refine lv_dup hx hb dX12_init_305 rfl ?_
  refine lv_bipush (v := 31) hx hb dX12_init_306 (by decide) ?_
  refine lv_bipush (v := 32) hx hb dX12_init_308 (by decide) ?_
  obtain ⟨k195, hw⟩ := hw
  refine s_iast hx hb hg hC k195.2.1 k195.2.2 dX12_init_310 (fun h196 H locs eh196 hC => ?_)
  replace hw := hw h196 eh196
  refine lv_dup hx hb dX12_init_311 rfl ?_
  refine lv_bipush (v := 32) hx hb dX12_init_312 (by decide) ?_
  refine lv_bipush (v := 97) hx hb dX12_init_314 (by decide) ?_
  obtain ⟨k197, hw⟩ := hw
  refine s_iast hx hb hg hC k197.2.1 k197.2.2 dX12_init_316 (fun h198 H locs eh198 hC => ?_)
  replace hw := hw h198 eh198
  refine lv_dup hx hb dX12_init_317 rfl ?_
  refine lv_bipush (v := 33) hx hb dX12_init_318 (by decide) ?_
  refine lv_bipush (v := 110) hx hb dX12_init_320 (by decide) ?_
  obtain ⟨k199, hw⟩ := hw
  refine s_iast hx hb hg hC k199.2.1 k199.2.2 dX12_init_322 (fun h200 H locs eh200 hC => ?_)
  replace hw := hw h200 eh200
  refine lv_dup hx hb dX12_init_323 rfl ?_
  refine lv_bipush (v := 34) hx hb dX12_init_324 (by decide) ?_
  refine lv_bipush (v := 100) hx hb dX12_init_326 (by decide) ?_
  obtain ⟨k201, hw⟩ := hw
  refine s_iast hx hb hg hC k201.2.1 k201.2.2 dX12_init_328 (fun h202 H locs eh202 hC => ?_)
  replace hw := hw h202 eh202
  refine lv_dup hx hb dX12_init_329 rfl ?_
  refine lv_bipush (v := 35) hx hb dX12_init_330 (by decide) ?_
  refine lv_bipush (v := 32) hx hb dX12_init_332 (by decide) ?_
  obtain ⟨k203, hw⟩ := hw
  refine s_iast hx hb hg hC k203.2.1 k203.2.2 dX12_init_334 (fun h204 H locs eh204 hC => ?_)
  replace hw := hw h204 eh204
  refine lv_dup hx hb dX12_init_335 rfl ?_
  refine lv_bipush (v := 36) hx hb dX12_init_336 (by decide) ?_
  refine lv_bipush (v := 110) hx hb dX12_init_338 (by decide) ?_
  obtain ⟨k205, hw⟩ := hw
  refine s_iast hx hb hg hC k205.2.1 k205.2.2 dX12_init_340 (fun h206 H locs eh206 hC => ?_)
  replace hw := hw h206 eh206
  refine lv_dup hx hb dX12_init_341 rfl ?_
  refine lv_bipush (v := 37) hx hb dX12_init_342 (by decide) ?_
  refine lv_bipush (v := 111) hx hb dX12_init_344 (by decide) ?_
  obtain ⟨k207, hw⟩ := hw
  refine s_iast hx hb hg hC k207.2.1 k207.2.2 dX12_init_346 (fun h208 H locs eh208 hC => ?_)
  replace hw := hw h208 eh208
  refine lv_dup hx hb dX12_init_347 rfl ?_
  refine lv_bipush (v := 38) hx hb dX12_init_348 (by decide) ?_
  refine lv_bipush (v := 32) hx hb dX12_init_350 (by decide) ?_
  obtain ⟨k209, hw⟩ := hw
  refine s_iast hx hb hg hC k209.2.1 k209.2.2 dX12_init_352 (fun h210 H locs eh210 hC => ?_)
  replace hw := hw h210 eh210
  refine lv_dup hx hb dX12_init_353 rfl ?_
  refine lv_bipush (v := 39) hx hb dX12_init_354 (by decide) ?_
  refine lv_bipush (v := 97) hx hb dX12_init_356 (by decide) ?_
  obtain ⟨k211, hw⟩ := hw
  refine s_iast hx hb hg hC k211.2.1 k211.2.2 dX12_init_358 (fun h212 H locs eh212 hC => ?_)
  replace hw := hw h212 eh212
  refine lv_dup hx hb dX12_init_359 rfl ?_
  refine lv_bipush (v := 40) hx hb dX12_init_360 (by decide) ?_
  refine lv_bipush (v := 116) hx hb dX12_init_362 (by decide) ?_
  obtain ⟨k213, hw⟩ := hw
  refine s_iast hx hb hg hC k213.2.1 k213.2.2 dX12_init_364 (fun h214 H locs eh214 hC => ?_)
  replace hw := hw h214 eh214
  refine lv_dup hx hb dX12_init_365 rfl ?_
  refine lv_bipush (v := 41) hx hb dX12_init_366 (by decide) ?_
  refine lv_bipush (v := 32) hx hb dX12_init_368 (by decide) ?_
  obtain ⟨k215, hw⟩ := hw
  refine s_iast hx hb hg hC k215.2.1 k215.2.2 dX12_init_370 (fun h216 H locs eh216 hC => ?_)
  replace hw := hw h216 eh216
  refine lv_dup hx hb dX12_init_371 rfl ?_
  refine lv_bipush (v := 42) hx hb dX12_init_372 (by decide) ?_
  refine lv_bipush (v := 104) hx hb dX12_init_374 (by decide) ?_
  obtain ⟨k217, hw⟩ := hw
  refine s_iast hx hb hg hC k217.2.1 k217.2.2 dX12_init_376 (fun h218 H locs eh218 hC => ?_)
  replace hw := hw h218 eh218
  refine lv_dup hx hb dX12_init_377 rfl ?_
  refine lv_bipush (v := 43) hx hb dX12_init_378 (by decide) ?_
  refine lv_bipush (v := 105) hx hb dX12_init_380 (by decide) ?_
  obtain ⟨k219, hw⟩ := hw
  refine s_iast hx hb hg hC k219.2.1 k219.2.2 dX12_init_382 (fun h220 H locs eh220 hC => ?_)
  replace hw := hw h220 eh220
  refine lv_dup hx hb dX12_init_383 rfl ?_
  refine lv_bipush (v := 44) hx hb dX12_init_384 (by decide) ?_
  refine lv_bipush (v := 103) hx hb dX12_init_386 (by decide) ?_
  exact t_X12_init_J388 hM o (103 : Int32) (44 : Int32) s3 s3 s4 Q  A h220 H locs ls hC (lo_sub hl [0] rfl) hw
set_option maxHeartbeats 4000000 in
set_option maxRecDepth 100000 in
theorem c_X12_init (l : Launch) (G : GG) (base : Nat) (A : Nat → Nat) (o : Nat) (h : Hp) (Q : Hp → Prop) (hw : wp_X12_init o h Q) : Met l yX12_init (ww yX12_init cX12_init 1 none) rm_X12_init (va_Pc [.ref (A o)] (PU2 G base A h A h)) (va_Qv (fun (u : (Nat → Nat) × Hp) => Q u.2) (fun u t => PU2 G base A h u.1 u.2 t) (fun q => base ≤ q)) 38 42891 (fun q => base ≤ q) := by
  refine met2_of (own := RX12) (nm := "<init>") (by decide) rfl rfl (List.forall_mem_cons.mpr ⟨rfl, (fun _ h => absurd h List.not_mem_nil)⟩) (Nat.le_of_ble_eq_true rfl) rfl ?_
  intro p e s m args below meth c H locs ls hM hC hl
  obtain ⟨hx, hb, hr, hml, hown, hts, hg, hs, hlk, hnm⟩ := id hM
  unfold wp_X12_init at hw
  refine lv_aload_n hx hb dX12_init_0 rfl (lo_at hl 0 rfl) ?_
  refine r_oi hx hb hown (hts _ mk_m_RX12_1) (hts _ mk_oi_i) (hts _ mk_oi_c) (by rw [hml]; exact hl.1.1) dX12_init_1 (Nat.le_of_ble_eq_true rfl) (Nat.le_of_ble_eq_true rfl) ?_
  refine lv_aload_n hx hb dX12_init_4 rfl (lo_at hl 0 rfl) ?_
  refine lv_sipush (v := 192) hx hb dX12_init_5 (by decide) ?_
  obtain ⟨k4, hw⟩ := hw
  obtain ⟨q1, k3, hw⟩ := hw
  refine s_newI (N := 192) hx hb hts mk_arc_int hg hC q1 k3 (by decide) rfl (by decide) (Nat.le_of_ble_eq_true rfl) (Nat.le_of_ble_eq_true rfl) dX12_init_8 (fun A5 h2 H eh2 hE hC => ?_)
  replace hw := hw h2 eh2
  have e6 : A o = A5 o := ((hE _ (k4 _ rfl)).2).symm
  try rw [e6] at hl
  try rw [e6]
  refine W.widen (k := 1) (n := 192) (Nat.le_of_ble_eq_true rfl) (Nat.le_of_ble_eq_true rfl) ?_
  obtain ⟨k7, hw⟩ := hw
  obtain ⟨k9, hw⟩ := hw
  refine s_putFR (v := some q1) hx hb hts hown hnm hg hC fb_10_2 k7 k9 (nv_a) (fv_a) mk_f_RX12_7 dX12_init_10 (fun h8 H locs eh8 hC => ?_)
  replace hw := hw h8 eh8
  refine lv_aload_n hx hb dX12_init_13 rfl (lo_at hl 0 rfl) ?_
  refine lv_bipush (v := 6) hx hb dX12_init_14 (by decide) ?_
  obtain ⟨k13, hw⟩ := hw
  obtain ⟨q10, k12, hw⟩ := hw
  refine s_newI (N := 6) hx hb hts mk_arc_int hg hC q10 k12 (by decide) rfl (by decide) (Nat.le_of_ble_eq_true rfl) (Nat.le_of_ble_eq_true rfl) dX12_init_16 (fun A14 h11 H eh11 hE hC => ?_)
  replace hw := hw h11 eh11
  have e15 : A5 o = A14 o := ((hE _ (k13 _ rfl)).2).symm
  try rw [e15] at hl
  try rw [e15]
  refine W.widen (k := 2) (n := 198) (Nat.le_of_ble_eq_true rfl) (Nat.le_of_ble_eq_true rfl) ?_
  obtain ⟨k16, hw⟩ := hw
  obtain ⟨k18, hw⟩ := hw
  refine s_putFR (v := some q10) hx hb hts hown hnm hg hC fb_10_3 k16 k18 (nv_a) (fv_a) mk_f_RX12_13 dX12_init_18 (fun h17 H locs eh17 hC => ?_)
  replace hw := hw h17 eh17
  refine lv_aload_n hx hb dX12_init_21 rfl (lo_at hl 0 rfl) ?_
  refine lv_bipush (v := 6) hx hb dX12_init_22 (by decide) ?_
  obtain ⟨k22, hw⟩ := hw
  obtain ⟨q19, k21, hw⟩ := hw
  refine s_newI (N := 6) hx hb hts mk_arc_int hg hC q19 k21 (by decide) rfl (by decide) (Nat.le_of_ble_eq_true rfl) (Nat.le_of_ble_eq_true rfl) dX12_init_24 (fun A23 h20 H eh20 hE hC => ?_)
  replace hw := hw h20 eh20
  have e24 : A14 o = A23 o := ((hE _ (k22 _ rfl)).2).symm
  try rw [e24] at hl
  try rw [e24]
  refine W.widen (k := 3) (n := 204) (Nat.le_of_ble_eq_true rfl) (Nat.le_of_ble_eq_true rfl) ?_
  obtain ⟨k25, hw⟩ := hw
  obtain ⟨k27, hw⟩ := hw
  refine s_putFR (v := some q19) hx hb hts hown hnm hg hC fb_10_4 k25 k27 (nv_a) (fv_a) mk_f_RX12_16 dX12_init_26 (fun h26 H locs eh26 hC => ?_)
  replace hw := hw h26 eh26
  refine lv_aload_n hx hb dX12_init_29 rfl (lo_at hl 0 rfl) ?_
  refine lv_sipush (v := 512) hx hb dX12_init_30 (by decide) ?_
  obtain ⟨k31, hw⟩ := hw
  obtain ⟨q28, k30, hw⟩ := hw
  refine s_newI (N := 512) hx hb hts mk_arc_int hg hC q28 k30 (by decide) rfl (by decide) (Nat.le_of_ble_eq_true rfl) (Nat.le_of_ble_eq_true rfl) dX12_init_33 (fun A32 h29 H eh29 hE hC => ?_)
  replace hw := hw h29 eh29
  have e33 : A23 o = A32 o := ((hE _ (k31 _ rfl)).2).symm
  try rw [e33] at hl
  try rw [e33]
  refine W.widen (k := 4) (n := 716) (Nat.le_of_ble_eq_true rfl) (Nat.le_of_ble_eq_true rfl) ?_
  obtain ⟨k34, hw⟩ := hw
  obtain ⟨k36, hw⟩ := hw
  refine s_putFR (v := some q28) hx hb hts hown hnm hg hC fb_10_6 k34 k36 (nv_a) (fv_a) mk_f_RX12_19 dX12_init_35 (fun h35 H locs eh35 hC => ?_)
  replace hw := hw h35 eh35
  refine lv_aload_n hx hb dX12_init_38 rfl (lo_at hl 0 rfl) ?_
  refine lv_bipush (v := 16) hx hb dX12_init_39 (by decide) ?_
  obtain ⟨k40, hw⟩ := hw
  obtain ⟨q37, k39, hw⟩ := hw
  refine s_newI (N := 16) hx hb hts mk_arc_int hg hC q37 k39 (by decide) rfl (by decide) (Nat.le_of_ble_eq_true rfl) (Nat.le_of_ble_eq_true rfl) dX12_init_41 (fun A41 h38 H eh38 hE hC => ?_)
  replace hw := hw h38 eh38
  have e42 : A32 o = A41 o := ((hE _ (k40 _ rfl)).2).symm
  try rw [e42] at hl
  try rw [e42]
  refine W.widen (k := 5) (n := 732) (Nat.le_of_ble_eq_true rfl) (Nat.le_of_ble_eq_true rfl) ?_
  obtain ⟨k43, hw⟩ := hw
  obtain ⟨k45, hw⟩ := hw
  refine s_putFR (v := some q37) hx hb hts hown hnm hg hC fb_10_7 k43 k45 (nv_a) (fv_a) mk_f_RX12_22 dX12_init_43 (fun h44 H locs eh44 hC => ?_)
  replace hw := hw h44 eh44
  refine lv_aload_n hx hb dX12_init_46 rfl (lo_at hl 0 rfl) ?_
  refine lv_bipush (v := 16) hx hb dX12_init_47 (by decide) ?_
  obtain ⟨k49, hw⟩ := hw
  obtain ⟨q46, k48, hw⟩ := hw
  refine s_newI (N := 16) hx hb hts mk_arc_int hg hC q46 k48 (by decide) rfl (by decide) (Nat.le_of_ble_eq_true rfl) (Nat.le_of_ble_eq_true rfl) dX12_init_49 (fun A50 h47 H eh47 hE hC => ?_)
  replace hw := hw h47 eh47
  have e51 : A41 o = A50 o := ((hE _ (k49 _ rfl)).2).symm
  try rw [e51] at hl
  try rw [e51]
  refine W.widen (k := 6) (n := 748) (Nat.le_of_ble_eq_true rfl) (Nat.le_of_ble_eq_true rfl) ?_
  obtain ⟨k52, hw⟩ := hw
  obtain ⟨k54, hw⟩ := hw
  refine s_putFR (v := some q46) hx hb hts hown hnm hg hC fb_10_8 k52 k54 (nv_a) (fv_a) mk_f_RX12_25 dX12_init_51 (fun h53 H locs eh53 hC => ?_)
  replace hw := hw h53 eh53
  refine lv_aload_n hx hb dX12_init_54 rfl (lo_at hl 0 rfl) ?_
  refine lv_bipush (v := 16) hx hb dX12_init_55 (by decide) ?_
  obtain ⟨k58, hw⟩ := hw
  obtain ⟨q55, k57, hw⟩ := hw
  refine s_newI (N := 16) hx hb hts mk_arc_int hg hC q55 k57 (by decide) rfl (by decide) (Nat.le_of_ble_eq_true rfl) (Nat.le_of_ble_eq_true rfl) dX12_init_57 (fun A59 h56 H eh56 hE hC => ?_)
  replace hw := hw h56 eh56
  have e60 : A50 o = A59 o := ((hE _ (k58 _ rfl)).2).symm
  try rw [e60] at hl
  try rw [e60]
  refine W.widen (k := 7) (n := 764) (Nat.le_of_ble_eq_true rfl) (Nat.le_of_ble_eq_true rfl) ?_
  obtain ⟨k61, hw⟩ := hw
  obtain ⟨k63, hw⟩ := hw
  refine s_putFR (v := some q55) hx hb hts hown hnm hg hC fb_10_9 k61 k63 (nv_a) (fv_a) mk_f_RX12_28 dX12_init_59 (fun h62 H locs eh62 hC => ?_)
  replace hw := hw h62 eh62
  refine lv_aload_n hx hb dX12_init_62 rfl (lo_at hl 0 rfl) ?_
  refine lv_bipush (v := 16) hx hb dX12_init_63 (by decide) ?_
  obtain ⟨k67, hw⟩ := hw
  obtain ⟨q64, k66, hw⟩ := hw
  refine s_newI (N := 16) hx hb hts mk_arc_int hg hC q64 k66 (by decide) rfl (by decide) (Nat.le_of_ble_eq_true rfl) (Nat.le_of_ble_eq_true rfl) dX12_init_65 (fun A68 h65 H eh65 hE hC => ?_)
  replace hw := hw h65 eh65
  have e69 : A59 o = A68 o := ((hE _ (k67 _ rfl)).2).symm
  try rw [e69] at hl
  try rw [e69]
  refine W.widen (k := 8) (n := 780) (Nat.le_of_ble_eq_true rfl) (Nat.le_of_ble_eq_true rfl) ?_
  obtain ⟨k70, hw⟩ := hw
  obtain ⟨k72, hw⟩ := hw
  refine s_putFR (v := some q64) hx hb hts hown hnm hg hC fb_10_10 k70 k72 (nv_a) (fv_a) mk_f_RX12_31 dX12_init_67 (fun h71 H locs eh71 hC => ?_)
  replace hw := hw h71 eh71
  refine lv_aload_n hx hb dX12_init_70 rfl (lo_at hl 0 rfl) ?_
  refine lv_bipush (v := 16) hx hb dX12_init_71 (by decide) ?_
  obtain ⟨k76, hw⟩ := hw
  obtain ⟨q73, k75, hw⟩ := hw
  refine s_newI (N := 16) hx hb hts mk_arc_int hg hC q73 k75 (by decide) rfl (by decide) (Nat.le_of_ble_eq_true rfl) (Nat.le_of_ble_eq_true rfl) dX12_init_73 (fun A77 h74 H eh74 hE hC => ?_)
  replace hw := hw h74 eh74
  have e78 : A68 o = A77 o := ((hE _ (k76 _ rfl)).2).symm
  try rw [e78] at hl
  try rw [e78]
  refine W.widen (k := 9) (n := 796) (Nat.le_of_ble_eq_true rfl) (Nat.le_of_ble_eq_true rfl) ?_
  obtain ⟨k79, hw⟩ := hw
  obtain ⟨k81, hw⟩ := hw
  refine s_putFR (v := some q73) hx hb hts hown hnm hg hC fb_10_11 k79 k81 (nv_a) (fv_a) mk_f_RX12_34 dX12_init_75 (fun h80 H locs eh80 hC => ?_)
  replace hw := hw h80 eh80
  refine lv_aload_n hx hb dX12_init_78 rfl (lo_at hl 0 rfl) ?_
  refine lv_sipush (v := 1280) hx hb dX12_init_79 (by decide) ?_
  obtain ⟨k85, hw⟩ := hw
  obtain ⟨q82, k84, hw⟩ := hw
  refine s_newI (N := 1280) hx hb hts mk_arc_int hg hC q82 k84 (by decide) rfl (by decide) (Nat.le_of_ble_eq_true rfl) (Nat.le_of_ble_eq_true rfl) dX12_init_82 (fun A86 h83 H eh83 hE hC => ?_)
  replace hw := hw h83 eh83
  have e87 : A77 o = A86 o := ((hE _ (k85 _ rfl)).2).symm
  try rw [e87] at hl
  try rw [e87]
  refine W.widen (k := 10) (n := 2076) (Nat.le_of_ble_eq_true rfl) (Nat.le_of_ble_eq_true rfl) ?_
  obtain ⟨k88, hw⟩ := hw
  obtain ⟨k90, hw⟩ := hw
  refine s_putFR (v := some q82) hx hb hts hown hnm hg hC fb_10_13 k88 k90 (nv_a) (fv_a) mk_f_RX12_37 dX12_init_84 (fun h89 H locs eh89 hC => ?_)
  replace hw := hw h89 eh89
  refine lv_aload_n hx hb dX12_init_87 rfl (lo_at hl 0 rfl) ?_
  refine lv_bipush (v := 40) hx hb dX12_init_88 (by decide) ?_
  obtain ⟨k94, hw⟩ := hw
  obtain ⟨q91, k93, hw⟩ := hw
  refine s_newI (N := 40) hx hb hts mk_arc_int hg hC q91 k93 (by decide) rfl (by decide) (Nat.le_of_ble_eq_true rfl) (Nat.le_of_ble_eq_true rfl) dX12_init_90 (fun A95 h92 H eh92 hE hC => ?_)
  replace hw := hw h92 eh92
  have e96 : A86 o = A95 o := ((hE _ (k94 _ rfl)).2).symm
  try rw [e96] at hl
  try rw [e96]
  refine W.widen (k := 11) (n := 2116) (Nat.le_of_ble_eq_true rfl) (Nat.le_of_ble_eq_true rfl) ?_
  obtain ⟨k97, hw⟩ := hw
  obtain ⟨k99, hw⟩ := hw
  refine s_putFR (v := some q91) hx hb hts hown hnm hg hC fb_10_14 k97 k99 (nv_a) (fv_a) mk_f_RX12_40 dX12_init_92 (fun h98 H locs eh98 hC => ?_)
  replace hw := hw h98 eh98
  refine lv_aload_n hx hb dX12_init_95 rfl (lo_at hl 0 rfl) ?_
  refine lv_bipush (v := 40) hx hb dX12_init_96 (by decide) ?_
  obtain ⟨k103, hw⟩ := hw
  obtain ⟨q100, k102, hw⟩ := hw
  refine s_newI (N := 40) hx hb hts mk_arc_int hg hC q100 k102 (by decide) rfl (by decide) (Nat.le_of_ble_eq_true rfl) (Nat.le_of_ble_eq_true rfl) dX12_init_98 (fun A104 h101 H eh101 hE hC => ?_)
  replace hw := hw h101 eh101
  have e105 : A95 o = A104 o := ((hE _ (k103 _ rfl)).2).symm
  try rw [e105] at hl
  try rw [e105]
  refine W.widen (k := 12) (n := 2156) (Nat.le_of_ble_eq_true rfl) (Nat.le_of_ble_eq_true rfl) ?_
  obtain ⟨k106, hw⟩ := hw
  obtain ⟨k108, hw⟩ := hw
  refine s_putFR (v := some q100) hx hb hts hown hnm hg hC fb_10_15 k106 k108 (nv_a) (fv_a) mk_f_RX12_43 dX12_init_100 (fun h107 H locs eh107 hC => ?_)
  replace hw := hw h107 eh107
  refine lv_aload_n hx hb dX12_init_103 rfl (lo_at hl 0 rfl) ?_
  refine lv_bipush (v := 40) hx hb dX12_init_104 (by decide) ?_
  obtain ⟨k112, hw⟩ := hw
  obtain ⟨q109, k111, hw⟩ := hw
  refine s_newI (N := 40) hx hb hts mk_arc_int hg hC q109 k111 (by decide) rfl (by decide) (Nat.le_of_ble_eq_true rfl) (Nat.le_of_ble_eq_true rfl) dX12_init_106 (fun A113 h110 H eh110 hE hC => ?_)
  replace hw := hw h110 eh110
  have e114 : A104 o = A113 o := ((hE _ (k112 _ rfl)).2).symm
  try rw [e114] at hl
  try rw [e114]
  refine W.widen (k := 13) (n := 2196) (Nat.le_of_ble_eq_true rfl) (Nat.le_of_ble_eq_true rfl) ?_
  obtain ⟨k115, hw⟩ := hw
  obtain ⟨k117, hw⟩ := hw
  refine s_putFR (v := some q109) hx hb hts hown hnm hg hC fb_10_16 k115 k117 (nv_a) (fv_a) mk_f_RX12_46 dX12_init_108 (fun h116 H locs eh116 hC => ?_)
  replace hw := hw h116 eh116
  refine lv_aload_n hx hb dX12_init_111 rfl (lo_at hl 0 rfl) ?_
  refine lv_sipush (v := 600) hx hb dX12_init_112 (by decide) ?_
  obtain ⟨k121, hw⟩ := hw
  obtain ⟨q118, k120, hw⟩ := hw
  refine s_newI (N := 600) hx hb hts mk_arc_int hg hC q118 k120 (by decide) rfl (by decide) (Nat.le_of_ble_eq_true rfl) (Nat.le_of_ble_eq_true rfl) dX12_init_115 (fun A122 h119 H eh119 hE hC => ?_)
  replace hw := hw h119 eh119
  have e123 : A113 o = A122 o := ((hE _ (k121 _ rfl)).2).symm
  try rw [e123] at hl
  try rw [e123]
  refine W.widen (k := 14) (n := 2796) (Nat.le_of_ble_eq_true rfl) (Nat.le_of_ble_eq_true rfl) ?_
  obtain ⟨k124, hw⟩ := hw
  obtain ⟨k126, hw⟩ := hw
  refine s_putFR (v := some q118) hx hb hts hown hnm hg hC fb_10_18 k124 k126 (nv_a) (fv_a) mk_f_RX12_49 dX12_init_117 (fun h125 H locs eh125 hC => ?_)
  replace hw := hw h125 eh125
  refine lv_aload_n hx hb dX12_init_120 rfl (lo_at hl 0 rfl) ?_
  refine lv_bipush (v := 115) hx hb dX12_init_121 (by decide) ?_
  obtain ⟨k130, hw⟩ := hw
  obtain ⟨q127, k129, hw⟩ := hw
  refine s_newI (N := 115) hx hb hts mk_arc_int hg hC q127 k129 (by decide) rfl (by decide) (Nat.le_of_ble_eq_true rfl) (Nat.le_of_ble_eq_true rfl) dX12_init_123 (fun A131 h128 H eh128 hE hC => ?_)
  replace hw := hw h128 eh128
  have e132 : A122 o = A131 o := ((hE _ (k130 _ rfl)).2).symm
  try rw [e132] at hl
  try rw [e132]
  refine W.widen (k := 15) (n := 2911) (Nat.le_of_ble_eq_true rfl) (Nat.le_of_ble_eq_true rfl) ?_
  refine lv_dup hx hb dX12_init_125 rfl ?_
  refine lv_iconst (v := 0) hx hb dX12_init_126 (by decide) ?_
  refine lv_bipush (v := 32) hx hb dX12_init_127 (by decide) ?_
  obtain ⟨k133, hw⟩ := hw
  refine s_iast hx hb hg hC k133.2.1 k133.2.2 dX12_init_129 (fun h134 H locs eh134 hC => ?_)
  replace hw := hw h134 eh134
  refine lv_dup hx hb dX12_init_130 rfl ?_
  refine lv_iconst (v := 1) hx hb dX12_init_131 (by decide) ?_
  refine lv_bipush (v := 99) hx hb dX12_init_132 (by decide) ?_
  obtain ⟨k135, hw⟩ := hw
  refine s_iast hx hb hg hC k135.2.1 k135.2.2 dX12_init_134 (fun h136 H locs eh136 hC => ?_)
  replace hw := hw h136 eh136
  refine lv_dup hx hb dX12_init_135 rfl ?_
  refine lv_iconst (v := 2) hx hb dX12_init_136 (by decide) ?_
  refine lv_bipush (v := 117) hx hb dX12_init_137 (by decide) ?_
  obtain ⟨k137, hw⟩ := hw
  refine s_iast hx hb hg hC k137.2.1 k137.2.2 dX12_init_139 (fun h138 H locs eh138 hC => ?_)
  replace hw := hw h138 eh138
  refine lv_dup hx hb dX12_init_140 rfl ?_
  refine lv_iconst (v := 3) hx hb dX12_init_141 (by decide) ?_
  refine lv_bipush (v := 116) hx hb dX12_init_142 (by decide) ?_
  obtain ⟨k139, hw⟩ := hw
  refine s_iast hx hb hg hC k139.2.1 k139.2.2 dX12_init_144 (fun h140 H locs eh140 hC => ?_)
  replace hw := hw h140 eh140
  refine lv_dup hx hb dX12_init_145 rfl ?_
  refine lv_iconst (v := 4) hx hb dX12_init_146 (by decide) ?_
  refine lv_bipush (v := 32) hx hb dX12_init_147 (by decide) ?_
  obtain ⟨k141, hw⟩ := hw
  refine s_iast hx hb hg hC k141.2.1 k141.2.2 dX12_init_149 (fun h142 H locs eh142 hC => ?_)
  replace hw := hw h142 eh142
  refine lv_dup hx hb dX12_init_150 rfl ?_
  refine lv_iconst (v := 5) hx hb dX12_init_151 (by decide) ?_
  refine lv_bipush (v := 119) hx hb dX12_init_152 (by decide) ?_
  obtain ⟨k143, hw⟩ := hw
  refine s_iast hx hb hg hC k143.2.1 k143.2.2 dX12_init_154 (fun h144 H locs eh144 hC => ?_)
  replace hw := hw h144 eh144
  refine lv_dup hx hb dX12_init_155 rfl ?_
  refine lv_bipush (v := 6) hx hb dX12_init_156 (by decide) ?_
  refine lv_bipush (v := 101) hx hb dX12_init_158 (by decide) ?_
  obtain ⟨k145, hw⟩ := hw
  refine s_iast hx hb hg hC k145.2.1 k145.2.2 dX12_init_160 (fun h146 H locs eh146 hC => ?_)
  replace hw := hw h146 eh146
  refine lv_dup hx hb dX12_init_161 rfl ?_
  refine lv_bipush (v := 7) hx hb dX12_init_162 (by decide) ?_
  refine lv_bipush (v := 97) hx hb dX12_init_164 (by decide) ?_
  obtain ⟨k147, hw⟩ := hw
  refine s_iast hx hb hg hC k147.2.1 k147.2.2 dX12_init_166 (fun h148 H locs eh148 hC => ?_)
  replace hw := hw h148 eh148
  refine lv_dup hx hb dX12_init_167 rfl ?_
  refine lv_bipush (v := 8) hx hb dX12_init_168 (by decide) ?_
  refine lv_bipush (v := 114) hx hb dX12_init_170 (by decide) ?_
  obtain ⟨k149, hw⟩ := hw
  refine s_iast hx hb hg hC k149.2.1 k149.2.2 dX12_init_172 (fun h150 H locs eh150 hC => ?_)
  replace hw := hw h150 eh150
  refine lv_dup hx hb dX12_init_173 rfl ?_
  refine lv_bipush (v := 9) hx hb dX12_init_174 (by decide) ?_
  refine lv_bipush (v := 32) hx hb dX12_init_176 (by decide) ?_
  obtain ⟨k151, hw⟩ := hw
  refine s_iast hx hb hg hC k151.2.1 k151.2.2 dX12_init_178 (fun h152 H locs eh152 hC => ?_)
  replace hw := hw h152 eh152
  refine lv_dup hx hb dX12_init_179 rfl ?_
  refine lv_bipush (v := 10) hx hb dX12_init_180 (by decide) ?_
  refine lv_bipush (v := 116) hx hb dX12_init_182 (by decide) ?_
  obtain ⟨k153, hw⟩ := hw
  refine s_iast hx hb hg hC k153.2.1 k153.2.2 dX12_init_184 (fun h154 H locs eh154 hC => ?_)
  replace hw := hw h154 eh154
  refine lv_dup hx hb dX12_init_185 rfl ?_
  refine lv_bipush (v := 11) hx hb dX12_init_186 (by decide) ?_
  refine lv_bipush (v := 97) hx hb dX12_init_188 (by decide) ?_
  obtain ⟨k155, hw⟩ := hw
  refine s_iast hx hb hg hC k155.2.1 k155.2.2 dX12_init_190 (fun h156 H locs eh156 hC => ?_)
  replace hw := hw h156 eh156
  refine lv_dup hx hb dX12_init_191 rfl ?_
  refine lv_bipush (v := 12) hx hb dX12_init_192 (by decide) ?_
  refine lv_bipush (v := 107) hx hb dX12_init_194 (by decide) ?_
  obtain ⟨k157, hw⟩ := hw
  refine s_iast hx hb hg hC k157.2.1 k157.2.2 dX12_init_196 (fun h158 H locs eh158 hC => ?_)
  replace hw := hw h158 eh158
  refine lv_dup hx hb dX12_init_197 rfl ?_
  refine lv_bipush (v := 13) hx hb dX12_init_198 (by decide) ?_
  refine lv_bipush (v := 101) hx hb dX12_init_200 (by decide) ?_
  obtain ⟨k159, hw⟩ := hw
  refine s_iast hx hb hg hC k159.2.1 k159.2.2 dX12_init_202 (fun h160 H locs eh160 hC => ?_)
  replace hw := hw h160 eh160
  refine lv_dup hx hb dX12_init_203 rfl ?_
  refine lv_bipush (v := 14) hx hb dX12_init_204 (by decide) ?_
  refine lv_bipush (v := 32) hx hb dX12_init_206 (by decide) ?_
  exact t_X12_init_J208 hM o (32 : Int32) (14 : Int32) q127 q127 o Q  A131 h160 H locs ls hC (lo_sub hl [0] rfl) hw
