abbrev rm_X11_scene : Room := { frames := 1, cells := 0, slots := 0, locals := 22 }
set_option maxRecDepth 100000 in
def wp_X11_scene (o : Nat) (x1 : Int32) (x2 : Int32) (x3 : Int32) (h : Hp) (Q : Int32 → Hp → Prop) : Prop := (if x1 < 0 then (Q (0 : Int32) h) else ((if (8 : Int32) ≤ x1 then (Q (0 : Int32) h) else (((hpK h o).1 = 20 + 9) ∧ (wp_X11_ballAt o x2 h (fun (z5 : Option Nat) (h4 : Hp) => (if z5 = none then (Q (0 : Int32) h4) else (((hpK h4 o).1 = 20 + 9) ∧ (wp_X11_isOfScene o x1 x2 h4 (fun (z9 : Int32) (h8 : Hp) => (if z9 = x3 then (Q (0 : Int32) h8) else (((hpK h8 o).1 = 20 + 9) ∧ (okA h8 (hpR h8 o 11) 2 x1 ∧ (∀ v13 : Int64, v13 = hpL h8 (ad (hpR h8 o 11)) (x1).toNatClampNeg → (okA h8 (hpR h8 o 11) 2 x1 ∧ (∀ h15 : Hp, h15 = stL h8 (ad (hpR h8 o 11)) (x1).toNatClampNeg (v13 ^^^ ((1 : Int64) <<< ((x2).toInt64 &&& 63))) → (Q (1 : Int32) h15)))))))))))))))))
set_option maxHeartbeats 4000000 in
set_option maxRecDepth 100000 in
theorem c_X11_scene (l : Launch) (G : GG) (base : Nat) (A : Nat → Nat) (o : Nat) (x1 : Int32) (x2 : Int32) (x3 : Int32) (h : Hp) (Q : Int32 → Hp → Prop) (hw : wp_X11_scene o x1 x2 x3 h Q) : Met l yX11_scene (ww yX11_scene cX11_scene 4 (some .boolean)) rm_X11_scene (va_Pc [.ref (A o), .int x1, .int x2, .int x3] (PU2 G base A h A h)) (va_Qi Q (PU2 G base A h A) (fun q => base ≤ q)) 0 0 (fun q => base ≤ q) := by
  refine met2_of (own := RX11) (nm := "scene") (by decide) rfl rfl (List.forall_mem_cons.mpr ⟨rfl, (List.forall_mem_cons.mpr ⟨rfl, (List.forall_mem_cons.mpr ⟨rfl, (List.forall_mem_cons.mpr ⟨rfl, (fun _ h => absurd h List.not_mem_nil)⟩)⟩)⟩)⟩) (Nat.le_of_ble_eq_true rfl) rfl ?_
  intro p e s m args below meth c H locs ls hM hC hl
  obtain ⟨hx, hb, hr, hml, hown, hts, hg, hs, hlk, hnm⟩ := id hM
  unfold wp_X11_scene at hw
  refine lv_iload_n hx hb dX11_scene_0 rfl (lo_at hl 1 rfl) ?_
  refine lv_if_lt (tgt := 28) hx hb dX11_scene_1 (by decide) (fun c1 => ?_) (fun c1 => ?_)
  ·
    replace hw := (if_pos c1).mp hw
    refine lv_iconst (v := 0) hx hb dX11_scene_28 (by decide) ?_
    exact ret2_t hM hC rfl hw dX11_scene_29
  ·
    replace hw := (if_neg c1).mp hw
    refine lv_iload_n hx hb dX11_scene_4 rfl (lo_at hl 1 rfl) ?_
    refine lv_bipush (v := 8) hx hb dX11_scene_5 (by decide) ?_
    refine lv_icmp_ge (tgt := 28) hx hb dX11_scene_7 (by decide) (fun c2 => ?_) (fun c2 => ?_)
    ·
      replace hw := (if_pos c2).mp hw
      refine lv_iconst (v := 0) hx hb dX11_scene_28 (by decide) ?_
      exact ret2_t hM hC rfl hw dX11_scene_29
    ·
      replace hw := (if_neg c2).mp hw
      refine lv_aload_n hx hb dX11_scene_10 rfl (lo_at hl 0 rfl) ?_
      refine lv_iload_n hx hb dX11_scene_11 rfl (lo_at hl 2 rfl) ?_
      obtain ⟨k3, hw⟩ := hw
      refine res2_q hC (run2_V (As := [.int x2]) (rest := []) hM hC hl.1.1 kv_RX11_140 (c_X11_ballAt l G base A o x2 h _ hw) (hc_9) k3 rfl rfl rfl ⟨Nat.le_of_ble_eq_true rfl, Nat.le_of_ble_eq_true rfl⟩ (Nat.le_of_ble_eq_true rfl) ⟨Nat.le_of_ble_eq_true rfl, Nat.le_of_ble_eq_true rfl⟩ dX11_scene_12) (fun z5 h4 H locs hw hC => ?_)
      refine s_ifnull (r := z5) (A := A) (tgt := 28) hx hb dX11_scene_15 (by decide) (fun c6 => ?_) (fun c6 => ?_)
      ·
        replace hw := (if_pos c6).mp hw
        refine lv_iconst (v := 0) hx hb dX11_scene_28 (by decide) ?_
        exact ret2_t hM hC rfl hw dX11_scene_29
      ·
        replace hw := (if_neg c6).mp hw
        refine lv_aload_n hx hb dX11_scene_18 rfl (lo_at hl 0 rfl) ?_
        refine lv_iload_n hx hb dX11_scene_19 rfl (lo_at hl 1 rfl) ?_
        refine lv_iload_n hx hb dX11_scene_20 rfl (lo_at hl 2 rfl) ?_
        obtain ⟨k7, hw⟩ := hw
        refine res2_i hC (run2_V (As := [.int x1, .int x2]) (rest := []) hM hC hl.1.1 kv_RX11_284 (c_X11_isOfScene l G base A o x1 x2 h4 _ hw) (hc_9) k7 rfl rfl rfl ⟨Nat.le_of_ble_eq_true rfl, Nat.le_of_ble_eq_true rfl⟩ (Nat.le_of_ble_eq_true rfl) ⟨Nat.le_of_ble_eq_true rfl, Nat.le_of_ble_eq_true rfl⟩ dX11_scene_21) (fun z9 h8 H locs hw hC => ?_)
        refine lv_iload_n hx hb dX11_scene_24 rfl (lo_at hl 3 rfl) ?_
        refine lv_icmp_ne (tgt := 30) hx hb dX11_scene_25 (by decide) (fun c10 => ?_) (fun c10 => ?_)
        ·
          replace hw := (if_neg c10).mp hw
          refine lv_aload_n hx hb dX11_scene_30 rfl (lo_at hl 0 rfl) ?_
          obtain ⟨k11, hw⟩ := hw
          refine s_getR hx hb hts hown hg hC fb_9_11 k11 mk_f_RX11_39 dX11_scene_31 ?_
          refine lv_iload_n hx hb dX11_scene_34 rfl (lo_at hl 1 rfl) ?_
          refine lv_dup2_11 hx hb dX11_scene_35 rfl (va_rf_cat _) ?_
          obtain ⟨k12, hw⟩ := hw
          refine sf_2 k12.1 ?_
          refine s_lald hx hb hg hC k12.2.1 k12.2.2 dX11_scene_36 ?_
          refine lv_topl (fun v13 ev13 => ?_)
          replace hw := hw v13 ev13
          refine lv_lconst (v := 1) hx hb dX11_scene_37 (by decide) ?_
          refine lv_iload_n hx hb dX11_scene_38 rfl (lo_at hl 2 rfl) ?_
          refine lv_lshl hx hb dX11_scene_39 (v := (1 : Int64) <<< ((x2).toInt64 &&& 63)) rfl ?_
          refine lv_lxor hx hb dX11_scene_40 ?_
          obtain ⟨k14, hw⟩ := hw
          refine sf_3 k14.1 ?_
          refine s_last hx hb hg hC k14.2.1 k14.2.2 dX11_scene_41 (fun h15 H locs eh15 hC => ?_)
          replace hw := hw h15 eh15
          refine lv_iconst (v := 1) hx hb dX11_scene_42 (by decide) ?_
          exact ret2_t hM hC rfl hw dX11_scene_43
        ·
          replace hw := (if_pos c10).mp hw
          refine lv_iconst (v := 0) hx hb dX11_scene_28 (by decide) ?_
          exact ret2_t hM hC rfl hw dX11_scene_29
abbrev rm_X11_isCheaper : Room := { frames := 1, cells := 0, slots := 0, locals := 24 }
set_option maxRecDepth 100000 in
def wp_X11_isCheaper (o : Nat) (x1 : Int32) (x2 : Int32) (h : Hp) (Q : Int32 → Hp → Prop) : Prop := ((hpK h o).1 = 20 + 9) ∧ (wp_X11_hoursOf o x1 h (fun (z3 : Int32) (h2 : Hp) => ((hpK h2 o).1 = 20 + 9) ∧ (wp_X11_hoursOf o x2 h2 (fun (z6 : Int32) (h5 : Hp) => (if z3 < z6 then (Q (1 : Int32) h5) else ((if z3 = z6 then (wp_J6_bitCount_0f7a4 x1 h5 (fun (z10 : Int32) (h9 : Hp) => wp_J6_bitCount_0f7a4 x2 h9 (fun (z12 : Int32) (h11 : Hp) => (if z12 ≤ z10 then (Q (0 : Int32) h11) else (Q (1 : Int32) h11))))) else (Q (0 : Int32) h5))))))))
set_option maxHeartbeats 4000000 in
set_option maxRecDepth 100000 in
theorem c_X11_isCheaper (l : Launch) (G : GG) (base : Nat) (A : Nat → Nat) (o : Nat) (x1 : Int32) (x2 : Int32) (h : Hp) (Q : Int32 → Hp → Prop) (hw : wp_X11_isCheaper o x1 x2 h Q) : Met l yX11_isCheaper (ww yX11_isCheaper cX11_isCheaper 5 (some .boolean)) rm_X11_isCheaper (va_Pc [.ref (A o), .int x1, .int x2] (PU2 G base A h A h)) (va_Qi Q (PU2 G base A h A) (fun q => base ≤ q)) 0 0 (fun q => base ≤ q) := by
  refine met2_of (own := RX11) (nm := "isCheaper") (by decide) rfl rfl (List.forall_mem_cons.mpr ⟨rfl, (List.forall_mem_cons.mpr ⟨rfl, (List.forall_mem_cons.mpr ⟨rfl, (fun _ h => absurd h List.not_mem_nil)⟩)⟩)⟩) (Nat.le_of_ble_eq_true rfl) rfl ?_
  intro p e s m args below meth c H locs ls hM hC hl
  obtain ⟨hx, hb, hr, hml, hown, hts, hg, hs, hlk, hnm⟩ := id hM
  unfold wp_X11_isCheaper at hw
  refine lv_aload_n hx hb dX11_isCheaper_0 rfl (lo_at hl 0 rfl) ?_
  refine lv_iload_n hx hb dX11_isCheaper_1 rfl (lo_at hl 1 rfl) ?_
  obtain ⟨k1, hw⟩ := hw
  refine res2_i hC (run2_V (As := [.int x1]) (rest := []) hM hC hl.1.1 kv_RX11_274 (c_X11_hoursOf l G base A o x1 h _ hw) (hc_9) k1 rfl rfl rfl ⟨Nat.le_of_ble_eq_true rfl, Nat.le_of_ble_eq_true rfl⟩ (Nat.le_of_ble_eq_true rfl) ⟨Nat.le_of_ble_eq_true rfl, Nat.le_of_ble_eq_true rfl⟩ dX11_isCheaper_2) (fun z3 h2 H locs hw hC => ?_)
  refine lo_istore_n (lv' := [(3, .int z3), (0, .ref (A o)), (1, .int x1), (2, .int x2)]) hx hb dX11_isCheaper_5 rfl hl (by decide) rfl (fun ls hl => ?_)
  refine lv_aload_n hx hb dX11_isCheaper_6 rfl (lo_at hl 1 rfl) ?_
  refine lv_iload_n hx hb dX11_isCheaper_7 rfl (lo_at hl 3 rfl) ?_
  obtain ⟨k4, hw⟩ := hw
  refine res2_i hC (run2_V (As := [.int x2]) (rest := []) hM hC hl.1.1 kv_RX11_274 (c_X11_hoursOf l G base A o x2 h2 _ hw) (hc_9) k4 rfl rfl rfl ⟨Nat.le_of_ble_eq_true rfl, Nat.le_of_ble_eq_true rfl⟩ (Nat.le_of_ble_eq_true rfl) ⟨Nat.le_of_ble_eq_true rfl, Nat.le_of_ble_eq_true rfl⟩ dX11_isCheaper_8) (fun z6 h5 H locs hw hC => ?_)
  refine lo_istore (lv' := [(4, .int z6), (3, .int z3), (0, .ref (A o)), (1, .int x1), (2, .int x2)]) hx hb dX11_isCheaper_11 hl (by decide) rfl (fun ls hl => ?_)
  refine lv_iload_n hx hb dX11_isCheaper_13 rfl (lo_at hl 1 rfl) ?_
  refine lv_iload hx hb dX11_isCheaper_14 (lo_at hl 0 rfl) ?_
  refine lv_icmp_lt (tgt := 36) hx hb dX11_isCheaper_16 (by decide) (fun c7 => ?_) (fun c7 => ?_)
  ·
    replace hw := (if_pos c7).mp hw
    refine lv_iconst (v := 1) hx hb dX11_isCheaper_36 (by decide) ?_
    refine lv_goto (tgt := 41) hx hb dX11_isCheaper_37 (by decide) ?_
    exact ret2_t hM hC rfl hw dX11_isCheaper_41
  ·
    replace hw := (if_neg c7).mp hw
    refine lv_iload_n hx hb dX11_isCheaper_19 rfl (lo_at hl 1 rfl) ?_
    refine lv_iload hx hb dX11_isCheaper_20 (lo_at hl 0 rfl) ?_
    refine lv_icmp_ne (tgt := 40) hx hb dX11_isCheaper_22 (by decide) (fun c8 => ?_) (fun c8 => ?_)
    ·
      replace hw := (if_neg c8).mp hw
      refine lv_iconst (v := 0) hx hb dX11_isCheaper_40 (by decide) ?_
      exact ret2_t hM hC rfl hw dX11_isCheaper_41
    ·
      replace hw := (if_pos c8).mp hw
      refine lv_iload_n hx hb dX11_isCheaper_25 rfl (lo_at hl 3 rfl) ?_
      refine res2_i hC (run2_S (As := [.int x1]) (rest := []) hM hC hl.1.1 kv_RX11_232 (c_J6_bitCount_0f7a4 l G base A x1 h5 _ hw) rfl rfl rfl ⟨Nat.le_of_ble_eq_true rfl, Nat.le_of_ble_eq_true rfl⟩ (Nat.le_of_ble_eq_true rfl) ⟨Nat.le_of_ble_eq_true rfl, Nat.le_of_ble_eq_true rfl⟩ dX11_isCheaper_26) (fun z10 h9 H locs hw hC => ?_)
      refine lv_iload_n hx hb dX11_isCheaper_29 rfl (lo_at hl 4 rfl) ?_
      refine res2_i hC (run2_S (As := [.int x2]) (rest := [.int z10]) hM hC hl.1.1 kv_RX11_232 (c_J6_bitCount_0f7a4 l G base A x2 h9 _ hw) rfl rfl rfl ⟨Nat.le_of_ble_eq_true rfl, Nat.le_of_ble_eq_true rfl⟩ (Nat.le_of_ble_eq_true rfl) ⟨Nat.le_of_ble_eq_true rfl, Nat.le_of_ble_eq_true rfl⟩ dX11_isCheaper_30) (fun z12 h11 H locs hw hC => ?_)
      refine lv_icmp_ge (tgt := 40) hx hb dX11_isCheaper_33 (by decide) (fun c13 => ?_) (fun c13 => ?_)
      ·
        replace hw := (if_pos c13).mp hw
        refine lv_iconst (v := 0) hx hb dX11_isCheaper_40 (by decide) ?_
        exact ret2_t hM hC rfl hw dX11_isCheaper_41
      ·
        replace hw := (if_neg c13).mp hw
        refine lv_iconst (v := 1) hx hb dX11_isCheaper_36 (by decide) ?_
        refine lv_goto (tgt := 41) hx hb dX11_isCheaper_37 (by decide) ?_
        exact ret2_t hM hC rfl hw dX11_isCheaper_41
abbrev rm_X12_barrel : Room := { frames := 4, cells := 0, slots := 0, locals := 95 }
set_option maxRecDepth 100000 in
def wp_X12_barrel_L31 (o : Nat) (x1 : Int32) (x2 : Int32) (K65 : Hp → Prop) (Q : Int32 → Hp → Prop) : Nat → Int32 → Hp → Prop
  | 0, _, _ => False
  | n + 1, x3, h => (if (32 : Int32) ≤ x3 then (K65 h) else (((hpK h o).1 = 20 + 10) ∧ (okA h (hpR h o 2) 1 (((32 : Int32) * x1) + x3) ∧ (∀ v13 : Int32, v13 = hpI h (ad (hpR h o 2)) (((32 : Int32) * x1) + x3).toNatClampNeg → (okA h (hpR h o 6) 1 (((32 : Int32) * x2) + x3) ∧ (∀ h15 : Hp, h15 = stI h (ad (hpR h o 6)) (((32 : Int32) * x2) + x3).toNatClampNeg v13 → (∀ v16 : Int32, v16 = x3 + (1 : Int32) → (wp_X12_barrel_L31 o x1 x2 K65 Q n v16 h15))))))))
set_option maxRecDepth 100000 in
def wp_X12_barrel_L177 (o : Nat) (x1 : Int32) (x2 : Int32) (K206 : Hp → Prop) (Q : Int32 → Hp → Prop) : Nat → Int32 → Hp → Prop
  | 0, _, _ => False
  | n + 1, x3, h => (if (32 : Int32) ≤ x3 then (K206 h) else (((hpK h o).1 = 20 + 10) ∧ (okA h (hpR h o 44) 1 x3 ∧ (∀ v63 : Int32, v63 = hpI h (ad (hpR h o 44)) (x3).toNatClampNeg → (okA h (hpR h o 2) 1 (((32 : Int32) * x1) + x3) ∧ (∀ h65 : Hp, h65 = stI h (ad (hpR h o 2)) (((32 : Int32) * x1) + x3).toNatClampNeg v63 → (∀ v66 : Int32, v66 = x3 + (1 : Int32) → (wp_X12_barrel_L177 o x1 x2 K206 Q n v66 h65))))))))
set_option maxRecDepth 100000 in
def wp_X12_barrel (o : Nat) (x1 : Int32) (h : Hp) (Q : Int32 → Hp → Prop) : Prop := ((hpK h o).1 = 20 + 10) ∧ (∀ h2 : Hp, h2 = stI h o 0 (0 : Int32) → (((hpK h2 o).1 = 20 + 10) ∧ (wp_X12_isTool o x1 h2 (fun (z5 : Int32) (h4 : Hp) => (if z5 = 0 then (Q (-1 : Int32) h4) else (((hpK h4 o).1 = 20 + 10) ∧ ((if (hpI h4 o 5) = (16 : Int32) then (Q (-1 : Int32) h4) else (∀ v9 : Int32, v9 = hpI h4 o 5 → (wp_X12_barrel_L31 o x1 v9 (fun (h17 : Hp) => ((hpK h17 o).1 = 20 + 10) ∧ (okA h17 (hpR h17 o 3) 1 x1 ∧ (∀ v20 : Int32, v20 = hpI h17 (ad (hpR h17 o 3)) (x1).toNatClampNeg → (okA h17 (hpR h17 o 7) 1 v9 ∧ (∀ h22 : Hp, h22 = stI h17 (ad (hpR h17 o 7)) (v9).toNatClampNeg v20 → (((hpK h22 o).1 = 20 + 10) ∧ (okA h22 (hpR h22 o 8) 1 v9 ∧ (∀ h25 : Hp, h25 = stI h22 (ad (hpR h22 o 8)) (v9).toNatClampNeg x1 → (((hpK h25 o).1 = 20 + 10) ∧ (okA h25 (hpR h25 o 4) 1 x1 ∧ (∀ v28 : Int32, v28 = hpI h25 (ad (hpR h25 o 4)) (x1).toNatClampNeg → (okA h25 (hpR h25 o 9) 1 v9 ∧ (∀ h30 : Hp, h30 = stI h25 (ad (hpR h25 o 9)) (v9).toNatClampNeg v28 → (((hpK h30 o).1 = 20 + 10) ∧ (okA h30 (hpR h30 o 10) 1 v9 ∧ (∀ h33 : Hp, h33 = stI h30 (ad (hpR h30 o 10)) (v9).toNatClampNeg (0 : Int32) → (((hpK h33 o).1 = 20 + 10) ∧ (okA h33 (hpR h33 o 11) 1 v9 ∧ (∀ h36 : Hp, h36 = stI h33 (ad (hpR h33 o 11)) (v9).toNatClampNeg (0 : Int32) → (((hpK h36 o).1 = 20 + 10) ∧ (okA h36 (hpR h36 o 4) 1 x1 ∧ (∀ v39 : Int32, v39 = hpI h36 (ad (hpR h36 o 4)) (x1).toNatClampNeg → (okA h36 (hpR h36 o 4) 1 x1 ∧ (∀ h41 : Hp, h41 = stI h36 (ad (hpR h36 o 4)) (x1).toNatClampNeg (v39 + (1 : Int32)) → (((hpK h41 o).1 = 20 + 10) ∧ (okA h41 (hpR h41 o 4) 1 x1 ∧ (∀ v44 : Int32, v44 = hpI h41 (ad (hpR h41 o 4)) (x1).toNatClampNeg → (okA h41 (hpR h41 o 41) 1 (5 : Int32) ∧ (∀ h46 : Hp, h46 = stI h41 (ad (hpR h41 o 41)) ((5 : Int32)).toNatClampNeg v44 → (((hpK h46 o).1 = 20 + 10) ∧ (okA h46 (hpR h46 o 41) 1 (6 : Int32) ∧ (∀ h49 : Hp, h49 = stI h46 (ad (hpR h46 o 41)) ((6 : Int32)).toNatClampNeg (0 : Int32) → (((hpK h49 o).1 = 20 + 10) ∧ (okA h49 (hpR h49 o 41) 1 (7 : Int32) ∧ (∀ h52 : Hp, h52 = stI h49 (ad (hpR h49 o 41)) ((7 : Int32)).toNatClampNeg (0 : Int32) → (((hpK h52 o).1 = 20 + 10) ∧ (okA h52 (hpR h52 o 3) 1 x1 ∧ (∀ v55 : Int32, v55 = hpI h52 (ad (hpR h52 o 3)) (x1).toNatClampNeg → (∀ h56 : Hp, h56 = stI h52 o 43 v55 → (((hpK h56 o).1 = 20 + 10) ∧ (wp_X12_changes o (hpR h56 o 2) ((32 : Int32) * x1) (0 : Int32) h56 (fun (h58 : Hp) => wp_X12_barrel_L177 o x1 v9 (fun (h67 : Hp) => ((hpK h67 o).1 = 20 + 10) ∧ (okA h67 (hpR h67 o 3) 1 x1 ∧ (∀ h70 : Hp, h70 = stI h67 (ad (hpR h67 o 3)) (x1).toNatClampNeg (hpI h67 o 43) → (((hpK h70 o).1 = 20 + 10) ∧ (∀ h72 : Hp, h72 = stI h70 o 5 ((hpI h70 o 5) + (1 : Int32)) → (Q v9 h72)))))) Q fuel (0 : Int32) h58)))))))))))))))))))))))))))))))))))))))))) Q fuel (0 : Int32) h4))))))))))
set_option maxHeartbeats 4000000 in
set_option maxRecDepth 100000 in
theorem t_X12_barrel_L31 {p : Program} {l : Launch} {e : Env} {s : State} {m : MethodId} {args : Array Value} {below : List Frame} {meth : Method} {c : Code} {G : GG} {base : Nat} {A : Nat → Nat} {g0 : Hp} (hM : Mx G base p s m args meth c cX12_barrel 4 (some .int) RX12 "barrel") (o : Nat) (x1 : Int32) (x2 : Int32) (K65 : Hp → Prop) (Q : Int32 → Hp → Prop) (hK65 : ∀ (h : Hp) (H : Heap) (locs : List Loc) (ls : Array Slot), Cx2 G base A g0 A h s.heap H locs → lo_has ls 4 [(0, .ref (A o)), (1, .int x1), (2, .int x2)] → K65 h → W p l e rm_X12_barrel s m args below meth c H locs 0 0 (MQ below (va_Qi Q (PU2 G base A g0 A) (fun q => base ≤ q)) args s 0 0 (fun q => base ≤ q)) (F0 m 65 ls [])) : ∀ (n : Nat) (x3 : Int32) (h : Hp) (H : Heap) (locs : List Loc) (ls : Array Slot), Cx2 G base A g0 A h s.heap H locs → lo_has ls 4 [(0, .ref (A o)), (1, .int x1), (2, .int x2), (3, .int x3)] → wp_X12_barrel_L31 o x1 x2 K65 Q n x3 h → W p l e rm_X12_barrel s m args below meth c H locs 0 0 (MQ below (va_Qi Q (PU2 G base A g0 A) (fun q => base ≤ q)) args s 0 0 (fun q => base ≤ q)) (F0 m 31 ls []) := by
  intro n
  induction n with
  | zero =>
    intro x3 h H locs ls hC hl hw
    rw [wp_X12_barrel_L31] at hw
    exact hw.elim
  | succ n ih =>
    intro x3 h H locs ls hC hl hw
    rw [wp_X12_barrel_L31] at hw
    obtain ⟨hx, hb, hr, hml, hown, hts, hg, hs, hlk, hnm⟩ := id hM
    refine lv_iload_n hx hb dX12_barrel_31 rfl (lo_at hl 3 rfl) ?_
    refine lv_bipush (v := 32) hx hb dX12_barrel_32 (by decide) ?_
    refine lv_icmp_ge (tgt := 65) hx hb dX12_barrel_34 (by decide) (fun c10 => ?_) (fun c10 => ?_)
    ·
      replace hw := (if_pos c10).mp hw
      exact hK65  h H locs ls hC (lo_sub hl [0, 1, 2] rfl) hw
    ·
      replace hw := (if_neg c10).mp hw
      refine lv_aload_n hx hb dX12_barrel_37 rfl (lo_at hl 0 rfl) ?_
      obtain ⟨k11, hw⟩ := hw
      refine s_getR hx hb hts hown hg hC fb_10_6 k11 mk_f_RX12_19 dX12_barrel_38 ?_
      refine lv_bipush (v := 32) hx hb dX12_barrel_41 (by decide) ?_
      refine lv_iload_n hx hb dX12_barrel_43 rfl (lo_at hl 2 rfl) ?_
      refine lv_imul hx hb dX12_barrel_44 ?_
      refine lv_iload_n hx hb dX12_barrel_45 rfl (lo_at hl 3 rfl) ?_
      refine lv_iadd hx hb dX12_barrel_46 ?_
      refine lv_aload_n hx hb dX12_barrel_47 rfl (lo_at hl 0 rfl) ?_
      refine s_getR hx hb hts hown hg hC fb_10_2 k11 mk_f_RX12_7 dX12_barrel_48 ?_
      refine lv_bipush (v := 32) hx hb dX12_barrel_51 (by decide) ?_
      refine lv_iload_n hx hb dX12_barrel_53 rfl (lo_at hl 1 rfl) ?_
      refine lv_imul hx hb dX12_barrel_54 ?_
      refine lv_iload_n hx hb dX12_barrel_55 rfl (lo_at hl 3 rfl) ?_
      refine lv_iadd hx hb dX12_barrel_56 ?_
      obtain ⟨k12, hw⟩ := hw
      refine sf_2 k12.1 ?_
      refine s_iald hx hb hg hC k12.2.1 k12.2.2 dX12_barrel_57 ?_
      refine lv_topi (fun v13 ev13 => ?_)
      replace hw := hw v13 ev13
      obtain ⟨k14, hw⟩ := hw
      refine sf_3 k14.1 ?_
      refine s_iast hx hb hg hC k14.2.1 k14.2.2 dX12_barrel_58 (fun h15 H locs eh15 hC => ?_)
      replace hw := hw h15 eh15
      obtain ⟨v16, ev16⟩ : ∃ y : Int32, y = x3 + (1 : Int32) := ⟨_, rfl⟩
      replace hw := hw v16 ev16
      refine lo_iinc (v := v16) (lv' := [(3, .int v16), (0, .ref (A o)), (1, .int x1), (2, .int x2)]) hx hb dX12_barrel_59 hl (k := 3) rfl (by rw [ev16]; rfl) (by decide) rfl (fun ls hl => ?_)
      refine lv_goto (tgt := 31) hx hb dX12_barrel_62 (by decide) ?_
      exact ih v16 h15 H locs ls hC (lo_sub hl [1, 2, 3, 0] rfl) hw
set_option maxHeartbeats 4000000 in
set_option maxRecDepth 100000 in
theorem t_X12_barrel_L177 {p : Program} {l : Launch} {e : Env} {s : State} {m : MethodId} {args : Array Value} {below : List Frame} {meth : Method} {c : Code} {G : GG} {base : Nat} {A : Nat → Nat} {g0 : Hp} (hM : Mx G base p s m args meth c cX12_barrel 4 (some .int) RX12 "barrel") (o : Nat) (x1 : Int32) (x2 : Int32) (K206 : Hp → Prop) (Q : Int32 → Hp → Prop) (hK206 : ∀ (h : Hp) (H : Heap) (locs : List Loc) (ls : Array Slot), Cx2 G base A g0 A h s.heap H locs → lo_has ls 4 [(0, .ref (A o)), (1, .int x1), (2, .int x2)] → K206 h → W p l e rm_X12_barrel s m args below meth c H locs 0 0 (MQ below (va_Qi Q (PU2 G base A g0 A) (fun q => base ≤ q)) args s 0 0 (fun q => base ≤ q)) (F0 m 206 ls [])) : ∀ (n : Nat) (x3 : Int32) (h : Hp) (H : Heap) (locs : List Loc) (ls : Array Slot), Cx2 G base A g0 A h s.heap H locs → lo_has ls 4 [(0, .ref (A o)), (1, .int x1), (2, .int x2), (3, .int x3)] → wp_X12_barrel_L177 o x1 x2 K206 Q n x3 h → W p l e rm_X12_barrel s m args below meth c H locs 0 0 (MQ below (va_Qi Q (PU2 G base A g0 A) (fun q => base ≤ q)) args s 0 0 (fun q => base ≤ q)) (F0 m 177 ls []) := by
  intro n
  induction n with
  | zero =>
    intro x3 h H locs ls hC hl hw
    rw [wp_X12_barrel_L177] at hw
    exact hw.elim
  | succ n ih =>
    intro x3 h H locs ls hC hl hw
    rw [wp_X12_barrel_L177] at hw
    obtain ⟨hx, hb, hr, hml, hown, hts, hg, hs, hlk, hnm⟩ := id hM
    refine lv_iload_n hx hb dX12_barrel_177 rfl (lo_at hl 3 rfl) ?_
    refine lv_bipush (v := 32) hx hb dX12_barrel_178 (by decide) ?_
    refine lv_icmp_ge (tgt := 206) hx hb dX12_barrel_180 (by decide) (fun c60 => ?_) (fun c60 => ?_)
    ·
      replace hw := (if_pos c60).mp hw
      exact hK206  h H locs ls hC (lo_sub hl [0, 1, 2] rfl) hw
    ·
      replace hw := (if_neg c60).mp hw
      refine lv_aload_n hx hb dX12_barrel_183 rfl (lo_at hl 0 rfl) ?_
      obtain ⟨k61, hw⟩ := hw
      refine s_getR hx hb hts hown hg hC fb_10_2 k61 mk_f_RX12_7 dX12_barrel_184 ?_
      refine lv_bipush (v := 32) hx hb dX12_barrel_187 (by decide) ?_
      refine lv_iload_n hx hb dX12_barrel_189 rfl (lo_at hl 1 rfl) ?_
      refine lv_imul hx hb dX12_barrel_190 ?_
      refine lv_iload_n hx hb dX12_barrel_191 rfl (lo_at hl 3 rfl) ?_
      refine lv_iadd hx hb dX12_barrel_192 ?_
      refine lv_aload_n hx hb dX12_barrel_193 rfl (lo_at hl 0 rfl) ?_
      refine s_getR hx hb hts hown hg hC fb_10_44 k61 mk_f_RX12_89 dX12_barrel_194 ?_
      refine lv_iload_n hx hb dX12_barrel_197 rfl (lo_at hl 3 rfl) ?_
      obtain ⟨k62, hw⟩ := hw
      refine sf_2 k62.1 ?_
      refine s_iald hx hb hg hC k62.2.1 k62.2.2 dX12_barrel_198 ?_
      refine lv_topi (fun v63 ev63 => ?_)
      replace hw := hw v63 ev63
      obtain ⟨k64, hw⟩ := hw
      refine sf_3 k64.1 ?_
      refine s_iast hx hb hg hC k64.2.1 k64.2.2 dX12_barrel_199 (fun h65 H locs eh65 hC => ?_)
      replace hw := hw h65 eh65
      obtain ⟨v66, ev66⟩ : ∃ y : Int32, y = x3 + (1 : Int32) := ⟨_, rfl⟩
      replace hw := hw v66 ev66
      refine lo_iinc (v := v66) (lv' := [(3, .int v66), (0, .ref (A o)), (1, .int x1), (2, .int x2)]) hx hb dX12_barrel_200 hl (k := 3) rfl (by rw [ev66]; rfl) (by decide) rfl (fun ls hl => ?_)
      refine lv_goto (tgt := 177) hx hb dX12_barrel_203 (by decide) ?_
      exact ih v66 h65 H locs ls hC (lo_sub hl [1, 2, 3, 0] rfl) hw
set_option maxHeartbeats 4000000 in
set_option maxRecDepth 100000 in
theorem c_X12_barrel (l : Launch) (G : GG) (base : Nat) (A : Nat → Nat) (o : Nat) (x1 : Int32) (h : Hp) (Q : Int32 → Hp → Prop) (hw : wp_X12_barrel o x1 h Q) : Met l yX12_barrel (ww yX12_barrel cX12_barrel 4 (some .int)) rm_X12_barrel (va_Pc [.ref (A o), .int x1] (PU2 G base A h A h)) (va_Qi Q (PU2 G base A h A) (fun q => base ≤ q)) 0 0 (fun q => base ≤ q) := by
  refine met2_of (own := RX12) (nm := "barrel") (by decide) rfl rfl (List.forall_mem_cons.mpr ⟨rfl, (List.forall_mem_cons.mpr ⟨rfl, (fun _ h => absurd h List.not_mem_nil)⟩)⟩) (Nat.le_of_ble_eq_true rfl) rfl ?_
  intro p e s m args below meth c H locs ls hM hC hl
  obtain ⟨hx, hb, hr, hml, hown, hts, hg, hs, hlk, hnm⟩ := id hM
  unfold wp_X12_barrel at hw
  refine lv_aload_n hx hb dX12_barrel_0 rfl (lo_at hl 0 rfl) ?_
  refine lv_iconst (v := 0) hx hb dX12_barrel_1 (by decide) ?_
  obtain ⟨k1, hw⟩ := hw
  refine s_putI hx hb hts hown hg hC fb_10_0 k1 rfl rfl mk_f_RX12_132 dX12_barrel_2 (fun h2 H locs eh2 hC => ?_)
  replace hw := hw h2 eh2
  refine lv_aload_n hx hb dX12_barrel_5 rfl (lo_at hl 0 rfl) ?_
  refine lv_iload_n hx hb dX12_barrel_6 rfl (lo_at hl 1 rfl) ?_
  obtain ⟨k3, hw⟩ := hw
  refine res2_i hC (run2_V (As := [.int x1]) (rest := []) hM hC hl.1.1 kv_RX12_148 (c_X12_isTool l G base A o x1 h2 _ hw) (hc_10) k3 rfl rfl rfl ⟨Nat.le_of_ble_eq_true rfl, Nat.le_of_ble_eq_true rfl⟩ (Nat.le_of_ble_eq_true rfl) ⟨Nat.le_of_ble_eq_true rfl, Nat.le_of_ble_eq_true rfl⟩ dX12_barrel_7) (fun z5 h4 H locs hw hC => ?_)
  refine lv_if_eq (tgt := 22) hx hb dX12_barrel_10 (by decide) (fun c6 => ?_) (fun c6 => ?_)
  ·
    replace hw := (if_pos c6).mp hw
    refine lv_iconst (v := -1) hx hb dX12_barrel_22 (by decide) ?_
    exact ret2_i hM hC hw dX12_barrel_23
  ·
    replace hw := (if_neg c6).mp hw
    refine lv_aload_n hx hb dX12_barrel_13 rfl (lo_at hl 0 rfl) ?_
    obtain ⟨k7, hw⟩ := hw
    refine s_getI hx hb hts hown hg hC fb_10_5 k7 mk_f_RX12_138 dX12_barrel_14 ?_
    refine lv_bipush (v := 16) hx hb dX12_barrel_17 (by decide) ?_
    refine lv_icmp_ne (tgt := 24) hx hb dX12_barrel_19 (by decide) (fun c8 => ?_) (fun c8 => ?_)
    ·
      replace hw := (if_neg c8).mp hw
      refine lv_aload_n hx hb dX12_barrel_24 rfl (lo_at hl 0 rfl) ?_
      refine s_getI hx hb hts hown hg hC fb_10_5 k7 mk_f_RX12_138 dX12_barrel_25 ?_
      refine lv_topi (fun v9 ev9 => ?_)
      replace hw := hw v9 ev9
      refine lo_istore_n (lv' := [(2, .int v9), (0, .ref (A o)), (1, .int x1)]) hx hb dX12_barrel_28 rfl hl (by decide) rfl (fun ls hl => ?_)
      refine lv_iconst (v := 0) hx hb dX12_barrel_29 (by decide) ?_
      refine lo_istore_n (lv' := [(3, .int ((0 : Int32))), (2, .int v9), (0, .ref (A o)), (1, .int x1)]) hx hb dX12_barrel_30 rfl hl (by decide) rfl (fun ls hl => ?_)
      refine t_X12_barrel_L31 hM o x1 v9 _ Q ?_ fuel (0 : Int32) h4 H locs ls hC (lo_sub hl [2, 3, 1, 0] rfl) hw
      intro  h17 H locs ls hC hl hw
      refine lv_aload_n hx hb dX12_barrel_65 rfl (lo_at hl 0 rfl) ?_
      obtain ⟨k18, hw⟩ := hw
      refine s_getR hx hb hts hown hg hC fb_10_7 k18 mk_f_RX12_22 dX12_barrel_66 ?_
      refine lv_iload_n hx hb dX12_barrel_69 rfl (lo_at hl 2 rfl) ?_
      refine lv_aload_n hx hb dX12_barrel_70 rfl (lo_at hl 0 rfl) ?_
      refine s_getR hx hb hts hown hg hC fb_10_3 k18 mk_f_RX12_13 dX12_barrel_71 ?_
      refine lv_iload_n hx hb dX12_barrel_74 rfl (lo_at hl 1 rfl) ?_
      obtain ⟨k19, hw⟩ := hw
      refine sf_2 k19.1 ?_
      refine s_iald hx hb hg hC k19.2.1 k19.2.2 dX12_barrel_75 ?_
      refine lv_topi (fun v20 ev20 => ?_)
      replace hw := hw v20 ev20
      obtain ⟨k21, hw⟩ := hw
      refine sf_3 k21.1 ?_
      refine s_iast hx hb hg hC k21.2.1 k21.2.2 dX12_barrel_76 (fun h22 H locs eh22 hC => ?_)
      replace hw := hw h22 eh22
      refine lv_aload_n hx hb dX12_barrel_77 rfl (lo_at hl 0 rfl) ?_
      obtain ⟨k23, hw⟩ := hw
      refine s_getR hx hb hts hown hg hC fb_10_8 k23 mk_f_RX12_25 dX12_barrel_78 ?_
      refine lv_iload_n hx hb dX12_barrel_81 rfl (lo_at hl 2 rfl) ?_
      refine lv_iload_n hx hb dX12_barrel_82 rfl (lo_at hl 1 rfl) ?_
      obtain ⟨k24, hw⟩ := hw
      refine sf_3 k24.1 ?_
      refine s_iast hx hb hg hC k24.2.1 k24.2.2 dX12_barrel_83 (fun h25 H locs eh25 hC => ?_)
      replace hw := hw h25 eh25
      refine lv_aload_n hx hb dX12_barrel_84 rfl (lo_at hl 0 rfl) ?_
      obtain ⟨k26, hw⟩ := hw
      refine s_getR hx hb hts hown hg hC fb_10_9 k26 mk_f_RX12_28 dX12_barrel_85 ?_
      refine lv_iload_n hx hb dX12_barrel_88 rfl (lo_at hl 2 rfl) ?_
      refine lv_aload_n hx hb dX12_barrel_89 rfl (lo_at hl 0 rfl) ?_
      refine s_getR hx hb hts hown hg hC fb_10_4 k26 mk_f_RX12_16 dX12_barrel_90 ?_
      refine lv_iload_n hx hb dX12_barrel_93 rfl (lo_at hl 1 rfl) ?_
      obtain ⟨k27, hw⟩ := hw
      refine sf_2 k27.1 ?_
      refine s_iald hx hb hg hC k27.2.1 k27.2.2 dX12_barrel_94 ?_
      refine lv_topi (fun v28 ev28 => ?_)
      replace hw := hw v28 ev28
      obtain ⟨k29, hw⟩ := hw
      refine sf_3 k29.1 ?_
      refine s_iast hx hb hg hC k29.2.1 k29.2.2 dX12_barrel_95 (fun h30 H locs eh30 hC => ?_)
      replace hw := hw h30 eh30
      refine lv_aload_n hx hb dX12_barrel_96 rfl (lo_at hl 0 rfl) ?_
      obtain ⟨k31, hw⟩ := hw
      refine s_getR hx hb hts hown hg hC fb_10_10 k31 mk_f_RX12_31 dX12_barrel_97 ?_
      refine lv_iload_n hx hb dX12_barrel_100 rfl (lo_at hl 2 rfl) ?_
      refine lv_iconst (v := 0) hx hb dX12_barrel_101 (by decide) ?_
      obtain ⟨k32, hw⟩ := hw
      refine sf_3 k32.1 ?_
      refine s_iast hx hb hg hC k32.2.1 k32.2.2 dX12_barrel_102 (fun h33 H locs eh33 hC => ?_)
      replace hw := hw h33 eh33
      refine lv_aload_n hx hb dX12_barrel_103 rfl (lo_at hl 0 rfl) ?_
      obtain ⟨k34, hw⟩ := hw
      refine s_getR hx hb hts hown hg hC fb_10_11 k34 mk_f_RX12_34 dX12_barrel_104 ?_
      refine lv_iload_n hx hb dX12_barrel_107 rfl (lo_at hl 2 rfl) ?_
      refine lv_iconst (v := 0) hx hb dX12_barrel_108 (by decide) ?_
      obtain ⟨k35, hw⟩ := hw
      refine sf_3 k35.1 ?_
      refine s_iast hx hb hg hC k35.2.1 k35.2.2 dX12_barrel_109 (fun h36 H locs eh36 hC => ?_)
      replace hw := hw h36 eh36
      refine lv_aload_n hx hb dX12_barrel_110 rfl (lo_at hl 0 rfl) ?_
      obtain ⟨k37, hw⟩ := hw
      refine s_getR hx hb hts hown hg hC fb_10_4 k37 mk_f_RX12_16 dX12_barrel_111 ?_
      refine lv_iload_n hx hb dX12_barrel_114 rfl (lo_at hl 1 rfl) ?_
      refine lv_aload_n hx hb dX12_barrel_115 rfl (lo_at hl 0 rfl) ?_
      refine s_getR hx hb hts hown hg hC fb_10_4 k37 mk_f_RX12_16 dX12_barrel_116 ?_
      refine lv_iload_n hx hb dX12_barrel_119 rfl (lo_at hl 1 rfl) ?_
      obtain ⟨k38, hw⟩ := hw
      refine sf_2 k38.1 ?_
      refine s_iald hx hb hg hC k38.2.1 k38.2.2 dX12_barrel_120 ?_
      refine lv_topi (fun v39 ev39 => ?_)
      replace hw := hw v39 ev39
      refine lv_iconst (v := 1) hx hb dX12_barrel_121 (by decide) ?_
      refine lv_iadd hx hb dX12_barrel_122 ?_
      obtain ⟨k40, hw⟩ := hw
      refine sf_3 k40.1 ?_
      refine s_iast hx hb hg hC k40.2.1 k40.2.2 dX12_barrel_123 (fun h41 H locs eh41 hC => ?_)
      replace hw := hw h41 eh41
      refine lv_aload_n hx hb dX12_barrel_124 rfl (lo_at hl 0 rfl) ?_
      obtain ⟨k42, hw⟩ := hw
      refine s_getR hx hb hts hown hg hC fb_10_41 k42 mk_f_RX12_83 dX12_barrel_125 ?_
      refine lv_iconst (v := 5) hx hb dX12_barrel_128 (by decide) ?_
      refine lv_aload_n hx hb dX12_barrel_129 rfl (lo_at hl 0 rfl) ?_
      refine s_getR hx hb hts hown hg hC fb_10_4 k42 mk_f_RX12_16 dX12_barrel_130 ?_
      refine lv_iload_n hx hb dX12_barrel_133 rfl (lo_at hl 1 rfl) ?_
      obtain ⟨k43, hw⟩ := hw
      refine sf_2 k43.1 ?_
      refine s_iald hx hb hg hC k43.2.1 k43.2.2 dX12_barrel_134 ?_
      refine lv_topi (fun v44 ev44 => ?_)
      replace hw := hw v44 ev44
      obtain ⟨k45, hw⟩ := hw
      refine sf_3 k45.1 ?_
      refine s_iast hx hb hg hC k45.2.1 k45.2.2 dX12_barrel_135 (fun h46 H locs eh46 hC => ?_)
      replace hw := hw h46 eh46
      refine lv_aload_n hx hb dX12_barrel_136 rfl (lo_at hl 0 rfl) ?_
      obtain ⟨k47, hw⟩ := hw
      refine s_getR hx hb hts hown hg hC fb_10_41 k47 mk_f_RX12_83 dX12_barrel_137 ?_
      refine lv_bipush (v := 6) hx hb dX12_barrel_140 (by decide) ?_
      refine lv_iconst (v := 0) hx hb dX12_barrel_142 (by decide) ?_
      obtain ⟨k48, hw⟩ := hw
      refine sf_3 k48.1 ?_
      refine s_iast hx hb hg hC k48.2.1 k48.2.2 dX12_barrel_143 (fun h49 H locs eh49 hC => ?_)
      replace hw := hw h49 eh49
      refine lv_aload_n hx hb dX12_barrel_144 rfl (lo_at hl 0 rfl) ?_
      obtain ⟨k50, hw⟩ := hw
      refine s_getR hx hb hts hown hg hC fb_10_41 k50 mk_f_RX12_83 dX12_barrel_145 ?_
      refine lv_bipush (v := 7) hx hb dX12_barrel_148 (by decide) ?_
      refine lv_iconst (v := 0) hx hb dX12_barrel_150 (by decide) ?_
      obtain ⟨k51, hw⟩ := hw
      refine sf_3 k51.1 ?_
      refine s_iast hx hb hg hC k51.2.1 k51.2.2 dX12_barrel_151 (fun h52 H locs eh52 hC => ?_)
      replace hw := hw h52 eh52
      refine lv_aload_n hx hb dX12_barrel_152 rfl (lo_at hl 0 rfl) ?_
      refine lv_aload_n hx hb dX12_barrel_153 rfl (lo_at hl 0 rfl) ?_
      obtain ⟨k53, hw⟩ := hw
      refine s_getR hx hb hts hown hg hC fb_10_3 k53 mk_f_RX12_13 dX12_barrel_154 ?_
      refine lv_iload_n hx hb dX12_barrel_157 rfl (lo_at hl 1 rfl) ?_
      obtain ⟨k54, hw⟩ := hw
      refine sf_2 k54.1 ?_
      refine s_iald hx hb hg hC k54.2.1 k54.2.2 dX12_barrel_158 ?_
      refine lv_topi (fun v55 ev55 => ?_)
      replace hw := hw v55 ev55
      refine s_putI hx hb hts hown hg hC fb_10_43 k53 rfl rfl mk_f_RX12_155 dX12_barrel_159 (fun h56 H locs eh56 hC => ?_)
      replace hw := hw h56 eh56
      refine lv_aload_n hx hb dX12_barrel_162 rfl (lo_at hl 0 rfl) ?_
      refine lv_aload_n hx hb dX12_barrel_163 rfl (lo_at hl 0 rfl) ?_
      obtain ⟨k57, hw⟩ := hw
      refine s_getR hx hb hts hown hg hC fb_10_2 k57 mk_f_RX12_7 dX12_barrel_164 ?_
      refine lv_bipush (v := 32) hx hb dX12_barrel_167 (by decide) ?_
      refine lv_iload_n hx hb dX12_barrel_169 rfl (lo_at hl 1 rfl) ?_
      refine lv_imul hx hb dX12_barrel_170 ?_
      refine lv_iconst (v := 0) hx hb dX12_barrel_171 (by decide) ?_
      refine res2_v hC (run2_V (As := [va_rf (Option.map A (hpR h56 o 2)), .int ((32 : Int32) * x1), .int ((0 : Int32))]) (rest := []) hM hC hl.1.1 kv_RX12_158 (c_X12_changes l G base A o (hpR h56 o 2) ((32 : Int32) * x1) (0 : Int32) h56 _ hw) (hc_10) k57 rfl rfl rfl ⟨Nat.le_of_ble_eq_true rfl, Nat.le_of_ble_eq_true rfl⟩ (Nat.le_of_ble_eq_true rfl) ⟨Nat.le_of_ble_eq_true rfl, Nat.le_of_ble_eq_true rfl⟩ dX12_barrel_172) (fun h58 H locs hw hC => ?_)
      refine lv_iconst (v := 0) hx hb dX12_barrel_175 (by decide) ?_
      refine lo_istore_n (lv' := [(3, .int ((0 : Int32))), (0, .ref (A o)), (1, .int x1), (2, .int v9)]) hx hb dX12_barrel_176 rfl hl (by decide) rfl (fun ls hl => ?_)
      refine t_X12_barrel_L177 hM o x1 v9 _ Q ?_ fuel (0 : Int32) h58 H locs ls hC (lo_sub hl [1, 2, 3, 0] rfl) hw
      intro  h67 H locs ls hC hl hw
      refine lv_aload_n hx hb dX12_barrel_206 rfl (lo_at hl 0 rfl) ?_
      obtain ⟨k68, hw⟩ := hw
      refine s_getR hx hb hts hown hg hC fb_10_3 k68 mk_f_RX12_13 dX12_barrel_207 ?_
      refine lv_iload_n hx hb dX12_barrel_210 rfl (lo_at hl 1 rfl) ?_
      refine lv_aload_n hx hb dX12_barrel_211 rfl (lo_at hl 0 rfl) ?_
      refine s_getI hx hb hts hown hg hC fb_10_43 k68 mk_f_RX12_155 dX12_barrel_212 ?_
      obtain ⟨k69, hw⟩ := hw
      refine sf_3 k69.1 ?_
      refine s_iast hx hb hg hC k69.2.1 k69.2.2 dX12_barrel_215 (fun h70 H locs eh70 hC => ?_)
      replace hw := hw h70 eh70
      refine lv_aload_n hx hb dX12_barrel_216 rfl (lo_at hl 0 rfl) ?_
      refine lv_aload_n hx hb dX12_barrel_217 rfl (lo_at hl 0 rfl) ?_
      obtain ⟨k71, hw⟩ := hw
      refine s_getI hx hb hts hown hg hC fb_10_5 k71 mk_f_RX12_138 dX12_barrel_218 ?_
      refine lv_iconst (v := 1) hx hb dX12_barrel_221 (by decide) ?_
      refine lv_iadd hx hb dX12_barrel_222 ?_
      refine s_putI hx hb hts hown hg hC fb_10_5 k71 rfl rfl mk_f_RX12_138 dX12_barrel_223 (fun h72 H locs eh72 hC => ?_)
      replace hw := hw h72 eh72
      refine lv_iload_n hx hb dX12_barrel_226 rfl (lo_at hl 2 rfl) ?_
      exact ret2_i hM hC hw dX12_barrel_227
    ·
      replace hw := (if_pos c8).mp hw
      refine lv_iconst (v := -1) hx hb dX12_barrel_22 (by decide) ?_
      exact ret2_i hM hC hw dX12_barrel_23
abbrev rm_X12_shot : Room := { frames := 4, cells := 0, slots := 0, locals := 95 }
set_option maxRecDepth 100000 in
def wp_X12_shot_L93 (o : Nat) (x1 : Int32) (x2 : Int32) (K125 : Hp → Prop) (Q : Int32 → Hp → Prop) : Nat → Int32 → Hp → Prop
  | 0, _, _ => False
  | n + 1, x3, h => (if (32 : Int32) ≤ x3 then (K125 h) else (((hpK h o).1 = 20 + 10) ∧ (okA h (hpR h o 44) 1 x3 ∧ (∀ v35 : Int32, v35 = hpI h (ad (hpR h o 44)) (x3).toNatClampNeg → (okA h (hpR h o 13) 1 (((32 : Int32) * (hpI h o 12)) + x3) ∧ (∀ h37 : Hp, h37 = stI h (ad (hpR h o 13)) (((32 : Int32) * (hpI h o 12)) + x3).toNatClampNeg v35 → (∀ v38 : Int32, v38 = x3 + (1 : Int32) → (wp_X12_shot_L93 o x1 x2 K125 Q n v38 h37))))))))
set_option maxRecDepth 100000 in
def wp_X12_shot_L140 (o : Nat) (x1 : Int32) (x2 : Int32) (K169 : Hp → Prop) (Q : Int32 → Hp → Prop) : Nat → Int32 → Hp → Prop
  | 0, _, _ => False
  | n + 1, x3, h => (if (32 : Int32) ≤ x3 then (K169 h) else (((hpK h o).1 = 20 + 10) ∧ (okA h (hpR h o 44) 1 x3 ∧ (∀ v46 : Int32, v46 = hpI h (ad (hpR h o 44)) (x3).toNatClampNeg → (okA h (hpR h o 6) 1 (((32 : Int32) * x1) + x3) ∧ (∀ h48 : Hp, h48 = stI h (ad (hpR h o 6)) (((32 : Int32) * x1) + x3).toNatClampNeg v46 → (∀ v49 : Int32, v49 = x3 + (1 : Int32) → (wp_X12_shot_L140 o x1 x2 K169 Q n v49 h48))))))))
set_option maxRecDepth 100000 in
def wp_X12_shot (o : Nat) (x1 : Int32) (x2 : Int32) (h : Hp) (Q : Int32 → Hp → Prop) : Prop := ((hpK h o).1 = 20 + 10) ∧ (∀ h2 : Hp, h2 = stI h o 0 (0 : Int32) → (((hpK h2 o).1 = 20 + 10) ∧ (wp_X12_isBarrel o x1 h2 (fun (z5 : Int32) (h4 : Hp) => (if z5 = 0 then (Q (-1 : Int32) h4) else (((hpK h4 o).1 = 20 + 10) ∧ (wp_X12_isIn o x2 (0 : Int32) (9 : Int32) h4 (fun (z9 : Int32) (h8 : Hp) => (if z9 = 0 then (Q (-1 : Int32) h8) else (((hpK h8 o).1 = 20 + 10) ∧ ((if (hpI h8 o 12) = (40 : Int32) then (Q (-1 : Int32) h8) else (okA h8 (hpR h8 o 10) 1 x1 ∧ (∀ v14 : Int32, v14 = hpI h8 (ad (hpR h8 o 10)) (x1).toNatClampNeg → (okA h8 (hpR h8 o 41) 1 (5 : Int32) ∧ (∀ h16 : Hp, h16 = stI h8 (ad (hpR h8 o 41)) ((5 : Int32)).toNatClampNeg v14 → (((hpK h16 o).1 = 20 + 10) ∧ (okA h16 (hpR h16 o 11) 1 x1 ∧ (∀ v19 : Int32, v19 = hpI h16 (ad (hpR h16 o 11)) (x1).toNatClampNeg → (okA h16 (hpR h16 o 41) 1 (6 : Int32) ∧ (∀ h21 : Hp, h21 = stI h16 (ad (hpR h16 o 41)) ((6 : Int32)).toNatClampNeg v19 → (((hpK h21 o).1 = 20 + 10) ∧ (okA h21 (hpR h21 o 41) 1 (7 : Int32) ∧ (∀ h24 : Hp, h24 = stI h21 (ad (hpR h21 o 41)) ((7 : Int32)).toNatClampNeg x2 → (((hpK h24 o).1 = 20 + 10) ∧ (okA h24 (hpR h24 o 7) 1 x1 ∧ (∀ v27 : Int32, v27 = hpI h24 (ad (hpR h24 o 7)) (x1).toNatClampNeg → (∀ h28 : Hp, h28 = stI h24 o 43 v27 → (((hpK h28 o).1 = 20 + 10) ∧ (wp_X12_changes o (hpR h28 o 6) ((32 : Int32) * x1) (2 : Int32) h28 (fun (h30 : Hp) => wp_X12_shot_L93 o x1 x2 (fun (h39 : Hp) => ((hpK h39 o).1 = 20 + 10) ∧ (wp_X12_changes o (hpR h39 o 6) ((32 : Int32) * x1) (1 : Int32) h39 (fun (h41 : Hp) => wp_X12_shot_L140 o x1 x2 (fun (h50 : Hp) => ((hpK h50 o).1 = 20 + 10) ∧ (okA h50 (hpR h50 o 7) 1 x1 ∧ (∀ h53 : Hp, h53 = stI h50 (ad (hpR h50 o 7)) (x1).toNatClampNeg (hpI h50 o 43) → (((hpK h53 o).1 = 20 + 10) ∧ (okA h53 (hpR h53 o 14) 1 (hpI h53 o 12) ∧ (∀ h56 : Hp, h56 = stI h53 (ad (hpR h53 o 14)) (hpI h53 o 12).toNatClampNeg x1 → (((hpK h56 o).1 = 20 + 10) ∧ (okA h56 (hpR h56 o 10) 1 x1 ∧ (∀ v59 : Int32, v59 = hpI h56 (ad (hpR h56 o 10)) (x1).toNatClampNeg → (okA h56 (hpR h56 o 15) 1 (hpI h56 o 12) ∧ (∀ h61 : Hp, h61 = stI h56 (ad (hpR h56 o 15)) (hpI h56 o 12).toNatClampNeg v59 → (((hpK h61 o).1 = 20 + 10) ∧ (okA h61 (hpR h61 o 16) 1 (hpI h61 o 12) ∧ (∀ h64 : Hp, h64 = stI h61 (ad (hpR h61 o 16)) (hpI h61 o 12).toNatClampNeg x2 → (((hpK h64 o).1 = 20 + 10) ∧ (okA h64 (hpR h64 o 10) 1 x1 ∧ (∀ v67 : Int32, v67 = hpI h64 (ad (hpR h64 o 10)) (x1).toNatClampNeg → (okA h64 (hpR h64 o 10) 1 x1 ∧ (∀ h69 : Hp, h69 = stI h64 (ad (hpR h64 o 10)) (x1).toNatClampNeg (v67 + (1 : Int32)) → (((hpK h69 o).1 = 20 + 10) ∧ (∀ h71 : Hp, h71 = stI h69 o 12 ((hpI h69 o 12) + (1 : Int32)) → (((hpK h71 o).1 = 20 + 10) ∧ (∀ h73 : Hp, h73 = stI h71 o 17 ((hpI h71 o 17) + (1 : Int32)) → (((hpK h73 o).1 = 20 + 10) ∧ (Q ((hpI h73 o 12) - (1 : Int32)) h73))))))))))))))))))))))))) Q fuel (0 : Int32) h41))) Q fuel (0 : Int32) h30)))))))))))))))))))))))))))))))
set_option maxHeartbeats 4000000 in
set_option maxRecDepth 100000 in
theorem t_X12_shot_L93 {p : Program} {l : Launch} {e : Env} {s : State} {m : MethodId} {args : Array Value} {below : List Frame} {meth : Method} {c : Code} {G : GG} {base : Nat} {A : Nat → Nat} {g0 : Hp} (hM : Mx G base p s m args meth c cX12_shot 4 (some .int) RX12 "shot") (o : Nat) (x1 : Int32) (x2 : Int32) (K125 : Hp → Prop) (Q : Int32 → Hp → Prop) (hK125 : ∀ (h : Hp) (H : Heap) (locs : List Loc) (ls : Array Slot), Cx2 G base A g0 A h s.heap H locs → lo_has ls 4 [(0, .ref (A o)), (1, .int x1), (2, .int x2)] → K125 h → W p l e rm_X12_shot s m args below meth c H locs 0 0 (MQ below (va_Qi Q (PU2 G base A g0 A) (fun q => base ≤ q)) args s 0 0 (fun q => base ≤ q)) (F0 m 125 ls [])) : ∀ (n : Nat) (x3 : Int32) (h : Hp) (H : Heap) (locs : List Loc) (ls : Array Slot), Cx2 G base A g0 A h s.heap H locs → lo_has ls 4 [(0, .ref (A o)), (1, .int x1), (2, .int x2), (3, .int x3)] → wp_X12_shot_L93 o x1 x2 K125 Q n x3 h → W p l e rm_X12_shot s m args below meth c H locs 0 0 (MQ below (va_Qi Q (PU2 G base A g0 A) (fun q => base ≤ q)) args s 0 0 (fun q => base ≤ q)) (F0 m 93 ls []) := by
  intro n
  induction n with
  | zero =>
    intro x3 h H locs ls hC hl hw
    rw [wp_X12_shot_L93] at hw
    exact hw.elim
  | succ n ih =>
    intro x3 h H locs ls hC hl hw
    rw [wp_X12_shot_L93] at hw
    obtain ⟨hx, hb, hr, hml, hown, hts, hg, hs, hlk, hnm⟩ := id hM
    refine lv_iload_n hx hb dX12_shot_93 rfl (lo_at hl 3 rfl) ?_
    refine lv_bipush (v := 32) hx hb dX12_shot_94 (by decide) ?_
    refine lv_icmp_ge (tgt := 125) hx hb dX12_shot_96 (by decide) (fun c32 => ?_) (fun c32 => ?_)
    ·
      replace hw := (if_pos c32).mp hw
      exact hK125  h H locs ls hC (lo_sub hl [0, 1, 2] rfl) hw
    ·
      replace hw := (if_neg c32).mp hw
      refine lv_aload_n hx hb dX12_shot_99 rfl (lo_at hl 0 rfl) ?_
      obtain ⟨k33, hw⟩ := hw
      refine s_getR hx hb hts hown hg hC fb_10_13 k33 mk_f_RX12_37 dX12_shot_100 ?_
      refine lv_bipush (v := 32) hx hb dX12_shot_103 (by decide) ?_
      refine lv_aload_n hx hb dX12_shot_105 rfl (lo_at hl 0 rfl) ?_
      refine s_getI hx hb hts hown hg hC fb_10_12 k33 mk_f_RX12_141 dX12_shot_106 ?_
      refine lv_imul hx hb dX12_shot_109 ?_
      refine lv_iload_n hx hb dX12_shot_110 rfl (lo_at hl 3 rfl) ?_
      refine lv_iadd hx hb dX12_shot_111 ?_
      refine lv_aload_n hx hb dX12_shot_112 rfl (lo_at hl 0 rfl) ?_
      refine s_getR hx hb hts hown hg hC fb_10_44 k33 mk_f_RX12_89 dX12_shot_113 ?_
      refine lv_iload_n hx hb dX12_shot_116 rfl (lo_at hl 3 rfl) ?_
      obtain ⟨k34, hw⟩ := hw
      refine sf_2 k34.1 ?_
      refine s_iald hx hb hg hC k34.2.1 k34.2.2 dX12_shot_117 ?_
      refine lv_topi (fun v35 ev35 => ?_)
      replace hw := hw v35 ev35
      obtain ⟨k36, hw⟩ := hw
      refine sf_3 k36.1 ?_
      refine s_iast hx hb hg hC k36.2.1 k36.2.2 dX12_shot_118 (fun h37 H locs eh37 hC => ?_)
      replace hw := hw h37 eh37
      obtain ⟨v38, ev38⟩ : ∃ y : Int32, y = x3 + (1 : Int32) := ⟨_, rfl⟩
      replace hw := hw v38 ev38
      refine lo_iinc (v := v38) (lv' := [(3, .int v38), (0, .ref (A o)), (1, .int x1), (2, .int x2)]) hx hb dX12_shot_119 hl (k := 3) rfl (by rw [ev38]; rfl) (by decide) rfl (fun ls hl => ?_)
      refine lv_goto (tgt := 93) hx hb dX12_shot_122 (by decide) ?_
      exact ih v38 h37 H locs ls hC (lo_sub hl [1, 2, 3, 0] rfl) hw
set_option maxHeartbeats 4000000 in
set_option maxRecDepth 100000 in
theorem t_X12_shot_L140 {p : Program} {l : Launch} {e : Env} {s : State} {m : MethodId} {args : Array Value} {below : List Frame} {meth : Method} {c : Code} {G : GG} {base : Nat} {A : Nat → Nat} {g0 : Hp} (hM : Mx G base p s m args meth c cX12_shot 4 (some .int) RX12 "shot") (o : Nat) (x1 : Int32) (x2 : Int32) (K169 : Hp → Prop) (Q : Int32 → Hp → Prop) (hK169 : ∀ (h : Hp) (H : Heap) (locs : List Loc) (ls : Array Slot), Cx2 G base A g0 A h s.heap H locs → lo_has ls 4 [(0, .ref (A o)), (1, .int x1), (2, .int x2)] → K169 h → W p l e rm_X12_shot s m args below meth c H locs 0 0 (MQ below (va_Qi Q (PU2 G base A g0 A) (fun q => base ≤ q)) args s 0 0 (fun q => base ≤ q)) (F0 m 169 ls [])) : ∀ (n : Nat) (x3 : Int32) (h : Hp) (H : Heap) (locs : List Loc) (ls : Array Slot), Cx2 G base A g0 A h s.heap H locs → lo_has ls 4 [(0, .ref (A o)), (1, .int x1), (2, .int x2), (3, .int x3)] → wp_X12_shot_L140 o x1 x2 K169 Q n x3 h → W p l e rm_X12_shot s m args below meth c H locs 0 0 (MQ below (va_Qi Q (PU2 G base A g0 A) (fun q => base ≤ q)) args s 0 0 (fun q => base ≤ q)) (F0 m 140 ls []) := by
  intro n
  induction n with
  | zero =>
    intro x3 h H locs ls hC hl hw
    rw [wp_X12_shot_L140] at hw
    exact hw.elim
  | succ n ih =>
    intro x3 h H locs ls hC hl hw
    rw [wp_X12_shot_L140] at hw
    obtain ⟨hx, hb, hr, hml, hown, hts, hg, hs, hlk, hnm⟩ := id hM
    refine lv_iload_n hx hb dX12_shot_140 rfl (lo_at hl 3 rfl) ?_
    refine lv_bipush (v := 32) hx hb dX12_shot_141 (by decide) ?_
    refine lv_icmp_ge (tgt := 169) hx hb dX12_shot_143 (by decide) (fun c43 => ?_) (fun c43 => ?_)
    ·
      replace hw := (if_pos c43).mp hw
      exact hK169  h H locs ls hC (lo_sub hl [0, 1, 2] rfl) hw
    ·
      replace hw := (if_neg c43).mp hw
      refine lv_aload_n hx hb dX12_shot_146 rfl (lo_at hl 0 rfl) ?_
      obtain ⟨k44, hw⟩ := hw
      refine s_getR hx hb hts hown hg hC fb_10_6 k44 mk_f_RX12_19 dX12_shot_147 ?_
      refine lv_bipush (v := 32) hx hb dX12_shot_150 (by decide) ?_
      refine lv_iload_n hx hb dX12_shot_152 rfl (lo_at hl 1 rfl) ?_
      refine lv_imul hx hb dX12_shot_153 ?_
      refine lv_iload_n hx hb dX12_shot_154 rfl (lo_at hl 3 rfl) ?_
      refine lv_iadd hx hb dX12_shot_155 ?_
      refine lv_aload_n hx hb dX12_shot_156 rfl (lo_at hl 0 rfl) ?_
      refine s_getR hx hb hts hown hg hC fb_10_44 k44 mk_f_RX12_89 dX12_shot_157 ?_
      refine lv_iload_n hx hb dX12_shot_160 rfl (lo_at hl 3 rfl) ?_
      obtain ⟨k45, hw⟩ := hw
      refine sf_2 k45.1 ?_
      refine s_iald hx hb hg hC k45.2.1 k45.2.2 dX12_shot_161 ?_
      refine lv_topi (fun v46 ev46 => ?_)
      replace hw := hw v46 ev46
      obtain ⟨k47, hw⟩ := hw
      refine sf_3 k47.1 ?_
      refine s_iast hx hb hg hC k47.2.1 k47.2.2 dX12_shot_162 (fun h48 H locs eh48 hC => ?_)
      replace hw := hw h48 eh48
      obtain ⟨v49, ev49⟩ : ∃ y : Int32, y = x3 + (1 : Int32) := ⟨_, rfl⟩
      replace hw := hw v49 ev49
      refine lo_iinc (v := v49) (lv' := [(3, .int v49), (0, .ref (A o)), (1, .int x1), (2, .int x2)]) hx hb dX12_shot_163 hl (k := 3) rfl (by rw [ev49]; rfl) (by decide) rfl (fun ls hl => ?_)
      refine lv_goto (tgt := 140) hx hb dX12_shot_166 (by decide) ?_
      exact ih v49 h48 H locs ls hC (lo_sub hl [1, 2, 3, 0] rfl) hw
set_option maxHeartbeats 4000000 in
set_option maxRecDepth 100000 in
theorem c_X12_shot (l : Launch) (G : GG) (base : Nat) (A : Nat → Nat) (o : Nat) (x1 : Int32) (x2 : Int32) (h : Hp) (Q : Int32 → Hp → Prop) (hw : wp_X12_shot o x1 x2 h Q) : Met l yX12_shot (ww yX12_shot cX12_shot 4 (some .int)) rm_X12_shot (va_Pc [.ref (A o), .int x1, .int x2] (PU2 G base A h A h)) (va_Qi Q (PU2 G base A h A) (fun q => base ≤ q)) 0 0 (fun q => base ≤ q) := by
  refine met2_of (own := RX12) (nm := "shot") (by decide) rfl rfl (List.forall_mem_cons.mpr ⟨rfl, (List.forall_mem_cons.mpr ⟨rfl, (List.forall_mem_cons.mpr ⟨rfl, (fun _ h => absurd h List.not_mem_nil)⟩)⟩)⟩) (Nat.le_of_ble_eq_true rfl) rfl ?_
  intro p e s m args below meth c H locs ls hM hC hl
  obtain ⟨hx, hb, hr, hml, hown, hts, hg, hs, hlk, hnm⟩ := id hM
  unfold wp_X12_shot at hw
  refine lv_aload_n hx hb dX12_shot_0 rfl (lo_at hl 0 rfl) ?_
  refine lv_iconst (v := 0) hx hb dX12_shot_1 (by decide) ?_
  obtain ⟨k1, hw⟩ := hw
  refine s_putI hx hb hts hown hg hC fb_10_0 k1 rfl rfl mk_f_RX12_132 dX12_shot_2 (fun h2 H locs eh2 hC => ?_)
  replace hw := hw h2 eh2
  refine lv_aload_n hx hb dX12_shot_5 rfl (lo_at hl 0 rfl) ?_
  refine lv_iload_n hx hb dX12_shot_6 rfl (lo_at hl 1 rfl) ?_
  obtain ⟨k3, hw⟩ := hw
  refine res2_i hC (run2_V (As := [.int x1]) (rest := []) hM hC hl.1.1 kv_RX12_162 (c_X12_isBarrel l G base A o x1 h2 _ hw) (hc_10) k3 rfl rfl rfl ⟨Nat.le_of_ble_eq_true rfl, Nat.le_of_ble_eq_true rfl⟩ (Nat.le_of_ble_eq_true rfl) ⟨Nat.le_of_ble_eq_true rfl, Nat.le_of_ble_eq_true rfl⟩ dX12_shot_7) (fun z5 h4 H locs hw hC => ?_)
  refine lv_if_eq (tgt := 33) hx hb dX12_shot_10 (by decide) (fun c6 => ?_) (fun c6 => ?_)
  ·
    replace hw := (if_pos c6).mp hw
    refine lv_iconst (v := -1) hx hb dX12_shot_33 (by decide) ?_
    exact ret2_i hM hC hw dX12_shot_34
  ·
    replace hw := (if_neg c6).mp hw
    refine lv_aload_n hx hb dX12_shot_13 rfl (lo_at hl 0 rfl) ?_
    refine lv_iload_n hx hb dX12_shot_14 rfl (lo_at hl 2 rfl) ?_
    refine lv_iconst (v := 0) hx hb dX12_shot_15 (by decide) ?_
    refine lv_bipush (v := 9) hx hb dX12_shot_16 (by decide) ?_
    obtain ⟨k7, hw⟩ := hw
    refine res2_i hC (run2_V (As := [.int x2, .int ((0 : Int32)), .int ((9 : Int32))]) (rest := []) hM hC hl.1.1 kv_RX12_144 (c_X12_isIn l G base A o x2 (0 : Int32) (9 : Int32) h4 _ hw) (hc_10) k7 rfl rfl rfl ⟨Nat.le_of_ble_eq_true rfl, Nat.le_of_ble_eq_true rfl⟩ (Nat.le_of_ble_eq_true rfl) ⟨Nat.le_of_ble_eq_true rfl, Nat.le_of_ble_eq_true rfl⟩ dX12_shot_18) (fun z9 h8 H locs hw hC => ?_)
    refine lv_if_eq (tgt := 33) hx hb dX12_shot_21 (by decide) (fun c10 => ?_) (fun c10 => ?_)
    ·
      replace hw := (if_pos c10).mp hw
      refine lv_iconst (v := -1) hx hb dX12_shot_33 (by decide) ?_
      exact ret2_i hM hC hw dX12_shot_34
    ·
      replace hw := (if_neg c10).mp hw
      refine lv_aload_n hx hb dX12_shot_24 rfl (lo_at hl 0 rfl) ?_
      obtain ⟨k11, hw⟩ := hw
      refine s_getI hx hb hts hown hg hC fb_10_12 k11 mk_f_RX12_141 dX12_shot_25 ?_
      refine lv_bipush (v := 40) hx hb dX12_shot_28 (by decide) ?_
      refine lv_icmp_ne (tgt := 35) hx hb dX12_shot_30 (by decide) (fun c12 => ?_) (fun c12 => ?_)
      ·
        replace hw := (if_neg c12).mp hw
        refine lv_aload_n hx hb dX12_shot_35 rfl (lo_at hl 0 rfl) ?_
        refine s_getR hx hb hts hown hg hC fb_10_41 k11 mk_f_RX12_83 dX12_shot_36 ?_
        refine lv_iconst (v := 5) hx hb dX12_shot_39 (by decide) ?_
        refine lv_aload_n hx hb dX12_shot_40 rfl (lo_at hl 0 rfl) ?_
        refine s_getR hx hb hts hown hg hC fb_10_10 k11 mk_f_RX12_31 dX12_shot_41 ?_
        refine lv_iload_n hx hb dX12_shot_44 rfl (lo_at hl 1 rfl) ?_
        obtain ⟨k13, hw⟩ := hw
        refine sf_2 k13.1 ?_
        refine s_iald hx hb hg hC k13.2.1 k13.2.2 dX12_shot_45 ?_
        refine lv_topi (fun v14 ev14 => ?_)
        replace hw := hw v14 ev14
        obtain ⟨k15, hw⟩ := hw
        refine sf_3 k15.1 ?_
        refine s_iast hx hb hg hC k15.2.1 k15.2.2 dX12_shot_46 (fun h16 H locs eh16 hC => ?_)
        replace hw := hw h16 eh16
        refine lv_aload_n hx hb dX12_shot_47 rfl (lo_at hl 0 rfl) ?_
        obtain ⟨k17, hw⟩ := hw
        refine s_getR hx hb hts hown hg hC fb_10_41 k17 mk_f_RX12_83 dX12_shot_48 ?_
        refine lv_bipush (v := 6) hx hb dX12_shot_51 (by decide) ?_
        refine lv_aload_n hx hb dX12_shot_53 rfl (lo_at hl 0 rfl) ?_
        refine s_getR hx hb hts hown hg hC fb_10_11 k17 mk_f_RX12_34 dX12_shot_54 ?_
        refine lv_iload_n hx hb dX12_shot_57 rfl (lo_at hl 1 rfl) ?_
        obtain ⟨k18, hw⟩ := hw
        refine sf_2 k18.1 ?_
        refine s_iald hx hb hg hC k18.2.1 k18.2.2 dX12_shot_58 ?_
        refine lv_topi (fun v19 ev19 => ?_)
        replace hw := hw v19 ev19
        obtain ⟨k20, hw⟩ := hw
        refine sf_3 k20.1 ?_
        refine s_iast hx hb hg hC k20.2.1 k20.2.2 dX12_shot_59 (fun h21 H locs eh21 hC => ?_)
        replace hw := hw h21 eh21
        refine lv_aload_n hx hb dX12_shot_60 rfl (lo_at hl 0 rfl) ?_
        obtain ⟨k22, hw⟩ := hw
        refine s_getR hx hb hts hown hg hC fb_10_41 k22 mk_f_RX12_83 dX12_shot_61 ?_
        refine lv_bipush (v := 7) hx hb dX12_shot_64 (by decide) ?_
        refine lv_iload_n hx hb dX12_shot_66 rfl (lo_at hl 2 rfl) ?_
        obtain ⟨k23, hw⟩ := hw
        refine sf_3 k23.1 ?_
        refine s_iast hx hb hg hC k23.2.1 k23.2.2 dX12_shot_67 (fun h24 H locs eh24 hC => ?_)
        replace hw := hw h24 eh24
        refine lv_aload_n hx hb dX12_shot_68 rfl (lo_at hl 0 rfl) ?_
        refine lv_aload_n hx hb dX12_shot_69 rfl (lo_at hl 0 rfl) ?_
        obtain ⟨k25, hw⟩ := hw
        refine s_getR hx hb hts hown hg hC fb_10_7 k25 mk_f_RX12_22 dX12_shot_70 ?_
        refine lv_iload_n hx hb dX12_shot_73 rfl (lo_at hl 1 rfl) ?_
        obtain ⟨k26, hw⟩ := hw
        refine sf_2 k26.1 ?_
        refine s_iald hx hb hg hC k26.2.1 k26.2.2 dX12_shot_74 ?_
        refine lv_topi (fun v27 ev27 => ?_)
        replace hw := hw v27 ev27
        refine s_putI hx hb hts hown hg hC fb_10_43 k25 rfl rfl mk_f_RX12_155 dX12_shot_75 (fun h28 H locs eh28 hC => ?_)
        replace hw := hw h28 eh28
        refine lv_aload_n hx hb dX12_shot_78 rfl (lo_at hl 0 rfl) ?_
        refine lv_aload_n hx hb dX12_shot_79 rfl (lo_at hl 0 rfl) ?_
        obtain ⟨k29, hw⟩ := hw
        refine s_getR hx hb hts hown hg hC fb_10_6 k29 mk_f_RX12_19 dX12_shot_80 ?_
        refine lv_bipush (v := 32) hx hb dX12_shot_83 (by decide) ?_
        refine lv_iload_n hx hb dX12_shot_85 rfl (lo_at hl 1 rfl) ?_
        refine lv_imul hx hb dX12_shot_86 ?_
        refine lv_iconst (v := 2) hx hb dX12_shot_87 (by decide) ?_
        refine res2_v hC (run2_V (As := [va_rf (Option.map A (hpR h28 o 6)), .int ((32 : Int32) * x1), .int ((2 : Int32))]) (rest := []) hM hC hl.1.1 kv_RX12_158 (c_X12_changes l G base A o (hpR h28 o 6) ((32 : Int32) * x1) (2 : Int32) h28 _ hw) (hc_10) k29 rfl rfl rfl ⟨Nat.le_of_ble_eq_true rfl, Nat.le_of_ble_eq_true rfl⟩ (Nat.le_of_ble_eq_true rfl) ⟨Nat.le_of_ble_eq_true rfl, Nat.le_of_ble_eq_true rfl⟩ dX12_shot_88) (fun h30 H locs hw hC => ?_)
        refine lv_iconst (v := 0) hx hb dX12_shot_91 (by decide) ?_
        refine lo_istore_n (lv' := [(3, .int ((0 : Int32))), (0, .ref (A o)), (1, .int x1), (2, .int x2)]) hx hb dX12_shot_92 rfl hl (by decide) rfl (fun ls hl => ?_)
        refine t_X12_shot_L93 hM o x1 x2 _ Q ?_ fuel (0 : Int32) h30 H locs ls hC (lo_sub hl [1, 2, 3, 0] rfl) hw
        intro  h39 H locs ls hC hl hw
        refine lv_aload_n hx hb dX12_shot_125 rfl (lo_at hl 0 rfl) ?_
        refine lv_aload_n hx hb dX12_shot_126 rfl (lo_at hl 0 rfl) ?_
        obtain ⟨k40, hw⟩ := hw
        refine s_getR hx hb hts hown hg hC fb_10_6 k40 mk_f_RX12_19 dX12_shot_127 ?_
        refine lv_bipush (v := 32) hx hb dX12_shot_130 (by decide) ?_
        refine lv_iload_n hx hb dX12_shot_132 rfl (lo_at hl 1 rfl) ?_
        refine lv_imul hx hb dX12_shot_133 ?_
        refine lv_iconst (v := 1) hx hb dX12_shot_134 (by decide) ?_
        refine res2_v hC (run2_V (As := [va_rf (Option.map A (hpR h39 o 6)), .int ((32 : Int32) * x1), .int ((1 : Int32))]) (rest := []) hM hC hl.1.1 kv_RX12_158 (c_X12_changes l G base A o (hpR h39 o 6) ((32 : Int32) * x1) (1 : Int32) h39 _ hw) (hc_10) k40 rfl rfl rfl ⟨Nat.le_of_ble_eq_true rfl, Nat.le_of_ble_eq_true rfl⟩ (Nat.le_of_ble_eq_true rfl) ⟨Nat.le_of_ble_eq_true rfl, Nat.le_of_ble_eq_true rfl⟩ dX12_shot_135) (fun h41 H locs hw hC => ?_)
        refine lv_iconst (v := 0) hx hb dX12_shot_138 (by decide) ?_
        refine lo_istore_n (lv' := [(3, .int ((0 : Int32))), (0, .ref (A o)), (1, .int x1), (2, .int x2)]) hx hb dX12_shot_139 rfl hl (by decide) rfl (fun ls hl => ?_)
        refine t_X12_shot_L140 hM o x1 x2 _ Q ?_ fuel (0 : Int32) h41 H locs ls hC (lo_sub hl [1, 2, 3, 0] rfl) hw
        intro  h50 H locs ls hC hl hw
        refine lv_aload_n hx hb dX12_shot_169 rfl (lo_at hl 0 rfl) ?_
        obtain ⟨k51, hw⟩ := hw
        refine s_getR hx hb hts hown hg hC fb_10_7 k51 mk_f_RX12_22 dX12_shot_170 ?_
        refine lv_iload_n hx hb dX12_shot_173 rfl (lo_at hl 1 rfl) ?_
        refine lv_aload_n hx hb dX12_shot_174 rfl (lo_at hl 0 rfl) ?_
        refine s_getI hx hb hts hown hg hC fb_10_43 k51 mk_f_RX12_155 dX12_shot_175 ?_
        obtain ⟨k52, hw⟩ := hw
        refine sf_3 k52.1 ?_
        refine s_iast hx hb hg hC k52.2.1 k52.2.2 dX12_shot_178 (fun h53 H locs eh53 hC => ?_)
        replace hw := hw h53 eh53
        refine lv_aload_n hx hb dX12_shot_179 rfl (lo_at hl 0 rfl) ?_
        obtain ⟨k54, hw⟩ := hw
        refine s_getR hx hb hts hown hg hC fb_10_14 k54 mk_f_RX12_40 dX12_shot_180 ?_
        refine lv_aload_n hx hb dX12_shot_183 rfl (lo_at hl 0 rfl) ?_
        refine s_getI hx hb hts hown hg hC fb_10_12 k54 mk_f_RX12_141 dX12_shot_184 ?_
        refine lv_iload_n hx hb dX12_shot_187 rfl (lo_at hl 1 rfl) ?_
        obtain ⟨k55, hw⟩ := hw
        refine sf_3 k55.1 ?_
        refine s_iast hx hb hg hC k55.2.1 k55.2.2 dX12_shot_188 (fun h56 H locs eh56 hC => ?_)
        replace hw := hw h56 eh56
        refine lv_aload_n hx hb dX12_shot_189 rfl (lo_at hl 0 rfl) ?_
        obtain ⟨k57, hw⟩ := hw
        refine s_getR hx hb hts hown hg hC fb_10_15 k57 mk_f_RX12_43 dX12_shot_190 ?_
        refine lv_aload_n hx hb dX12_shot_193 rfl (lo_at hl 0 rfl) ?_
        refine s_getI hx hb hts hown hg hC fb_10_12 k57 mk_f_RX12_141 dX12_shot_194 ?_
        refine lv_aload_n hx hb dX12_shot_197 rfl (lo_at hl 0 rfl) ?_
        refine s_getR hx hb hts hown hg hC fb_10_10 k57 mk_f_RX12_31 dX12_shot_198 ?_
        refine lv_iload_n hx hb dX12_shot_201 rfl (lo_at hl 1 rfl) ?_
        obtain ⟨k58, hw⟩ := hw
        refine sf_2 k58.1 ?_
        refine s_iald hx hb hg hC k58.2.1 k58.2.2 dX12_shot_202 ?_
        refine lv_topi (fun v59 ev59 => ?_)
        replace hw := hw v59 ev59
        obtain ⟨k60, hw⟩ := hw
        refine sf_3 k60.1 ?_
        refine s_iast hx hb hg hC k60.2.1 k60.2.2 dX12_shot_203 (fun h61 H locs eh61 hC => ?_)
        replace hw := hw h61 eh61
        refine lv_aload_n hx hb dX12_shot_204 rfl (lo_at hl 0 rfl) ?_
        obtain ⟨k62, hw⟩ := hw
        refine s_getR hx hb hts hown hg hC fb_10_16 k62 mk_f_RX12_46 dX12_shot_205 ?_
        refine lv_aload_n hx hb dX12_shot_208 rfl (lo_at hl 0 rfl) ?_
        refine s_getI hx hb hts hown hg hC fb_10_12 k62 mk_f_RX12_141 dX12_shot_209 ?_
        refine lv_iload_n hx hb dX12_shot_212 rfl (lo_at hl 2 rfl) ?_
        obtain ⟨k63, hw⟩ := hw
        refine sf_3 k63.1 ?_
        refine s_iast hx hb hg hC k63.2.1 k63.2.2 dX12_shot_213 (fun h64 H locs eh64 hC => ?_)
        replace hw := hw h64 eh64
        refine lv_aload_n hx hb dX12_shot_214 rfl (lo_at hl 0 rfl) ?_
        obtain ⟨k65, hw⟩ := hw
        refine s_getR hx hb hts hown hg hC fb_10_10 k65 mk_f_RX12_31 dX12_shot_215 ?_
        refine lv_iload_n hx hb dX12_shot_218 rfl (lo_at hl 1 rfl) ?_
        refine lv_aload_n hx hb dX12_shot_219 rfl (lo_at hl 0 rfl) ?_
        refine s_getR hx hb hts hown hg hC fb_10_10 k65 mk_f_RX12_31 dX12_shot_220 ?_
        refine lv_iload_n hx hb dX12_shot_223 rfl (lo_at hl 1 rfl) ?_
        obtain ⟨k66, hw⟩ := hw
        refine sf_2 k66.1 ?_
        refine s_iald hx hb hg hC k66.2.1 k66.2.2 dX12_shot_224 ?_
        refine lv_topi (fun v67 ev67 => ?_)
        replace hw := hw v67 ev67
        refine lv_iconst (v := 1) hx hb dX12_shot_225 (by decide) ?_
        refine lv_iadd hx hb dX12_shot_226 ?_
        obtain ⟨k68, hw⟩ := hw
        refine sf_3 k68.1 ?_
        refine s_iast hx hb hg hC k68.2.1 k68.2.2 dX12_shot_227 (fun h69 H locs eh69 hC => ?_)
        replace hw := hw h69 eh69
        refine lv_aload_n hx hb dX12_shot_228 rfl (lo_at hl 0 rfl) ?_
        refine lv_aload_n hx hb dX12_shot_229 rfl (lo_at hl 0 rfl) ?_
        obtain ⟨k70, hw⟩ := hw
        refine s_getI hx hb hts hown hg hC fb_10_12 k70 mk_f_RX12_141 dX12_shot_230 ?_
        refine lv_iconst (v := 1) hx hb dX12_shot_233 (by decide) ?_
        refine lv_iadd hx hb dX12_shot_234 ?_
        refine s_putI hx hb hts hown hg hC fb_10_12 k70 rfl rfl mk_f_RX12_141 dX12_shot_235 (fun h71 H locs eh71 hC => ?_)
        replace hw := hw h71 eh71
        refine lv_aload_n hx hb dX12_shot_238 rfl (lo_at hl 0 rfl) ?_
        refine lv_aload_n hx hb dX12_shot_239 rfl (lo_at hl 0 rfl) ?_
        obtain ⟨k72, hw⟩ := hw
        refine s_getI hx hb hts hown hg hC fb_10_17 k72 mk_f_RX12_165 dX12_shot_240 ?_
        refine lv_iconst (v := 1) hx hb dX12_shot_243 (by decide) ?_
        refine lv_iadd hx hb dX12_shot_244 ?_
        refine s_putI hx hb hts hown hg hC fb_10_17 k72 rfl rfl mk_f_RX12_165 dX12_shot_245 (fun h73 H locs eh73 hC => ?_)
        replace hw := hw h73 eh73
        refine lv_aload_n hx hb dX12_shot_248 rfl (lo_at hl 0 rfl) ?_
        obtain ⟨k74, hw⟩ := hw
        refine s_getI hx hb hts hown hg hC fb_10_12 k74 mk_f_RX12_141 dX12_shot_249 ?_
        refine lv_iconst (v := 1) hx hb dX12_shot_252 (by decide) ?_
        refine lv_isub hx hb dX12_shot_253 ?_
        exact ret2_i hM hC hw dX12_shot_254
      ·
        replace hw := (if_pos c12).mp hw
        refine lv_iconst (v := -1) hx hb dX12_shot_33 (by decide) ?_
        exact ret2_i hM hC hw dX12_shot_34
abbrev rm_J0_length_8abf5 : Room := { frames := 1, cells := 0, slots := 0, locals := 20 }
set_option maxRecDepth 100000 in
def wp_J0_length_8abf5 (o : Nat) (h : Hp) (Q : Int32 → Hp → Prop) : Prop := (o < 2) ∧ (wp_J0_coder_7d493 o h (fun (z3 : Int32) (h2 : Hp) => Q ((nI (lnJ.getD o 0)) >>> (z3 &&& 31)) h2))
set_option maxHeartbeats 4000000 in
set_option maxRecDepth 100000 in
theorem c_J0_length_8abf5 (l : Launch) (G : GG) (base : Nat) (A : Nat → Nat) (o : Nat) (h : Hp) (Q : Int32 → Hp → Prop) (hw : wp_J0_length_8abf5 o h Q) : Met l yJ0_length_8abf5 (ww yJ0_length_8abf5 cJ0_length_8abf5 1 (some .int)) rm_J0_length_8abf5 (va_Pc [.ref (G.2.2.1 o)] (PU2 G base A h A h)) (va_Qi Q (PU2 G base A h A) (fun q => base ≤ q)) 0 0 (fun q => base ≤ q) := by
  refine met2_of (own := RJ0) (nm := "length") (by decide) rfl rfl (List.forall_mem_cons.mpr ⟨rfl, (fun _ h => absurd h List.not_mem_nil)⟩) (Nat.le_of_ble_eq_true rfl) rfl ?_
  intro p e s m args below meth c H locs ls hM hC hl
  obtain ⟨hx, hb, hr, hml, hown, hts, hg, hs, hlk, hnm⟩ := id hM
  unfold wp_J0_length_8abf5 at hw
  refine lv_aload_n hx hb dJ0_length_8abf5_0 rfl (lo_at hl 0 rfl) ?_
  obtain ⟨k1, hw⟩ := hw
  refine vk_getf hx hb (hs.1.1.1 _ k1).2.2.1 hC.1.2.2 hown (hts _ mk_f_RJ0_9) (fun _ h => h) dJ0_length_8abf5_1 ?_
  refine va_tlen hx hb (hs.1.1.1 _ k1).2.2.2 hC.1.2.2 (v := nI (lnJ.getD o 0)) rfl dJ0_length_8abf5_4 ?_
  refine lv_aload_n hx hb dJ0_length_8abf5_5 rfl (lo_at hl 0 rfl) ?_
  refine res2_i hC (run2_VS (As := []) (rest := [.int (nI (lnJ.getD o 0))]) hM hC hl.1.1 kv_RJ0_335 (c_J0_coder_7d493 l G base A o h _ hw) k1 rfl rfl rfl ⟨Nat.le_of_ble_eq_true rfl, Nat.le_of_ble_eq_true rfl⟩ (Nat.le_of_ble_eq_true rfl) ⟨Nat.le_of_ble_eq_true rfl, Nat.le_of_ble_eq_true rfl⟩ dJ0_length_8abf5_6) (fun z3 h2 H locs hw hC => ?_)
  refine lv_ishr hx hb dJ0_length_8abf5_9 ?_
  exact ret2_i hM hC hw dJ0_length_8abf5_10
abbrev rm_J0_checkIndex_df160 : Room := { frames := 1, cells := 0, slots := 0, locals := 22 }
set_option maxRecDepth 100000 in
def wp_J0_checkIndex_df160 (x0 : Int32) (x1 : Int32) (h : Hp) (Q : Hp → Prop) : Prop := ∀ ra : Option Nat, (wp_J3_checkIndex_8e157 x0 x1 ra h (fun (z3 : Int32) (h2 : Hp) => Q h2))
set_option maxHeartbeats 4000000 in
set_option maxRecDepth 100000 in
theorem c_J0_checkIndex_df160 (l : Launch) (G : GG) (base : Nat) (A : Nat → Nat) (x0 : Int32) (x1 : Int32) (h : Hp) (Q : Hp → Prop) (hw : wp_J0_checkIndex_df160 x0 x1 h Q) : Met l yJ0_checkIndex_df160 (ww yJ0_checkIndex_df160 cJ0_checkIndex_df160 2 none) rm_J0_checkIndex_df160 (va_Pc [.int x0, .int x1] (PU2 G base A h A h)) (va_Qv Q (PU2 G base A h A) (fun q => base ≤ q)) 0 0 (fun q => base ≤ q) := by
  refine met2_of (own := RJ0) (nm := "checkIndex") (by decide) rfl rfl (List.forall_mem_cons.mpr ⟨rfl, (List.forall_mem_cons.mpr ⟨rfl, (fun _ h => absurd h List.not_mem_nil)⟩)⟩) (Nat.le_of_ble_eq_true rfl) rfl ?_
  intro p e s m args below meth c H locs ls hM hC hl
  obtain ⟨hx, hb, hr, hml, hown, hts, hg, hs, hlk, hnm⟩ := id hM
  unfold wp_J0_checkIndex_df160 at hw
  refine lv_iload_n hx hb dJ0_checkIndex_df160_0 rfl (lo_at hl 0 rfl) ?_
  refine lv_iload_n hx hb dJ0_checkIndex_df160_1 rfl (lo_at hl 1 rfl) ?_
  refine r_gsq hx hb hs.1.2.2 hC.1.2.2 hown (hts _ mk_f_RJ0_1053) (fun _ h => h) dJ0_checkIndex_df160_2 (fun ra => ?_)
  replace hw := hw ra
  refine res2_i hC (run2_S (As := [.int x0, .int x1, va_rf ra]) (rest := []) hM hC hl.1.1 kv_RJ0_1059 (c_J3_checkIndex_8e157 l G base A x0 x1 ra h _ hw) rfl rfl rfl ⟨Nat.le_of_ble_eq_true rfl, Nat.le_of_ble_eq_true rfl⟩ (Nat.le_of_ble_eq_true rfl) ⟨Nat.le_of_ble_eq_true rfl, Nat.le_of_ble_eq_true rfl⟩ dJ0_checkIndex_df160_5) (fun z3 h2 H locs hw hC => ?_)
  refine lv_pop hx hb dJ0_checkIndex_df160_8 rfl ?_
  exact ret2_v hM hC hw dJ0_checkIndex_df160_9
abbrev rm_J1_charAt_3b067 : Room := { frames := 2, cells := 0, slots := 0, locals := 43 }
set_option maxRecDepth 100000 in
def wp_J1_charAt_3b067 (i0 : Nat) (x1 : Int32) (h : Hp) (Q : Int32 → Hp → Prop) : Prop := (i0 < 2) ∧ (wp_J0_checkIndex_df160 x1 (nI (lnJ.getD i0 0)) h (fun (h2 : Hp) => (i0 < 2) ∧ (vp_in x1 (lnJ.getD i0 0) ∧ (∀ v6 : Int32, v6 = (byJ.getD i0 []).getD (x1).toNatClampNeg 0 → (narrow .char (.int (((v6 &&& (255 : Int32)).toUInt32 % 65536).toInt32)) = .int (((v6 &&& (255 : Int32)).toUInt32 % 65536).toInt32) ∧ Q (((v6 &&& (255 : Int32)).toUInt32 % 65536).toInt32) h2)))))
set_option maxHeartbeats 4000000 in
set_option maxRecDepth 100000 in
theorem c_J1_charAt_3b067 (l : Launch) (G : GG) (base : Nat) (A : Nat → Nat) (i0 : Nat) (x1 : Int32) (h : Hp) (Q : Int32 → Hp → Prop) (hw : wp_J1_charAt_3b067 i0 x1 h Q) : Met l yJ1_charAt_3b067 (ww yJ1_charAt_3b067 cJ1_charAt_3b067 2 (some .char)) rm_J1_charAt_3b067 (va_Pc [.ref (G.2.2.2 i0), .int x1] (PU2 G base A h A h)) (va_Qi Q (PU2 G base A h A) (fun q => base ≤ q)) 0 0 (fun q => base ≤ q) := by
  refine met2_of (own := RJ1) (nm := "charAt") (by decide) rfl rfl (List.forall_mem_cons.mpr ⟨rfl, (List.forall_mem_cons.mpr ⟨rfl, (fun _ h => absurd h List.not_mem_nil)⟩)⟩) (Nat.le_of_ble_eq_true rfl) rfl ?_
  intro p e s m args below meth c H locs ls hM hC hl
  obtain ⟨hx, hb, hr, hml, hown, hts, hg, hs, hlk, hnm⟩ := id hM
  unfold wp_J1_charAt_3b067 at hw
  refine lv_iload_n hx hb dJ1_charAt_3b067_0 rfl (lo_at hl 1 rfl) ?_
  refine lv_aload_n hx hb dJ1_charAt_3b067_1 rfl (lo_at hl 0 rfl) ?_
  obtain ⟨k1, hw⟩ := hw
  refine va_tlen hx hb (hs.1.1.1 _ k1).2.2.2 hC.1.2.2 (v := nI (lnJ.getD i0 0)) rfl dJ1_charAt_3b067_2 ?_
  refine res2_v hC (run2_S (As := [.int x1, .int (nI (lnJ.getD i0 0))]) (rest := []) hM hC hl.1.1 kv_RJ1_9 (c_J0_checkIndex_df160 l G base A x1 (nI (lnJ.getD i0 0)) h _ hw) rfl rfl rfl ⟨Nat.le_of_ble_eq_true rfl, Nat.le_of_ble_eq_true rfl⟩ (Nat.le_of_ble_eq_true rfl) ⟨Nat.le_of_ble_eq_true rfl, Nat.le_of_ble_eq_true rfl⟩ dJ1_charAt_3b067_3) (fun h2 H locs hw hC => ?_)
  refine lv_aload_n hx hb dJ1_charAt_3b067_6 rfl (lo_at hl 0 rfl) ?_
  refine lv_iload_n hx hb dJ1_charAt_3b067_7 rfl (lo_at hl 1 rfl) ?_
  obtain ⟨k4, hw⟩ := hw
  obtain ⟨k5, hw⟩ := hw
  refine va_tb hx hb (hs.1.1.1 _ k4).2.2.2 hC.1.2.2 k5 (v := .int ((byJ.getD i0 []).getD (x1).toNatClampNeg 0)) rfl dJ1_charAt_3b067_8 ?_
  refine lv_topi (fun v6 ev6 => ?_)
  replace hw := hw v6 ev6
  refine lv_sipush (v := 255) hx hb dJ1_charAt_3b067_9 (by decide) ?_
  refine lv_iand hx hb dJ1_charAt_3b067_12 ?_
  refine lv_i2c hx hb dJ1_charAt_3b067_13 (v := ((v6 &&& (255 : Int32)).toUInt32 % 65536).toInt32) rfl ?_
  exact ret2_t hM hC hw.1 hw.2 dJ1_charAt_3b067_14
abbrev rm_J1_indexOf_4cfef : Room := { frames := 1, cells := 0, slots := 0, locals := 40 }
set_option maxRecDepth 100000 in
def wp_J1_indexOf_4cfef (i0 : Nat) (x1 : Int32) (x2 : Int32) (x3 : Int32) (h : Hp) (Q : Int32 → Hp → Prop) : Prop := wp_J1_canEncode_9a6ad x1 h (fun (z2 : Int32) (h1 : Hp) => (if z2 = 0 then (Q (-1 : Int32) h1) else (∀ v4 : Int32, v4 = (if x2 < (0 : Int32) then (0 : Int32) else x2) → ((i0 < 2) ∧ (∀ v6 : Int32, v6 = (if (nI (lnJ.getD i0 0)) < x3 then (nI (lnJ.getD i0 0)) else x3) → ((if v4 < v6 then (wp_J1_indexOfChar_4cfef i0 x1 v4 v6 h1 (fun (z9 : Int32) (h8 : Hp) => Q z9 h8)) else (Q (-1 : Int32) h1))))))))
set_option maxHeartbeats 4000000 in
set_option maxRecDepth 100000 in
theorem c_J1_indexOf_4cfef (l : Launch) (G : GG) (base : Nat) (A : Nat → Nat) (i0 : Nat) (x1 : Int32) (x2 : Int32) (x3 : Int32) (h : Hp) (Q : Int32 → Hp → Prop) (hw : wp_J1_indexOf_4cfef i0 x1 x2 x3 h Q) : Met l yJ1_indexOf_4cfef (ww yJ1_indexOf_4cfef cJ1_indexOf_4cfef 4 (some .int)) rm_J1_indexOf_4cfef (va_Pc [.ref (G.2.2.2 i0), .int x1, .int x2, .int x3] (PU2 G base A h A h)) (va_Qi Q (PU2 G base A h A) (fun q => base ≤ q)) 0 0 (fun q => base ≤ q) := by
  refine met2_of (own := RJ1) (nm := "indexOf") (by decide) rfl rfl (List.forall_mem_cons.mpr ⟨rfl, (List.forall_mem_cons.mpr ⟨rfl, (List.forall_mem_cons.mpr ⟨rfl, (List.forall_mem_cons.mpr ⟨rfl, (fun _ h => absurd h List.not_mem_nil)⟩)⟩)⟩)⟩) (Nat.le_of_ble_eq_true rfl) rfl ?_
  intro p e s m args below meth c H locs ls hM hC hl
  obtain ⟨hx, hb, hr, hml, hown, hts, hg, hs, hlk, hnm⟩ := id hM
  unfold wp_J1_indexOf_4cfef at hw
  refine lv_iload_n hx hb dJ1_indexOf_4cfef_0 rfl (lo_at hl 1 rfl) ?_
  refine res2_i hC (run2_S (As := [.int x1]) (rest := []) hM hC hl.1.1 kv_RJ1_88 (c_J1_canEncode_9a6ad l G base A x1 h _ hw) rfl rfl rfl ⟨Nat.le_of_ble_eq_true rfl, Nat.le_of_ble_eq_true rfl⟩ (Nat.le_of_ble_eq_true rfl) ⟨Nat.le_of_ble_eq_true rfl, Nat.le_of_ble_eq_true rfl⟩ dJ1_indexOf_4cfef_1) (fun z2 h1 H locs hw hC => ?_)
  refine lv_if_ne (tgt := 9) hx hb dJ1_indexOf_4cfef_4 (by decide) (fun c3 => ?_) (fun c3 => ?_)
  ·
    replace hw := (if_neg c3).mp hw
    refine lv_iload_n hx hb dJ1_indexOf_4cfef_9 rfl (lo_at hl 2 rfl) ?_
    refine lv_iconst (v := 0) hx hb dJ1_indexOf_4cfef_10 (by decide) ?_
    refine va_mmax hx hb (by rw [hml]; exact hl.1.1.symm) hown (hts _ mk_m_RJ1_92) (hts _ mk_math_s_max) (hts _ mk_ini_math) (hts _ mk_math_c_max) (Nat.le_of_ble_eq_true rfl) (Nat.le_of_ble_eq_true rfl) (Nat.le_of_ble_eq_true rfl) (Nat.le_of_ble_eq_true rfl) dJ1_indexOf_4cfef_11 ?_
    refine lv_topi (fun v4 ev4 => ?_)
    replace hw := hw v4 ev4
    refine lo_istore_n (lv' := [(2, .int v4), (0, .ref (G.2.2.2 i0)), (1, .int x1), (3, .int x3)]) hx hb dJ1_indexOf_4cfef_14 rfl hl (by decide) rfl (fun ls hl => ?_)
    refine lv_iload_n hx hb dJ1_indexOf_4cfef_15 rfl (lo_at hl 3 rfl) ?_
    refine lv_aload_n hx hb dJ1_indexOf_4cfef_16 rfl (lo_at hl 1 rfl) ?_
    obtain ⟨k5, hw⟩ := hw
    refine va_tlen hx hb (hs.1.1.1 _ k5).2.2.2 hC.1.2.2 (v := nI (lnJ.getD i0 0)) rfl dJ1_indexOf_4cfef_17 ?_
    refine va_mmin hx hb (by rw [hml]; exact hl.1.1.symm) hown (hts _ mk_m_RJ1_38) (hts _ mk_math_s_min) (hts _ mk_ini_math) (hts _ mk_math_c_min) (Nat.le_of_ble_eq_true rfl) (Nat.le_of_ble_eq_true rfl) (Nat.le_of_ble_eq_true rfl) (Nat.le_of_ble_eq_true rfl) dJ1_indexOf_4cfef_18 ?_
    refine lv_topi (fun v6 ev6 => ?_)
    replace hw := hw v6 ev6
    refine lo_istore_n (lv' := [(3, .int v6), (2, .int v4), (0, .ref (G.2.2.2 i0)), (1, .int x1)]) hx hb dJ1_indexOf_4cfef_21 rfl hl (by decide) rfl (fun ls hl => ?_)
    refine lv_iload_n hx hb dJ1_indexOf_4cfef_22 rfl (lo_at hl 1 rfl) ?_
    refine lv_iload_n hx hb dJ1_indexOf_4cfef_23 rfl (lo_at hl 0 rfl) ?_
    refine lv_icmp_lt (tgt := 29) hx hb dJ1_indexOf_4cfef_24 (by decide) (fun c7 => ?_) (fun c7 => ?_)
    ·
      replace hw := (if_pos c7).mp hw
      refine lv_aload_n hx hb dJ1_indexOf_4cfef_29 rfl (lo_at hl 2 rfl) ?_
      refine lv_iload_n hx hb dJ1_indexOf_4cfef_30 rfl (lo_at hl 3 rfl) ?_
      refine lv_iload_n hx hb dJ1_indexOf_4cfef_31 rfl (lo_at hl 1 rfl) ?_
      refine lv_iload_n hx hb dJ1_indexOf_4cfef_32 rfl (lo_at hl 0 rfl) ?_
      refine res2_i hC (run2_S (As := [.ref (G.2.2.2 i0), .int x1, .int v4, .int v6]) (rest := []) hM hC hl.1.1 kv_RJ1_95 (c_J1_indexOfChar_4cfef l G base A i0 x1 v4 v6 h1 _ hw) rfl rfl rfl ⟨Nat.le_of_ble_eq_true rfl, Nat.le_of_ble_eq_true rfl⟩ (Nat.le_of_ble_eq_true rfl) ⟨Nat.le_of_ble_eq_true rfl, Nat.le_of_ble_eq_true rfl⟩ dJ1_indexOf_4cfef_33) (fun z9 h8 H locs hw hC => ?_)
      exact ret2_i hM hC hw dJ1_indexOf_4cfef_36
    ·
      replace hw := (if_neg c7).mp hw
      refine lv_iconst (v := -1) hx hb dJ1_indexOf_4cfef_27 (by decide) ?_
      exact ret2_i hM hC hw dJ1_indexOf_4cfef_28
  ·
    replace hw := (if_pos c3).mp hw
    refine lv_iconst (v := -1) hx hb dJ1_indexOf_4cfef_7 (by decide) ?_
    exact ret2_i hM hC hw dJ1_indexOf_4cfef_8
abbrev rm_X3_measured : Room := { frames := 2, cells := 0, slots := 0, locals := 55 }
set_option maxRecDepth 100000 in
def wp_X3_measured (o : Nat) (r1 : Option Nat) (r2 : Option Nat) (h : Hp) (Q : Int32 → Hp → Prop) : Prop := okO h r1 0 ∧ (okO h r2 0 ∧ (∀ v3 : Int32, v3 = ((hpI h (ad r1) 0) * (40 : Int32)) + (hpI h (ad r2) 0) → (((hpK h o).1 = 20 + 2) ∧ (okA h (hpR h o 2) 1 v3 ∧ (∀ v6 : Int32, v6 = hpI h (ad (hpR h o 2)) (v3).toNatClampNeg → ((if (v6 &&& (131072 : Int32)) = 0 then (okA h (hpR h o 2) 1 v3 ∧ (∀ v11 : Int32, v11 = hpI h (ad (hpR h o 2)) (v3).toNatClampNeg → (wp_X6_measure (hpR h (ad r1) 4) (hpR h (ad r2) 4) (hpI h o 0) h (fun (z13 : Int32) (h12 : Hp) => okA h12 (hpR h o 2) 1 v3 ∧ (∀ h15 : Hp, h15 = stI h12 (ad (hpR h o 2)) (v3).toNatClampNeg (v11 ||| ((131072 : Int32) ||| z13)) → (((hpK h15 o).1 = 20 + 2) ∧ (okA h15 (hpR h15 o 2) 1 v3 ∧ (∀ v18 : Int32, v18 = hpI h15 (ad (hpR h15 o 2)) (v3).toNatClampNeg → (Q v18 h15))))))))) else (okA h (hpR h o 2) 1 v3 ∧ (∀ v9 : Int32, v9 = hpI h (ad (hpR h o 2)) (v3).toNatClampNeg → (Q v9 h))))))))))
set_option maxHeartbeats 4000000 in
set_option maxRecDepth 100000 in
theorem c_X3_measured (l : Launch) (G : GG) (base : Nat) (A : Nat → Nat) (o : Nat) (r1 : Option Nat) (r2 : Option Nat) (h : Hp) (Q : Int32 → Hp → Prop) (hw : wp_X3_measured o r1 r2 h Q) : Met l yX3_measured (ww yX3_measured cX3_measured 4 (some .int)) rm_X3_measured (va_Pc [.ref (A o), va_rf (Option.map A r1), va_rf (Option.map A r2)] (PU2 G base A h A h)) (va_Qi Q (PU2 G base A h A) (fun q => base ≤ q)) 0 0 (fun q => base ≤ q) := by
  refine met2_of (own := RX3) (nm := "measured") (by decide) rfl rfl (List.forall_mem_cons.mpr ⟨rfl, (List.forall_mem_cons.mpr ⟨va_rf_cat _, (List.forall_mem_cons.mpr ⟨va_rf_cat _, (fun _ h => absurd h List.not_mem_nil)⟩)⟩)⟩) (Nat.le_of_ble_eq_true rfl) rfl ?_
  intro p e s m args below meth c H locs ls hM hC hl
  obtain ⟨hx, hb, hr, hml, hown, hts, hg, hs, hlk, hnm⟩ := id hM
  unfold wp_X3_measured at hw
  refine lo_aload_n (r := Option.map A r1) hx hb dX3_measured_0 rfl (lo_at hl 1 rfl) ?_
  obtain ⟨k1, hw⟩ := hw
  refine sf_1 k1.1 ?_
  refine s_getI hx hb hts hown hg hC fb_0_0 k1.2 mk_f_RX3_29 dX3_measured_1 ?_
  refine lv_bipush (v := 40) hx hb dX3_measured_4 (by decide) ?_
  refine lv_imul hx hb dX3_measured_6 ?_
  refine lo_aload_n (r := Option.map A r2) hx hb dX3_measured_7 rfl (lo_at hl 2 rfl) ?_
  obtain ⟨k2, hw⟩ := hw
  refine sf_1 k2.1 ?_
  refine s_getI hx hb hts hown hg hC fb_0_0 k2.2 mk_f_RX3_29 dX3_measured_8 ?_
  refine lv_iadd hx hb dX3_measured_11 ?_
  refine lv_topi (fun v3 ev3 => ?_)
  replace hw := hw v3 ev3
  refine lo_istore_n (lv' := [(3, .int v3), (0, .ref (A o)), (1, va_rf (Option.map A r1)), (2, va_rf (Option.map A r2))]) hx hb dX3_measured_12 rfl hl (by decide) rfl (fun ls hl => ?_)
  refine lv_aload_n hx hb dX3_measured_13 rfl (lo_at hl 1 rfl) ?_
  obtain ⟨k4, hw⟩ := hw
  refine s_getR hx hb hts hown hg hC fb_2_2 k4 mk_f_RX3_18 dX3_measured_14 ?_
  refine lv_iload_n hx hb dX3_measured_17 rfl (lo_at hl 0 rfl) ?_
  obtain ⟨k5, hw⟩ := hw
  refine sf_2 k5.1 ?_
  refine s_iald hx hb hg hC k5.2.1 k5.2.2 dX3_measured_18 ?_
  refine lv_topi (fun v6 ev6 => ?_)
  replace hw := hw v6 ev6
  refine lv_ldc (v := 131072) hx hb hown (hts _ mk_k_RX3_34) dX3_measured_19 ?_
  refine lv_iand hx hb dX3_measured_21 ?_
  refine lv_if_ne (tgt := 52) hx hb dX3_measured_22 (by decide) (fun c7 => ?_) (fun c7 => ?_)
  ·
    replace hw := (if_neg c7).mp hw
    refine lv_aload_n hx hb dX3_measured_52 rfl (lo_at hl 1 rfl) ?_
    refine s_getR hx hb hts hown hg hC fb_2_2 k4 mk_f_RX3_18 dX3_measured_53 ?_
    refine lv_iload_n hx hb dX3_measured_56 rfl (lo_at hl 0 rfl) ?_
    obtain ⟨k8, hw⟩ := hw
    refine sf_2 k8.1 ?_
    refine s_iald hx hb hg hC k8.2.1 k8.2.2 dX3_measured_57 ?_
    refine lv_topi (fun v9 ev9 => ?_)
    replace hw := hw v9 ev9
    exact ret2_i hM hC hw dX3_measured_58
  ·
    replace hw := (if_pos c7).mp hw
    refine lv_aload_n hx hb dX3_measured_25 rfl (lo_at hl 1 rfl) ?_
    refine s_getR hx hb hts hown hg hC fb_2_2 k4 mk_f_RX3_18 dX3_measured_26 ?_
    refine lv_iload_n hx hb dX3_measured_29 rfl (lo_at hl 0 rfl) ?_
    refine lv_dup2_11 hx hb dX3_measured_30 rfl (va_rf_cat _) ?_
    obtain ⟨k10, hw⟩ := hw
    refine sf_2 k10.1 ?_
    refine s_iald hx hb hg hC k10.2.1 k10.2.2 dX3_measured_31 ?_
    refine lv_topi (fun v11 ev11 => ?_)
    replace hw := hw v11 ev11
    refine lv_ldc (v := 131072) hx hb hown (hts _ mk_k_RX3_34) dX3_measured_32 ?_
    refine lo_aload_n (r := Option.map A r1) hx hb dX3_measured_34 rfl (lo_at hl 2 rfl) ?_
    refine sf_1 k1.1 ?_
    refine s_getR hx hb hts hown hg hC fb_0_4 k1.2 mk_f_RX3_35 dX3_measured_35 ?_
    refine lo_aload_n (r := Option.map A r2) hx hb dX3_measured_38 rfl (lo_at hl 3 rfl) ?_
    refine sf_1 k2.1 ?_
    refine s_getR hx hb hts hown hg hC fb_0_4 k2.2 mk_f_RX3_35 dX3_measured_39 ?_
    refine lv_aload_n hx hb dX3_measured_42 rfl (lo_at hl 1 rfl) ?_
    refine s_getI hx hb hts hown hg hC fb_2_0 k4 mk_f_RX3_22 dX3_measured_43 ?_
    refine res2_i hC (run2_S (As := [va_rf (Option.map A (hpR h (ad r1) 4)), va_rf (Option.map A (hpR h (ad r2) 4)), .int (hpI h o 0)]) (rest := [.int ((131072 : Int32)), .int v11, .int v3, va_rf (Option.map A (hpR h o 2))]) hM hC hl.1.1 kv_RX3_38 (c_X6_measure l G base A (hpR h (ad r1) 4) (hpR h (ad r2) 4) (hpI h o 0) h _ hw) rfl rfl rfl ⟨Nat.le_of_ble_eq_true rfl, Nat.le_of_ble_eq_true rfl⟩ (rest_le (List.forall_mem_cons.mpr ⟨rfl, (List.forall_mem_cons.mpr ⟨rfl, (List.forall_mem_cons.mpr ⟨rfl, (List.forall_mem_cons.mpr ⟨va_rf_cat _, (fun _ h => absurd h List.not_mem_nil)⟩)⟩)⟩)⟩) (Nat.le_of_ble_eq_true rfl)) ⟨Nat.le_of_ble_eq_true rfl, Nat.le_of_ble_eq_true rfl⟩ dX3_measured_46) (fun z13 h12 H locs hw hC => ?_)
    refine lv_ior hx hb dX3_measured_49 ?_
    refine lv_ior hx hb dX3_measured_50 ?_
    obtain ⟨k14, hw⟩ := hw
    refine sf_3 k14.1 ?_
    refine s_iast hx hb hg hC k14.2.1 k14.2.2 dX3_measured_51 (fun h15 H locs eh15 hC => ?_)
    replace hw := hw h15 eh15
    refine lv_aload_n hx hb dX3_measured_52 rfl (lo_at hl 1 rfl) ?_
    obtain ⟨k16, hw⟩ := hw
    refine s_getR hx hb hts hown hg hC fb_2_2 k16 mk_f_RX3_18 dX3_measured_53 ?_
    refine lv_iload_n hx hb dX3_measured_56 rfl (lo_at hl 0 rfl) ?_
    obtain ⟨k17, hw⟩ := hw
    refine sf_2 k17.1 ?_
    refine s_iald hx hb hg hC k17.2.1 k17.2.2 dX3_measured_57 ?_
    refine lv_topi (fun v18 ev18 => ?_)
    replace hw := hw v18 ev18
    exact ret2_i hM hC hw dX3_measured_58
abbrev rm_X3_piecesOf : Room := { frames := 3, cells := 0, slots := 0, locals := 91 }
set_option maxRecDepth 100000 in
def wp_X3_piecesOf_J63 (o : Nat) (x4 : Int32) (Q : Int32 → Hp → Prop) (h : Hp) : Prop := ((hpK h o).1 = 20 + 2) ∧ (okA h (hpR h o 2) 1 x4 ∧ (∀ v10 : Int32, v10 = hpI h (ad (hpR h o 2)) (x4).toNatClampNeg → (Q ((((v10).toUInt32 >>> (((18 : Int32)).toUInt32 &&& Int32.toUInt32 31)).toInt32) &&& (63 : Int32)) h)))
set_option maxRecDepth 100000 in
def wp_X3_piecesOf (o : Nat) (r1 : Option Nat) (r2 : Option Nat) (r3 : Option Nat) (h : Hp) (Q : Int32 → Hp → Prop) : Prop := okO h r1 0 ∧ (okO h r2 0 ∧ (∀ v3 : Int32, v3 = ((hpI h (ad r1) 0) * (40 : Int32)) + (hpI h (ad r2) 0) → (((hpK h o).1 = 20 + 2) ∧ (okA h (hpR h o 2) 1 v3 ∧ (∀ v6 : Int32, v6 = hpI h (ad (hpR h o 2)) (v3).toNatClampNeg → ((if (v6 &&& (16777216 : Int32)) = 0 then (wp_X6_pieces (hpR h (ad r1) 4) (hpR h (ad r2) 4) (hpI h o 0) r3 h (fun (z12 : Int32) (h11 : Hp) => ((hpK h11 o).1 = 20 + 2) ∧ (okA h11 (hpR h11 o 2) 1 v3 ∧ (∀ v15 : Int32, v15 = hpI h11 (ad (hpR h11 o 2)) (v3).toNatClampNeg → (okA h11 (hpR h11 o 2) 1 v3 ∧ (∀ h17 : Hp, h17 = stI h11 (ad (hpR h11 o 2)) (v3).toNatClampNeg (v15 ||| ((16777216 : Int32) ||| (z12 <<< ((18 : Int32) &&& 31)))) → (wp_X3_piecesOf_J63 o v3 Q h17))))))) else (wp_X3_piecesOf_J63 o v3 Q h))))))))
set_option maxHeartbeats 4000000 in
set_option maxRecDepth 100000 in
theorem t_X3_piecesOf_J63 {p : Program} {l : Launch} {e : Env} {s : State} {m : MethodId} {args : Array Value} {below : List Frame} {meth : Method} {c : Code} {G : GG} {base : Nat} {A : Nat → Nat} {g0 : Hp} (hM : Mx G base p s m args meth c cX3_piecesOf 6 (some .int) RX3 "piecesOf") (o : Nat) (x4 : Int32) (Q : Int32 → Hp → Prop) (h : Hp) (H : Heap) (locs : List Loc) (ls : Array Slot) : Cx2 G base A g0 A h s.heap H locs → lo_has ls 6 [(0, .ref (A o)), (4, .int x4)] → wp_X3_piecesOf_J63 o x4 Q h → W p l e rm_X3_piecesOf s m args below meth c H locs 0 0 (MQ below (va_Qi Q (PU2 G base A g0 A) (fun q => base ≤ q)) args s 0 0 (fun q => base ≤ q)) (F0 m 63 ls []) := by
  intro hC hl hw
  unfold wp_X3_piecesOf_J63 at hw
  obtain ⟨hx, hb, hr, hml, hown, hts, hg, hs, hlk, hnm⟩ := id hM
  refine lv_aload_n hx hb dX3_piecesOf_63 rfl (lo_at hl 0 rfl) ?_
  obtain ⟨k8, hw⟩ := hw
  refine s_getR hx hb hts hown hg hC fb_2_2 k8 mk_f_RX3_18 dX3_piecesOf_64 ?_
  refine lv_iload hx hb dX3_piecesOf_67 (lo_at hl 1 rfl) ?_
  obtain ⟨k9, hw⟩ := hw
  refine sf_2 k9.1 ?_
  refine s_iald hx hb hg hC k9.2.1 k9.2.2 dX3_piecesOf_69 ?_
  refine lv_topi (fun v10 ev10 => ?_)
  replace hw := hw v10 ev10
  refine lv_bipush (v := 18) hx hb dX3_piecesOf_70 (by decide) ?_
  refine lv_iushr hx hb dX3_piecesOf_72 (v := ((v10).toUInt32 >>> (((18 : Int32)).toUInt32 &&& Int32.toUInt32 31)).toInt32) rfl ?_
  refine lv_bipush (v := 63) hx hb dX3_piecesOf_73 (by decide) ?_
  refine lv_iand hx hb dX3_piecesOf_75 ?_
  exact ret2_i hM hC hw dX3_piecesOf_76
set_option maxHeartbeats 4000000 in
set_option maxRecDepth 100000 in
theorem c_X3_piecesOf (l : Launch) (G : GG) (base : Nat) (A : Nat → Nat) (o : Nat) (r1 : Option Nat) (r2 : Option Nat) (r3 : Option Nat) (h : Hp) (Q : Int32 → Hp → Prop) (hw : wp_X3_piecesOf o r1 r2 r3 h Q) : Met l yX3_piecesOf (ww yX3_piecesOf cX3_piecesOf 6 (some .int)) rm_X3_piecesOf (va_Pc [.ref (A o), va_rf (Option.map A r1), va_rf (Option.map A r2), va_rf (Option.map A r3)] (PU2 G base A h A h)) (va_Qi Q (PU2 G base A h A) (fun q => base ≤ q)) 0 0 (fun q => base ≤ q) := by
  refine met2_of (own := RX3) (nm := "piecesOf") (by decide) rfl rfl (List.forall_mem_cons.mpr ⟨rfl, (List.forall_mem_cons.mpr ⟨va_rf_cat _, (List.forall_mem_cons.mpr ⟨va_rf_cat _, (List.forall_mem_cons.mpr ⟨va_rf_cat _, (fun _ h => absurd h List.not_mem_nil)⟩)⟩)⟩)⟩) (Nat.le_of_ble_eq_true rfl) rfl ?_
  intro p e s m args below meth c H locs ls hM hC hl
  obtain ⟨hx, hb, hr, hml, hown, hts, hg, hs, hlk, hnm⟩ := id hM
  unfold wp_X3_piecesOf at hw
  refine lo_aload_n (r := Option.map A r1) hx hb dX3_piecesOf_0 rfl (lo_at hl 1 rfl) ?_
  obtain ⟨k1, hw⟩ := hw
  refine sf_1 k1.1 ?_
  refine s_getI hx hb hts hown hg hC fb_0_0 k1.2 mk_f_RX3_29 dX3_piecesOf_1 ?_
  refine lv_bipush (v := 40) hx hb dX3_piecesOf_4 (by decide) ?_
  refine lv_imul hx hb dX3_piecesOf_6 ?_
  refine lo_aload_n (r := Option.map A r2) hx hb dX3_piecesOf_7 rfl (lo_at hl 2 rfl) ?_
  obtain ⟨k2, hw⟩ := hw
  refine sf_1 k2.1 ?_
  refine s_getI hx hb hts hown hg hC fb_0_0 k2.2 mk_f_RX3_29 dX3_piecesOf_8 ?_
  refine lv_iadd hx hb dX3_piecesOf_11 ?_
  refine lv_topi (fun v3 ev3 => ?_)
  replace hw := hw v3 ev3
  refine lo_istore (lv' := [(4, .int v3), (0, .ref (A o)), (1, va_rf (Option.map A r1)), (2, va_rf (Option.map A r2)), (3, va_rf (Option.map A r3))]) hx hb dX3_piecesOf_12 hl (by decide) rfl (fun ls hl => ?_)
  refine lv_aload_n hx hb dX3_piecesOf_14 rfl (lo_at hl 1 rfl) ?_
  obtain ⟨k4, hw⟩ := hw
  refine s_getR hx hb hts hown hg hC fb_2_2 k4 mk_f_RX3_18 dX3_piecesOf_15 ?_
  refine lv_iload hx hb dX3_piecesOf_18 (lo_at hl 0 rfl) ?_
  obtain ⟨k5, hw⟩ := hw
  refine sf_2 k5.1 ?_
  refine s_iald hx hb hg hC k5.2.1 k5.2.2 dX3_piecesOf_20 ?_
  refine lv_topi (fun v6 ev6 => ?_)
  replace hw := hw v6 ev6
  refine lv_ldc (v := 16777216) hx hb hown (hts _ mk_k_RX3_44) dX3_piecesOf_21 ?_
  refine lv_iand hx hb dX3_piecesOf_23 ?_
  refine lv_if_ne (tgt := 63) hx hb dX3_piecesOf_24 (by decide) (fun c7 => ?_) (fun c7 => ?_)
  ·
    replace hw := (if_neg c7).mp hw
    exact t_X3_piecesOf_J63 hM o v3 Q  h H locs ls hC (lo_sub hl [1, 0] rfl) hw
  ·
    replace hw := (if_pos c7).mp hw
    refine lo_aload_n (r := Option.map A r1) hx hb dX3_piecesOf_27 rfl (lo_at hl 2 rfl) ?_
    refine sf_1 k1.1 ?_
    refine s_getR hx hb hts hown hg hC fb_0_4 k1.2 mk_f_RX3_35 dX3_piecesOf_28 ?_
    refine lo_aload_n (r := Option.map A r2) hx hb dX3_piecesOf_31 rfl (lo_at hl 3 rfl) ?_
    refine sf_1 k2.1 ?_
    refine s_getR hx hb hts hown hg hC fb_0_4 k2.2 mk_f_RX3_35 dX3_piecesOf_32 ?_
    refine lv_aload_n hx hb dX3_piecesOf_35 rfl (lo_at hl 1 rfl) ?_
    refine s_getI hx hb hts hown hg hC fb_2_0 k4 mk_f_RX3_22 dX3_piecesOf_36 ?_
    refine lo_aload_n (r := Option.map A r3) hx hb dX3_piecesOf_39 rfl (lo_at hl 4 rfl) ?_
    refine res2_i hC (run2_S (As := [va_rf (Option.map A (hpR h (ad r1) 4)), va_rf (Option.map A (hpR h (ad r2) 4)), .int (hpI h o 0), va_rf (Option.map A r3)]) (rest := []) hM hC hl.1.1 kv_RX3_45 (c_X6_pieces l G base A (hpR h (ad r1) 4) (hpR h (ad r2) 4) (hpI h o 0) r3 h _ hw) rfl rfl rfl ⟨Nat.le_of_ble_eq_true rfl, Nat.le_of_ble_eq_true rfl⟩ (Nat.le_of_ble_eq_true rfl) ⟨Nat.le_of_ble_eq_true rfl, Nat.le_of_ble_eq_true rfl⟩ dX3_piecesOf_40) (fun z12 h11 H locs hw hC => ?_)
    refine lo_istore (lv' := [(5, .int z12), (4, .int v3), (0, .ref (A o)), (1, va_rf (Option.map A r1)), (2, va_rf (Option.map A r2)), (3, va_rf (Option.map A r3))]) hx hb dX3_piecesOf_43 hl (by decide) rfl (fun ls hl => ?_)
    refine lv_aload_n hx hb dX3_piecesOf_45 rfl (lo_at hl 2 rfl) ?_
    obtain ⟨k13, hw⟩ := hw
    refine s_getR hx hb hts hown hg hC fb_2_2 k13 mk_f_RX3_18 dX3_piecesOf_46 ?_
    refine lv_iload hx hb dX3_piecesOf_49 (lo_at hl 1 rfl) ?_
    refine lv_dup2_11 hx hb dX3_piecesOf_51 rfl (va_rf_cat _) ?_
    obtain ⟨k14, hw⟩ := hw
    refine sf_2 k14.1 ?_
    refine s_iald hx hb hg hC k14.2.1 k14.2.2 dX3_piecesOf_52 ?_
    refine lv_topi (fun v15 ev15 => ?_)
    replace hw := hw v15 ev15
    refine lv_ldc (v := 16777216) hx hb hown (hts _ mk_k_RX3_44) dX3_piecesOf_53 ?_
    refine lv_iload hx hb dX3_piecesOf_55 (lo_at hl 0 rfl) ?_
    refine lv_bipush (v := 18) hx hb dX3_piecesOf_57 (by decide) ?_
    refine lv_ishl hx hb dX3_piecesOf_59 ?_
    refine lv_ior hx hb dX3_piecesOf_60 ?_
    refine lv_ior hx hb dX3_piecesOf_61 ?_
    obtain ⟨k16, hw⟩ := hw
    refine sf_3 k16.1 ?_
    refine s_iast hx hb hg hC k16.2.1 k16.2.2 dX3_piecesOf_62 (fun h17 H locs eh17 hC => ?_)
    replace hw := hw h17 eh17
    exact t_X3_piecesOf_J63 hM o v3 Q  h17 H locs ls hC (lo_sub hl [2, 1] rfl) hw
abbrev rm_X3_runsUnderBest : Room := { frames := 3, cells := 0, slots := 0, locals := 78 }
set_option maxRecDepth 100000 in
def wp_X3_runsUnderBest (o : Nat) (r1 : Option Nat) (r2 : Option Nat) (h : Hp) (Q : Int32 → Hp → Prop) : Prop := okO h r1 0 ∧ (okO h r2 0 ∧ (((hpK h o).1 = 20 + 2) ∧ (wp_X3_measured o r1 r2 h (fun (z5 : Int32) (h4 : Hp) => wp_X2_slide z5 h4 (fun (z7 : Int32) (h6 : Hp) => ((hpK h6 o).1 = 20 + 2) ∧ (wp_X6_runs (hpR h (ad r1) 4) (hpR h (ad r2) 4) z7 (hpI h6 o 0) h6 (fun (z10 : Int32) (h9 : Hp) => Q z10 h9)))))))
set_option maxHeartbeats 4000000 in
set_option maxRecDepth 100000 in
theorem c_X3_runsUnderBest (l : Launch) (G : GG) (base : Nat) (A : Nat → Nat) (o : Nat) (r1 : Option Nat) (r2 : Option Nat) (h : Hp) (Q : Int32 → Hp → Prop) (hw : wp_X3_runsUnderBest o r1 r2 h Q) : Met l yX3_runsUnderBest (ww yX3_runsUnderBest cX3_runsUnderBest 3 (some .int)) rm_X3_runsUnderBest (va_Pc [.ref (A o), va_rf (Option.map A r1), va_rf (Option.map A r2)] (PU2 G base A h A h)) (va_Qi Q (PU2 G base A h A) (fun q => base ≤ q)) 0 0 (fun q => base ≤ q) := by
  refine met2_of (own := RX3) (nm := "runsUnderBest") (by decide) rfl rfl (List.forall_mem_cons.mpr ⟨rfl, (List.forall_mem_cons.mpr ⟨va_rf_cat _, (List.forall_mem_cons.mpr ⟨va_rf_cat _, (fun _ h => absurd h List.not_mem_nil)⟩)⟩)⟩) (Nat.le_of_ble_eq_true rfl) rfl ?_
  intro p e s m args below meth c H locs ls hM hC hl
  obtain ⟨hx, hb, hr, hml, hown, hts, hg, hs, hlk, hnm⟩ := id hM
  unfold wp_X3_runsUnderBest at hw
  refine lo_aload_n (r := Option.map A r1) hx hb dX3_runsUnderBest_0 rfl (lo_at hl 1 rfl) ?_
  obtain ⟨k1, hw⟩ := hw
  refine sf_1 k1.1 ?_
  refine s_getR hx hb hts hown hg hC fb_0_4 k1.2 mk_f_RX3_35 dX3_runsUnderBest_1 ?_
  refine lo_aload_n (r := Option.map A r2) hx hb dX3_runsUnderBest_4 rfl (lo_at hl 2 rfl) ?_
  obtain ⟨k2, hw⟩ := hw
  refine sf_1 k2.1 ?_
  refine s_getR hx hb hts hown hg hC fb_0_4 k2.2 mk_f_RX3_35 dX3_runsUnderBest_5 ?_
  refine lv_aload_n hx hb dX3_runsUnderBest_8 rfl (lo_at hl 0 rfl) ?_
  refine lo_aload_n (r := Option.map A r1) hx hb dX3_runsUnderBest_9 rfl (lo_at hl 1 rfl) ?_
  refine lo_aload_n (r := Option.map A r2) hx hb dX3_runsUnderBest_10 rfl (lo_at hl 2 rfl) ?_
  obtain ⟨k3, hw⟩ := hw
  refine res2_i hC (run2_V (As := [va_rf (Option.map A r1), va_rf (Option.map A r2)]) (rest := [va_rf (Option.map A (hpR h (ad r2) 4)), va_rf (Option.map A (hpR h (ad r1) 4))]) hM hC hl.1.1 kv_RX3_49 (c_X3_measured l G base A o r1 r2 h _ hw) (hc_2) k3 rfl rfl rfl ⟨Nat.le_of_ble_eq_true rfl, Nat.le_of_ble_eq_true rfl⟩ (rest_le (List.forall_mem_cons.mpr ⟨va_rf_cat _, (List.forall_mem_cons.mpr ⟨va_rf_cat _, (fun _ h => absurd h List.not_mem_nil)⟩)⟩) (Nat.le_of_ble_eq_true rfl)) ⟨Nat.le_of_ble_eq_true rfl, Nat.le_of_ble_eq_true rfl⟩ dX3_runsUnderBest_11) (fun z5 h4 H locs hw hC => ?_)
  refine res2_i hC (run2_S (As := [.int z5]) (rest := [va_rf (Option.map A (hpR h (ad r2) 4)), va_rf (Option.map A (hpR h (ad r1) 4))]) hM hC hl.1.1 kv_RX3_53 (c_X2_slide l G base A z5 h4 _ hw) rfl rfl rfl ⟨Nat.le_of_ble_eq_true rfl, Nat.le_of_ble_eq_true rfl⟩ (rest_le (List.forall_mem_cons.mpr ⟨va_rf_cat _, (List.forall_mem_cons.mpr ⟨va_rf_cat _, (fun _ h => absurd h List.not_mem_nil)⟩)⟩) (Nat.le_of_ble_eq_true rfl)) ⟨Nat.le_of_ble_eq_true rfl, Nat.le_of_ble_eq_true rfl⟩ dX3_runsUnderBest_14) (fun z7 h6 H locs hw hC => ?_)
  refine lv_aload_n hx hb dX3_runsUnderBest_17 rfl (lo_at hl 0 rfl) ?_
  obtain ⟨k8, hw⟩ := hw
  refine s_getI hx hb hts hown hg hC fb_2_0 k8 mk_f_RX3_22 dX3_runsUnderBest_18 ?_
  refine res2_i hC (run2_S (As := [va_rf (Option.map A (hpR h (ad r1) 4)), va_rf (Option.map A (hpR h (ad r2) 4)), .int z7, .int (hpI h6 o 0)]) (rest := []) hM hC hl.1.1 kv_RX3_57 (c_X6_runs l G base A (hpR h (ad r1) 4) (hpR h (ad r2) 4) z7 (hpI h6 o 0) h6 _ hw) rfl rfl rfl ⟨Nat.le_of_ble_eq_true rfl, Nat.le_of_ble_eq_true rfl⟩ (Nat.le_of_ble_eq_true rfl) ⟨Nat.le_of_ble_eq_true rfl, Nat.le_of_ble_eq_true rfl⟩ dX3_runsUnderBest_21) (fun z10 h9 H locs hw hC => ?_)
  exact ret2_i hM hC hw dX3_runsUnderBest_24
set_option maxRecDepth 100000 in
def wp_X5_readEither_L7 (C : Nat → Int32 → Hp → (Hp → Prop) → Prop) (o : Nat) (x1 : Int32) (K55 : Hp → Prop) (Q : Hp → Prop) : Nat → Int32 → Hp → Prop
  | 0, _, _ => False
  | n + 1, x2, h => (if (600 : Int32) ≤ x2 then (K55 h) else (((hpK h o).1 = 20 + 4) ∧ (wp_X5_kind o h (fun (z7 : Int32) (h6 : Hp) => (if z7 = (256 : Int32) then (((hpK h6 o).1 = 20 + 4) ∧ (∀ h10 : Hp, h10 = stI h6 o 5 ((hpI h6 o 5) + (1 : Int32)) → (((hpK h10 o).1 = 20 + 4) ∧ (wp_X5_readBoth C o x1 h10 (fun (h12 : Hp) => ((hpK h12 o).1 = 20 + 4) ∧ (okO h12 (hpR h12 o 3) 5 ∧ (wp_X7_put (ad (hpR h12 o 3)) (256 : Int32) h12 (fun (h16 : Hp) => ∀ v18 : Int32, v18 = x2 + (1 : Int32) → (wp_X5_readEither_L7 C o x1 K55 Q n v18 h16))))))))) else (K55 h6))))))
set_option maxRecDepth 100000 in
def wp_X5_readEither (C : Nat → Int32 → Hp → (Hp → Prop) → Prop) (o : Nat) (x1 : Int32) (h : Hp) (Q : Hp → Prop) : Prop := ((hpK h o).1 = 20 + 4) ∧ (wp_X5_readBoth C o x1 h (fun (h2 : Hp) => wp_X5_readEither_L7 C o x1 (fun (h19 : Hp) => Q h19) Q fuel (0 : Int32) h2))
set_option maxHeartbeats 4000000 in
set_option maxRecDepth 100000 in
theorem t_X5_readEither_L7 {p : Program} {l : Launch} {e : Env} {s : State} {m : MethodId} {args : Array Value} {below : List Frame} {meth : Method} {c : Code} {G : GG} {base : Nat} {A : Nat → Nat} {g0 : Hp} (hM : Mx G base p s m args meth c cX5_readEither 3 none RX5 "readEither") (d : Nat) (C : Nat → Int32 → Hp → (Hp → Prop) → Prop) (hCl : ∀ (o : Nat) (x : Int32) (h : Hp) (Q : Hp → Prop), C o x h Q → Met l yX5_readClaim (ww yX5_readClaim cX5_readClaim 4 none) (rm_claim d) (va_Pc [.ref (A o), .int x] (PU2 G base A h A h)) (va_Qv Q (PU2 G base A h A) (fun q => base ≤ q)) 0 0 (fun q => base ≤ q)) (o : Nat) (x1 : Int32) (K55 : Hp → Prop) (Q : Hp → Prop) (hK55 : ∀ (h : Hp) (H : Heap) (locs : List Loc) (ls : Array Slot), Cx2 G base A g0 A h s.heap H locs → lo_has ls 3 [] → K55 h → W p l e (rm_X5_readEither d) s m args below meth c H locs 0 0 (MQ below (va_Qv Q (PU2 G base A g0 A) (fun q => base ≤ q)) args s 0 0 (fun q => base ≤ q)) (F0 m 55 ls [])) : ∀ (n : Nat) (x2 : Int32) (h : Hp) (H : Heap) (locs : List Loc) (ls : Array Slot), Cx2 G base A g0 A h s.heap H locs → lo_has ls 3 [(0, .ref (A o)), (1, .int x1), (2, .int x2)] → wp_X5_readEither_L7 C o x1 K55 Q n x2 h → W p l e (rm_X5_readEither d) s m args below meth c H locs 0 0 (MQ below (va_Qv Q (PU2 G base A g0 A) (fun q => base ≤ q)) args s 0 0 (fun q => base ≤ q)) (F0 m 7 ls []) := by
  intro n
  induction n with
  | zero =>
    intro x2 h H locs ls hC hl hw
    rw [wp_X5_readEither_L7] at hw
    exact hw.elim
  | succ n ih =>
    intro x2 h H locs ls hC hl hw
    rw [wp_X5_readEither_L7] at hw
    obtain ⟨hx, hb, hr, hml, hown, hts, hg, hs, hlk, hnm⟩ := id hM
    refine lv_iload_n hx hb dX5_readEither_7 rfl (lo_at hl 2 rfl) ?_
    refine lv_sipush (v := 600) hx hb dX5_readEither_8 (by decide) ?_
    refine lv_icmp_ge (tgt := 55) hx hb dX5_readEither_11 (by decide) (fun c4 => ?_) (fun c4 => ?_)
    ·
      replace hw := (if_pos c4).mp hw
      exact hK55  h H locs ls hC (lo_sub hl [] rfl) hw
    ·
      replace hw := (if_neg c4).mp hw
      refine lv_aload_n hx hb dX5_readEither_14 rfl (lo_at hl 0 rfl) ?_
      obtain ⟨k5, hw⟩ := hw
      refine res2_i hC (run2_V (As := []) (rest := []) hM hC hl.1.1 kv_RX5_44 (c_X5_kind l G base A o h _ hw) (hc_4) k5 rfl rfl rfl (by dsimp only [rm_claim, rm_X5_readBoth, rm_X5_readEither, rm_X5_readClaim, rm_X5_kind]; omega) (Nat.le_of_ble_eq_true rfl) ⟨Nat.le_of_ble_eq_true rfl, Nat.le_of_ble_eq_true rfl⟩ dX5_readEither_15) (fun z7 h6 H locs hw hC => ?_)
      refine lv_sipush (v := 256) hx hb dX5_readEither_18 (by decide) ?_
      refine lv_icmp_ne (tgt := 55) hx hb dX5_readEither_21 (by decide) (fun c8 => ?_) (fun c8 => ?_)
      ·
        replace hw := (if_neg c8).mp hw
        exact hK55  h6 H locs ls hC (lo_sub hl [] rfl) hw
      ·
        replace hw := (if_pos c8).mp hw
        refine lv_aload_n hx hb dX5_readEither_24 rfl (lo_at hl 0 rfl) ?_
        refine lv_dup hx hb dX5_readEither_25 rfl ?_
        obtain ⟨k9, hw⟩ := hw
        refine s_getI hx hb hts hown hg hC fb_4_5 k9 mk_f_RX5_30 dX5_readEither_26 ?_
        refine lv_iconst (v := 1) hx hb dX5_readEither_29 (by decide) ?_
        refine lv_iadd hx hb dX5_readEither_30 ?_
        refine s_putI hx hb hts hown hg hC fb_4_5 k9 rfl rfl mk_f_RX5_30 dX5_readEither_31 (fun h10 H locs eh10 hC => ?_)
        replace hw := hw h10 eh10
        refine lv_aload_n hx hb dX5_readEither_34 rfl (lo_at hl 0 rfl) ?_
        refine lv_iload_n hx hb dX5_readEither_35 rfl (lo_at hl 1 rfl) ?_
        obtain ⟨k11, hw⟩ := hw
        refine res2_v hC (run2_V (As := [.int x1]) (rest := []) hM hC hl.1.1 kv_RX5_91 (c_X5_readBoth l G base A d C hCl o x1 h10 _ hw) (hc_4) k11 rfl rfl rfl (by dsimp only [rm_claim, rm_X5_readBoth, rm_X5_readEither, rm_X5_readClaim]; omega) (Nat.le_of_ble_eq_true rfl) ⟨Nat.le_of_ble_eq_true rfl, Nat.le_of_ble_eq_true rfl⟩ dX5_readEither_36) (fun h12 H locs hw hC => ?_)
        refine lv_aload_n hx hb dX5_readEither_39 rfl (lo_at hl 0 rfl) ?_
        obtain ⟨k14, hw⟩ := hw
        refine s_getR hx hb hts hown hg hC fb_4_3 k14 mk_f_RX5_18 dX5_readEither_40 ?_
        refine lv_sipush (v := 256) hx hb dX5_readEither_43 (by decide) ?_
        obtain ⟨k15, hw⟩ := hw
        refine sf_2 k15.1 ?_
        refine res2_v hC (run2_V (As := [.int ((256 : Int32))]) (rest := []) hM hC hl.1.1 kv_RX5_94 (c_X7_put l G base A (ad (hpR h12 o 3)) (256 : Int32) h12 _ hw) (hc_5) k15.2 rfl rfl rfl (by dsimp only [rm_claim, rm_X5_readBoth, rm_X5_readEither, rm_X5_readClaim, rm_X7_put]; omega) (Nat.le_of_ble_eq_true rfl) ⟨Nat.le_of_ble_eq_true rfl, Nat.le_of_ble_eq_true rfl⟩ dX5_readEither_46) (fun h16 H locs hw hC => ?_)
        obtain ⟨v18, ev18⟩ : ∃ y : Int32, y = x2 + (1 : Int32) := ⟨_, rfl⟩
        replace hw := hw v18 ev18
        refine lo_iinc (v := v18) (lv' := [(2, .int v18), (0, .ref (A o)), (1, .int x1)]) hx hb dX5_readEither_49 hl (k := 2) rfl (by rw [ev18]; rfl) (by decide) rfl (fun ls hl => ?_)
        refine lv_goto (tgt := 7) hx hb dX5_readEither_52 (by decide) ?_
        exact ih v18 h16 H locs ls hC (lo_sub hl [1, 2, 0] rfl) hw
set_option maxHeartbeats 4000000 in
set_option maxRecDepth 100000 in
theorem c_X5_readEither (l : Launch) (G : GG) (base : Nat) (A : Nat → Nat) (d : Nat) (C : Nat → Int32 → Hp → (Hp → Prop) → Prop) (hCl : ∀ (o : Nat) (x : Int32) (h : Hp) (Q : Hp → Prop), C o x h Q → Met l yX5_readClaim (ww yX5_readClaim cX5_readClaim 4 none) (rm_claim d) (va_Pc [.ref (A o), .int x] (PU2 G base A h A h)) (va_Qv Q (PU2 G base A h A) (fun q => base ≤ q)) 0 0 (fun q => base ≤ q)) (o : Nat) (x1 : Int32) (h : Hp) (Q : Hp → Prop) (hw : wp_X5_readEither C o x1 h Q) : Met l yX5_readEither (ww yX5_readEither cX5_readEither 3 none) (rm_X5_readEither d) (va_Pc [.ref (A o), .int x1] (PU2 G base A h A h)) (va_Qv Q (PU2 G base A h A) (fun q => base ≤ q)) 0 0 (fun q => base ≤ q) := by
  refine met2_of (own := RX5) (nm := "readEither") (by decide) rfl rfl (List.forall_mem_cons.mpr ⟨rfl, (List.forall_mem_cons.mpr ⟨rfl, (fun _ h => absurd h List.not_mem_nil)⟩)⟩) (Nat.le_of_ble_eq_true rfl) rfl ?_
  intro p e s m args below meth c H locs ls hM hC hl
  obtain ⟨hx, hb, hr, hml, hown, hts, hg, hs, hlk, hnm⟩ := id hM
  unfold wp_X5_readEither at hw
  refine lv_aload_n hx hb dX5_readEither_0 rfl (lo_at hl 0 rfl) ?_
  refine lv_iload_n hx hb dX5_readEither_1 rfl (lo_at hl 1 rfl) ?_
  obtain ⟨k1, hw⟩ := hw
  refine res2_v hC (run2_V (As := [.int x1]) (rest := []) hM hC hl.1.1 kv_RX5_91 (c_X5_readBoth l G base A d C hCl o x1 h _ hw) (hc_4) k1 rfl rfl rfl (by dsimp only [rm_claim, rm_X5_readBoth, rm_X5_readEither, rm_X5_readClaim]; omega) (Nat.le_of_ble_eq_true rfl) ⟨Nat.le_of_ble_eq_true rfl, Nat.le_of_ble_eq_true rfl⟩ dX5_readEither_2) (fun h2 H locs hw hC => ?_)
  refine lv_iconst (v := 0) hx hb dX5_readEither_5 (by decide) ?_
  refine lo_istore_n (lv' := [(2, .int ((0 : Int32))), (0, .ref (A o)), (1, .int x1)]) hx hb dX5_readEither_6 rfl hl (by decide) rfl (fun ls hl => ?_)
  refine t_X5_readEither_L7 hM d C hCl o x1 _ Q ?_ fuel (0 : Int32) h2 H locs ls hC (lo_sub hl [1, 2, 0] rfl) hw
  intro  h19 H locs ls hC hl hw
  exact ret2_v hM hC hw dX5_readEither_55
