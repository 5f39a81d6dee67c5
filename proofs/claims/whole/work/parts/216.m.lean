abbrev rm_X11_shot : Room := { frames := 5, cells := 2, slots := 37, locals := 120 }
set_option maxRecDepth 100000 in
def wp_X11_shot (o : Nat) (x1 : Int32) (x2 : Int32) (h : Hp) (Q : Int32 → Hp → Prop) : Prop := ((hpK h o).1 = 20 + 9) ∧ (wp_X11_barrelAt o x1 h (fun (z3 : Option Nat) (h2 : Hp) => (if z3 = none then (Q (-1 : Int32) h2) else ((if x2 < 0 then (Q (-1 : Int32) h2) else ((if (9 : Int32) < x2 then (Q (-1 : Int32) h2) else (((hpK h2 o).1 = 20 + 9) ∧ ((if (hpI h2 o 5) < (40 : Int32) then (okP h2 z3 ∧ (okP h2 (some o) ∧ (∃ q9 : Nat, (hpK h2 q9).1 = 0 ∧ (∀ h10 : Hp, h10 = alc h2 q9 (20 + 0) 0 → (((hpK h10 o).1 = 20 + 9) ∧ (((hpK h10 q9).1 = 20 + 0) ∧ (okP h10 z3 ∧ (okP h10 (some o) ∧ (okP h10 (some q9) ∧ (wp_X0_init q9 (hpI h10 o 5) z3 x2 h10 (fun (h22 : Hp) => ((hpK h22 o).1 = 20 + 9) ∧ (okO h22 z3 1 ∧ (okO h22 (hpR h22 o 15) 8 ∧ (wp_X10_tellShot (ad (hpR h22 o 15)) (hpI h22 (ad z3) 5) (hpI h22 (ad z3) 6) x2 h22 (fun (h31 : Hp) => ((hpK h31 o).1 = 20 + 9) ∧ (((hpK h31 q9).1 = 20 + 0) ∧ (okO h31 z3 1 ∧ (okO h31 (hpR h31 o 14) 5 ∧ (wp_X7_change (ad (hpR h31 o 14)) (hpR h31 q9 4) (262 : Int32) (hpI h31 (ad z3) 4) (hpR h31 o 15) h31 (fun (z38 : Int32) (h37 : Hp) => okO h37 z3 1 ∧ (∀ h40 : Hp, h40 = stI h37 (ad z3) 4 z38 → (((hpK h40 o).1 = 20 + 9) ∧ (okO h40 z3 1 ∧ (okO h40 (hpR h40 o 14) 5 ∧ (wp_X7_change (ad (hpR h40 o 14)) (hpR h40 (ad z3) 3) (261 : Int32) (hpI h40 (ad z3) 4) (hpR h40 o 15) h40 (fun (z45 : Int32) (h44 : Hp) => okO h44 z3 1 ∧ (∀ h47 : Hp, h47 = stI h44 (ad z3) 4 z45 → (okO h47 z3 1 ∧ (∀ h49 : Hp, h49 = stI h47 (ad z3) 5 ((hpI h47 (ad z3) 5) + (1 : Int32)) → (((hpK h49 o).1 = 20 + 9) ∧ (((hpK h49 q9).1 = 20 + 0) ∧ (okA h49 (hpR h49 o 4) 3 (hpI h49 o 5) ∧ (∀ h53 : Hp, h53 = stR h49 (ad (hpR h49 o 4)) (hpI h49 o 5).toNatClampNeg (some q9) → (((hpK h53 o).1 = 20 + 9) ∧ (∀ h55 : Hp, h55 = stI h53 o 5 ((hpI h53 o 5) + (1 : Int32)) → (((hpK h55 q9).1 = 20 + 0) ∧ (Q (hpI h55 q9 0) h55))))))))))))))))))))))))))))))))))))) else (Q (-1 : Int32) h2)))))))))))
set_option maxHeartbeats 4000000 in
set_option maxRecDepth 100000 in
theorem c_X11_shot (l : Launch) (G : GG) (base : Nat) (A : Nat → Nat) (o : Nat) (x1 : Int32) (x2 : Int32) (h : Hp) (Q : Int32 → Hp → Prop) (hw : wp_X11_shot o x1 x2 h Q) : Met l yX11_shot (ww yX11_shot cX11_shot 5 (some .int)) rm_X11_shot (va_Pc [.ref (A o), .int x1, .int x2] (PU2 G base A h A h)) (va_Qi (fun r (u : (Nat → Nat) × Hp) => Q r u.2) (fun u t => PU2 G base A h u.1 u.2 t) (fun q => base ≤ q)) 2 37 (fun q => base ≤ q) := by
  refine met2_of (own := RX11) (nm := "shot") (by decide) rfl rfl (List.forall_mem_cons.mpr ⟨rfl, (List.forall_mem_cons.mpr ⟨rfl, (List.forall_mem_cons.mpr ⟨rfl, (fun _ h => absurd h List.not_mem_nil)⟩)⟩)⟩) (Nat.le_of_ble_eq_true rfl) rfl ?_
  intro p e s m args below meth c H locs ls hM hC hl
  obtain ⟨hx, hb, hr, hml, hown, hts, hg, hs, hlk, hnm⟩ := id hM
  unfold wp_X11_shot at hw
  refine lv_aload_n hx hb dX11_shot_0 rfl (lo_at hl 0 rfl) ?_
  refine lv_iload_n hx hb dX11_shot_1 rfl (lo_at hl 1 rfl) ?_
  obtain ⟨k1, hw⟩ := hw
  refine res2_q hC (run2_V (As := [.int x1]) (rest := []) hM hC hl.1.1 kv_RX11_115 (c_X11_barrelAt l G base A o x1 h _ hw) (hc_9) k1 rfl rfl rfl ⟨Nat.le_of_ble_eq_true rfl, Nat.le_of_ble_eq_true rfl⟩ (Nat.le_of_ble_eq_true rfl) ⟨Nat.le_of_ble_eq_true rfl, Nat.le_of_ble_eq_true rfl⟩ dX11_shot_2) (fun z3 h2 H locs hw hC => ?_)
  refine lo_astore_n (r := Option.map A z3) (lv' := [(3, va_rf (Option.map A z3)), (0, .ref (A o)), (1, .int x1), (2, .int x2)]) hx hb dX11_shot_5 rfl hl (by decide) rfl (fun ls hl => ?_)
  refine lo_aload_n (r := Option.map A z3) hx hb dX11_shot_6 rfl (lo_at hl 0 rfl) ?_
  refine s_ifnull (r := z3) (A := A) (tgt := 29) hx hb dX11_shot_7 (by decide) (fun c4 => ?_) (fun c4 => ?_)
  ·
    replace hw := (if_pos c4).mp hw
    refine lv_iconst (v := -1) hx hb dX11_shot_29 (by decide) ?_
    refine W.widen (k := 2) (n := 37) (Nat.le_of_ble_eq_true rfl) (Nat.le_of_ble_eq_true rfl) ?_
    exact ret2_ia hM hC hw dX11_shot_30
  ·
    replace hw := (if_neg c4).mp hw
    refine lv_iload_n hx hb dX11_shot_10 rfl (lo_at hl 3 rfl) ?_
    refine lv_if_lt (tgt := 29) hx hb dX11_shot_11 (by decide) (fun c5 => ?_) (fun c5 => ?_)
    ·
      replace hw := (if_pos c5).mp hw
      refine lv_iconst (v := -1) hx hb dX11_shot_29 (by decide) ?_
      refine W.widen (k := 2) (n := 37) (Nat.le_of_ble_eq_true rfl) (Nat.le_of_ble_eq_true rfl) ?_
      exact ret2_ia hM hC hw dX11_shot_30
    ·
      replace hw := (if_neg c5).mp hw
      refine lv_iload_n hx hb dX11_shot_14 rfl (lo_at hl 3 rfl) ?_
      refine lv_bipush (v := 9) hx hb dX11_shot_15 (by decide) ?_
      refine lv_icmp_gt (tgt := 29) hx hb dX11_shot_17 (by decide) (fun c6 => ?_) (fun c6 => ?_)
      ·
        replace hw := (if_pos c6).mp hw
        refine lv_iconst (v := -1) hx hb dX11_shot_29 (by decide) ?_
        refine W.widen (k := 2) (n := 37) (Nat.le_of_ble_eq_true rfl) (Nat.le_of_ble_eq_true rfl) ?_
        exact ret2_ia hM hC hw dX11_shot_30
      ·
        replace hw := (if_neg c6).mp hw
        refine lv_aload_n hx hb dX11_shot_20 rfl (lo_at hl 1 rfl) ?_
        obtain ⟨k7, hw⟩ := hw
        refine s_getI hx hb hts hown hg hC fb_9_5 k7 mk_f_RX11_122 dX11_shot_21 ?_
        refine lv_bipush (v := 40) hx hb dX11_shot_24 (by decide) ?_
        refine lv_icmp_lt (tgt := 31) hx hb dX11_shot_26 (by decide) (fun c8 => ?_) (fun c8 => ?_)
        ·
          replace hw := (if_pos c8).mp hw
          obtain ⟨k12, hw⟩ := hw
          obtain ⟨k13, hw⟩ := hw
          obtain ⟨q9, k11, hw⟩ := hw
          refine s_new hx hb hts hown hg hC cb_0 df_0 mk_c_RX11_21 mk_ins_OneBarrel_Ball mk_ini_OneBarrel_Ball q9 k11 (Nat.le_of_ble_eq_true rfl) (Nat.le_of_ble_eq_true rfl) dX11_shot_31 (fun A14 h10 H eh10 hE hC => ?_)
          replace hw := hw h10 eh10
          have e15 : Option.map A z3 = Option.map A14 z3 := hE.map k12
          try rw [e15] at hl
          try rw [e15]
          have e16 : A o = A14 o := ((hE _ (k13 _ rfl)).2).symm
          try rw [e16] at hl
          try rw [e16]
          refine W.widen (k := 1) (n := 5) (Nat.le_of_ble_eq_true rfl) (Nat.le_of_ble_eq_true rfl) ?_
          refine lv_dup hx hb dX11_shot_34 rfl ?_
          refine lv_aload_n hx hb dX11_shot_35 rfl (lo_at hl 1 rfl) ?_
          obtain ⟨k17, hw⟩ := hw
          refine s_getI hx hb hts hown hg hC fb_9_5 k17 mk_f_RX11_122 dX11_shot_36 ?_
          refine lo_aload_n (r := Option.map A14 z3) hx hb dX11_shot_39 rfl (lo_at hl 0 rfl) ?_
          refine lv_iload_n hx hb dX11_shot_40 rfl (lo_at hl 3 rfl) ?_
          obtain ⟨k18, hw⟩ := hw
          obtain ⟨k19, hw⟩ := hw
          obtain ⟨k20, hw⟩ := hw
          obtain ⟨k21, hw⟩ := hw
          refine res2_va hC (run2_I (As := [.int (hpI h10 o 5), va_rf (Option.map A14 z3), .int x2]) (rest := [.ref (A14 q9)]) hM hC hl.1.1 kv_RX11_125 (c_X0_init l G base A14 q9 (hpI h10 o 5) z3 x2 h10 _ hw) rfl rfl rfl ⟨Nat.le_of_ble_eq_true rfl, Nat.le_of_ble_eq_true rfl⟩ (Nat.le_of_ble_eq_true rfl) ⟨Nat.le_of_ble_eq_true rfl, Nat.le_of_ble_eq_true rfl⟩ dX11_shot_41) (fun A24 h22 H locs hw hE hC => ?_)
          have e25 : Option.map A14 z3 = Option.map A24 z3 := hE.map k19
          try rw [e25] at hl
          try rw [e25]
          have e26 : A14 o = A24 o := ((hE _ (k20 _ rfl)).2).symm
          try rw [e26] at hl
          try rw [e26]
          have e27 : A14 q9 = A24 q9 := ((hE _ (k21 _ rfl)).2).symm
          try rw [e27] at hl
          try rw [e27]
          refine W.widen (k := 2) (n := 37) (Nat.le_of_ble_eq_true rfl) (Nat.le_of_ble_eq_true rfl) ?_
          refine lo_astore (r := Option.map A24 (some q9)) (lv' := [(4, .ref (A24 q9)), (3, va_rf (Option.map A24 z3)), (0, .ref (A24 o)), (1, .int x1), (2, .int x2)]) hx hb dX11_shot_44 hl (by decide) rfl (fun ls hl => ?_)
          refine lv_aload_n hx hb dX11_shot_46 rfl (lo_at hl 2 rfl) ?_
          obtain ⟨k28, hw⟩ := hw
          refine s_getR hx hb hts hown hg hC fb_9_15 k28 mk_f_RX11_69 dX11_shot_47 ?_
          refine lo_aload_n (r := Option.map A24 z3) hx hb dX11_shot_50 rfl (lo_at hl 1 rfl) ?_
          obtain ⟨k29, hw⟩ := hw
          refine sf_1 k29.1 ?_
          refine s_getI hx hb hts hown hg hC fb_1_5 k29.2 mk_f_RX11_128 dX11_shot_51 ?_
          refine lo_aload_n (r := Option.map A24 z3) hx hb dX11_shot_54 rfl (lo_at hl 1 rfl) ?_
          refine sf_1 k29.1 ?_
          refine s_getI hx hb hts hown hg hC fb_1_6 k29.2 mk_f_RX11_119 dX11_shot_55 ?_
          refine lv_iload_n hx hb dX11_shot_58 rfl (lo_at hl 4 rfl) ?_
          obtain ⟨k30, hw⟩ := hw
          refine sf_4 k30.1 ?_
          refine res2_v hC (run2_V (As := [.int (hpI h22 (ad z3) 5), .int (hpI h22 (ad z3) 6), .int x2]) (rest := []) hM hC hl.1.1 kv_RX11_104 (c_X10_tellShot l G base A24 (ad (hpR h22 o 15)) (hpI h22 (ad z3) 5) (hpI h22 (ad z3) 6) x2 h22 _ hw) (hc_8) k30.2 rfl rfl rfl ⟨Nat.le_of_ble_eq_true rfl, Nat.le_of_ble_eq_true rfl⟩ (Nat.le_of_ble_eq_true rfl) ⟨Nat.le_of_ble_eq_true rfl, Nat.le_of_ble_eq_true rfl⟩ dX11_shot_59) (fun h31 H locs hw hC => ?_)
          refine lo_aload_n (r := Option.map A24 z3) hx hb dX11_shot_62 rfl (lo_at hl 1 rfl) ?_
          refine lv_aload_n hx hb dX11_shot_63 rfl (lo_at hl 2 rfl) ?_
          obtain ⟨k33, hw⟩ := hw
          refine s_getR hx hb hts hown hg hC fb_9_14 k33 mk_f_RX11_62 dX11_shot_64 ?_
          refine lv_aload hx hb dX11_shot_67 (lo_at hl 0 rfl) ?_
          obtain ⟨k34, hw⟩ := hw
          refine s_getR hx hb hts hown hg hC fb_0_4 k34 mk_f_RX11_131 dX11_shot_69 ?_
          refine lv_sipush (v := 262) hx hb dX11_shot_72 (by decide) ?_
          refine lo_aload_n (r := Option.map A24 z3) hx hb dX11_shot_75 rfl (lo_at hl 1 rfl) ?_
          obtain ⟨k35, hw⟩ := hw
          refine sf_1 k35.1 ?_
          refine s_getI hx hb hts hown hg hC fb_1_4 k35.2 mk_f_RX11_132 dX11_shot_76 ?_
          refine lv_aload_n hx hb dX11_shot_79 rfl (lo_at hl 2 rfl) ?_
          refine s_getR hx hb hts hown hg hC fb_9_15 k33 mk_f_RX11_69 dX11_shot_80 ?_
          obtain ⟨k36, hw⟩ := hw
          refine sf_5 k36.1 ?_
          refine res2_i hC (run2_V (As := [va_rf (Option.map A24 (hpR h31 q9 4)), .int ((262 : Int32)), .int (hpI h31 (ad z3) 4), va_rf (Option.map A24 (hpR h31 o 15))]) (rest := [va_rf (Option.map A24 z3)]) hM hC hl.1.1 kv_RX11_111 (c_X7_change l G base A24 (ad (hpR h31 o 14)) (hpR h31 q9 4) (262 : Int32) (hpI h31 (ad z3) 4) (hpR h31 o 15) h31 _ hw) (hc_5) k36.2 rfl rfl rfl ⟨Nat.le_of_ble_eq_true rfl, Nat.le_of_ble_eq_true rfl⟩ (rest_le (List.forall_mem_cons.mpr ⟨va_rf_cat _, (fun _ h => absurd h List.not_mem_nil)⟩) (Nat.le_of_ble_eq_true rfl)) ⟨Nat.le_of_ble_eq_true rfl, Nat.le_of_ble_eq_true rfl⟩ dX11_shot_83) (fun z38 h37 H locs hw hC => ?_)
          obtain ⟨k39, hw⟩ := hw
          refine sf_2 k39.1 ?_
          refine s_putI hx hb hts hown hg hC fb_1_4 k39.2 rfl rfl mk_f_RX11_132 dX11_shot_86 (fun h40 H locs eh40 hC => ?_)
          replace hw := hw h40 eh40
          refine lo_aload_n (r := Option.map A24 z3) hx hb dX11_shot_89 rfl (lo_at hl 1 rfl) ?_
          refine lv_aload_n hx hb dX11_shot_90 rfl (lo_at hl 2 rfl) ?_
          obtain ⟨k41, hw⟩ := hw
          refine s_getR hx hb hts hown hg hC fb_9_14 k41 mk_f_RX11_62 dX11_shot_91 ?_
          refine lo_aload_n (r := Option.map A24 z3) hx hb dX11_shot_94 rfl (lo_at hl 1 rfl) ?_
          obtain ⟨k42, hw⟩ := hw
          refine sf_1 k42.1 ?_
          refine s_getR hx hb hts hown hg hC fb_1_3 k42.2 mk_f_RX11_133 dX11_shot_95 ?_
          refine lv_sipush (v := 261) hx hb dX11_shot_98 (by decide) ?_
          refine lo_aload_n (r := Option.map A24 z3) hx hb dX11_shot_101 rfl (lo_at hl 1 rfl) ?_
          refine sf_1 k42.1 ?_
          refine s_getI hx hb hts hown hg hC fb_1_4 k42.2 mk_f_RX11_132 dX11_shot_102 ?_
          refine lv_aload_n hx hb dX11_shot_105 rfl (lo_at hl 2 rfl) ?_
          refine s_getR hx hb hts hown hg hC fb_9_15 k41 mk_f_RX11_69 dX11_shot_106 ?_
          obtain ⟨k43, hw⟩ := hw
          refine sf_5 k43.1 ?_
          refine res2_i hC (run2_V (As := [va_rf (Option.map A24 (hpR h40 (ad z3) 3)), .int ((261 : Int32)), .int (hpI h40 (ad z3) 4), va_rf (Option.map A24 (hpR h40 o 15))]) (rest := [va_rf (Option.map A24 z3)]) hM hC hl.1.1 kv_RX11_111 (c_X7_change l G base A24 (ad (hpR h40 o 14)) (hpR h40 (ad z3) 3) (261 : Int32) (hpI h40 (ad z3) 4) (hpR h40 o 15) h40 _ hw) (hc_5) k43.2 rfl rfl rfl ⟨Nat.le_of_ble_eq_true rfl, Nat.le_of_ble_eq_true rfl⟩ (rest_le (List.forall_mem_cons.mpr ⟨va_rf_cat _, (fun _ h => absurd h List.not_mem_nil)⟩) (Nat.le_of_ble_eq_true rfl)) ⟨Nat.le_of_ble_eq_true rfl, Nat.le_of_ble_eq_true rfl⟩ dX11_shot_109) (fun z45 h44 H locs hw hC => ?_)
          obtain ⟨k46, hw⟩ := hw
          refine sf_2 k46.1 ?_
          refine s_putI hx hb hts hown hg hC fb_1_4 k46.2 rfl rfl mk_f_RX11_132 dX11_shot_112 (fun h47 H locs eh47 hC => ?_)
          replace hw := hw h47 eh47
          refine lo_aload_n (r := Option.map A24 z3) hx hb dX11_shot_115 rfl (lo_at hl 1 rfl) ?_
          refine lv_dup hx hb dX11_shot_116 (va_rf_cat _) ?_
          obtain ⟨k48, hw⟩ := hw
          refine sf_1 k48.1 ?_
          refine s_getI hx hb hts hown hg hC fb_1_5 k48.2 mk_f_RX11_128 dX11_shot_117 ?_
          refine lv_iconst (v := 1) hx hb dX11_shot_120 (by decide) ?_
          refine lv_iadd hx hb dX11_shot_121 ?_
          refine sf_2 k48.1 ?_
          refine s_putI hx hb hts hown hg hC fb_1_5 k48.2 rfl rfl mk_f_RX11_128 dX11_shot_122 (fun h49 H locs eh49 hC => ?_)
          replace hw := hw h49 eh49
          refine lv_aload_n hx hb dX11_shot_125 rfl (lo_at hl 2 rfl) ?_
          obtain ⟨k50, hw⟩ := hw
          refine s_getR hx hb hts hown hg hC fb_9_4 k50 mk_f_RX11_23 dX11_shot_126 ?_
          refine lv_aload_n hx hb dX11_shot_129 rfl (lo_at hl 2 rfl) ?_
          refine s_getI hx hb hts hown hg hC fb_9_5 k50 mk_f_RX11_122 dX11_shot_130 ?_
          refine lv_aload hx hb dX11_shot_133 (lo_at hl 0 rfl) ?_
          obtain ⟨k51, hw⟩ := hw
          obtain ⟨k52, hw⟩ := hw
          refine sf_3 k52.1 ?_
          refine s_aast (kd := 3) (t0 := 2) (ci := 0) (q := (RX0, TX0, 5)) hx hb hg hC k52.2.1 (by decide) rfl rfl k51 k52.2.2 dX11_shot_135 (fun h53 H locs eh53 hC => ?_)
          replace hw := hw h53 eh53
          refine lv_aload_n hx hb dX11_shot_136 rfl (lo_at hl 2 rfl) ?_
          refine lv_dup hx hb dX11_shot_137 rfl ?_
          obtain ⟨k54, hw⟩ := hw
          refine s_getI hx hb hts hown hg hC fb_9_5 k54 mk_f_RX11_122 dX11_shot_138 ?_
          refine lv_iconst (v := 1) hx hb dX11_shot_141 (by decide) ?_
          refine lv_iadd hx hb dX11_shot_142 ?_
          refine s_putI hx hb hts hown hg hC fb_9_5 k54 rfl rfl mk_f_RX11_122 dX11_shot_143 (fun h55 H locs eh55 hC => ?_)
          replace hw := hw h55 eh55
          refine lv_aload hx hb dX11_shot_146 (lo_at hl 0 rfl) ?_
          obtain ⟨k56, hw⟩ := hw
          refine s_getI hx hb hts hown hg hC fb_0_0 k56 mk_f_RX11_134 dX11_shot_148 ?_
          exact ret2_ia hM hC hw dX11_shot_151
        ·
          replace hw := (if_neg c8).mp hw
          refine lv_iconst (v := -1) hx hb dX11_shot_29 (by decide) ?_
          refine W.widen (k := 2) (n := 37) (Nat.le_of_ble_eq_true rfl) (Nat.le_of_ble_eq_true rfl) ?_
          exact ret2_ia hM hC hw dX11_shot_30
abbrev rm_X11_list : Room := { frames := 4, cells := 0, slots := 0, locals := 105 }
set_option maxRecDepth 100000 in
def wp_X11_list_L47 (o : Nat) (x3 : Int32) (r4 : Option Nat) (r5 : Option Nat) (K71 : Int32 → Hp → Prop) (Q : Int32 → Hp → Prop) : Nat → Int32 → Int32 → Hp → Prop
  | 0, _, _, _ => False
  | n + 1, x6, x7, h => (if x3 < x7 then (K71 x6 h) else (((hpK h o).1 = 20 + 9) ∧ (wp_X11_nextLikeness o r4 r5 x6 h (fun (z15 : Int32) (h14 : Hp) => ∀ v16 : Int32, v16 = x7 + (1 : Int32) → (wp_X11_list_L47 o x3 r4 r5 K71 Q n z15 v16 h14)))))
set_option maxRecDepth 100000 in
def wp_X11_list (o : Nat) (x1 : Int32) (x2 : Int32) (x3 : Int32) (h : Hp) (Q : Int32 → Hp → Prop) : Prop := ((hpK h o).1 = 20 + 9) ∧ (wp_X11_lookerAt o x1 h (fun (z3 : Option Nat) (h2 : Hp) => ((hpK h2 o).1 = 20 + 9) ∧ (wp_X11_ballAt o x2 h2 (fun (z6 : Option Nat) (h5 : Hp) => (if z3 = none then (Q (-1 : Int32) h5) else ((if z6 = none then (Q (-1 : Int32) h5) else ((if x3 < 0 then (Q (-1 : Int32) h5) else (((hpK h5 o).1 = 20 + 9) ∧ ((if x3 < ((hpI h5 o 5) - (1 : Int32)) then (wp_X11_list_L47 o x3 z3 z6 (fun (y18 : Int32) (h17 : Hp) => wp_X2_likenessBall y18 h17 (fun (z20 : Int32) (h19 : Hp) => Q z20 h19)) Q fuel (262144 : Int32) (0 : Int32) h5) else (Q (-1 : Int32) h5)))))))))))))
set_option maxHeartbeats 4000000 in
set_option maxRecDepth 100000 in
theorem t_X11_list_L47 {p : Program} {l : Launch} {e : Env} {s : State} {m : MethodId} {args : Array Value} {below : List Frame} {meth : Method} {c : Code} {G : GG} {base : Nat} {A : Nat → Nat} {g0 : Hp} (hM : Mx G base p s m args meth c cX11_list 8 (some .int) RX11 "list") (o : Nat) (x3 : Int32) (r4 : Option Nat) (r5 : Option Nat) (K71 : Int32 → Hp → Prop) (Q : Int32 → Hp → Prop) (hK71 : ∀ (y6 : Int32) (h : Hp) (H : Heap) (locs : List Loc) (ls : Array Slot), Cx2 G base A g0 A h s.heap H locs → lo_has ls 8 [(6, .int y6)] → K71 y6 h → W p l e rm_X11_list s m args below meth c H locs 0 0 (MQ below (va_Qi Q (PU2 G base A g0 A) (fun q => base ≤ q)) args s 0 0 (fun q => base ≤ q)) (F0 m 71 ls [])) : ∀ (n : Nat) (x6 : Int32) (x7 : Int32) (h : Hp) (H : Heap) (locs : List Loc) (ls : Array Slot), Cx2 G base A g0 A h s.heap H locs → lo_has ls 8 [(0, .ref (A o)), (3, .int x3), (4, va_rf (Option.map A r4)), (5, va_rf (Option.map A r5)), (6, .int x6), (7, .int x7)] → wp_X11_list_L47 o x3 r4 r5 K71 Q n x6 x7 h → W p l e rm_X11_list s m args below meth c H locs 0 0 (MQ below (va_Qi Q (PU2 G base A g0 A) (fun q => base ≤ q)) args s 0 0 (fun q => base ≤ q)) (F0 m 47 ls []) := by
  intro n
  induction n with
  | zero =>
    intro x6 x7 h H locs ls hC hl hw
    rw [wp_X11_list_L47] at hw
    exact hw.elim
  | succ n ih =>
    intro x6 x7 h H locs ls hC hl hw
    rw [wp_X11_list_L47] at hw
    obtain ⟨hx, hb, hr, hml, hown, hts, hg, hs, hlk, hnm⟩ := id hM
    refine lv_iload hx hb dX11_list_47 (lo_at hl 5 rfl) ?_
    refine lv_iload_n hx hb dX11_list_49 rfl (lo_at hl 1 rfl) ?_
    refine lv_icmp_gt (tgt := 71) hx hb dX11_list_50 (by decide) (fun c12 => ?_) (fun c12 => ?_)
    ·
      replace hw := (if_pos c12).mp hw
      exact hK71 x6 h H locs ls hC (lo_sub hl [4] rfl) hw
    ·
      replace hw := (if_neg c12).mp hw
      refine lv_aload_n hx hb dX11_list_53 rfl (lo_at hl 0 rfl) ?_
      refine lo_aload (r := Option.map A r4) hx hb dX11_list_54 (lo_at hl 2 rfl) ?_
      refine lo_aload (r := Option.map A r5) hx hb dX11_list_56 (lo_at hl 3 rfl) ?_
      refine lv_iload hx hb dX11_list_58 (lo_at hl 4 rfl) ?_
      obtain ⟨k13, hw⟩ := hw
      refine res2_i hC (run2_V (As := [va_rf (Option.map A r4), va_rf (Option.map A r5), .int x6]) (rest := []) hM hC hl.1.1 kv_RX11_251 (c_X11_nextLikeness l G base A o r4 r5 x6 h _ hw) (hc_9) k13 rfl rfl rfl ⟨Nat.le_of_ble_eq_true rfl, Nat.le_of_ble_eq_true rfl⟩ (Nat.le_of_ble_eq_true rfl) ⟨Nat.le_of_ble_eq_true rfl, Nat.le_of_ble_eq_true rfl⟩ dX11_list_60) (fun z15 h14 H locs hw hC => ?_)
      refine lo_istore (lv' := [(6, .int z15), (0, .ref (A o)), (3, .int x3), (4, va_rf (Option.map A r4)), (5, va_rf (Option.map A r5)), (7, .int x7)]) hx hb dX11_list_63 hl (by decide) rfl (fun ls hl => ?_)
      obtain ⟨v16, ev16⟩ : ∃ y : Int32, y = x7 + (1 : Int32) := ⟨_, rfl⟩
      replace hw := hw v16 ev16
      refine lo_iinc (v := v16) (lv' := [(7, .int v16), (6, .int z15), (0, .ref (A o)), (3, .int x3), (4, va_rf (Option.map A r4)), (5, va_rf (Option.map A r5))]) hx hb dX11_list_65 hl (k := 5) rfl (by rw [ev16]; rfl) (by decide) rfl (fun ls hl => ?_)
      refine lv_goto (tgt := 47) hx hb dX11_list_68 (by decide) ?_
      exact ih z15 v16 h14 H locs ls hC (lo_sub hl [2, 3, 4, 5, 1, 0] rfl) hw
set_option maxHeartbeats 4000000 in
set_option maxRecDepth 100000 in
theorem c_X11_list (l : Launch) (G : GG) (base : Nat) (A : Nat → Nat) (o : Nat) (x1 : Int32) (x2 : Int32) (x3 : Int32) (h : Hp) (Q : Int32 → Hp → Prop) (hw : wp_X11_list o x1 x2 x3 h Q) : Met l yX11_list (ww yX11_list cX11_list 8 (some .int)) rm_X11_list (va_Pc [.ref (A o), .int x1, .int x2, .int x3] (PU2 G base A h A h)) (va_Qi Q (PU2 G base A h A) (fun q => base ≤ q)) 0 0 (fun q => base ≤ q) := by
  refine met2_of (own := RX11) (nm := "list") (by decide) rfl rfl (List.forall_mem_cons.mpr ⟨rfl, (List.forall_mem_cons.mpr ⟨rfl, (List.forall_mem_cons.mpr ⟨rfl, (List.forall_mem_cons.mpr ⟨rfl, (fun _ h => absurd h List.not_mem_nil)⟩)⟩)⟩)⟩) (Nat.le_of_ble_eq_true rfl) rfl ?_
  intro p e s m args below meth c H locs ls hM hC hl
  obtain ⟨hx, hb, hr, hml, hown, hts, hg, hs, hlk, hnm⟩ := id hM
  unfold wp_X11_list at hw
  refine lv_aload_n hx hb dX11_list_0 rfl (lo_at hl 0 rfl) ?_
  refine lv_iload_n hx hb dX11_list_1 rfl (lo_at hl 1 rfl) ?_
  obtain ⟨k1, hw⟩ := hw
  refine res2_q hC (run2_V (As := [.int x1]) (rest := []) hM hC hl.1.1 kv_RX11_144 (c_X11_lookerAt l G base A o x1 h _ hw) (hc_9) k1 rfl rfl rfl ⟨Nat.le_of_ble_eq_true rfl, Nat.le_of_ble_eq_true rfl⟩ (Nat.le_of_ble_eq_true rfl) ⟨Nat.le_of_ble_eq_true rfl, Nat.le_of_ble_eq_true rfl⟩ dX11_list_2) (fun z3 h2 H locs hw hC => ?_)
  refine lo_astore (r := Option.map A z3) (lv' := [(4, va_rf (Option.map A z3)), (0, .ref (A o)), (1, .int x1), (2, .int x2), (3, .int x3)]) hx hb dX11_list_5 hl (by decide) rfl (fun ls hl => ?_)
  refine lv_aload_n hx hb dX11_list_7 rfl (lo_at hl 1 rfl) ?_
  refine lv_iload_n hx hb dX11_list_8 rfl (lo_at hl 3 rfl) ?_
  obtain ⟨k4, hw⟩ := hw
  refine res2_q hC (run2_V (As := [.int x2]) (rest := []) hM hC hl.1.1 kv_RX11_140 (c_X11_ballAt l G base A o x2 h2 _ hw) (hc_9) k4 rfl rfl rfl ⟨Nat.le_of_ble_eq_true rfl, Nat.le_of_ble_eq_true rfl⟩ (Nat.le_of_ble_eq_true rfl) ⟨Nat.le_of_ble_eq_true rfl, Nat.le_of_ble_eq_true rfl⟩ dX11_list_9) (fun z6 h5 H locs hw hC => ?_)
  refine lo_astore (r := Option.map A z6) (lv' := [(5, va_rf (Option.map A z6)), (4, va_rf (Option.map A z3)), (0, .ref (A o)), (1, .int x1), (2, .int x2), (3, .int x3)]) hx hb dX11_list_12 hl (by decide) rfl (fun ls hl => ?_)
  refine lo_aload (r := Option.map A z3) hx hb dX11_list_14 (lo_at hl 1 rfl) ?_
  refine s_ifnull (r := z3) (A := A) (tgt := 38) hx hb dX11_list_16 (by decide) (fun c7 => ?_) (fun c7 => ?_)
  ·
    replace hw := (if_pos c7).mp hw
    refine lv_iconst (v := -1) hx hb dX11_list_38 (by decide) ?_
    exact ret2_i hM hC hw dX11_list_39
  ·
    replace hw := (if_neg c7).mp hw
    refine lo_aload (r := Option.map A z6) hx hb dX11_list_19 (lo_at hl 0 rfl) ?_
    refine s_ifnull (r := z6) (A := A) (tgt := 38) hx hb dX11_list_21 (by decide) (fun c8 => ?_) (fun c8 => ?_)
    ·
      replace hw := (if_pos c8).mp hw
      refine lv_iconst (v := -1) hx hb dX11_list_38 (by decide) ?_
      exact ret2_i hM hC hw dX11_list_39
    ·
      replace hw := (if_neg c8).mp hw
      refine lv_iload_n hx hb dX11_list_24 rfl (lo_at hl 5 rfl) ?_
      refine lv_if_lt (tgt := 38) hx hb dX11_list_25 (by decide) (fun c9 => ?_) (fun c9 => ?_)
      ·
        replace hw := (if_pos c9).mp hw
        refine lv_iconst (v := -1) hx hb dX11_list_38 (by decide) ?_
        exact ret2_i hM hC hw dX11_list_39
      ·
        replace hw := (if_neg c9).mp hw
        refine lv_iload_n hx hb dX11_list_28 rfl (lo_at hl 5 rfl) ?_
        refine lv_aload_n hx hb dX11_list_29 rfl (lo_at hl 2 rfl) ?_
        obtain ⟨k10, hw⟩ := hw
        refine s_getI hx hb hts hown hg hC fb_9_5 k10 mk_f_RX11_122 dX11_list_30 ?_
        refine lv_iconst (v := 1) hx hb dX11_list_33 (by decide) ?_
        refine lv_isub hx hb dX11_list_34 ?_
        refine lv_icmp_lt (tgt := 40) hx hb dX11_list_35 (by decide) (fun c11 => ?_) (fun c11 => ?_)
        ·
          replace hw := (if_pos c11).mp hw
          refine lv_ldc (v := 262144) hx hb hown (hts _ mk_k_RX11_250) dX11_list_40 ?_
          refine lo_istore (lv' := [(6, .int ((262144 : Int32))), (5, va_rf (Option.map A z6)), (4, va_rf (Option.map A z3)), (0, .ref (A o)), (1, .int x1), (2, .int x2), (3, .int x3)]) hx hb dX11_list_42 hl (by decide) rfl (fun ls hl => ?_)
          refine lv_iconst (v := 0) hx hb dX11_list_44 (by decide) ?_
          refine lo_istore (lv' := [(7, .int ((0 : Int32))), (6, .int ((262144 : Int32))), (5, va_rf (Option.map A z6)), (4, va_rf (Option.map A z3)), (0, .ref (A o)), (1, .int x1), (2, .int x2), (3, .int x3)]) hx hb dX11_list_45 hl (by decide) rfl (fun ls hl => ?_)
          refine t_X11_list_L47 hM o x3 z3 z6 _ Q ?_ fuel (262144 : Int32) (0 : Int32) h5 H locs ls hC (lo_sub hl [4, 7, 3, 2, 1, 0] rfl) hw
          intro y18 h17 H locs ls hC hl hw
          refine lv_iload hx hb dX11_list_71 (lo_at hl 0 rfl) ?_
          refine res2_i hC (run2_S (As := [.int y18]) (rest := []) hM hC hl.1.1 kv_RX11_255 (c_X2_likenessBall l G base A y18 h17 _ hw) rfl rfl rfl ⟨Nat.le_of_ble_eq_true rfl, Nat.le_of_ble_eq_true rfl⟩ (Nat.le_of_ble_eq_true rfl) ⟨Nat.le_of_ble_eq_true rfl, Nat.le_of_ble_eq_true rfl⟩ dX11_list_73) (fun z20 h19 H locs hw hC => ?_)
          exact ret2_i hM hC hw dX11_list_76
        ·
          replace hw := (if_neg c11).mp hw
          refine lv_iconst (v := -1) hx hb dX11_list_38 (by decide) ?_
          exact ret2_i hM hC hw dX11_list_39
abbrev rm_J0_indexOf_0f7a4 : Room := { frames := 3, cells := 0, slots := 0, locals := 85 }
set_option maxRecDepth 100000 in
def wp_J0_indexOf_0f7a4 (o : Nat) (x1 : Int32) (h : Hp) (Q : Int32 → Hp → Prop) : Prop := (o < 2) ∧ (wp_J0_indexOf_7cf53 o x1 (0 : Int32) h (fun (z3 : Int32) (h2 : Hp) => Q z3 h2))
set_option maxHeartbeats 4000000 in
set_option maxRecDepth 100000 in
theorem c_J0_indexOf_0f7a4 (l : Launch) (G : GG) (base : Nat) (A : Nat → Nat) (o : Nat) (x1 : Int32) (h : Hp) (Q : Int32 → Hp → Prop) (hw : wp_J0_indexOf_0f7a4 o x1 h Q) : Met l yJ0_indexOf_0f7a4 (ww yJ0_indexOf_0f7a4 cJ0_indexOf_0f7a4 2 (some .int)) rm_J0_indexOf_0f7a4 (va_Pc [.ref (G.2.2.1 o), .int x1] (PU2 G base A h A h)) (va_Qi Q (PU2 G base A h A) (fun q => base ≤ q)) 0 0 (fun q => base ≤ q) := by
  refine met2_of (own := RJ0) (nm := "indexOf") (by decide) rfl rfl (List.forall_mem_cons.mpr ⟨rfl, (List.forall_mem_cons.mpr ⟨rfl, (fun _ h => absurd h List.not_mem_nil)⟩)⟩) (Nat.le_of_ble_eq_true rfl) rfl ?_
  intro p e s m args below meth c H locs ls hM hC hl
  obtain ⟨hx, hb, hr, hml, hown, hts, hg, hs, hlk, hnm⟩ := id hM
  unfold wp_J0_indexOf_0f7a4 at hw
  refine lv_aload_n hx hb dJ0_indexOf_0f7a4_0 rfl (lo_at hl 0 rfl) ?_
  refine lv_iload_n hx hb dJ0_indexOf_0f7a4_1 rfl (lo_at hl 1 rfl) ?_
  refine lv_iconst (v := 0) hx hb dJ0_indexOf_0f7a4_2 (by decide) ?_
  obtain ⟨k1, hw⟩ := hw
  refine res2_i hC (run2_VS (As := [.int x1, .int ((0 : Int32))]) (rest := []) hM hC hl.1.1 kv_RJ0_633 (c_J0_indexOf_7cf53 l G base A o x1 (0 : Int32) h _ hw) k1 rfl rfl rfl ⟨Nat.le_of_ble_eq_true rfl, Nat.le_of_ble_eq_true rfl⟩ (Nat.le_of_ble_eq_true rfl) ⟨Nat.le_of_ble_eq_true rfl, Nat.le_of_ble_eq_true rfl⟩ dJ0_indexOf_0f7a4_3) (fun z3 h2 H locs hw hC => ?_)
  exact ret2_i hM hC hw dJ0_indexOf_0f7a4_6
abbrev rm_X3_sayingOf : Room := { frames := 5, cells := 0, slots := 0, locals := 142 }
set_option maxRecDepth 100000 in
def wp_X3_sayingOf_J70 (o : Nat) (x5 : Int32) (x6 : Int32) (Q : Int32 → Hp → Prop) (h : Hp) : Prop := ((hpK h o).1 = 20 + 2) ∧ (okA h (hpR h o 2) 1 x5 ∧ (∀ v11 : Int32, v11 = hpI h (ad (hpR h o 2)) (x5).toNatClampNeg → (Q (((((v11).toUInt32 >>> ((x6).toUInt32 &&& Int32.toUInt32 31)).toInt32) &&& (3 : Int32)) - (1 : Int32)) h)))
set_option maxRecDepth 100000 in
def wp_X3_sayingOf_J25 (o : Nat) (r1 : Option Nat) (r2 : Option Nat) (x3 : Int32) (r4 : Option Nat) (x5 : Int32) (s0 : Int32) (Q : Int32 → Hp → Prop) (h : Hp) : Prop := ((hpK h o).1 = 20 + 2) ∧ (okA h (hpR h o 2) 1 x5 ∧ (∀ v7 : Int32, v7 = hpI h (ad (hpR h o 2)) (x5).toNatClampNeg → ((if ((((v7).toUInt32 >>> ((s0).toUInt32 &&& Int32.toUInt32 31)).toInt32) &&& (3 : Int32)) = 0 then (wp_X3_judge o r1 r2 x3 r4 h (fun (z13 : Int32) (h12 : Hp) => ((hpK h12 o).1 = 20 + 2) ∧ (okA h12 (hpR h12 o 2) 1 x5 ∧ (∀ v16 : Int32, v16 = hpI h12 (ad (hpR h12 o 2)) (x5).toNatClampNeg → (okA h12 (hpR h12 o 2) 1 x5 ∧ (∀ h18 : Hp, h18 = stI h12 (ad (hpR h12 o 2)) (x5).toNatClampNeg (v16 ||| ((z13 + (1 : Int32)) <<< (s0 &&& 31))) → (wp_X3_sayingOf_J70 o x5 s0 Q h18))))))) else (wp_X3_sayingOf_J70 o x5 s0 Q h)))))
set_option maxRecDepth 100000 in
def wp_X3_sayingOf (o : Nat) (r1 : Option Nat) (r2 : Option Nat) (x3 : Int32) (r4 : Option Nat) (h : Hp) (Q : Int32 → Hp → Prop) : Prop := okO h r1 0 ∧ (okO h r2 0 ∧ (∀ v3 : Int32, v3 = ((hpI h (ad r1) 0) * (40 : Int32)) + (hpI h (ad r2) 0) → ((if x3 = 0 then (wp_X3_sayingOf_J25 o r1 r2 x3 r4 v3 (25 : Int32) Q h) else (wp_X3_sayingOf_J25 o r1 r2 x3 r4 v3 (27 : Int32) Q h)))))
set_option maxHeartbeats 4000000 in
set_option maxRecDepth 100000 in
theorem t_X3_sayingOf_J70 {p : Program} {l : Launch} {e : Env} {s : State} {m : MethodId} {args : Array Value} {below : List Frame} {meth : Method} {c : Code} {G : GG} {base : Nat} {A : Nat → Nat} {g0 : Hp} (hM : Mx G base p s m args meth c cX3_sayingOf 8 (some .int) RX3 "sayingOf") (o : Nat) (x5 : Int32) (x6 : Int32) (Q : Int32 → Hp → Prop) (h : Hp) (H : Heap) (locs : List Loc) (ls : Array Slot) : Cx2 G base A g0 A h s.heap H locs → lo_has ls 8 [(0, .ref (A o)), (5, .int x5), (6, .int x6)] → wp_X3_sayingOf_J70 o x5 x6 Q h → W p l e rm_X3_sayingOf s m args below meth c H locs 0 0 (MQ below (va_Qi Q (PU2 G base A g0 A) (fun q => base ≤ q)) args s 0 0 (fun q => base ≤ q)) (F0 m 70 ls []) := by
  intro hC hl hw
  unfold wp_X3_sayingOf_J70 at hw
  obtain ⟨hx, hb, hr, hml, hown, hts, hg, hs, hlk, hnm⟩ := id hM
  refine lv_aload_n hx hb dX3_sayingOf_70 rfl (lo_at hl 0 rfl) ?_
  obtain ⟨k9, hw⟩ := hw
  refine s_getR hx hb hts hown hg hC fb_2_2 k9 mk_f_RX3_18 dX3_sayingOf_71 ?_
  refine lv_iload hx hb dX3_sayingOf_74 (lo_at hl 1 rfl) ?_
  obtain ⟨k10, hw⟩ := hw
  refine sf_2 k10.1 ?_
  refine s_iald hx hb hg hC k10.2.1 k10.2.2 dX3_sayingOf_76 ?_
  refine lv_topi (fun v11 ev11 => ?_)
  replace hw := hw v11 ev11
  refine lv_iload hx hb dX3_sayingOf_77 (lo_at hl 2 rfl) ?_
  refine lv_iushr hx hb dX3_sayingOf_79 (v := ((v11).toUInt32 >>> ((x6).toUInt32 &&& Int32.toUInt32 31)).toInt32) rfl ?_
  refine lv_iconst (v := 3) hx hb dX3_sayingOf_80 (by decide) ?_
  refine lv_iand hx hb dX3_sayingOf_81 ?_
  refine lv_iconst (v := 1) hx hb dX3_sayingOf_82 (by decide) ?_
  refine lv_isub hx hb dX3_sayingOf_83 ?_
  exact ret2_i hM hC hw dX3_sayingOf_84
set_option maxHeartbeats 4000000 in
set_option maxRecDepth 100000 in
theorem t_X3_sayingOf_J25 {p : Program} {l : Launch} {e : Env} {s : State} {m : MethodId} {args : Array Value} {below : List Frame} {meth : Method} {c : Code} {G : GG} {base : Nat} {A : Nat → Nat} {g0 : Hp} (hM : Mx G base p s m args meth c cX3_sayingOf 8 (some .int) RX3 "sayingOf") (o : Nat) (r1 : Option Nat) (r2 : Option Nat) (x3 : Int32) (r4 : Option Nat) (x5 : Int32) (s0 : Int32) (Q : Int32 → Hp → Prop) (h : Hp) (H : Heap) (locs : List Loc) (ls : Array Slot) : Cx2 G base A g0 A h s.heap H locs → lo_has ls 8 [(0, .ref (A o)), (1, va_rf (Option.map A r1)), (2, va_rf (Option.map A r2)), (3, .int x3), (4, va_rf (Option.map A r4)), (5, .int x5)] → wp_X3_sayingOf_J25 o r1 r2 x3 r4 x5 s0 Q h → W p l e rm_X3_sayingOf s m args below meth c H locs 0 0 (MQ below (va_Qi Q (PU2 G base A g0 A) (fun q => base ≤ q)) args s 0 0 (fun q => base ≤ q)) (F0 m 25 ls [.int s0]) := by
  intro hC hl hw
  unfold wp_X3_sayingOf_J25 at hw
  obtain ⟨hx, hb, hr, hml, hown, hts, hg, hs, hlk, hnm⟩ := id hM
  refine lo_istore (lv' := [(6, .int s0), (0, .ref (A o)), (1, va_rf (Option.map A r1)), (2, va_rf (Option.map A r2)), (3, .int x3), (4, va_rf (Option.map A r4)), (5, .int x5)]) hx hb dX3_sayingOf_25 hl (by decide) rfl (fun ls hl => ?_)
  refine lv_aload_n hx hb dX3_sayingOf_27 rfl (lo_at hl 1 rfl) ?_
  obtain ⟨k5, hw⟩ := hw
  refine s_getR hx hb hts hown hg hC fb_2_2 k5 mk_f_RX3_18 dX3_sayingOf_28 ?_
  refine lv_iload hx hb dX3_sayingOf_31 (lo_at hl 6 rfl) ?_
  obtain ⟨k6, hw⟩ := hw
  refine sf_2 k6.1 ?_
  refine s_iald hx hb hg hC k6.2.1 k6.2.2 dX3_sayingOf_33 ?_
  refine lv_topi (fun v7 ev7 => ?_)
  replace hw := hw v7 ev7
  refine lv_iload hx hb dX3_sayingOf_34 (lo_at hl 0 rfl) ?_
  refine lv_iushr hx hb dX3_sayingOf_36 (v := ((v7).toUInt32 >>> ((s0).toUInt32 &&& Int32.toUInt32 31)).toInt32) rfl ?_
  refine lv_iconst (v := 3) hx hb dX3_sayingOf_37 (by decide) ?_
  refine lv_iand hx hb dX3_sayingOf_38 ?_
  refine lv_if_ne (tgt := 70) hx hb dX3_sayingOf_39 (by decide) (fun c8 => ?_) (fun c8 => ?_)
  ·
    replace hw := (if_neg c8).mp hw
    exact t_X3_sayingOf_J70 hM o x5 s0 Q  h H locs ls hC (lo_sub hl [1, 6, 0] rfl) hw
  ·
    replace hw := (if_pos c8).mp hw
    refine lv_aload_n hx hb dX3_sayingOf_42 rfl (lo_at hl 1 rfl) ?_
    refine lo_aload_n (r := Option.map A r1) hx hb dX3_sayingOf_43 rfl (lo_at hl 2 rfl) ?_
    refine lo_aload_n (r := Option.map A r2) hx hb dX3_sayingOf_44 rfl (lo_at hl 3 rfl) ?_
    refine lv_iload_n hx hb dX3_sayingOf_45 rfl (lo_at hl 4 rfl) ?_
    refine lo_aload (r := Option.map A r4) hx hb dX3_sayingOf_46 (lo_at hl 5 rfl) ?_
    refine res2_i hC (run2_V (As := [va_rf (Option.map A r1), va_rf (Option.map A r2), .int x3, va_rf (Option.map A r4)]) (rest := []) hM hC hl.1.1 kv_RX3_61 (c_X3_judge l G base A o r1 r2 x3 r4 h _ hw) (hc_2) k5 rfl rfl rfl ⟨Nat.le_of_ble_eq_true rfl, Nat.le_of_ble_eq_true rfl⟩ (Nat.le_of_ble_eq_true rfl) ⟨Nat.le_of_ble_eq_true rfl, Nat.le_of_ble_eq_true rfl⟩ dX3_sayingOf_48) (fun z13 h12 H locs hw hC => ?_)
    refine lo_istore (lv' := [(7, .int z13), (6, .int s0), (0, .ref (A o)), (1, va_rf (Option.map A r1)), (2, va_rf (Option.map A r2)), (3, .int x3), (4, va_rf (Option.map A r4)), (5, .int x5)]) hx hb dX3_sayingOf_51 hl (by decide) rfl (fun ls hl => ?_)
    refine lv_aload_n hx hb dX3_sayingOf_53 rfl (lo_at hl 2 rfl) ?_
    obtain ⟨k14, hw⟩ := hw
    refine s_getR hx hb hts hown hg hC fb_2_2 k14 mk_f_RX3_18 dX3_sayingOf_54 ?_
    refine lv_iload hx hb dX3_sayingOf_57 (lo_at hl 7 rfl) ?_
    refine lv_dup2_11 hx hb dX3_sayingOf_59 rfl (va_rf_cat _) ?_
    obtain ⟨k15, hw⟩ := hw
    refine sf_2 k15.1 ?_
    refine s_iald hx hb hg hC k15.2.1 k15.2.2 dX3_sayingOf_60 ?_
    refine lv_topi (fun v16 ev16 => ?_)
    replace hw := hw v16 ev16
    refine lv_iload hx hb dX3_sayingOf_61 (lo_at hl 0 rfl) ?_
    refine lv_iconst (v := 1) hx hb dX3_sayingOf_63 (by decide) ?_
    refine lv_iadd hx hb dX3_sayingOf_64 ?_
    refine lv_iload hx hb dX3_sayingOf_65 (lo_at hl 1 rfl) ?_
    refine lv_ishl hx hb dX3_sayingOf_67 ?_
    refine lv_ior hx hb dX3_sayingOf_68 ?_
    obtain ⟨k17, hw⟩ := hw
    refine sf_3 k17.1 ?_
    refine s_iast hx hb hg hC k17.2.1 k17.2.2 dX3_sayingOf_69 (fun h18 H locs eh18 hC => ?_)
    replace hw := hw h18 eh18
    exact t_X3_sayingOf_J70 hM o x5 s0 Q  h18 H locs ls hC (lo_sub hl [2, 7, 1] rfl) hw
set_option maxHeartbeats 4000000 in
set_option maxRecDepth 100000 in
theorem c_X3_sayingOf (l : Launch) (G : GG) (base : Nat) (A : Nat → Nat) (o : Nat) (r1 : Option Nat) (r2 : Option Nat) (x3 : Int32) (r4 : Option Nat) (h : Hp) (Q : Int32 → Hp → Prop) (hw : wp_X3_sayingOf o r1 r2 x3 r4 h Q) : Met l yX3_sayingOf (ww yX3_sayingOf cX3_sayingOf 8 (some .int)) rm_X3_sayingOf (va_Pc [.ref (A o), va_rf (Option.map A r1), va_rf (Option.map A r2), .int x3, va_rf (Option.map A r4)] (PU2 G base A h A h)) (va_Qi Q (PU2 G base A h A) (fun q => base ≤ q)) 0 0 (fun q => base ≤ q) := by
  refine met2_of (own := RX3) (nm := "sayingOf") (by decide) rfl rfl (List.forall_mem_cons.mpr ⟨rfl, (List.forall_mem_cons.mpr ⟨va_rf_cat _, (List.forall_mem_cons.mpr ⟨va_rf_cat _, (List.forall_mem_cons.mpr ⟨rfl, (List.forall_mem_cons.mpr ⟨va_rf_cat _, (fun _ h => absurd h List.not_mem_nil)⟩)⟩)⟩)⟩)⟩) (Nat.le_of_ble_eq_true rfl) rfl ?_
  intro p e s m args below meth c H locs ls hM hC hl
  obtain ⟨hx, hb, hr, hml, hown, hts, hg, hs, hlk, hnm⟩ := id hM
  unfold wp_X3_sayingOf at hw
  refine lo_aload_n (r := Option.map A r1) hx hb dX3_sayingOf_0 rfl (lo_at hl 1 rfl) ?_
  obtain ⟨k1, hw⟩ := hw
  refine sf_1 k1.1 ?_
  refine s_getI hx hb hts hown hg hC fb_0_0 k1.2 mk_f_RX3_29 dX3_sayingOf_1 ?_
  refine lv_bipush (v := 40) hx hb dX3_sayingOf_4 (by decide) ?_
  refine lv_imul hx hb dX3_sayingOf_6 ?_
  refine lo_aload_n (r := Option.map A r2) hx hb dX3_sayingOf_7 rfl (lo_at hl 2 rfl) ?_
  obtain ⟨k2, hw⟩ := hw
  refine sf_1 k2.1 ?_
  refine s_getI hx hb hts hown hg hC fb_0_0 k2.2 mk_f_RX3_29 dX3_sayingOf_8 ?_
  refine lv_iadd hx hb dX3_sayingOf_11 ?_
  refine lv_topi (fun v3 ev3 => ?_)
  replace hw := hw v3 ev3
  refine lo_istore (lv' := [(5, .int v3), (0, .ref (A o)), (1, va_rf (Option.map A r1)), (2, va_rf (Option.map A r2)), (3, .int x3), (4, va_rf (Option.map A r4))]) hx hb dX3_sayingOf_12 hl (by decide) rfl (fun ls hl => ?_)
  refine lv_iload_n hx hb dX3_sayingOf_14 rfl (lo_at hl 4 rfl) ?_
  refine lv_if_eq (tgt := 23) hx hb dX3_sayingOf_15 (by decide) (fun c4 => ?_) (fun c4 => ?_)
  ·
    replace hw := (if_pos c4).mp hw
    refine lv_bipush (v := 25) hx hb dX3_sayingOf_23 (by decide) ?_
    exact t_X3_sayingOf_J25 hM o r1 r2 x3 r4 v3 (25 : Int32) Q  h H locs ls hC (lo_sub hl [1, 2, 3, 4, 5, 0] rfl) hw
  ·
    replace hw := (if_neg c4).mp hw
    refine lv_bipush (v := 27) hx hb dX3_sayingOf_18 (by decide) ?_
    refine lv_goto (tgt := 25) hx hb dX3_sayingOf_20 (by decide) ?_
    exact t_X3_sayingOf_J25 hM o r1 r2 x3 r4 v3 (27 : Int32) Q  h H locs ls hC (lo_sub hl [1, 2, 3, 4, 5, 0] rfl) hw
set_option maxRecDepth 100000 in
def wp_X5_readClaim_J78 (C : Nat → Int32 → Hp → (Hp → Prop) → Prop) (o : Nat) (x1 : Int32) (x2 : Int32) (Q : Hp → Prop) (h : Hp) : Prop := (if x1 < (8 : Int32) then ((if x2 = (258 : Int32) then (((hpK h o).1 = 20 + 4) ∧ (∀ h16 : Hp, h16 = stI h o 5 ((hpI h o 5) + (1 : Int32)) → (((hpK h16 o).1 = 20 + 4) ∧ (C o (x1 + (1 : Int32)) h16 (fun (h18 : Hp) => ((hpK h18 o).1 = 20 + 4) ∧ (okO h18 (hpR h18 o 3) 5 ∧ (wp_X7_put (ad (hpR h18 o 3)) (258 : Int32) h18 (fun (h22 : Hp) => Q h22)))))))) else (((hpK h o).1 = 20 + 4) ∧ (∀ h8 : Hp, h8 = stI h o 5 ((hpI h o 5) + (1 : Int32)) → (((hpK h8 o).1 = 20 + 4) ∧ (wp_X5_readEither C o (x1 + (1 : Int32)) h8 (fun (h10 : Hp) => ((hpK h10 o).1 = 20 + 4) ∧ (wp_X5_expect o (41 : Int32) h10 (fun (h13 : Hp) => Q h13))))))))) else (((hpK h o).1 = 20 + 4) ∧ (wp_X5_refuse o (3 : Int32) h (fun (h25 : Hp) => Q h25))))
set_option maxRecDepth 100000 in
def wp_X5_readClaim_J45 (C : Nat → Int32 → Hp → (Hp → Prop) → Prop) (o : Nat) (x3 : Int32) (Q : Hp → Prop) (h : Hp) : Prop := ((hpK h o).1 = 20 + 4) ∧ (∀ h36 : Hp, h36 = stI h o 5 ((hpI h o 5) + (1 : Int32)) → (((hpK h36 o).1 = 20 + 4) ∧ (wp_X5_readSum o h36 (fun (h38 : Hp) => ((hpK h38 o).1 = 20 + 4) ∧ (okO h38 (hpR h38 o 3) 5 ∧ (wp_X7_put (ad (hpR h38 o 3)) x3 h38 (fun (h42 : Hp) => Q h42)))))))
set_option maxRecDepth 100000 in
def wp_X5_readClaim (C : Nat → Int32 → Hp → (Hp → Prop) → Prop) (o : Nat) (x1 : Int32) (h : Hp) (Q : Hp → Prop) : Prop := ((hpK h o).1 = 20 + 4) ∧ (wp_X5_kind o h (fun (z3 : Int32) (h2 : Hp) => (if z3 = (258 : Int32) then (wp_X5_readClaim_J78 C o x1 z3 Q h2) else ((if z3 = (40 : Int32) then (wp_X5_readClaim_J78 C o x1 z3 Q h2) else (((hpK h2 o).1 = 20 + 4) ∧ (wp_X5_readSum o h2 (fun (h29 : Hp) => ((hpK h29 o).1 = 20 + 4) ∧ (wp_X5_kind o h29 (fun (z33 : Int32) (h32 : Hp) => (if z33 = (60 : Int32) then (wp_X5_readClaim_J45 C o z33 Q h32) else ((if z33 = (61 : Int32) then (wp_X5_readClaim_J45 C o z33 Q h32) else ((if z33 = (62 : Int32) then (wp_X5_readClaim_J45 C o z33 Q h32) else (((hpK h32 o).1 = 20 + 4) ∧ (wp_X5_refuse o (1 : Int32) h32 (fun (h47 : Hp) => Q h47))))))))))))))))))
set_option maxHeartbeats 4000000 in
set_option maxRecDepth 100000 in
theorem t_X5_readClaim_J78 {p : Program} {l : Launch} {e : Env} {s : State} {m : MethodId} {args : Array Value} {below : List Frame} {meth : Method} {c : Code} {G : GG} {base : Nat} {A : Nat → Nat} {g0 : Hp} (hM : Mx G base p s m args meth c cX5_readClaim 4 none RX5 "readClaim") (d : Nat) (C : Nat → Int32 → Hp → (Hp → Prop) → Prop) (hCl : ∀ (o : Nat) (x : Int32) (h : Hp) (Q : Hp → Prop), C o x h Q → Met l yX5_readClaim (ww yX5_readClaim cX5_readClaim 4 none) (rm_claim d) (va_Pc [.ref (A o), .int x] (PU2 G base A h A h)) (va_Qv Q (PU2 G base A h A) (fun q => base ≤ q)) 0 0 (fun q => base ≤ q)) (o : Nat) (x1 : Int32) (x2 : Int32) (Q : Hp → Prop) (h : Hp) (H : Heap) (locs : List Loc) (ls : Array Slot) : Cx2 G base A g0 A h s.heap H locs → lo_has ls 4 [(0, .ref (A o)), (1, .int x1), (2, .int x2)] → wp_X5_readClaim_J78 C o x1 x2 Q h → W p l e (rm_X5_readClaim d) s m args below meth c H locs 0 0 (MQ below (va_Qv Q (PU2 G base A g0 A) (fun q => base ≤ q)) args s 0 0 (fun q => base ≤ q)) (F0 m 78 ls []) := by
  intro hC hl hw
  unfold wp_X5_readClaim_J78 at hw
  obtain ⟨hx, hb, hr, hml, hown, hts, hg, hs, hlk, hnm⟩ := id hM
  refine lv_iload_n hx hb dX5_readClaim_78 rfl (lo_at hl 1 rfl) ?_
  refine lv_bipush (v := 8) hx hb dX5_readClaim_79 (by decide) ?_
  refine lv_icmp_lt (tgt := 92) hx hb dX5_readClaim_81 (by decide) (fun c5 => ?_) (fun c5 => ?_)
  ·
    replace hw := (if_pos c5).mp hw
    refine lv_iload_n hx hb dX5_readClaim_92 rfl (lo_at hl 2 rfl) ?_
    refine lv_sipush (v := 258) hx hb dX5_readClaim_93 (by decide) ?_
    refine lv_icmp_ne (tgt := 129) hx hb dX5_readClaim_96 (by decide) (fun c6 => ?_) (fun c6 => ?_)
    ·
      replace hw := (if_neg c6).mp hw
      refine lv_aload_n hx hb dX5_readClaim_129 rfl (lo_at hl 0 rfl) ?_
      refine lv_dup hx hb dX5_readClaim_130 rfl ?_
      obtain ⟨k7, hw⟩ := hw
      refine s_getI hx hb hts hown hg hC fb_4_5 k7 mk_f_RX5_30 dX5_readClaim_131 ?_
      refine lv_iconst (v := 1) hx hb dX5_readClaim_134 (by decide) ?_
      refine lv_iadd hx hb dX5_readClaim_135 ?_
      refine s_putI hx hb hts hown hg hC fb_4_5 k7 rfl rfl mk_f_RX5_30 dX5_readClaim_136 (fun h8 H locs eh8 hC => ?_)
      replace hw := hw h8 eh8
      refine lv_aload_n hx hb dX5_readClaim_139 rfl (lo_at hl 0 rfl) ?_
      refine lv_iload_n hx hb dX5_readClaim_140 rfl (lo_at hl 1 rfl) ?_
      refine lv_iconst (v := 1) hx hb dX5_readClaim_141 (by decide) ?_
      refine lv_iadd hx hb dX5_readClaim_142 ?_
      obtain ⟨k9, hw⟩ := hw
      refine res2_v hC (run2_V (As := [.int (x1 + (1 : Int32))]) (rest := []) hM hC hl.1.1 kv_RX5_76 (c_X5_readEither l G base A d C hCl o (x1 + (1 : Int32)) h8 _ hw) (hc_4) k9 rfl rfl rfl (by dsimp only [rm_claim, rm_X5_readBoth, rm_X5_readEither, rm_X5_readClaim]; omega) (Nat.le_of_ble_eq_true rfl) ⟨Nat.le_of_ble_eq_true rfl, Nat.le_of_ble_eq_true rfl⟩ dX5_readClaim_143) (fun h10 H locs hw hC => ?_)
      refine lv_aload_n hx hb dX5_readClaim_146 rfl (lo_at hl 0 rfl) ?_
      refine lv_bipush (v := 41) hx hb dX5_readClaim_147 (by decide) ?_
      obtain ⟨k12, hw⟩ := hw
      refine res2_v hC (run2_V (As := [.int ((41 : Int32))]) (rest := []) hM hC hl.1.1 kv_RX5_85 (c_X5_expect l G base A o (41 : Int32) h10 _ hw) (hc_4) k12 rfl rfl rfl (by dsimp only [rm_claim, rm_X5_readBoth, rm_X5_readEither, rm_X5_readClaim, rm_X5_expect]; omega) (Nat.le_of_ble_eq_true rfl) ⟨Nat.le_of_ble_eq_true rfl, Nat.le_of_ble_eq_true rfl⟩ dX5_readClaim_149) (fun h13 H locs hw hC => ?_)
      exact ret2_v hM hC hw dX5_readClaim_152
    ·
      replace hw := (if_pos c6).mp hw
      refine lv_aload_n hx hb dX5_readClaim_99 rfl (lo_at hl 0 rfl) ?_
      refine lv_dup hx hb dX5_readClaim_100 rfl ?_
      obtain ⟨k15, hw⟩ := hw
      refine s_getI hx hb hts hown hg hC fb_4_5 k15 mk_f_RX5_30 dX5_readClaim_101 ?_
      refine lv_iconst (v := 1) hx hb dX5_readClaim_104 (by decide) ?_
      refine lv_iadd hx hb dX5_readClaim_105 ?_
      refine s_putI hx hb hts hown hg hC fb_4_5 k15 rfl rfl mk_f_RX5_30 dX5_readClaim_106 (fun h16 H locs eh16 hC => ?_)
      replace hw := hw h16 eh16
      refine lv_aload_n hx hb dX5_readClaim_109 rfl (lo_at hl 0 rfl) ?_
      refine lv_iload_n hx hb dX5_readClaim_110 rfl (lo_at hl 1 rfl) ?_
      refine lv_iconst (v := 1) hx hb dX5_readClaim_111 (by decide) ?_
      refine lv_iadd hx hb dX5_readClaim_112 ?_
      obtain ⟨k17, hw⟩ := hw
      refine res2_v hC (run2_V (As := [.int (x1 + (1 : Int32))]) (rest := []) hM hC hl.1.1 kv_RX5_97 (hCl o (x1 + (1 : Int32)) h16 _ hw) (hc_4) k17 rfl rfl rfl (by dsimp only [rm_claim, rm_X5_readBoth, rm_X5_readEither, rm_X5_readClaim]; omega) (Nat.le_of_ble_eq_true rfl) ⟨Nat.le_of_ble_eq_true rfl, Nat.le_of_ble_eq_true rfl⟩ dX5_readClaim_113) (fun h18 H locs hw hC => ?_)
      refine lv_aload_n hx hb dX5_readClaim_116 rfl (lo_at hl 0 rfl) ?_
      obtain ⟨k20, hw⟩ := hw
      refine s_getR hx hb hts hown hg hC fb_4_3 k20 mk_f_RX5_18 dX5_readClaim_117 ?_
      refine lv_sipush (v := 258) hx hb dX5_readClaim_120 (by decide) ?_
      obtain ⟨k21, hw⟩ := hw
      refine sf_2 k21.1 ?_
      refine res2_v hC (run2_V (As := [.int ((258 : Int32))]) (rest := []) hM hC hl.1.1 kv_RX5_94 (c_X7_put l G base A (ad (hpR h18 o 3)) (258 : Int32) h18 _ hw) (hc_5) k21.2 rfl rfl rfl (by dsimp only [rm_claim, rm_X5_readBoth, rm_X5_readEither, rm_X5_readClaim, rm_X7_put]; omega) (Nat.le_of_ble_eq_true rfl) ⟨Nat.le_of_ble_eq_true rfl, Nat.le_of_ble_eq_true rfl⟩ dX5_readClaim_123) (fun h22 H locs hw hC => ?_)
      refine lv_goto (tgt := 152) hx hb dX5_readClaim_126 (by decide) ?_
      exact ret2_v hM hC hw dX5_readClaim_152
  ·
    replace hw := (if_neg c5).mp hw
    refine lv_aload_n hx hb dX5_readClaim_84 rfl (lo_at hl 0 rfl) ?_
    refine lv_iconst (v := 3) hx hb dX5_readClaim_85 (by decide) ?_
    obtain ⟨k24, hw⟩ := hw
    refine res2_v hC (run2_V (As := [.int ((3 : Int32))]) (rest := []) hM hC hl.1.1 kv_RX5_61 (c_X5_refuse l G base A o (3 : Int32) h _ hw) (hc_4) k24 rfl rfl rfl (by dsimp only [rm_claim, rm_X5_readBoth, rm_X5_readEither, rm_X5_readClaim, rm_X5_refuse]; omega) (Nat.le_of_ble_eq_true rfl) ⟨Nat.le_of_ble_eq_true rfl, Nat.le_of_ble_eq_true rfl⟩ dX5_readClaim_86) (fun h25 H locs hw hC => ?_)
    refine lv_goto (tgt := 152) hx hb dX5_readClaim_89 (by decide) ?_
    exact ret2_v hM hC hw dX5_readClaim_152
set_option maxHeartbeats 4000000 in
set_option maxRecDepth 100000 in
theorem t_X5_readClaim_J45 {p : Program} {l : Launch} {e : Env} {s : State} {m : MethodId} {args : Array Value} {below : List Frame} {meth : Method} {c : Code} {G : GG} {base : Nat} {A : Nat → Nat} {g0 : Hp} (hM : Mx G base p s m args meth c cX5_readClaim 4 none RX5 "readClaim") (d : Nat) (C : Nat → Int32 → Hp → (Hp → Prop) → Prop) (hCl : ∀ (o : Nat) (x : Int32) (h : Hp) (Q : Hp → Prop), C o x h Q → Met l yX5_readClaim (ww yX5_readClaim cX5_readClaim 4 none) (rm_claim d) (va_Pc [.ref (A o), .int x] (PU2 G base A h A h)) (va_Qv Q (PU2 G base A h A) (fun q => base ≤ q)) 0 0 (fun q => base ≤ q)) (o : Nat) (x3 : Int32) (Q : Hp → Prop) (h : Hp) (H : Heap) (locs : List Loc) (ls : Array Slot) : Cx2 G base A g0 A h s.heap H locs → lo_has ls 4 [(0, .ref (A o)), (3, .int x3)] → wp_X5_readClaim_J45 C o x3 Q h → W p l e (rm_X5_readClaim d) s m args below meth c H locs 0 0 (MQ below (va_Qv Q (PU2 G base A g0 A) (fun q => base ≤ q)) args s 0 0 (fun q => base ≤ q)) (F0 m 45 ls []) := by
  intro hC hl hw
  unfold wp_X5_readClaim_J45 at hw
  obtain ⟨hx, hb, hr, hml, hown, hts, hg, hs, hlk, hnm⟩ := id hM
  refine lv_aload_n hx hb dX5_readClaim_45 rfl (lo_at hl 0 rfl) ?_
  refine lv_dup hx hb dX5_readClaim_46 rfl ?_
  obtain ⟨k35, hw⟩ := hw
  refine s_getI hx hb hts hown hg hC fb_4_5 k35 mk_f_RX5_30 dX5_readClaim_47 ?_
  refine lv_iconst (v := 1) hx hb dX5_readClaim_50 (by decide) ?_
  refine lv_iadd hx hb dX5_readClaim_51 ?_
  refine s_putI hx hb hts hown hg hC fb_4_5 k35 rfl rfl mk_f_RX5_30 dX5_readClaim_52 (fun h36 H locs eh36 hC => ?_)
  replace hw := hw h36 eh36
  refine lv_aload_n hx hb dX5_readClaim_55 rfl (lo_at hl 0 rfl) ?_
  obtain ⟨k37, hw⟩ := hw
  refine res2_v hC (run2_V (As := []) (rest := []) hM hC hl.1.1 kv_RX5_79 (c_X5_readSum l G base A o h36 _ hw) (hc_4) k37 rfl rfl rfl (by dsimp only [rm_claim, rm_X5_readBoth, rm_X5_readEither, rm_X5_readClaim, rm_X5_readSum]; omega) (Nat.le_of_ble_eq_true rfl) ⟨Nat.le_of_ble_eq_true rfl, Nat.le_of_ble_eq_true rfl⟩ dX5_readClaim_56) (fun h38 H locs hw hC => ?_)
  refine lv_aload_n hx hb dX5_readClaim_59 rfl (lo_at hl 0 rfl) ?_
  obtain ⟨k40, hw⟩ := hw
  refine s_getR hx hb hts hown hg hC fb_4_3 k40 mk_f_RX5_18 dX5_readClaim_60 ?_
  refine lv_iload_n hx hb dX5_readClaim_63 rfl (lo_at hl 1 rfl) ?_
  obtain ⟨k41, hw⟩ := hw
  refine sf_2 k41.1 ?_
  refine res2_v hC (run2_V (As := [.int x3]) (rest := []) hM hC hl.1.1 kv_RX5_94 (c_X7_put l G base A (ad (hpR h38 o 3)) x3 h38 _ hw) (hc_5) k41.2 rfl rfl rfl (by dsimp only [rm_claim, rm_X5_readBoth, rm_X5_readEither, rm_X5_readClaim, rm_X7_put]; omega) (Nat.le_of_ble_eq_true rfl) ⟨Nat.le_of_ble_eq_true rfl, Nat.le_of_ble_eq_true rfl⟩ dX5_readClaim_64) (fun h42 H locs hw hC => ?_)
  refine lv_goto (tgt := 75) hx hb dX5_readClaim_67 (by decide) ?_
  refine lv_goto (tgt := 152) hx hb dX5_readClaim_75 (by decide) ?_
  exact ret2_v hM hC hw dX5_readClaim_152
set_option maxHeartbeats 4000000 in
set_option maxRecDepth 100000 in
theorem c_X5_readClaim (l : Launch) (G : GG) (base : Nat) (A : Nat → Nat) (d : Nat) (C : Nat → Int32 → Hp → (Hp → Prop) → Prop) (hCl : ∀ (o : Nat) (x : Int32) (h : Hp) (Q : Hp → Prop), C o x h Q → Met l yX5_readClaim (ww yX5_readClaim cX5_readClaim 4 none) (rm_claim d) (va_Pc [.ref (A o), .int x] (PU2 G base A h A h)) (va_Qv Q (PU2 G base A h A) (fun q => base ≤ q)) 0 0 (fun q => base ≤ q)) (o : Nat) (x1 : Int32) (h : Hp) (Q : Hp → Prop) (hw : wp_X5_readClaim C o x1 h Q) : Met l yX5_readClaim (ww yX5_readClaim cX5_readClaim 4 none) (rm_X5_readClaim d) (va_Pc [.ref (A o), .int x1] (PU2 G base A h A h)) (va_Qv Q (PU2 G base A h A) (fun q => base ≤ q)) 0 0 (fun q => base ≤ q) := by
  refine met2_of (own := RX5) (nm := "readClaim") (by decide) rfl rfl (List.forall_mem_cons.mpr ⟨rfl, (List.forall_mem_cons.mpr ⟨rfl, (fun _ h => absurd h List.not_mem_nil)⟩)⟩) (Nat.le_of_ble_eq_true rfl) rfl ?_
  intro p e s m args below meth c H locs ls hM hC hl
  obtain ⟨hx, hb, hr, hml, hown, hts, hg, hs, hlk, hnm⟩ := id hM
  unfold wp_X5_readClaim at hw
  refine lv_aload_n hx hb dX5_readClaim_0 rfl (lo_at hl 0 rfl) ?_
  obtain ⟨k1, hw⟩ := hw
  refine res2_i hC (run2_V (As := []) (rest := []) hM hC hl.1.1 kv_RX5_44 (c_X5_kind l G base A o h _ hw) (hc_4) k1 rfl rfl rfl (by dsimp only [rm_claim, rm_X5_readBoth, rm_X5_readEither, rm_X5_readClaim, rm_X5_kind]; omega) (Nat.le_of_ble_eq_true rfl) ⟨Nat.le_of_ble_eq_true rfl, Nat.le_of_ble_eq_true rfl⟩ dX5_readClaim_1) (fun z3 h2 H locs hw hC => ?_)
  refine lo_istore_n (lv' := [(2, .int z3), (0, .ref (A o)), (1, .int x1)]) hx hb dX5_readClaim_4 rfl hl (by decide) rfl (fun ls hl => ?_)
  refine lv_iload_n hx hb dX5_readClaim_5 rfl (lo_at hl 0 rfl) ?_
  refine lv_sipush (v := 258) hx hb dX5_readClaim_6 (by decide) ?_
  refine lv_icmp_eq (tgt := 78) hx hb dX5_readClaim_9 (by decide) (fun c4 => ?_) (fun c4 => ?_)
  ·
    replace hw := (if_pos c4).mp hw
    exact t_X5_readClaim_J78 hM d C hCl o x1 z3 Q  h2 H locs ls hC (lo_sub hl [1, 2, 0] rfl) hw
  ·
    replace hw := (if_neg c4).mp hw
    refine lv_iload_n hx hb dX5_readClaim_12 rfl (lo_at hl 0 rfl) ?_
    refine lv_bipush (v := 40) hx hb dX5_readClaim_13 (by decide) ?_
    refine lv_icmp_eq (tgt := 78) hx hb dX5_readClaim_15 (by decide) (fun c27 => ?_) (fun c27 => ?_)
    ·
      replace hw := (if_pos c27).mp hw
      exact t_X5_readClaim_J78 hM d C hCl o x1 z3 Q  h2 H locs ls hC (lo_sub hl [1, 2, 0] rfl) hw
    ·
      replace hw := (if_neg c27).mp hw
      refine lv_aload_n hx hb dX5_readClaim_18 rfl (lo_at hl 1 rfl) ?_
      obtain ⟨k28, hw⟩ := hw
      refine res2_v hC (run2_V (As := []) (rest := []) hM hC hl.1.1 kv_RX5_79 (c_X5_readSum l G base A o h2 _ hw) (hc_4) k28 rfl rfl rfl (by dsimp only [rm_claim, rm_X5_readBoth, rm_X5_readEither, rm_X5_readClaim, rm_X5_readSum]; omega) (Nat.le_of_ble_eq_true rfl) ⟨Nat.le_of_ble_eq_true rfl, Nat.le_of_ble_eq_true rfl⟩ dX5_readClaim_19) (fun h29 H locs hw hC => ?_)
      refine lv_aload_n hx hb dX5_readClaim_22 rfl (lo_at hl 1 rfl) ?_
      obtain ⟨k31, hw⟩ := hw
      refine res2_i hC (run2_V (As := []) (rest := []) hM hC hl.1.1 kv_RX5_44 (c_X5_kind l G base A o h29 _ hw) (hc_4) k31 rfl rfl rfl (by dsimp only [rm_claim, rm_X5_readBoth, rm_X5_readEither, rm_X5_readClaim, rm_X5_kind]; omega) (Nat.le_of_ble_eq_true rfl) ⟨Nat.le_of_ble_eq_true rfl, Nat.le_of_ble_eq_true rfl⟩ dX5_readClaim_23) (fun z33 h32 H locs hw hC => ?_)
      refine lo_istore_n (lv' := [(3, .int z33), (2, .int z3), (0, .ref (A o)), (1, .int x1)]) hx hb dX5_readClaim_26 rfl hl (by decide) rfl (fun ls hl => ?_)
      refine lv_iload_n hx hb dX5_readClaim_27 rfl (lo_at hl 0 rfl) ?_
      refine lv_bipush (v := 60) hx hb dX5_readClaim_28 (by decide) ?_
      refine lv_icmp_eq (tgt := 45) hx hb dX5_readClaim_30 (by decide) (fun c34 => ?_) (fun c34 => ?_)
      ·
        replace hw := (if_pos c34).mp hw
        exact t_X5_readClaim_J45 hM d C hCl o z33 Q  h32 H locs ls hC (lo_sub hl [2, 0] rfl) hw
      ·
        replace hw := (if_neg c34).mp hw
        refine lv_iload_n hx hb dX5_readClaim_33 rfl (lo_at hl 0 rfl) ?_
        refine lv_bipush (v := 61) hx hb dX5_readClaim_34 (by decide) ?_
        refine lv_icmp_eq (tgt := 45) hx hb dX5_readClaim_36 (by decide) (fun c44 => ?_) (fun c44 => ?_)
        ·
          replace hw := (if_pos c44).mp hw
          exact t_X5_readClaim_J45 hM d C hCl o z33 Q  h32 H locs ls hC (lo_sub hl [2, 0] rfl) hw
        ·
          replace hw := (if_neg c44).mp hw
          refine lv_iload_n hx hb dX5_readClaim_39 rfl (lo_at hl 0 rfl) ?_
          refine lv_bipush (v := 62) hx hb dX5_readClaim_40 (by decide) ?_
          refine lv_icmp_ne (tgt := 70) hx hb dX5_readClaim_42 (by decide) (fun c45 => ?_) (fun c45 => ?_)
          ·
            replace hw := (if_neg c45).mp hw
            refine lv_aload_n hx hb dX5_readClaim_70 rfl (lo_at hl 2 rfl) ?_
            refine lv_iconst (v := 1) hx hb dX5_readClaim_71 (by decide) ?_
            obtain ⟨k46, hw⟩ := hw
            refine res2_v hC (run2_V (As := [.int ((1 : Int32))]) (rest := []) hM hC hl.1.1 kv_RX5_61 (c_X5_refuse l G base A o (1 : Int32) h32 _ hw) (hc_4) k46 rfl rfl rfl (by dsimp only [rm_claim, rm_X5_readBoth, rm_X5_readEither, rm_X5_readClaim, rm_X5_refuse]; omega) (Nat.le_of_ble_eq_true rfl) ⟨Nat.le_of_ble_eq_true rfl, Nat.le_of_ble_eq_true rfl⟩ dX5_readClaim_72) (fun h47 H locs hw hC => ?_)
            refine lv_goto (tgt := 152) hx hb dX5_readClaim_75 (by decide) ?_
            exact ret2_v hM hC hw dX5_readClaim_152
          ·
            replace hw := (if_pos c45).mp hw
            exact t_X5_readClaim_J45 hM d C hCl o z33 Q  h32 H locs ls hC (lo_sub hl [2, 0] rfl) hw
def wpR_claim : Nat → Nat → Int32 → Hp → (Hp → Prop) → Prop
  | 0, _, _, _, _ => False
  | d + 1, o, x, h, Q => wp_X5_readClaim (wpR_claim d) o x h Q
theorem cR_claim (l : Launch) (G : GG) (base : Nat) (A : Nat → Nat) : ∀ (d : Nat) (o : Nat) (x : Int32) (h : Hp) (Q : Hp → Prop), wpR_claim d o x h Q → Met l yX5_readClaim (ww yX5_readClaim cX5_readClaim 4 none) (rm_claim d) (va_Pc [.ref (A o), .int x] (PU2 G base A h A h)) (va_Qv Q (PU2 G base A h A) (fun q => base ≤ q)) 0 0 (fun q => base ≤ q) := by
  intro d
  induction d with
  | zero => intro o x h Q hw; exact hw.elim
  | succ d ih => intro o x h Q hw; exact c_X5_readClaim l G base A d (wpR_claim d) ih o x h Q hw
abbrev rm_X8_wordKind : Room := { frames := 5, cells := 0, slots := 0, locals := 109 }
set_option maxRecDepth 100000 in
def wp_X8_wordKind_J56 (o : Nat) (x1 : Int32) (x2 : Int32) (x3 : Int32) (x5 : Int32) (KH : Int32 → Int32 → Int32 → Hp → Prop) (K50 : Int32 → Hp → Prop) (K71 : Hp → Prop) (Q : Int32 → Hp → Prop) (h : Hp) : Prop := ∀ v11 : Int32, v11 = x3 + (1 : Int32) → (∀ v12 : Int32, v12 = x5 + (1 : Int32) → (∀ v13 : Int32, v13 = x5 + (1 : Int32) → (KH v11 v12 v13 h)))
set_option maxRecDepth 100000 in
def wp_X8_wordKind_L8 (o : Nat) (x1 : Int32) (x2 : Int32) (K50 : Int32 → Hp → Prop) (K71 : Hp → Prop) (Q : Int32 → Hp → Prop) : Nat → Int32 → Int32 → Int32 → Hp → Prop
  | 0, _, _, _, _ => False
  | n + 1, x3, x4, x5, h => (0 < 2) ∧ (wp_J0_length_8abf5 0 h (fun (z3 : Int32) (h2 : Hp) => (if z3 ≤ x5 then (K71 h2) else ((0 < 2) ∧ (wp_J0_charAt_5068e 0 x5 h2 (fun (z7 : Int32) (h6 : Hp) => (if z7 = (32 : Int32) then ((if (x5 - x4) = x2 then (((hpK h6 o).1 = 20 + 6) ∧ (wp_X8_isWord o x1 x4 x2 h6 (fun (z16 : Int32) (h15 : Hp) => (if z16 = 0 then (wp_X8_wordKind_J56 o x1 x2 x3 x5 (wp_X8_wordKind_L8 o x1 x2 K50 K71 Q n) K50 K71 Q h15) else (K50 x3 h15))))) else (wp_X8_wordKind_J56 o x1 x2 x3 x5 (wp_X8_wordKind_L8 o x1 x2 K50 K71 Q n) K50 K71 Q h6))) else (∀ v9 : Int32, v9 = x5 + (1 : Int32) → (wp_X8_wordKind_L8 o x1 x2 K50 K71 Q n x3 x4 v9 h6)))))))))
set_option maxRecDepth 100000 in
def wp_X8_wordKind (o : Nat) (x1 : Int32) (x2 : Int32) (h : Hp) (Q : Int32 → Hp → Prop) : Prop := wp_X8_wordKind_L8 o x1 x2 (fun (y19 : Int32) (h18 : Hp) => Q ((256 : Int32) + y19) h18) (fun (h20 : Hp) => Q (1 : Int32) h20) Q fuel (0 : Int32) (0 : Int32) (0 : Int32) h
set_option maxHeartbeats 4000000 in
set_option maxRecDepth 100000 in
theorem t_X8_wordKind_J56 {p : Program} {l : Launch} {e : Env} {s : State} {m : MethodId} {args : Array Value} {below : List Frame} {meth : Method} {c : Code} {G : GG} {base : Nat} {A : Nat → Nat} {g0 : Hp} (hM : Mx G base p s m args meth c cX8_wordKind 6 (some .int) RX8 "wordKind") (o : Nat) (x1 : Int32) (x2 : Int32) (x3 : Int32) (x5 : Int32) (KH : Int32 → Int32 → Int32 → Hp → Prop) (K50 : Int32 → Hp → Prop) (K71 : Hp → Prop) (Q : Int32 → Hp → Prop) (hKH : ∀ (y3 : Int32) (y4 : Int32) (y5 : Int32) (h : Hp) (H : Heap) (locs : List Loc) (ls : Array Slot), Cx2 G base A g0 A h s.heap H locs → lo_has ls 6 [(0, .ref (A o)), (1, .int x1), (2, .int x2), (3, .int y3), (4, .int y4), (5, .int y5)] → KH y3 y4 y5 h → W p l e rm_X8_wordKind s m args below meth c H locs 0 0 (MQ below (va_Qi Q (PU2 G base A g0 A) (fun q => base ≤ q)) args s 0 0 (fun q => base ≤ q)) (F0 m 8 ls [])) (hK50 : ∀ (y3 : Int32) (h : Hp) (H : Heap) (locs : List Loc) (ls : Array Slot), Cx2 G base A g0 A h s.heap H locs → lo_has ls 6 [(3, .int y3)] → K50 y3 h → W p l e rm_X8_wordKind s m args below meth c H locs 0 0 (MQ below (va_Qi Q (PU2 G base A g0 A) (fun q => base ≤ q)) args s 0 0 (fun q => base ≤ q)) (F0 m 50 ls [])) (hK71 : ∀ (h : Hp) (H : Heap) (locs : List Loc) (ls : Array Slot), Cx2 G base A g0 A h s.heap H locs → lo_has ls 6 [] → K71 h → W p l e rm_X8_wordKind s m args below meth c H locs 0 0 (MQ below (va_Qi Q (PU2 G base A g0 A) (fun q => base ≤ q)) args s 0 0 (fun q => base ≤ q)) (F0 m 71 ls [])) (h : Hp) (H : Heap) (locs : List Loc) (ls : Array Slot) : Cx2 G base A g0 A h s.heap H locs → lo_has ls 6 [(0, .ref (A o)), (1, .int x1), (2, .int x2), (3, .int x3), (5, .int x5)] → wp_X8_wordKind_J56 o x1 x2 x3 x5 KH K50 K71 Q h → W p l e rm_X8_wordKind s m args below meth c H locs 0 0 (MQ below (va_Qi Q (PU2 G base A g0 A) (fun q => base ≤ q)) args s 0 0 (fun q => base ≤ q)) (F0 m 56 ls []) := by
  intro hC hl hw
  unfold wp_X8_wordKind_J56 at hw
  obtain ⟨hx, hb, hr, hml, hown, hts, hg, hs, hlk, hnm⟩ := id hM
  obtain ⟨v11, ev11⟩ : ∃ y : Int32, y = x3 + (1 : Int32) := ⟨_, rfl⟩
  replace hw := hw v11 ev11
  refine lo_iinc (v := v11) (lv' := [(3, .int v11), (0, .ref (A o)), (1, .int x1), (2, .int x2), (5, .int x5)]) hx hb dX8_wordKind_56 hl (k := 3) rfl (by rw [ev11]; rfl) (by decide) rfl (fun ls hl => ?_)
  refine lv_iload hx hb dX8_wordKind_59 (lo_at hl 4 rfl) ?_
  refine lv_iconst (v := 1) hx hb dX8_wordKind_61 (by decide) ?_
  refine lv_iadd hx hb dX8_wordKind_62 ?_
  refine lv_topi (fun v12 ev12 => ?_)
  replace hw := hw v12 ev12
  refine lo_istore (lv' := [(4, .int v12), (3, .int v11), (0, .ref (A o)), (1, .int x1), (2, .int x2), (5, .int x5)]) hx hb dX8_wordKind_63 hl (by decide) rfl (fun ls hl => ?_)
  obtain ⟨v13, ev13⟩ : ∃ y : Int32, y = x5 + (1 : Int32) := ⟨_, rfl⟩
  replace hw := hw v13 ev13
  refine lo_iinc (v := v13) (lv' := [(5, .int v13), (4, .int v12), (3, .int v11), (0, .ref (A o)), (1, .int x1), (2, .int x2)]) hx hb dX8_wordKind_65 hl (k := 5) rfl (by rw [ev13]; rfl) (by decide) rfl (fun ls hl => ?_)
  refine lv_goto (tgt := 8) hx hb dX8_wordKind_68 (by decide) ?_
  exact hKH v11 v12 v13 h H locs ls hC (lo_sub hl [3, 4, 5, 2, 1, 0] rfl) hw
set_option maxHeartbeats 4000000 in
set_option maxRecDepth 100000 in
theorem t_X8_wordKind_L8 {p : Program} {l : Launch} {e : Env} {s : State} {m : MethodId} {args : Array Value} {below : List Frame} {meth : Method} {c : Code} {G : GG} {base : Nat} {A : Nat → Nat} {g0 : Hp} (hM : Mx G base p s m args meth c cX8_wordKind 6 (some .int) RX8 "wordKind") (o : Nat) (x1 : Int32) (x2 : Int32) (K50 : Int32 → Hp → Prop) (K71 : Hp → Prop) (Q : Int32 → Hp → Prop) (hK50 : ∀ (y3 : Int32) (h : Hp) (H : Heap) (locs : List Loc) (ls : Array Slot), Cx2 G base A g0 A h s.heap H locs → lo_has ls 6 [(3, .int y3)] → K50 y3 h → W p l e rm_X8_wordKind s m args below meth c H locs 0 0 (MQ below (va_Qi Q (PU2 G base A g0 A) (fun q => base ≤ q)) args s 0 0 (fun q => base ≤ q)) (F0 m 50 ls [])) (hK71 : ∀ (h : Hp) (H : Heap) (locs : List Loc) (ls : Array Slot), Cx2 G base A g0 A h s.heap H locs → lo_has ls 6 [] → K71 h → W p l e rm_X8_wordKind s m args below meth c H locs 0 0 (MQ below (va_Qi Q (PU2 G base A g0 A) (fun q => base ≤ q)) args s 0 0 (fun q => base ≤ q)) (F0 m 71 ls [])) : ∀ (n : Nat) (x3 : Int32) (x4 : Int32) (x5 : Int32) (h : Hp) (H : Heap) (locs : List Loc) (ls : Array Slot), Cx2 G base A g0 A h s.heap H locs → lo_has ls 6 [(0, .ref (A o)), (1, .int x1), (2, .int x2), (3, .int x3), (4, .int x4), (5, .int x5)] → wp_X8_wordKind_L8 o x1 x2 K50 K71 Q n x3 x4 x5 h → W p l e rm_X8_wordKind s m args below meth c H locs 0 0 (MQ below (va_Qi Q (PU2 G base A g0 A) (fun q => base ≤ q)) args s 0 0 (fun q => base ≤ q)) (F0 m 8 ls []) := by
  intro n
  induction n with
  | zero =>
    intro x3 x4 x5 h H locs ls hC hl hw
    rw [wp_X8_wordKind_L8] at hw
    exact hw.elim
  | succ n ih =>
    intro x3 x4 x5 h H locs ls hC hl hw
    rw [wp_X8_wordKind_L8] at hw
    obtain ⟨hx, hb, hr, hml, hown, hts, hg, hs, hlk, hnm⟩ := id hM
    refine lv_iload hx hb dX8_wordKind_8 (lo_at hl 5 rfl) ?_
    refine va_ldcS hx hb hown hs.2.1 dX8_wordKind_10 ?_
    obtain ⟨k1, hw⟩ := hw
    refine res2_i hC (run2_VS (As := []) (rest := [.int x5]) hM hC hl.1.1 kv_RX8_58 (c_J0_length_8abf5 l G base A 0 h _ hw) k1 rfl rfl rfl ⟨Nat.le_of_ble_eq_true rfl, Nat.le_of_ble_eq_true rfl⟩ (Nat.le_of_ble_eq_true rfl) ⟨Nat.le_of_ble_eq_true rfl, Nat.le_of_ble_eq_true rfl⟩ dX8_wordKind_12) (fun z3 h2 H locs hw hC => ?_)
    refine lv_icmp_ge (tgt := 71) hx hb dX8_wordKind_15 (by decide) (fun c4 => ?_) (fun c4 => ?_)
    ·
      replace hw := (if_pos c4).mp hw
      exact hK71  h2 H locs ls hC (lo_sub hl [] rfl) hw
    ·
      replace hw := (if_neg c4).mp hw
      refine va_ldcS hx hb hown hs.2.1 dX8_wordKind_18 ?_
      refine lv_iload hx hb dX8_wordKind_20 (lo_at hl 5 rfl) ?_
      obtain ⟨k5, hw⟩ := hw
      refine res2_i hC (run2_VS (As := [.int x5]) (rest := []) hM hC hl.1.1 kv_RX8_61 (c_J0_charAt_5068e l G base A 0 x5 h2 _ hw) k5 rfl rfl rfl ⟨Nat.le_of_ble_eq_true rfl, Nat.le_of_ble_eq_true rfl⟩ (Nat.le_of_ble_eq_true rfl) ⟨Nat.le_of_ble_eq_true rfl, Nat.le_of_ble_eq_true rfl⟩ dX8_wordKind_22) (fun z7 h6 H locs hw hC => ?_)
      refine lv_bipush (v := 32) hx hb dX8_wordKind_25 (by decide) ?_
      refine lv_icmp_ne (tgt := 65) hx hb dX8_wordKind_27 (by decide) (fun c8 => ?_) (fun c8 => ?_)
      ·
        replace hw := (if_neg c8).mp hw
        obtain ⟨v9, ev9⟩ : ∃ y : Int32, y = x5 + (1 : Int32) := ⟨_, rfl⟩
        replace hw := hw v9 ev9
        refine lo_iinc (v := v9) (lv' := [(5, .int v9), (0, .ref (A o)), (1, .int x1), (2, .int x2), (3, .int x3), (4, .int x4)]) hx hb dX8_wordKind_65 hl (k := 5) rfl (by rw [ev9]; rfl) (by decide) rfl (fun ls hl => ?_)
        refine lv_goto (tgt := 8) hx hb dX8_wordKind_68 (by decide) ?_
        exact ih x3 x4 v9 h6 H locs ls hC (lo_sub hl [1, 2, 3, 4, 5, 0] rfl) hw
      ·
        replace hw := (if_pos c8).mp hw
        refine lv_iload hx hb dX8_wordKind_30 (lo_at hl 5 rfl) ?_
        refine lv_iload hx hb dX8_wordKind_32 (lo_at hl 4 rfl) ?_
        refine lv_isub hx hb dX8_wordKind_34 ?_
        refine lv_iload_n hx hb dX8_wordKind_35 rfl (lo_at hl 2 rfl) ?_
        refine lv_icmp_ne (tgt := 56) hx hb dX8_wordKind_36 (by decide) (fun c10 => ?_) (fun c10 => ?_)
        ·
          replace hw := (if_neg c10).mp hw
          exact t_X8_wordKind_J56 hM o x1 x2 x3 x5 (wp_X8_wordKind_L8 o x1 x2 K50 K71 Q n) K50 K71 Q ih hK50 hK71 h6 H locs ls hC (lo_sub hl [0, 1, 2, 3, 5] rfl) hw
        ·
          replace hw := (if_pos c10).mp hw
          refine lv_aload_n hx hb dX8_wordKind_39 rfl (lo_at hl 0 rfl) ?_
          refine lv_iload_n hx hb dX8_wordKind_40 rfl (lo_at hl 1 rfl) ?_
          refine lv_iload hx hb dX8_wordKind_41 (lo_at hl 4 rfl) ?_
          refine lv_iload_n hx hb dX8_wordKind_43 rfl (lo_at hl 2 rfl) ?_
          obtain ⟨k14, hw⟩ := hw
          refine res2_i hC (run2_V (As := [.int x1, .int x4, .int x2]) (rest := []) hM hC hl.1.1 kv_RX8_65 (c_X8_isWord l G base A o x1 x4 x2 h6 _ hw) (hc_6) k14 rfl rfl rfl ⟨Nat.le_of_ble_eq_true rfl, Nat.le_of_ble_eq_true rfl⟩ (Nat.le_of_ble_eq_true rfl) ⟨Nat.le_of_ble_eq_true rfl, Nat.le_of_ble_eq_true rfl⟩ dX8_wordKind_44) (fun z16 h15 H locs hw hC => ?_)
          refine lv_if_eq (tgt := 56) hx hb dX8_wordKind_47 (by decide) (fun c17 => ?_) (fun c17 => ?_)
          ·
            replace hw := (if_pos c17).mp hw
            exact t_X8_wordKind_J56 hM o x1 x2 x3 x5 (wp_X8_wordKind_L8 o x1 x2 K50 K71 Q n) K50 K71 Q ih hK50 hK71 h15 H locs ls hC (lo_sub hl [0, 1, 2, 3, 5] rfl) hw
          ·
            replace hw := (if_neg c17).mp hw
            exact hK50 x3 h15 H locs ls hC (lo_sub hl [3] rfl) hw
set_option maxHeartbeats 4000000 in
set_option maxRecDepth 100000 in
theorem c_X8_wordKind (l : Launch) (G : GG) (base : Nat) (A : Nat → Nat) (o : Nat) (x1 : Int32) (x2 : Int32) (h : Hp) (Q : Int32 → Hp → Prop) (hw : wp_X8_wordKind o x1 x2 h Q) : Met l yX8_wordKind (ww yX8_wordKind cX8_wordKind 6 (some .int)) rm_X8_wordKind (va_Pc [.ref (A o), .int x1, .int x2] (PU2 G base A h A h)) (va_Qi Q (PU2 G base A h A) (fun q => base ≤ q)) 0 0 (fun q => base ≤ q) := by
  refine met2_of (own := RX8) (nm := "wordKind") (by decide) rfl rfl (List.forall_mem_cons.mpr ⟨rfl, (List.forall_mem_cons.mpr ⟨rfl, (List.forall_mem_cons.mpr ⟨rfl, (fun _ h => absurd h List.not_mem_nil)⟩)⟩)⟩) (Nat.le_of_ble_eq_true rfl) rfl ?_
  intro p e s m args below meth c H locs ls hM hC hl
  obtain ⟨hx, hb, hr, hml, hown, hts, hg, hs, hlk, hnm⟩ := id hM
  unfold wp_X8_wordKind at hw
  refine lv_iconst (v := 0) hx hb dX8_wordKind_0 (by decide) ?_
  refine lo_istore_n (lv' := [(3, .int ((0 : Int32))), (0, .ref (A o)), (1, .int x1), (2, .int x2)]) hx hb dX8_wordKind_1 rfl hl (by decide) rfl (fun ls hl => ?_)
  refine lv_iconst (v := 0) hx hb dX8_wordKind_2 (by decide) ?_
  refine lo_istore (lv' := [(4, .int ((0 : Int32))), (3, .int ((0 : Int32))), (0, .ref (A o)), (1, .int x1), (2, .int x2)]) hx hb dX8_wordKind_3 hl (by decide) rfl (fun ls hl => ?_)
  refine lv_iconst (v := 0) hx hb dX8_wordKind_5 (by decide) ?_
  refine lo_istore (lv' := [(5, .int ((0 : Int32))), (4, .int ((0 : Int32))), (3, .int ((0 : Int32))), (0, .ref (A o)), (1, .int x1), (2, .int x2)]) hx hb dX8_wordKind_6 hl (by decide) rfl (fun ls hl => ?_)
  refine t_X8_wordKind_L8 hM o x1 x2 _ _ Q ?_ ?_ fuel (0 : Int32) (0 : Int32) (0 : Int32) h H locs ls hC (lo_sub hl [3, 4, 5, 2, 1, 0] rfl) hw
  ·
    intro y19 h18 H locs ls hC hl hw
    refine lv_sipush (v := 256) hx hb dX8_wordKind_50 (by decide) ?_
    refine lv_iload_n hx hb dX8_wordKind_53 rfl (lo_at hl 0 rfl) ?_
    refine lv_iadd hx hb dX8_wordKind_54 ?_
    exact ret2_i hM hC hw dX8_wordKind_55
  ·
    intro  h20 H locs ls hC hl hw
    refine lv_iconst (v := 1) hx hb dX8_wordKind_71 (by decide) ?_
    exact ret2_i hM hC hw dX8_wordKind_72
abbrev rm_X11_says : Room := { frames := 6, cells := 0, slots := 0, locals := 169 }
set_option maxRecDepth 100000 in
def wp_X11_says (o : Nat) (x1 : Int32) (x2 : Int32) (x3 : Int32) (x4 : Int32) (h : Hp) (Q : Int32 → Hp → Prop) : Prop := ((hpK h o).1 = 20 + 9) ∧ (wp_X11_lookerAt o x1 h (fun (z3 : Option Nat) (h2 : Hp) => ((hpK h2 o).1 = 20 + 9) ∧ (wp_X11_ballAt o x2 h2 (fun (z6 : Option Nat) (h5 : Hp) => ((hpK h5 o).1 = 20 + 9) ∧ (wp_X11_ballAt o x3 h5 (fun (z9 : Option Nat) (h8 : Hp) => (if z3 = none then (Q (-1 : Int32) h8) else ((if z6 = none then (Q (-1 : Int32) h8) else ((if z9 = none then (Q (-1 : Int32) h8) else (((hpK h8 o).1 = 20 + 9) ∧ (okO h8 z3 2 ∧ (wp_X3_sayingOf (ad z3) z6 z9 x4 (hpR h8 o 15) h8 (fun (z16 : Int32) (h15 : Hp) => Q z16 h15)))))))))))))))
set_option maxHeartbeats 4000000 in
set_option maxRecDepth 100000 in
theorem c_X11_says (l : Launch) (G : GG) (base : Nat) (A : Nat → Nat) (o : Nat) (x1 : Int32) (x2 : Int32) (x3 : Int32) (x4 : Int32) (h : Hp) (Q : Int32 → Hp → Prop) (hw : wp_X11_says o x1 x2 x3 x4 h Q) : Met l yX11_says (ww yX11_says cX11_says 8 (some .int)) rm_X11_says (va_Pc [.ref (A o), .int x1, .int x2, .int x3, .int x4] (PU2 G base A h A h)) (va_Qi Q (PU2 G base A h A) (fun q => base ≤ q)) 0 0 (fun q => base ≤ q) := by
  refine met2_of (own := RX11) (nm := "says") (by decide) rfl rfl (List.forall_mem_cons.mpr ⟨rfl, (List.forall_mem_cons.mpr ⟨rfl, (List.forall_mem_cons.mpr ⟨rfl, (List.forall_mem_cons.mpr ⟨rfl, (List.forall_mem_cons.mpr ⟨rfl, (fun _ h => absurd h List.not_mem_nil)⟩)⟩)⟩)⟩)⟩) (Nat.le_of_ble_eq_true rfl) rfl ?_
  intro p e s m args below meth c H locs ls hM hC hl
  obtain ⟨hx, hb, hr, hml, hown, hts, hg, hs, hlk, hnm⟩ := id hM
  unfold wp_X11_says at hw
  refine lv_aload_n hx hb dX11_says_0 rfl (lo_at hl 0 rfl) ?_
  refine lv_iload_n hx hb dX11_says_1 rfl (lo_at hl 1 rfl) ?_
  obtain ⟨k1, hw⟩ := hw
  refine res2_q hC (run2_V (As := [.int x1]) (rest := []) hM hC hl.1.1 kv_RX11_144 (c_X11_lookerAt l G base A o x1 h _ hw) (hc_9) k1 rfl rfl rfl ⟨Nat.le_of_ble_eq_true rfl, Nat.le_of_ble_eq_true rfl⟩ (Nat.le_of_ble_eq_true rfl) ⟨Nat.le_of_ble_eq_true rfl, Nat.le_of_ble_eq_true rfl⟩ dX11_says_2) (fun z3 h2 H locs hw hC => ?_)
  refine lo_astore (r := Option.map A z3) (lv' := [(5, va_rf (Option.map A z3)), (0, .ref (A o)), (1, .int x1), (2, .int x2), (3, .int x3), (4, .int x4)]) hx hb dX11_says_5 hl (by decide) rfl (fun ls hl => ?_)
  refine lv_aload_n hx hb dX11_says_7 rfl (lo_at hl 1 rfl) ?_
  refine lv_iload_n hx hb dX11_says_8 rfl (lo_at hl 3 rfl) ?_
  obtain ⟨k4, hw⟩ := hw
  refine res2_q hC (run2_V (As := [.int x2]) (rest := []) hM hC hl.1.1 kv_RX11_140 (c_X11_ballAt l G base A o x2 h2 _ hw) (hc_9) k4 rfl rfl rfl ⟨Nat.le_of_ble_eq_true rfl, Nat.le_of_ble_eq_true rfl⟩ (Nat.le_of_ble_eq_true rfl) ⟨Nat.le_of_ble_eq_true rfl, Nat.le_of_ble_eq_true rfl⟩ dX11_says_9) (fun z6 h5 H locs hw hC => ?_)
  refine lo_astore (r := Option.map A z6) (lv' := [(6, va_rf (Option.map A z6)), (5, va_rf (Option.map A z3)), (0, .ref (A o)), (1, .int x1), (2, .int x2), (3, .int x3), (4, .int x4)]) hx hb dX11_says_12 hl (by decide) rfl (fun ls hl => ?_)
  refine lv_aload_n hx hb dX11_says_14 rfl (lo_at hl 2 rfl) ?_
  refine lv_iload_n hx hb dX11_says_15 rfl (lo_at hl 5 rfl) ?_
  obtain ⟨k7, hw⟩ := hw
  refine res2_q hC (run2_V (As := [.int x3]) (rest := []) hM hC hl.1.1 kv_RX11_140 (c_X11_ballAt l G base A o x3 h5 _ hw) (hc_9) k7 rfl rfl rfl ⟨Nat.le_of_ble_eq_true rfl, Nat.le_of_ble_eq_true rfl⟩ (Nat.le_of_ble_eq_true rfl) ⟨Nat.le_of_ble_eq_true rfl, Nat.le_of_ble_eq_true rfl⟩ dX11_says_16) (fun z9 h8 H locs hw hC => ?_)
  refine lo_astore (r := Option.map A z9) (lv' := [(7, va_rf (Option.map A z9)), (6, va_rf (Option.map A z6)), (5, va_rf (Option.map A z3)), (0, .ref (A o)), (1, .int x1), (2, .int x2), (3, .int x3), (4, .int x4)]) hx hb dX11_says_19 hl (by decide) rfl (fun ls hl => ?_)
  refine lo_aload (r := Option.map A z3) hx hb dX11_says_21 (lo_at hl 2 rfl) ?_
  refine s_ifnull (r := z3) (A := A) (tgt := 36) hx hb dX11_says_23 (by decide) (fun c10 => ?_) (fun c10 => ?_)
  ·
    replace hw := (if_pos c10).mp hw
    refine lv_iconst (v := -1) hx hb dX11_says_36 (by decide) ?_
    exact ret2_i hM hC hw dX11_says_37
  ·
    replace hw := (if_neg c10).mp hw
    refine lo_aload (r := Option.map A z6) hx hb dX11_says_26 (lo_at hl 1 rfl) ?_
    refine s_ifnull (r := z6) (A := A) (tgt := 36) hx hb dX11_says_28 (by decide) (fun c11 => ?_) (fun c11 => ?_)
    ·
      replace hw := (if_pos c11).mp hw
      refine lv_iconst (v := -1) hx hb dX11_says_36 (by decide) ?_
      exact ret2_i hM hC hw dX11_says_37
    ·
      replace hw := (if_neg c11).mp hw
      refine lo_aload (r := Option.map A z9) hx hb dX11_says_31 (lo_at hl 0 rfl) ?_
      refine s_ifnonnull (r := z9) (A := A) (tgt := 38) hx hb dX11_says_33 (by decide) (fun c12 => ?_) (fun c12 => ?_)
      ·
        replace hw := (if_neg c12).mp hw
        refine lo_aload (r := Option.map A z3) hx hb dX11_says_38 (lo_at hl 2 rfl) ?_
        refine lo_aload (r := Option.map A z6) hx hb dX11_says_40 (lo_at hl 1 rfl) ?_
        refine lo_aload (r := Option.map A z9) hx hb dX11_says_42 (lo_at hl 0 rfl) ?_
        refine lv_iload hx hb dX11_says_44 (lo_at hl 7 rfl) ?_
        refine lv_aload_n hx hb dX11_says_46 rfl (lo_at hl 3 rfl) ?_
        obtain ⟨k13, hw⟩ := hw
        refine s_getR hx hb hts hown hg hC fb_9_15 k13 mk_f_RX11_69 dX11_says_47 ?_
        obtain ⟨k14, hw⟩ := hw
        refine sf_5 k14.1 ?_
        refine res2_i hC (run2_V (As := [va_rf (Option.map A z6), va_rf (Option.map A z9), .int x4, va_rf (Option.map A (hpR h8 o 15))]) (rest := []) hM hC hl.1.1 kv_RX11_237 (c_X3_sayingOf l G base A (ad z3) z6 z9 x4 (hpR h8 o 15) h8 _ hw) (hc_2) k14.2 rfl rfl rfl ⟨Nat.le_of_ble_eq_true rfl, Nat.le_of_ble_eq_true rfl⟩ (Nat.le_of_ble_eq_true rfl) ⟨Nat.le_of_ble_eq_true rfl, Nat.le_of_ble_eq_true rfl⟩ dX11_says_50) (fun z16 h15 H locs hw hC => ?_)
        exact ret2_i hM hC hw dX11_says_53
      ·
        replace hw := (if_pos c12).mp hw
        refine lv_iconst (v := -1) hx hb dX11_says_36 (by decide) ?_
        exact ret2_i hM hC hw dX11_says_37
abbrev rm_X11_lean : Room := { frames := 6, cells := 0, slots := 0, locals := 169 }
set_option maxRecDepth 100000 in
def wp_X11_lean_L17 (o : Nat) (r2 : Option Nat) (K90 : Int32 → Hp → Prop) (Q : Int32 → Hp → Prop) : Nat → Int32 → Int32 → Hp → Prop
  | 0, _, _, _ => False
  | n + 1, x3, x4, h => ((hpK h o).1 = 20 + 9) ∧ ((if (hpI h o 10) ≤ x4 then (K90 x3 h) else (okA h (hpR h o 9) 6 x4 ∧ ((if (hpR h (ad (hpR h o 9)) (x4).toNatClampNeg) = none then (∀ v9 : Int32, v9 = x4 + (1 : Int32) → (wp_X11_lean_L17 o r2 K90 Q n x3 v9 h)) else (okO h (hpR h (ad (hpR h o 9)) (x4).toNatClampNeg) 3 ∧ (okO h r2 2 ∧ (wp_X3_sayingOf (ad r2) (hpR h (ad (hpR h (ad (hpR h o 9)) (x4).toNatClampNeg)) 0) (hpR h (ad (hpR h (ad (hpR h o 9)) (x4).toNatClampNeg)) 1) (1 : Int32) (hpR h o 15) h (fun (z13 : Int32) (h12 : Hp) => okO h12 (hpR h (ad (hpR h o 9)) (x4).toNatClampNeg) 3 ∧ (((hpK h12 o).1 = 20 + 9) ∧ (okO h12 r2 2 ∧ (wp_X3_sayingOf (ad r2) (hpR h12 (ad (hpR h (ad (hpR h o 9)) (x4).toNatClampNeg)) 0) (hpR h12 (ad (hpR h (ad (hpR h o 9)) (x4).toNatClampNeg)) 1) (0 : Int32) (hpR h12 o 15) h12 (fun (z18 : Int32) (h17 : Hp) => (if z13 = z18 then (∀ v20 : Int32, v20 = x4 + (1 : Int32) → (wp_X11_lean_L17 o r2 K90 Q n x3 v20 h17)) else (∀ v21 : Int32, v21 = x3 + (1 : Int32) → (∀ v22 : Int32, v22 = x4 + (1 : Int32) → (wp_X11_lean_L17 o r2 K90 Q n v21 v22 h17)))))))))))))))))
set_option maxRecDepth 100000 in
def wp_X11_lean (o : Nat) (x1 : Int32) (h : Hp) (Q : Int32 → Hp → Prop) : Prop := ((hpK h o).1 = 20 + 9) ∧ (wp_X11_lookerAt o x1 h (fun (z3 : Option Nat) (h2 : Hp) => (if z3 = none then (Q (-1 : Int32) h2) else (wp_X11_lean_L17 o z3 (fun (y24 : Int32) (h23 : Hp) => Q y24 h23) Q fuel (0 : Int32) (0 : Int32) h2))))
set_option maxHeartbeats 4000000 in
set_option maxRecDepth 100000 in
theorem t_X11_lean_L17 {p : Program} {l : Launch} {e : Env} {s : State} {m : MethodId} {args : Array Value} {below : List Frame} {meth : Method} {c : Code} {G : GG} {base : Nat} {A : Nat → Nat} {g0 : Hp} (hM : Mx G base p s m args meth c cX11_lean 6 (some .int) RX11 "lean") (o : Nat) (r2 : Option Nat) (K90 : Int32 → Hp → Prop) (Q : Int32 → Hp → Prop) (hK90 : ∀ (y3 : Int32) (h : Hp) (H : Heap) (locs : List Loc) (ls : Array Slot), Cx2 G base A g0 A h s.heap H locs → lo_has ls 6 [(3, .int y3)] → K90 y3 h → W p l e rm_X11_lean s m args below meth c H locs 0 0 (MQ below (va_Qi Q (PU2 G base A g0 A) (fun q => base ≤ q)) args s 0 0 (fun q => base ≤ q)) (F0 m 90 ls [])) : ∀ (n : Nat) (x3 : Int32) (x4 : Int32) (h : Hp) (H : Heap) (locs : List Loc) (ls : Array Slot), Cx2 G base A g0 A h s.heap H locs → lo_has ls 6 [(0, .ref (A o)), (2, va_rf (Option.map A r2)), (3, .int x3), (4, .int x4)] → wp_X11_lean_L17 o r2 K90 Q n x3 x4 h → W p l e rm_X11_lean s m args below meth c H locs 0 0 (MQ below (va_Qi Q (PU2 G base A g0 A) (fun q => base ≤ q)) args s 0 0 (fun q => base ≤ q)) (F0 m 17 ls []) := by
  intro n
  induction n with
  | zero =>
    intro x3 x4 h H locs ls hC hl hw
    rw [wp_X11_lean_L17] at hw
    exact hw.elim
  | succ n ih =>
    intro x3 x4 h H locs ls hC hl hw
    rw [wp_X11_lean_L17] at hw
    obtain ⟨hx, hb, hr, hml, hown, hts, hg, hs, hlk, hnm⟩ := id hM
    refine lv_iload hx hb dX11_lean_17 (lo_at hl 3 rfl) ?_
    refine lv_aload_n hx hb dX11_lean_19 rfl (lo_at hl 0 rfl) ?_
    obtain ⟨k5, hw⟩ := hw
    refine s_getI hx hb hts hown hg hC fb_9_10 k5 mk_f_RX11_258 dX11_lean_20 ?_
    refine lv_icmp_ge (tgt := 90) hx hb dX11_lean_23 (by decide) (fun c6 => ?_) (fun c6 => ?_)
    ·
      replace hw := (if_pos c6).mp hw
      exact hK90 x3 h H locs ls hC (lo_sub hl [2] rfl) hw
    ·
      replace hw := (if_neg c6).mp hw
      refine lv_aload_n hx hb dX11_lean_26 rfl (lo_at hl 0 rfl) ?_
      refine s_getR hx hb hts hown hg hC fb_9_9 k5 mk_f_RX11_35 dX11_lean_27 ?_
      refine lv_iload hx hb dX11_lean_30 (lo_at hl 3 rfl) ?_
      obtain ⟨k7, hw⟩ := hw
      refine sf_2 k7.1 ?_
      refine s_aald (kd := 6) (t0 := 5) hx hb hg hC k7.2.1 (by decide) rfl k7.2.2 dX11_lean_32 ?_
      refine lo_astore (r := Option.map A (hpR h (ad (hpR h o 9)) (x4).toNatClampNeg)) (lv' := [(5, va_rf (Option.map A (hpR h (ad (hpR h o 9)) (x4).toNatClampNeg))), (0, .ref (A o)), (2, va_rf (Option.map A r2)), (3, .int x3), (4, .int x4)]) hx hb dX11_lean_33 hl (by decide) rfl (fun ls hl => ?_)
      refine lo_aload (r := Option.map A (hpR h (ad (hpR h o 9)) (x4).toNatClampNeg)) hx hb dX11_lean_35 (lo_at hl 0 rfl) ?_
      refine s_ifnull (r := hpR h (ad (hpR h o 9)) (x4).toNatClampNeg) (A := A) (tgt := 84) hx hb dX11_lean_37 (by decide) (fun c8 => ?_) (fun c8 => ?_)
      ·
        replace hw := (if_pos c8).mp hw
        obtain ⟨v9, ev9⟩ : ∃ y : Int32, y = x4 + (1 : Int32) := ⟨_, rfl⟩
        replace hw := hw v9 ev9
        refine lo_iinc (v := v9) (lv' := [(4, .int v9), (5, va_rf (Option.map A (hpR h (ad (hpR h o 9)) (x4).toNatClampNeg))), (0, .ref (A o)), (2, va_rf (Option.map A r2)), (3, .int x3)]) hx hb dX11_lean_84 hl (k := 4) rfl (by rw [ev9]; rfl) (by decide) rfl (fun ls hl => ?_)
        refine lv_goto (tgt := 17) hx hb dX11_lean_87 (by decide) ?_
        exact ih x3 v9 h H locs ls hC (lo_sub hl [2, 3, 4, 0] rfl) hw
      ·
        replace hw := (if_neg c8).mp hw
        refine lo_aload_n (r := Option.map A r2) hx hb dX11_lean_40 rfl (lo_at hl 2 rfl) ?_
        refine lo_aload (r := Option.map A (hpR h (ad (hpR h o 9)) (x4).toNatClampNeg)) hx hb dX11_lean_41 (lo_at hl 0 rfl) ?_
        obtain ⟨k10, hw⟩ := hw
        refine sf_1 k10.1 ?_
        refine s_getR hx hb hts hown hg hC fb_3_0 k10.2 mk_f_RX11_277 dX11_lean_43 ?_
        refine lo_aload (r := Option.map A (hpR h (ad (hpR h o 9)) (x4).toNatClampNeg)) hx hb dX11_lean_46 (lo_at hl 0 rfl) ?_
        refine sf_1 k10.1 ?_
        refine s_getR hx hb hts hown hg hC fb_3_1 k10.2 mk_f_RX11_281 dX11_lean_48 ?_
        refine lv_iconst (v := 1) hx hb dX11_lean_51 (by decide) ?_
        refine lv_aload_n hx hb dX11_lean_52 rfl (lo_at hl 1 rfl) ?_
        refine s_getR hx hb hts hown hg hC fb_9_15 k5 mk_f_RX11_69 dX11_lean_53 ?_
        obtain ⟨k11, hw⟩ := hw
        refine sf_5 k11.1 ?_
        refine res2_i hC (run2_V (As := [va_rf (Option.map A (hpR h (ad (hpR h (ad (hpR h o 9)) (x4).toNatClampNeg)) 0)), va_rf (Option.map A (hpR h (ad (hpR h (ad (hpR h o 9)) (x4).toNatClampNeg)) 1)), .int ((1 : Int32)), va_rf (Option.map A (hpR h o 15))]) (rest := []) hM hC hl.1.1 kv_RX11_237 (c_X3_sayingOf l G base A (ad r2) (hpR h (ad (hpR h (ad (hpR h o 9)) (x4).toNatClampNeg)) 0) (hpR h (ad (hpR h (ad (hpR h o 9)) (x4).toNatClampNeg)) 1) (1 : Int32) (hpR h o 15) h _ hw) (hc_2) k11.2 rfl rfl rfl ⟨Nat.le_of_ble_eq_true rfl, Nat.le_of_ble_eq_true rfl⟩ (Nat.le_of_ble_eq_true rfl) ⟨Nat.le_of_ble_eq_true rfl, Nat.le_of_ble_eq_true rfl⟩ dX11_lean_56) (fun z13 h12 H locs hw hC => ?_)
        refine lo_aload_n (r := Option.map A r2) hx hb dX11_lean_59 rfl (lo_at hl 2 rfl) ?_
        refine lo_aload (r := Option.map A (hpR h (ad (hpR h o 9)) (x4).toNatClampNeg)) hx hb dX11_lean_60 (lo_at hl 0 rfl) ?_
        obtain ⟨k14, hw⟩ := hw
        refine sf_1 k14.1 ?_
        refine s_getR hx hb hts hown hg hC fb_3_0 k14.2 mk_f_RX11_277 dX11_lean_62 ?_
        refine lo_aload (r := Option.map A (hpR h (ad (hpR h o 9)) (x4).toNatClampNeg)) hx hb dX11_lean_65 (lo_at hl 0 rfl) ?_
        refine sf_1 k14.1 ?_
        refine s_getR hx hb hts hown hg hC fb_3_1 k14.2 mk_f_RX11_281 dX11_lean_67 ?_
        refine lv_iconst (v := 0) hx hb dX11_lean_70 (by decide) ?_
        refine lv_aload_n hx hb dX11_lean_71 rfl (lo_at hl 1 rfl) ?_
        obtain ⟨k15, hw⟩ := hw
        refine s_getR hx hb hts hown hg hC fb_9_15 k15 mk_f_RX11_69 dX11_lean_72 ?_
        obtain ⟨k16, hw⟩ := hw
        refine sf_5 k16.1 ?_
        refine res2_i hC (run2_V (As := [va_rf (Option.map A (hpR h12 (ad (hpR h (ad (hpR h o 9)) (x4).toNatClampNeg)) 0)), va_rf (Option.map A (hpR h12 (ad (hpR h (ad (hpR h o 9)) (x4).toNatClampNeg)) 1)), .int ((0 : Int32)), va_rf (Option.map A (hpR h12 o 15))]) (rest := [.int z13]) hM hC hl.1.1 kv_RX11_237 (c_X3_sayingOf l G base A (ad r2) (hpR h12 (ad (hpR h (ad (hpR h o 9)) (x4).toNatClampNeg)) 0) (hpR h12 (ad (hpR h (ad (hpR h o 9)) (x4).toNatClampNeg)) 1) (0 : Int32) (hpR h12 o 15) h12 _ hw) (hc_2) k16.2 rfl rfl rfl ⟨Nat.le_of_ble_eq_true rfl, Nat.le_of_ble_eq_true rfl⟩ (Nat.le_of_ble_eq_true rfl) ⟨Nat.le_of_ble_eq_true rfl, Nat.le_of_ble_eq_true rfl⟩ dX11_lean_75) (fun z18 h17 H locs hw hC => ?_)
        refine lv_icmp_eq (tgt := 84) hx hb dX11_lean_78 (by decide) (fun c19 => ?_) (fun c19 => ?_)
        ·
          replace hw := (if_pos c19).mp hw
          obtain ⟨v20, ev20⟩ : ∃ y : Int32, y = x4 + (1 : Int32) := ⟨_, rfl⟩
          replace hw := hw v20 ev20
          refine lo_iinc (v := v20) (lv' := [(4, .int v20), (5, va_rf (Option.map A (hpR h (ad (hpR h o 9)) (x4).toNatClampNeg))), (0, .ref (A o)), (2, va_rf (Option.map A r2)), (3, .int x3)]) hx hb dX11_lean_84 hl (k := 4) rfl (by rw [ev20]; rfl) (by decide) rfl (fun ls hl => ?_)
          refine lv_goto (tgt := 17) hx hb dX11_lean_87 (by decide) ?_
          exact ih x3 v20 h17 H locs ls hC (lo_sub hl [2, 3, 4, 0] rfl) hw
        ·
          replace hw := (if_neg c19).mp hw
          obtain ⟨v21, ev21⟩ : ∃ y : Int32, y = x3 + (1 : Int32) := ⟨_, rfl⟩
          replace hw := hw v21 ev21
          refine lo_iinc (v := v21) (lv' := [(3, .int v21), (5, va_rf (Option.map A (hpR h (ad (hpR h o 9)) (x4).toNatClampNeg))), (0, .ref (A o)), (2, va_rf (Option.map A r2)), (4, .int x4)]) hx hb dX11_lean_81 hl (k := 3) rfl (by rw [ev21]; rfl) (by decide) rfl (fun ls hl => ?_)
          obtain ⟨v22, ev22⟩ : ∃ y : Int32, y = x4 + (1 : Int32) := ⟨_, rfl⟩
          replace hw := hw v22 ev22
          refine lo_iinc (v := v22) (lv' := [(4, .int v22), (3, .int v21), (5, va_rf (Option.map A (hpR h (ad (hpR h o 9)) (x4).toNatClampNeg))), (0, .ref (A o)), (2, va_rf (Option.map A r2))]) hx hb dX11_lean_84 hl (k := 4) rfl (by rw [ev22]; rfl) (by decide) rfl (fun ls hl => ?_)
          refine lv_goto (tgt := 17) hx hb dX11_lean_87 (by decide) ?_
          exact ih v21 v22 h17 H locs ls hC (lo_sub hl [3, 4, 1, 0] rfl) hw
set_option maxHeartbeats 4000000 in
set_option maxRecDepth 100000 in
theorem c_X11_lean (l : Launch) (G : GG) (base : Nat) (A : Nat → Nat) (o : Nat) (x1 : Int32) (h : Hp) (Q : Int32 → Hp → Prop) (hw : wp_X11_lean o x1 h Q) : Met l yX11_lean (ww yX11_lean cX11_lean 6 (some .int)) rm_X11_lean (va_Pc [.ref (A o), .int x1] (PU2 G base A h A h)) (va_Qi Q (PU2 G base A h A) (fun q => base ≤ q)) 0 0 (fun q => base ≤ q) := by
  refine met2_of (own := RX11) (nm := "lean") (by decide) rfl rfl (List.forall_mem_cons.mpr ⟨rfl, (List.forall_mem_cons.mpr ⟨rfl, (fun _ h => absurd h List.not_mem_nil)⟩)⟩) (Nat.le_of_ble_eq_true rfl) rfl ?_
  intro p e s m args below meth c H locs ls hM hC hl
  obtain ⟨hx, hb, hr, hml, hown, hts, hg, hs, hlk, hnm⟩ := id hM
  unfold wp_X11_lean at hw
  refine lv_aload_n hx hb dX11_lean_0 rfl (lo_at hl 0 rfl) ?_
  refine lv_iload_n hx hb dX11_lean_1 rfl (lo_at hl 1 rfl) ?_
  obtain ⟨k1, hw⟩ := hw
  refine res2_q hC (run2_V (As := [.int x1]) (rest := []) hM hC hl.1.1 kv_RX11_144 (c_X11_lookerAt l G base A o x1 h _ hw) (hc_9) k1 rfl rfl rfl ⟨Nat.le_of_ble_eq_true rfl, Nat.le_of_ble_eq_true rfl⟩ (Nat.le_of_ble_eq_true rfl) ⟨Nat.le_of_ble_eq_true rfl, Nat.le_of_ble_eq_true rfl⟩ dX11_lean_2) (fun z3 h2 H locs hw hC => ?_)
  refine lo_astore_n (r := Option.map A z3) (lv' := [(2, va_rf (Option.map A z3)), (0, .ref (A o)), (1, .int x1)]) hx hb dX11_lean_5 rfl hl (by decide) rfl (fun ls hl => ?_)
  refine lo_aload_n (r := Option.map A z3) hx hb dX11_lean_6 rfl (lo_at hl 0 rfl) ?_
  refine s_ifnonnull (r := z3) (A := A) (tgt := 12) hx hb dX11_lean_7 (by decide) (fun c4 => ?_) (fun c4 => ?_)
  ·
    replace hw := (if_neg c4).mp hw
    refine lv_iconst (v := 0) hx hb dX11_lean_12 (by decide) ?_
    refine lo_istore_n (lv' := [(3, .int ((0 : Int32))), (2, va_rf (Option.map A z3)), (0, .ref (A o)), (1, .int x1)]) hx hb dX11_lean_13 rfl hl (by decide) rfl (fun ls hl => ?_)
    refine lv_iconst (v := 0) hx hb dX11_lean_14 (by decide) ?_
    refine lo_istore (lv' := [(4, .int ((0 : Int32))), (3, .int ((0 : Int32))), (2, va_rf (Option.map A z3)), (0, .ref (A o)), (1, .int x1)]) hx hb dX11_lean_15 hl (by decide) rfl (fun ls hl => ?_)
    refine t_X11_lean_L17 hM o z3 _ Q ?_ fuel (0 : Int32) (0 : Int32) h2 H locs ls hC (lo_sub hl [3, 2, 1, 0] rfl) hw
    intro y24 h23 H locs ls hC hl hw
    refine lv_iload_n hx hb dX11_lean_90 rfl (lo_at hl 0 rfl) ?_
    exact ret2_i hM hC hw dX11_lean_91
  ·
    replace hw := (if_pos c4).mp hw
    refine lv_iconst (v := -1) hx hb dX11_lean_10 (by decide) ?_
    exact ret2_i hM hC hw dX11_lean_11
abbrev rm_X11_gradeOf : Room := { frames := 6, cells := 0, slots := 0, locals := 169 }
set_option maxRecDepth 100000 in
def wp_X11_gradeOf_J77 (s0 : Int32) (s1 : Int32) (Q : Int32 → Hp → Prop) (h : Hp) : Prop := (if s1 = s0 then (Q (0 : Int32) h) else (Q (1 : Int32) h))
set_option maxRecDepth 100000 in
def wp_X11_gradeOf_J67 (x4 : Int32) (s0 : Int32) (Q : Int32 → Hp → Prop) (h : Hp) : Prop := (if x4 = 0 then (wp_X11_gradeOf_J77 (1 : Int32) s0 Q h) else (wp_X11_gradeOf_J77 (0 : Int32) s0 Q h))
set_option maxRecDepth 100000 in
def wp_X11_gradeOf_J19 (o : Nat) (r1 : Option Nat) (r2 : Option Nat) (x3 : Int32) (s0 : Int32) (Q : Int32 → Hp → Prop) (h : Hp) : Prop := (if s0 = (-1 : Int32) then (Q (-1 : Int32) h) else (okO h r2 3 ∧ (((hpK h o).1 = 20 + 9) ∧ (okO h r1 2 ∧ (wp_X3_sayingOf (ad r1) (hpR h (ad r2) 0) (hpR h (ad r2) 1) x3 (hpR h o 15) h (fun (z10 : Int32) (h9 : Hp) => (if z10 = (2 : Int32) then (Q (2 : Int32) h9) else ((if z10 = (1 : Int32) then (wp_X11_gradeOf_J67 s0 (1 : Int32) Q h9) else (wp_X11_gradeOf_J67 s0 (0 : Int32) Q h9))))))))))
set_option maxRecDepth 100000 in
def wp_X11_gradeOf (o : Nat) (r1 : Option Nat) (r2 : Option Nat) (x3 : Int32) (h : Hp) (Q : Int32 → Hp → Prop) : Prop := (if r2 = none then (wp_X11_gradeOf_J19 o r1 r2 x3 (-1 : Int32) Q h) else (okO h r2 3 ∧ (wp_X11_truthOf (hpR h (ad r2) 0) (hpR h (ad r2) 1) h (fun (z4 : Int32) (h3 : Hp) => wp_X11_gradeOf_J19 o r1 r2 x3 z4 Q h3))))
set_option maxHeartbeats 4000000 in
set_option maxRecDepth 100000 in
theorem t_X11_gradeOf_J77 {p : Program} {l : Launch} {e : Env} {s : State} {m : MethodId} {args : Array Value} {below : List Frame} {meth : Method} {c : Code} {G : GG} {base : Nat} {A : Nat → Nat} {g0 : Hp} (hM : Mx G base p s m args meth c cX11_gradeOf 6 (some .int) RX11 "gradeOf") (s0 : Int32) (s1 : Int32) (Q : Int32 → Hp → Prop) (h : Hp) (H : Heap) (locs : List Loc) (ls : Array Slot) : Cx2 G base A g0 A h s.heap H locs → lo_has ls 6 [] → wp_X11_gradeOf_J77 s0 s1 Q h → W p l e rm_X11_gradeOf s m args below meth c H locs 0 0 (MQ below (va_Qi Q (PU2 G base A g0 A) (fun q => base ≤ q)) args s 0 0 (fun q => base ≤ q)) (F0 m 77 ls [.int s0, .int s1]) := by
  intro hC hl hw
  unfold wp_X11_gradeOf_J77 at hw
  obtain ⟨hx, hb, hr, hml, hown, hts, hg, hs, hlk, hnm⟩ := id hM
  refine lv_icmp_ne (tgt := 84) hx hb dX11_gradeOf_77 (by decide) (fun c14 => ?_) (fun c14 => ?_)
  ·
    replace hw := (if_neg c14).mp hw
    refine lv_iconst (v := 1) hx hb dX11_gradeOf_84 (by decide) ?_
    exact ret2_i hM hC hw dX11_gradeOf_85
  ·
    replace hw := (if_pos c14).mp hw
    refine lv_iconst (v := 0) hx hb dX11_gradeOf_80 (by decide) ?_
    refine lv_goto (tgt := 85) hx hb dX11_gradeOf_81 (by decide) ?_
    exact ret2_i hM hC hw dX11_gradeOf_85
set_option maxHeartbeats 4000000 in
set_option maxRecDepth 100000 in
theorem t_X11_gradeOf_J67 {p : Program} {l : Launch} {e : Env} {s : State} {m : MethodId} {args : Array Value} {below : List Frame} {meth : Method} {c : Code} {G : GG} {base : Nat} {A : Nat → Nat} {g0 : Hp} (hM : Mx G base p s m args meth c cX11_gradeOf 6 (some .int) RX11 "gradeOf") (x4 : Int32) (s0 : Int32) (Q : Int32 → Hp → Prop) (h : Hp) (H : Heap) (locs : List Loc) (ls : Array Slot) : Cx2 G base A g0 A h s.heap H locs → lo_has ls 6 [(4, .int x4)] → wp_X11_gradeOf_J67 x4 s0 Q h → W p l e rm_X11_gradeOf s m args below meth c H locs 0 0 (MQ below (va_Qi Q (PU2 G base A g0 A) (fun q => base ≤ q)) args s 0 0 (fun q => base ≤ q)) (F0 m 67 ls [.int s0]) := by
  intro hC hl hw
  unfold wp_X11_gradeOf_J67 at hw
  obtain ⟨hx, hb, hr, hml, hown, hts, hg, hs, hlk, hnm⟩ := id hM
  refine lv_iload hx hb dX11_gradeOf_67 (lo_at hl 0 rfl) ?_
  refine lv_if_ne (tgt := 76) hx hb dX11_gradeOf_69 (by decide) (fun c13 => ?_) (fun c13 => ?_)
  ·
    replace hw := (if_neg c13).mp hw
    refine lv_iconst (v := 0) hx hb dX11_gradeOf_76 (by decide) ?_
    exact t_X11_gradeOf_J77 hM (0 : Int32) s0 Q  h H locs ls hC (lo_sub hl [] rfl) hw
  ·
    replace hw := (if_pos c13).mp hw
    refine lv_iconst (v := 1) hx hb dX11_gradeOf_72 (by decide) ?_
    refine lv_goto (tgt := 77) hx hb dX11_gradeOf_73 (by decide) ?_
    exact t_X11_gradeOf_J77 hM (1 : Int32) s0 Q  h H locs ls hC (lo_sub hl [] rfl) hw
set_option maxHeartbeats 4000000 in
set_option maxRecDepth 100000 in
theorem t_X11_gradeOf_J19 {p : Program} {l : Launch} {e : Env} {s : State} {m : MethodId} {args : Array Value} {below : List Frame} {meth : Method} {c : Code} {G : GG} {base : Nat} {A : Nat → Nat} {g0 : Hp} (hM : Mx G base p s m args meth c cX11_gradeOf 6 (some .int) RX11 "gradeOf") (o : Nat) (r1 : Option Nat) (r2 : Option Nat) (x3 : Int32) (s0 : Int32) (Q : Int32 → Hp → Prop) (h : Hp) (H : Heap) (locs : List Loc) (ls : Array Slot) : Cx2 G base A g0 A h s.heap H locs → lo_has ls 6 [(0, .ref (A o)), (1, va_rf (Option.map A r1)), (2, va_rf (Option.map A r2)), (3, .int x3)] → wp_X11_gradeOf_J19 o r1 r2 x3 s0 Q h → W p l e rm_X11_gradeOf s m args below meth c H locs 0 0 (MQ below (va_Qi Q (PU2 G base A g0 A) (fun q => base ≤ q)) args s 0 0 (fun q => base ≤ q)) (F0 m 19 ls [.int s0]) := by
  intro hC hl hw
  unfold wp_X11_gradeOf_J19 at hw
  obtain ⟨hx, hb, hr, hml, hown, hts, hg, hs, hlk, hnm⟩ := id hM
  refine lo_istore (lv' := [(4, .int s0), (0, .ref (A o)), (1, va_rf (Option.map A r1)), (2, va_rf (Option.map A r2)), (3, .int x3)]) hx hb dX11_gradeOf_19 hl (by decide) rfl (fun ls hl => ?_)
  refine lv_iload hx hb dX11_gradeOf_21 (lo_at hl 0 rfl) ?_
  refine lv_iconst (v := -1) hx hb dX11_gradeOf_23 (by decide) ?_
  refine lv_icmp_ne (tgt := 29) hx hb dX11_gradeOf_24 (by decide) (fun c5 => ?_) (fun c5 => ?_)
  ·
    replace hw := (if_neg c5).mp hw
    refine lo_aload_n (r := Option.map A r1) hx hb dX11_gradeOf_29 rfl (lo_at hl 2 rfl) ?_
    refine lo_aload_n (r := Option.map A r2) hx hb dX11_gradeOf_30 rfl (lo_at hl 3 rfl) ?_
    obtain ⟨k6, hw⟩ := hw
    refine sf_1 k6.1 ?_
    refine s_getR hx hb hts hown hg hC fb_3_0 k6.2 mk_f_RX11_277 dX11_gradeOf_31 ?_
    refine lo_aload_n (r := Option.map A r2) hx hb dX11_gradeOf_34 rfl (lo_at hl 3 rfl) ?_
    refine sf_1 k6.1 ?_
    refine s_getR hx hb hts hown hg hC fb_3_1 k6.2 mk_f_RX11_281 dX11_gradeOf_35 ?_
    refine lv_iload_n hx hb dX11_gradeOf_38 rfl (lo_at hl 4 rfl) ?_
    refine lv_aload_n hx hb dX11_gradeOf_39 rfl (lo_at hl 1 rfl) ?_
    obtain ⟨k7, hw⟩ := hw
    refine s_getR hx hb hts hown hg hC fb_9_15 k7 mk_f_RX11_69 dX11_gradeOf_40 ?_
    obtain ⟨k8, hw⟩ := hw
    refine sf_5 k8.1 ?_
    refine res2_i hC (run2_V (As := [va_rf (Option.map A (hpR h (ad r2) 0)), va_rf (Option.map A (hpR h (ad r2) 1)), .int x3, va_rf (Option.map A (hpR h o 15))]) (rest := []) hM hC hl.1.1 kv_RX11_237 (c_X3_sayingOf l G base A (ad r1) (hpR h (ad r2) 0) (hpR h (ad r2) 1) x3 (hpR h o 15) h _ hw) (hc_2) k8.2 rfl rfl rfl ⟨Nat.le_of_ble_eq_true rfl, Nat.le_of_ble_eq_true rfl⟩ (Nat.le_of_ble_eq_true rfl) ⟨Nat.le_of_ble_eq_true rfl, Nat.le_of_ble_eq_true rfl⟩ dX11_gradeOf_43) (fun z10 h9 H locs hw hC => ?_)
    refine lo_istore (lv' := [(5, .int z10), (4, .int s0), (0, .ref (A o)), (1, va_rf (Option.map A r1)), (2, va_rf (Option.map A r2)), (3, .int x3)]) hx hb dX11_gradeOf_46 hl (by decide) rfl (fun ls hl => ?_)
    refine lv_iload hx hb dX11_gradeOf_48 (lo_at hl 0 rfl) ?_
    refine lv_iconst (v := 2) hx hb dX11_gradeOf_50 (by decide) ?_
    refine lv_icmp_ne (tgt := 56) hx hb dX11_gradeOf_51 (by decide) (fun c11 => ?_) (fun c11 => ?_)
    ·
      replace hw := (if_neg c11).mp hw
      refine lv_iload hx hb dX11_gradeOf_56 (lo_at hl 0 rfl) ?_
      refine lv_iconst (v := 1) hx hb dX11_gradeOf_58 (by decide) ?_
      refine lv_icmp_ne (tgt := 66) hx hb dX11_gradeOf_59 (by decide) (fun c12 => ?_) (fun c12 => ?_)
      ·
        replace hw := (if_neg c12).mp hw
        refine lv_iconst (v := 0) hx hb dX11_gradeOf_66 (by decide) ?_
        exact t_X11_gradeOf_J67 hM s0 (0 : Int32) Q  h9 H locs ls hC (lo_sub hl [1] rfl) hw
      ·
        replace hw := (if_pos c12).mp hw
        refine lv_iconst (v := 1) hx hb dX11_gradeOf_62 (by decide) ?_
        refine lv_goto (tgt := 67) hx hb dX11_gradeOf_63 (by decide) ?_
        exact t_X11_gradeOf_J67 hM s0 (1 : Int32) Q  h9 H locs ls hC (lo_sub hl [1] rfl) hw
    ·
      replace hw := (if_pos c11).mp hw
      refine lv_iconst (v := 2) hx hb dX11_gradeOf_54 (by decide) ?_
      exact ret2_i hM hC hw dX11_gradeOf_55
  ·
    replace hw := (if_pos c5).mp hw
    refine lv_iconst (v := -1) hx hb dX11_gradeOf_27 (by decide) ?_
    exact ret2_i hM hC hw dX11_gradeOf_28
set_option maxHeartbeats 4000000 in
set_option maxRecDepth 100000 in
theorem c_X11_gradeOf (l : Launch) (G : GG) (base : Nat) (A : Nat → Nat) (o : Nat) (r1 : Option Nat) (r2 : Option Nat) (x3 : Int32) (h : Hp) (Q : Int32 → Hp → Prop) (hw : wp_X11_gradeOf o r1 r2 x3 h Q) : Met l yX11_gradeOf (ww yX11_gradeOf cX11_gradeOf 6 (some .int)) rm_X11_gradeOf (va_Pc [.ref (A o), va_rf (Option.map A r1), va_rf (Option.map A r2), .int x3] (PU2 G base A h A h)) (va_Qi Q (PU2 G base A h A) (fun q => base ≤ q)) 0 0 (fun q => base ≤ q) := by
  refine met2_of (own := RX11) (nm := "gradeOf") (by decide) rfl rfl (List.forall_mem_cons.mpr ⟨rfl, (List.forall_mem_cons.mpr ⟨va_rf_cat _, (List.forall_mem_cons.mpr ⟨va_rf_cat _, (List.forall_mem_cons.mpr ⟨rfl, (fun _ h => absurd h List.not_mem_nil)⟩)⟩)⟩)⟩) (Nat.le_of_ble_eq_true rfl) rfl ?_
  intro p e s m args below meth c H locs ls hM hC hl
  obtain ⟨hx, hb, hr, hml, hown, hts, hg, hs, hlk, hnm⟩ := id hM
  unfold wp_X11_gradeOf at hw
  refine lo_aload_n (r := Option.map A r2) hx hb dX11_gradeOf_0 rfl (lo_at hl 2 rfl) ?_
  refine s_ifnonnull (r := r2) (A := A) (tgt := 8) hx hb dX11_gradeOf_1 (by decide) (fun c1 => ?_) (fun c1 => ?_)
  ·
    replace hw := (if_neg c1).mp hw
    refine lo_aload_n (r := Option.map A r2) hx hb dX11_gradeOf_8 rfl (lo_at hl 2 rfl) ?_
    obtain ⟨k2, hw⟩ := hw
    refine sf_1 k2.1 ?_
    refine s_getR hx hb hts hown hg hC fb_3_0 k2.2 mk_f_RX11_277 dX11_gradeOf_9 ?_
    refine lo_aload_n (r := Option.map A r2) hx hb dX11_gradeOf_12 rfl (lo_at hl 2 rfl) ?_
    refine sf_1 k2.1 ?_
    refine s_getR hx hb hts hown hg hC fb_3_1 k2.2 mk_f_RX11_281 dX11_gradeOf_13 ?_
    refine res2_i hC (run2_S (As := [va_rf (Option.map A (hpR h (ad r2) 0)), va_rf (Option.map A (hpR h (ad r2) 1))]) (rest := []) hM hC hl.1.1 kv_RX11_241 (c_X11_truthOf l G base A (hpR h (ad r2) 0) (hpR h (ad r2) 1) h _ hw) rfl rfl rfl ⟨Nat.le_of_ble_eq_true rfl, Nat.le_of_ble_eq_true rfl⟩ (Nat.le_of_ble_eq_true rfl) ⟨Nat.le_of_ble_eq_true rfl, Nat.le_of_ble_eq_true rfl⟩ dX11_gradeOf_16) (fun z4 h3 H locs hw hC => ?_)
    exact t_X11_gradeOf_J19 hM o r1 r2 x3 z4 Q  h3 H locs ls hC (lo_sub hl [0, 1, 2, 3] rfl) hw
  ·
    replace hw := (if_pos c1).mp hw
    refine lv_iconst (v := -1) hx hb dX11_gradeOf_4 (by decide) ?_
    refine lv_goto (tgt := 19) hx hb dX11_gradeOf_5 (by decide) ?_
    exact t_X11_gradeOf_J19 hM o r1 r2 x3 (-1 : Int32) Q  h H locs ls hC (lo_sub hl [0, 1, 2, 3] rfl) hw
