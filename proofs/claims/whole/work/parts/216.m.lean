abbrev rm_X11_odds : Room := { frames := 3, cells := 0, slots := 0, locals := 78 }
def wp_X11_odds_L74 (o : Nat) (x2 : Int32) (x3 : Int32) (x4 : Int32) (r5 : Option Nat) (x7 : Int32) (r8 : Option Nat) (K134 : Int32 → Hp → Prop) (Q : Int32 → Hp → Prop) : Nat → Int32 → Int32 → Hp → Prop
  | 0, _, _, _ => False
  | n + 1, x6, x9, h => ((hpK h o).1 = 20 + 9) ∧ ((if (hpI h o 5) ≤ x9 then (K134 x6 h) else (okA h (hpR h o 4) 3 x9 ∧ (wp_X11_truthOf r8 (hpR h (ad (hpR h o 4)) (x9).toNatClampNeg) h (fun (z19 : Int32) (h18 : Hp) => (if z19 = x3 then ((if x4 = (1 : Int32) then (∀ v23 : Int32, v23 = x6 + (1 : Int32) → (∀ v24 : Int32, v24 = x9 + (1 : Int32) → (wp_X11_odds_L74 o x2 x3 x4 r5 x7 r8 K134 Q n v23 v24 h18))) else (okO h18 r5 2 ∧ (wp_X3_measured (ad r5) r8 (hpR h (ad (hpR h o 4)) (x9).toNatClampNeg) h18 (fun (z27 : Int32) (h26 : Hp) => wp_X2_longest z27 h26 (fun (z29 : Int32) (h28 : Hp) => (if z29 < x2 then (∀ v31 : Int32, v31 = x9 + (1 : Int32) → (wp_X11_odds_L74 o x2 x3 x4 r5 x7 r8 K134 Q n x6 v31 h28)) else (∀ v32 : Int32, v32 = x6 + (1 : Int32) → (∀ v33 : Int32, v33 = x9 + (1 : Int32) → (wp_X11_odds_L74 o x2 x3 x4 r5 x7 r8 K134 Q n v32 v33 h28)))))))))) else (∀ v21 : Int32, v21 = x9 + (1 : Int32) → (wp_X11_odds_L74 o x2 x3 x4 r5 x7 r8 K134 Q n x6 v21 h18))))))))
def wp_X11_odds_L50 (o : Nat) (x2 : Int32) (x3 : Int32) (x4 : Int32) (r5 : Option Nat) (K140 : Int32 → Hp → Prop) (Q : Int32 → Hp → Prop) : Nat → Int32 → Int32 → Hp → Prop
  | 0, _, _, _ => False
  | n + 1, x6, x7, h => ((hpK h o).1 = 20 + 9) ∧ ((if (hpI h o 5) ≤ x7 then (K140 x6 h) else (okA h (hpR h o 4) 3 x7 ∧ (∀ v14 : Int32, v14 = x7 + (1 : Int32) → (wp_X11_odds_L74 o x2 x3 x4 r5 x7 (hpR h (ad (hpR h o 4)) (x7).toNatClampNeg) (fun (y35 : Int32) (h34 : Hp) => ∀ v36 : Int32, v36 = x7 + (1 : Int32) → (wp_X11_odds_L50 o x2 x3 x4 r5 K140 Q n y35 v36 h34)) Q fuel x6 v14 h)))))
def wp_X11_odds (o : Nat) (x1 : Int32) (x2 : Int32) (x3 : Int32) (x4 : Int32) (h : Hp) (Q : Int32 → Hp → Prop) : Prop := ((hpK h o).1 = 20 + 9) ∧ (wp_X11_lookerAt o x1 h (fun (z3 : Option Nat) (h2 : Hp) => (if z3 = none then (Q (-1 : Int32) h2) else ((if x2 < 0 then (Q (-1 : Int32) h2) else ((if (32 : Int32) < x2 then (Q (-1 : Int32) h2) else ((if x3 < 0 then (Q (-1 : Int32) h2) else ((if (2 : Int32) < x3 then (Q (-1 : Int32) h2) else ((if x4 < 0 then (Q (-1 : Int32) h2) else ((if x4 ≤ (1 : Int32) then (wp_X11_odds_L50 o x2 x3 x4 z3 (fun (y38 : Int32) (h37 : Hp) => Q y38 h37) Q fuel (0 : Int32) (0 : Int32) h2) else (Q (-1 : Int32) h2))))))))))))))))
set_option maxHeartbeats 4000000 in
set_option maxRecDepth 100000 in
theorem t_X11_odds_L74 {p : Program} {l : Launch} {e : Env} {s : State} {m : MethodId} {args : Array Value} {below : List Frame} {meth : Method} {c : Code} {G : GG} {base : Nat} (hM : Mx G base p s m args meth c cX11_odds 11 (some .int) RX11 "odds") (o : Nat) (x2 : Int32) (x3 : Int32) (x4 : Int32) (r5 : Option Nat) (x7 : Int32) (r8 : Option Nat) (K134 : Int32 → Hp → Prop) (Q : Int32 → Hp → Prop) (hK134 : ∀ (y6 : Int32) (h : Hp) (H : Heap) (locs : List Loc) (ls : Array Slot), Cx G base h s.heap H locs → lo_has ls 11 [(0, .ref o), (2, .int x2), (3, .int x3), (4, .int x4), (5, va_rf r5), (6, .int y6), (7, .int x7)] → K134 y6 h → W p l e rm_X11_odds s m args below meth c H locs 0 0 (MQ below (va_Qi Q (PU G base) (fun q => base ≤ q)) args s 0 0 (fun q => base ≤ q)) (F0 m 134 ls [])) : ∀ (n : Nat) (x6 : Int32) (x9 : Int32) (h : Hp) (H : Heap) (locs : List Loc) (ls : Array Slot), Cx G base h s.heap H locs → lo_has ls 11 [(0, .ref o), (2, .int x2), (3, .int x3), (4, .int x4), (5, va_rf r5), (6, .int x6), (7, .int x7), (8, va_rf r8), (9, .int x9)] → wp_X11_odds_L74 o x2 x3 x4 r5 x7 r8 K134 Q n x6 x9 h → W p l e rm_X11_odds s m args below meth c H locs 0 0 (MQ below (va_Qi Q (PU G base) (fun q => base ≤ q)) args s 0 0 (fun q => base ≤ q)) (F0 m 74 ls []) := by
  intro n
  induction n with
  | zero =>
    intro x6 x9 h H locs ls hC hl hw
    rw [wp_X11_odds_L74] at hw
    exact hw.elim
  | succ n ih =>
    intro x6 x9 h H locs ls hC hl hw
    rw [wp_X11_odds_L74] at hw
    obtain ⟨hx, hb, hr, hml, hown, hts, hg, hs, hlk, hnm⟩ := id hM
    refine lv_iload hx hb dX11_odds_74 (lo_at hl 8 rfl) ?_
    refine lv_aload_n hx hb dX11_odds_76 rfl (lo_at hl 0 rfl) ?_
    obtain ⟨k15, hw⟩ := hw
    refine r_getI hx hb hts hown hg hC fb_9_5 k15 mk_f_RX11_122 dX11_odds_77 ?_
    refine lv_icmp_ge (tgt := 134) hx hb dX11_odds_80 (by decide) (fun c16 => ?_) (fun c16 => ?_)
    ·
      replace hw := (if_pos c16).mp hw
      exact hK134 x6 h H locs ls hC (lo_sub hl [0, 1, 2, 3, 4, 5, 6] rfl) hw
    ·
      replace hw := (if_neg c16).mp hw
      refine lv_aload_n hx hb dX11_odds_83 rfl (lo_at hl 0 rfl) ?_
      refine r_getR hx hb hts hown hg hC fb_9_4 k15 mk_f_RX11_23 dX11_odds_84 ?_
      refine lv_iload hx hb dX11_odds_87 (lo_at hl 8 rfl) ?_
      obtain ⟨k17, hw⟩ := hw
      refine rf_2 k17.1 ?_
      refine r_aald (kd := 3) (t0 := 2) hx hb hg hC k17.2.1 (by decide) rfl k17.2.2 dX11_odds_89 ?_
      refine lo_astore (r := hpR h (ad (hpR h o 4)) (x9).toNatClampNeg) (lv' := [(10, va_rf (hpR h (ad (hpR h o 4)) (x9).toNatClampNeg)), (0, .ref o), (2, .int x2), (3, .int x3), (4, .int x4), (5, va_rf r5), (6, .int x6), (7, .int x7), (8, va_rf r8), (9, .int x9)]) hx hb dX11_odds_90 hl (by decide) rfl (fun ls hl => ?_)
      refine lo_aload (r := r8) hx hb dX11_odds_92 (lo_at hl 8 rfl) ?_
      refine lo_aload (r := hpR h (ad (hpR h o 4)) (x9).toNatClampNeg) hx hb dX11_odds_94 (lo_at hl 0 rfl) ?_
      refine res_i hC (run_S (As := [va_rf r8, va_rf (hpR h (ad (hpR h o 4)) (x9).toNatClampNeg)]) (rest := []) hM hC hl.1.1 kv_RX11_241 (c_X11_truthOf l G base r8 (hpR h (ad (hpR h o 4)) (x9).toNatClampNeg) h _ hw) rfl rfl rfl ⟨Nat.le_of_ble_eq_true rfl, Nat.le_of_ble_eq_true rfl⟩ (Nat.le_of_ble_eq_true rfl) ⟨Nat.le_of_ble_eq_true rfl, Nat.le_of_ble_eq_true rfl⟩ dX11_odds_96) (fun z19 h18 H locs hw hC => ?_)
      refine lv_iload_n hx hb dX11_odds_99 rfl (lo_at hl 3 rfl) ?_
      refine lv_icmp_ne (tgt := 128) hx hb dX11_odds_100 (by decide) (fun c20 => ?_) (fun c20 => ?_)
      ·
        replace hw := (if_neg c20).mp hw
        obtain ⟨v21, ev21⟩ : ∃ y : Int32, y = x9 + (1 : Int32) := ⟨_, rfl⟩
        replace hw := hw v21 ev21
        refine lo_iinc (v := v21) (lv' := [(9, .int v21), (10, va_rf (hpR h (ad (hpR h o 4)) (x9).toNatClampNeg)), (0, .ref o), (2, .int x2), (3, .int x3), (4, .int x4), (5, va_rf r5), (6, .int x6), (7, .int x7), (8, va_rf r8)]) hx hb dX11_odds_128 hl (k := 9) rfl (by rw [ev21]; rfl) (by decide) rfl (fun ls hl => ?_)
        refine lv_goto (tgt := 74) hx hb dX11_odds_131 (by decide) ?_
        exact ih x6 v21 h18 H locs ls hC (lo_sub hl [2, 3, 4, 5, 6, 7, 8, 9, 0] rfl) hw
      ·
        replace hw := (if_pos c20).mp hw
        refine lv_iload hx hb dX11_odds_103 (lo_at hl 4 rfl) ?_
        refine lv_iconst (v := 1) hx hb dX11_odds_105 (by decide) ?_
        refine lv_icmp_eq (tgt := 125) hx hb dX11_odds_106 (by decide) (fun c22 => ?_) (fun c22 => ?_)
        ·
          replace hw := (if_pos c22).mp hw
          obtain ⟨v23, ev23⟩ : ∃ y : Int32, y = x6 + (1 : Int32) := ⟨_, rfl⟩
          replace hw := hw v23 ev23
          refine lo_iinc (v := v23) (lv' := [(6, .int v23), (10, va_rf (hpR h (ad (hpR h o 4)) (x9).toNatClampNeg)), (0, .ref o), (2, .int x2), (3, .int x3), (4, .int x4), (5, va_rf r5), (7, .int x7), (8, va_rf r8), (9, .int x9)]) hx hb dX11_odds_125 hl (k := 6) rfl (by rw [ev23]; rfl) (by decide) rfl (fun ls hl => ?_)
          obtain ⟨v24, ev24⟩ : ∃ y : Int32, y = x9 + (1 : Int32) := ⟨_, rfl⟩
          replace hw := hw v24 ev24
          refine lo_iinc (v := v24) (lv' := [(9, .int v24), (6, .int v23), (10, va_rf (hpR h (ad (hpR h o 4)) (x9).toNatClampNeg)), (0, .ref o), (2, .int x2), (3, .int x3), (4, .int x4), (5, va_rf r5), (7, .int x7), (8, va_rf r8)]) hx hb dX11_odds_128 hl (k := 9) rfl (by rw [ev24]; rfl) (by decide) rfl (fun ls hl => ?_)
          refine lv_goto (tgt := 74) hx hb dX11_odds_131 (by decide) ?_
          exact ih v23 v24 h18 H locs ls hC (lo_sub hl [3, 4, 5, 6, 7, 1, 8, 9, 0] rfl) hw
        ·
          replace hw := (if_neg c22).mp hw
          refine lo_aload (r := r5) hx hb dX11_odds_109 (lo_at hl 5 rfl) ?_
          refine lo_aload (r := r8) hx hb dX11_odds_111 (lo_at hl 8 rfl) ?_
          refine lo_aload (r := hpR h (ad (hpR h o 4)) (x9).toNatClampNeg) hx hb dX11_odds_113 (lo_at hl 0 rfl) ?_
          obtain ⟨k25, hw⟩ := hw
          refine rf_3 k25.1 ?_
          refine res_i hC (run_V (As := [va_rf r8, va_rf (hpR h (ad (hpR h o 4)) (x9).toNatClampNeg)]) (rest := []) hM hC hl.1.1 kv_RX11_199 (c_X3_measured l G base (ad r5) r8 (hpR h (ad (hpR h o 4)) (x9).toNatClampNeg) h18 _ hw) (hc_2) k25.2 rfl rfl rfl ⟨Nat.le_of_ble_eq_true rfl, Nat.le_of_ble_eq_true rfl⟩ (Nat.le_of_ble_eq_true rfl) ⟨Nat.le_of_ble_eq_true rfl, Nat.le_of_ble_eq_true rfl⟩ dX11_odds_115) (fun z27 h26 H locs hw hC => ?_)
          refine res_i hC (run_S (As := [.int z27]) (rest := []) hM hC hl.1.1 kv_RX11_212 (c_X2_longest l G base z27 h26 _ hw) rfl rfl rfl ⟨Nat.le_of_ble_eq_true rfl, Nat.le_of_ble_eq_true rfl⟩ (Nat.le_of_ble_eq_true rfl) ⟨Nat.le_of_ble_eq_true rfl, Nat.le_of_ble_eq_true rfl⟩ dX11_odds_118) (fun z29 h28 H locs hw hC => ?_)
          refine lv_iload_n hx hb dX11_odds_121 rfl (lo_at hl 2 rfl) ?_
          refine lv_icmp_lt (tgt := 128) hx hb dX11_odds_122 (by decide) (fun c30 => ?_) (fun c30 => ?_)
          ·
            replace hw := (if_pos c30).mp hw
            obtain ⟨v31, ev31⟩ : ∃ y : Int32, y = x9 + (1 : Int32) := ⟨_, rfl⟩
            replace hw := hw v31 ev31
            refine lo_iinc (v := v31) (lv' := [(9, .int v31), (10, va_rf (hpR h (ad (hpR h o 4)) (x9).toNatClampNeg)), (0, .ref o), (2, .int x2), (3, .int x3), (4, .int x4), (5, va_rf r5), (6, .int x6), (7, .int x7), (8, va_rf r8)]) hx hb dX11_odds_128 hl (k := 9) rfl (by rw [ev31]; rfl) (by decide) rfl (fun ls hl => ?_)
            refine lv_goto (tgt := 74) hx hb dX11_odds_131 (by decide) ?_
            exact ih x6 v31 h28 H locs ls hC (lo_sub hl [2, 3, 4, 5, 6, 7, 8, 9, 0] rfl) hw
          ·
            replace hw := (if_neg c30).mp hw
            obtain ⟨v32, ev32⟩ : ∃ y : Int32, y = x6 + (1 : Int32) := ⟨_, rfl⟩
            replace hw := hw v32 ev32
            refine lo_iinc (v := v32) (lv' := [(6, .int v32), (10, va_rf (hpR h (ad (hpR h o 4)) (x9).toNatClampNeg)), (0, .ref o), (2, .int x2), (3, .int x3), (4, .int x4), (5, va_rf r5), (7, .int x7), (8, va_rf r8), (9, .int x9)]) hx hb dX11_odds_125 hl (k := 6) rfl (by rw [ev32]; rfl) (by decide) rfl (fun ls hl => ?_)
            obtain ⟨v33, ev33⟩ : ∃ y : Int32, y = x9 + (1 : Int32) := ⟨_, rfl⟩
            replace hw := hw v33 ev33
            refine lo_iinc (v := v33) (lv' := [(9, .int v33), (6, .int v32), (10, va_rf (hpR h (ad (hpR h o 4)) (x9).toNatClampNeg)), (0, .ref o), (2, .int x2), (3, .int x3), (4, .int x4), (5, va_rf r5), (7, .int x7), (8, va_rf r8)]) hx hb dX11_odds_128 hl (k := 9) rfl (by rw [ev33]; rfl) (by decide) rfl (fun ls hl => ?_)
            refine lv_goto (tgt := 74) hx hb dX11_odds_131 (by decide) ?_
            exact ih v32 v33 h28 H locs ls hC (lo_sub hl [3, 4, 5, 6, 7, 1, 8, 9, 0] rfl) hw
set_option maxHeartbeats 4000000 in
set_option maxRecDepth 100000 in
theorem t_X11_odds_L50 {p : Program} {l : Launch} {e : Env} {s : State} {m : MethodId} {args : Array Value} {below : List Frame} {meth : Method} {c : Code} {G : GG} {base : Nat} (hM : Mx G base p s m args meth c cX11_odds 11 (some .int) RX11 "odds") (o : Nat) (x2 : Int32) (x3 : Int32) (x4 : Int32) (r5 : Option Nat) (K140 : Int32 → Hp → Prop) (Q : Int32 → Hp → Prop) (hK140 : ∀ (y6 : Int32) (h : Hp) (H : Heap) (locs : List Loc) (ls : Array Slot), Cx G base h s.heap H locs → lo_has ls 11 [(6, .int y6)] → K140 y6 h → W p l e rm_X11_odds s m args below meth c H locs 0 0 (MQ below (va_Qi Q (PU G base) (fun q => base ≤ q)) args s 0 0 (fun q => base ≤ q)) (F0 m 140 ls [])) : ∀ (n : Nat) (x6 : Int32) (x7 : Int32) (h : Hp) (H : Heap) (locs : List Loc) (ls : Array Slot), Cx G base h s.heap H locs → lo_has ls 11 [(0, .ref o), (2, .int x2), (3, .int x3), (4, .int x4), (5, va_rf r5), (6, .int x6), (7, .int x7)] → wp_X11_odds_L50 o x2 x3 x4 r5 K140 Q n x6 x7 h → W p l e rm_X11_odds s m args below meth c H locs 0 0 (MQ below (va_Qi Q (PU G base) (fun q => base ≤ q)) args s 0 0 (fun q => base ≤ q)) (F0 m 50 ls []) := by
  intro n
  induction n with
  | zero =>
    intro x6 x7 h H locs ls hC hl hw
    rw [wp_X11_odds_L50] at hw
    exact hw.elim
  | succ n ih =>
    intro x6 x7 h H locs ls hC hl hw
    rw [wp_X11_odds_L50] at hw
    obtain ⟨hx, hb, hr, hml, hown, hts, hg, hs, hlk, hnm⟩ := id hM
    refine lv_iload hx hb dX11_odds_50 (lo_at hl 6 rfl) ?_
    refine lv_aload_n hx hb dX11_odds_52 rfl (lo_at hl 0 rfl) ?_
    obtain ⟨k11, hw⟩ := hw
    refine r_getI hx hb hts hown hg hC fb_9_5 k11 mk_f_RX11_122 dX11_odds_53 ?_
    refine lv_icmp_ge (tgt := 140) hx hb dX11_odds_56 (by decide) (fun c12 => ?_) (fun c12 => ?_)
    ·
      replace hw := (if_pos c12).mp hw
      exact hK140 x6 h H locs ls hC (lo_sub hl [5] rfl) hw
    ·
      replace hw := (if_neg c12).mp hw
      refine lv_aload_n hx hb dX11_odds_59 rfl (lo_at hl 0 rfl) ?_
      refine r_getR hx hb hts hown hg hC fb_9_4 k11 mk_f_RX11_23 dX11_odds_60 ?_
      refine lv_iload hx hb dX11_odds_63 (lo_at hl 6 rfl) ?_
      obtain ⟨k13, hw⟩ := hw
      refine rf_2 k13.1 ?_
      refine r_aald (kd := 3) (t0 := 2) hx hb hg hC k13.2.1 (by decide) rfl k13.2.2 dX11_odds_65 ?_
      refine lo_astore (r := hpR h (ad (hpR h o 4)) (x7).toNatClampNeg) (lv' := [(8, va_rf (hpR h (ad (hpR h o 4)) (x7).toNatClampNeg)), (0, .ref o), (2, .int x2), (3, .int x3), (4, .int x4), (5, va_rf r5), (6, .int x6), (7, .int x7)]) hx hb dX11_odds_66 hl (by decide) rfl (fun ls hl => ?_)
      refine lv_iload hx hb dX11_odds_68 (lo_at hl 7 rfl) ?_
      refine lv_iconst (v := 1) hx hb dX11_odds_70 (by decide) ?_
      refine lv_iadd hx hb dX11_odds_71 ?_
      refine lv_topi (fun v14 ev14 => ?_)
      replace hw := hw v14 ev14
      refine lo_istore (lv' := [(9, .int v14), (8, va_rf (hpR h (ad (hpR h o 4)) (x7).toNatClampNeg)), (0, .ref o), (2, .int x2), (3, .int x3), (4, .int x4), (5, va_rf r5), (6, .int x6), (7, .int x7)]) hx hb dX11_odds_72 hl (by decide) rfl (fun ls hl => ?_)
      refine t_X11_odds_L74 hM o x2 x3 x4 r5 x7 (hpR h (ad (hpR h o 4)) (x7).toNatClampNeg) _ Q ?_ fuel x6 v14 h H locs ls hC (lo_sub hl [2, 3, 4, 5, 6, 7, 8, 1, 0] rfl) hw
      intro y35 h34 H locs ls hC hl hw
      obtain ⟨v36, ev36⟩ : ∃ y : Int32, y = x7 + (1 : Int32) := ⟨_, rfl⟩
      replace hw := hw v36 ev36
      refine lo_iinc (v := v36) (lv' := [(7, .int v36), (0, .ref o), (2, .int x2), (3, .int x3), (4, .int x4), (5, va_rf r5), (6, .int y35)]) hx hb dX11_odds_134 hl (k := 6) rfl (by rw [ev36]; rfl) (by decide) rfl (fun ls hl => ?_)
      refine lv_goto (tgt := 50) hx hb dX11_odds_137 (by decide) ?_
      exact ih y35 v36 h34 H locs ls hC (lo_sub hl [1, 2, 3, 4, 5, 6, 0] rfl) hw
set_option maxHeartbeats 4000000 in
set_option maxRecDepth 100000 in
theorem c_X11_odds (l : Launch) (G : GG) (base : Nat) (o : Nat) (x1 : Int32) (x2 : Int32) (x3 : Int32) (x4 : Int32) (h : Hp) (Q : Int32 → Hp → Prop) (hw : wp_X11_odds o x1 x2 x3 x4 h Q) : Met l yX11_odds (ww yX11_odds cX11_odds 11 (some .int)) rm_X11_odds (va_Pc [.ref o, .int x1, .int x2, .int x3, .int x4] (PU G base h)) (va_Qi Q (PU G base) (fun q => base ≤ q)) 0 0 (fun q => base ≤ q) := by
  refine met_of (own := RX11) (nm := "odds") (by decide) rfl rfl (List.forall_mem_cons.mpr ⟨rfl, (List.forall_mem_cons.mpr ⟨rfl, (List.forall_mem_cons.mpr ⟨rfl, (List.forall_mem_cons.mpr ⟨rfl, (List.forall_mem_cons.mpr ⟨rfl, (fun _ h => absurd h List.not_mem_nil)⟩)⟩)⟩)⟩)⟩) (Nat.le_of_ble_eq_true rfl) rfl ?_
  intro p e s m below meth c ls hM hC hl
  obtain ⟨hx, hb, hr, hml, hown, hts, hg, hs, hlk, hnm⟩ := id hM
  obtain ⟨args, hargs⟩ : ∃ a : Array Value, a = ([.ref o, .int x1, .int x2, .int x3, .int x4] : List Value).toArray := ⟨_, rfl⟩
  rw [← hargs] at hM hts ⊢
  obtain ⟨H, hH⟩ : ∃ H : Heap, H = s.heap := ⟨_, rfl⟩
  obtain ⟨locs, hlocs⟩ : ∃ x : List Loc, x = [] := ⟨_, rfl⟩
  have hC : Cx G base h s.heap H locs := by rw [hH, hlocs]; exact hC
  show W p l e rm_X11_odds s m args below meth c s.heap [] 0 0 (MQ below (va_Qi Q (PU G base) (fun q => base ≤ q)) args s 0 0 (fun q => base ≤ q)) (F0 m 0 ls [])
  rw [← hlocs]
  have hgoal : W p l e rm_X11_odds s m args below meth c H locs 0 0 (MQ below (va_Qi Q (PU G base) (fun q => base ≤ q)) args s 0 0 (fun q => base ≤ q)) (F0 m 0 ls []) := ?_
  · rw [hH] at hgoal; exact hgoal
  clear hH hlocs
  unfold wp_X11_odds at hw
  refine lv_aload_n hx hb dX11_odds_0 rfl (lo_at hl 0 rfl) ?_
  refine lv_iload_n hx hb dX11_odds_1 rfl (lo_at hl 1 rfl) ?_
  obtain ⟨k1, hw⟩ := hw
  refine res_q hC (run_V (As := [.int x1]) (rest := []) hM hC hl.1.1 kv_RX11_144 (c_X11_lookerAt l G base o x1 h _ hw) (hc_9) k1 rfl rfl rfl ⟨Nat.le_of_ble_eq_true rfl, Nat.le_of_ble_eq_true rfl⟩ (Nat.le_of_ble_eq_true rfl) ⟨Nat.le_of_ble_eq_true rfl, Nat.le_of_ble_eq_true rfl⟩ dX11_odds_2) (fun z3 h2 H locs hw hC => ?_)
  refine lo_astore (r := z3) (lv' := [(5, va_rf z3), (0, .ref o), (1, .int x1), (2, .int x2), (3, .int x3), (4, .int x4)]) hx hb dX11_odds_5 hl (by decide) rfl (fun ls hl => ?_)
  refine lo_aload (r := z3) hx hb dX11_odds_7 (lo_at hl 0 rfl) ?_
  refine lo_ifnull (r := z3) (tgt := 42) hx hb dX11_odds_9 (by decide) (fun c4 => ?_) (fun c4 => ?_)
  ·
    replace hw := (if_pos c4).mp hw
    refine lv_iconst (v := -1) hx hb dX11_odds_42 (by decide) ?_
    exact ret_i hM hC hw dX11_odds_43
  ·
    replace hw := (if_neg c4).mp hw
    refine lv_iload_n hx hb dX11_odds_12 rfl (lo_at hl 3 rfl) ?_
    refine lv_if_lt (tgt := 42) hx hb dX11_odds_13 (by decide) (fun c5 => ?_) (fun c5 => ?_)
    ·
      replace hw := (if_pos c5).mp hw
      refine lv_iconst (v := -1) hx hb dX11_odds_42 (by decide) ?_
      exact ret_i hM hC hw dX11_odds_43
    ·
      replace hw := (if_neg c5).mp hw
      refine lv_iload_n hx hb dX11_odds_16 rfl (lo_at hl 3 rfl) ?_
      refine lv_bipush (v := 32) hx hb dX11_odds_17 (by decide) ?_
      refine lv_icmp_gt (tgt := 42) hx hb dX11_odds_19 (by decide) (fun c6 => ?_) (fun c6 => ?_)
      ·
        replace hw := (if_pos c6).mp hw
        refine lv_iconst (v := -1) hx hb dX11_odds_42 (by decide) ?_
        exact ret_i hM hC hw dX11_odds_43
      ·
        replace hw := (if_neg c6).mp hw
        refine lv_iload_n hx hb dX11_odds_22 rfl (lo_at hl 4 rfl) ?_
        refine lv_if_lt (tgt := 42) hx hb dX11_odds_23 (by decide) (fun c7 => ?_) (fun c7 => ?_)
        ·
          replace hw := (if_pos c7).mp hw
          refine lv_iconst (v := -1) hx hb dX11_odds_42 (by decide) ?_
          exact ret_i hM hC hw dX11_odds_43
        ·
          replace hw := (if_neg c7).mp hw
          refine lv_iload_n hx hb dX11_odds_26 rfl (lo_at hl 4 rfl) ?_
          refine lv_iconst (v := 2) hx hb dX11_odds_27 (by decide) ?_
          refine lv_icmp_gt (tgt := 42) hx hb dX11_odds_28 (by decide) (fun c8 => ?_) (fun c8 => ?_)
          ·
            replace hw := (if_pos c8).mp hw
            refine lv_iconst (v := -1) hx hb dX11_odds_42 (by decide) ?_
            exact ret_i hM hC hw dX11_odds_43
          ·
            replace hw := (if_neg c8).mp hw
            refine lv_iload hx hb dX11_odds_31 (lo_at hl 5 rfl) ?_
            refine lv_if_lt (tgt := 42) hx hb dX11_odds_33 (by decide) (fun c9 => ?_) (fun c9 => ?_)
            ·
              replace hw := (if_pos c9).mp hw
              refine lv_iconst (v := -1) hx hb dX11_odds_42 (by decide) ?_
              exact ret_i hM hC hw dX11_odds_43
            ·
              replace hw := (if_neg c9).mp hw
              refine lv_iload hx hb dX11_odds_36 (lo_at hl 5 rfl) ?_
              refine lv_iconst (v := 1) hx hb dX11_odds_38 (by decide) ?_
              refine lv_icmp_le (tgt := 44) hx hb dX11_odds_39 (by decide) (fun c10 => ?_) (fun c10 => ?_)
              ·
                replace hw := (if_pos c10).mp hw
                refine lv_iconst (v := 0) hx hb dX11_odds_44 (by decide) ?_
                refine lo_istore (lv' := [(6, .int ((0 : Int32))), (5, va_rf z3), (0, .ref o), (1, .int x1), (2, .int x2), (3, .int x3), (4, .int x4)]) hx hb dX11_odds_45 hl (by decide) rfl (fun ls hl => ?_)
                refine lv_iconst (v := 0) hx hb dX11_odds_47 (by decide) ?_
                refine lo_istore (lv' := [(7, .int ((0 : Int32))), (6, .int ((0 : Int32))), (5, va_rf z3), (0, .ref o), (1, .int x1), (2, .int x2), (3, .int x3), (4, .int x4)]) hx hb dX11_odds_48 hl (by decide) rfl (fun ls hl => ?_)
                refine t_X11_odds_L50 hM o x2 x3 x4 z3 _ Q ?_ fuel (0 : Int32) (0 : Int32) h2 H locs ls hC (lo_sub hl [3, 5, 6, 7, 2, 1, 0] rfl) hw
                intro y38 h37 H locs ls hC hl hw
                refine lv_iload hx hb dX11_odds_140 (lo_at hl 0 rfl) ?_
                exact ret_i hM hC hw dX11_odds_142
              ·
                replace hw := (if_neg c10).mp hw
                refine lv_iconst (v := -1) hx hb dX11_odds_42 (by decide) ?_
                exact ret_i hM hC hw dX11_odds_43
abbrev rm_X11_far : Room := { frames := 3, cells := 0, slots := 0, locals := 78 }
def wp_X11_far_J102 (o : Nat) (x2 : Int32) (r3 : Option Nat) (x4 : Int32) (x5 : Int32) (r6 : Option Nat) (x7 : Int32) (r8 : Option Nat) (KH : Int32 → Int32 → Hp → Prop) (K136 : Int32 → Hp → Prop) (Q : Int32 → Hp → Prop) (h : Hp) : Prop := okO h r3 2 ∧ (wp_X3_measured (ad r3) r6 r8 h (fun (z21 : Int32) (h20 : Hp) => wp_X2_longest z21 h20 (fun (z23 : Int32) (h22 : Hp) => (if x2 ≤ z23 then (∀ v25 : Int32, v25 = x7 + (1 : Int32) → (KH x4 v25 h22)) else (okO h22 r8 0 ∧ (okO h22 r6 0 ∧ (∀ v28 : Int32, v28 = (hpI h22 (ad r8) 2) - (hpI h22 (ad r6) 2) → (∀ v29 : Int32, v29 = x7 + (1 : Int32) → (KH v28 v29 h22)))))))))
def wp_X11_far_L52 (o : Nat) (x2 : Int32) (r3 : Option Nat) (x5 : Int32) (r6 : Option Nat) (K136 : Int32 → Hp → Prop) (Q : Int32 → Hp → Prop) : Nat → Int32 → Int32 → Hp → Prop
  | 0, _, _, _ => False
  | n + 1, x4, x7, h => ((hpK h o).1 = 20 + 9) ∧ ((if (hpI h o 5) ≤ x7 then (K136 x4 h) else (okA h (hpR h o 4) 3 x7 ∧ (wp_X11_truthOf r6 (hpR h (ad (hpR h o 4)) (x7).toNatClampNeg) h (fun (z15 : Int32) (h14 : Hp) => (if z15 = 0 then ((if x4 = (-1 : Int32) then (wp_X11_far_J102 o x2 r3 x4 x5 r6 x7 (hpR h (ad (hpR h o 4)) (x7).toNatClampNeg) (wp_X11_far_L52 o x2 r3 x5 r6 K136 Q n) K136 Q h14) else (okO h14 (hpR h (ad (hpR h o 4)) (x7).toNatClampNeg) 0 ∧ (okO h14 r6 0 ∧ ((if x4 ≤ ((hpI h14 (ad (hpR h (ad (hpR h o 4)) (x7).toNatClampNeg)) 2) - (hpI h14 (ad r6) 2)) then (∀ v33 : Int32, v33 = x7 + (1 : Int32) → (wp_X11_far_L52 o x2 r3 x5 r6 K136 Q n x4 v33 h14)) else (wp_X11_far_J102 o x2 r3 x4 x5 r6 x7 (hpR h (ad (hpR h o 4)) (x7).toNatClampNeg) (wp_X11_far_L52 o x2 r3 x5 r6 K136 Q n) K136 Q h14))))))) else (∀ v17 : Int32, v17 = x7 + (1 : Int32) → (wp_X11_far_L52 o x2 r3 x5 r6 K136 Q n x4 v17 h14))))))))
def wp_X11_far_L28 (o : Nat) (x2 : Int32) (r3 : Option Nat) (K142 : Int32 → Hp → Prop) (Q : Int32 → Hp → Prop) : Nat → Int32 → Int32 → Hp → Prop
  | 0, _, _, _ => False
  | n + 1, x4, x5, h => ((hpK h o).1 = 20 + 9) ∧ ((if (hpI h o 5) ≤ x5 then (K142 x4 h) else (okA h (hpR h o 4) 3 x5 ∧ (∀ v10 : Int32, v10 = x5 + (1 : Int32) → (wp_X11_far_L52 o x2 r3 x5 (hpR h (ad (hpR h o 4)) (x5).toNatClampNeg) (fun (y35 : Int32) (h34 : Hp) => ∀ v36 : Int32, v36 = x5 + (1 : Int32) → (wp_X11_far_L28 o x2 r3 K142 Q n y35 v36 h34)) Q fuel x4 v10 h)))))
def wp_X11_far (o : Nat) (x1 : Int32) (x2 : Int32) (h : Hp) (Q : Int32 → Hp → Prop) : Prop := ((hpK h o).1 = 20 + 9) ∧ (wp_X11_lookerAt o x1 h (fun (z3 : Option Nat) (h2 : Hp) => (if z3 = none then (Q (-1 : Int32) h2) else ((if x2 < 0 then (Q (-1 : Int32) h2) else ((if x2 ≤ (33 : Int32) then (wp_X11_far_L28 o x2 z3 (fun (y38 : Int32) (h37 : Hp) => Q y38 h37) Q fuel (-1 : Int32) (0 : Int32) h2) else (Q (-1 : Int32) h2))))))))
set_option maxHeartbeats 4000000 in
set_option maxRecDepth 100000 in
theorem t_X11_far_J102 {p : Program} {l : Launch} {e : Env} {s : State} {m : MethodId} {args : Array Value} {below : List Frame} {meth : Method} {c : Code} {G : GG} {base : Nat} (hM : Mx G base p s m args meth c cX11_far 9 (some .int) RX11 "far") (o : Nat) (x2 : Int32) (r3 : Option Nat) (x4 : Int32) (x5 : Int32) (r6 : Option Nat) (x7 : Int32) (r8 : Option Nat) (KH : Int32 → Int32 → Hp → Prop) (K136 : Int32 → Hp → Prop) (Q : Int32 → Hp → Prop) (hKH : ∀ (y4 : Int32) (y7 : Int32) (h : Hp) (H : Heap) (locs : List Loc) (ls : Array Slot), Cx G base h s.heap H locs → lo_has ls 9 [(0, .ref o), (2, .int x2), (3, va_rf r3), (4, .int y4), (5, .int x5), (6, va_rf r6), (7, .int y7)] → KH y4 y7 h → W p l e rm_X11_far s m args below meth c H locs 0 0 (MQ below (va_Qi Q (PU G base) (fun q => base ≤ q)) args s 0 0 (fun q => base ≤ q)) (F0 m 52 ls [])) (hK136 : ∀ (y4 : Int32) (h : Hp) (H : Heap) (locs : List Loc) (ls : Array Slot), Cx G base h s.heap H locs → lo_has ls 9 [(0, .ref o), (2, .int x2), (3, va_rf r3), (4, .int y4), (5, .int x5)] → K136 y4 h → W p l e rm_X11_far s m args below meth c H locs 0 0 (MQ below (va_Qi Q (PU G base) (fun q => base ≤ q)) args s 0 0 (fun q => base ≤ q)) (F0 m 136 ls [])) (h : Hp) (H : Heap) (locs : List Loc) (ls : Array Slot) : Cx G base h s.heap H locs → lo_has ls 9 [(0, .ref o), (2, .int x2), (3, va_rf r3), (4, .int x4), (5, .int x5), (6, va_rf r6), (7, .int x7), (8, va_rf r8)] → wp_X11_far_J102 o x2 r3 x4 x5 r6 x7 r8 KH K136 Q h → W p l e rm_X11_far s m args below meth c H locs 0 0 (MQ below (va_Qi Q (PU G base) (fun q => base ≤ q)) args s 0 0 (fun q => base ≤ q)) (F0 m 102 ls []) := by
  intro hC hl hw
  unfold wp_X11_far_J102 at hw
  obtain ⟨hx, hb, hr, hml, hown, hts, hg, hs, hlk, hnm⟩ := id hM
  refine lo_aload_n (r := r3) hx hb dX11_far_102 rfl (lo_at hl 2 rfl) ?_
  refine lo_aload (r := r6) hx hb dX11_far_103 (lo_at hl 5 rfl) ?_
  refine lo_aload (r := r8) hx hb dX11_far_105 (lo_at hl 7 rfl) ?_
  obtain ⟨k19, hw⟩ := hw
  refine rf_3 k19.1 ?_
  refine res_i hC (run_V (As := [va_rf r6, va_rf r8]) (rest := []) hM hC hl.1.1 kv_RX11_199 (c_X3_measured l G base (ad r3) r6 r8 h _ hw) (hc_2) k19.2 rfl rfl rfl ⟨Nat.le_of_ble_eq_true rfl, Nat.le_of_ble_eq_true rfl⟩ (Nat.le_of_ble_eq_true rfl) ⟨Nat.le_of_ble_eq_true rfl, Nat.le_of_ble_eq_true rfl⟩ dX11_far_107) (fun z21 h20 H locs hw hC => ?_)
  refine res_i hC (run_S (As := [.int z21]) (rest := []) hM hC hl.1.1 kv_RX11_212 (c_X2_longest l G base z21 h20 _ hw) rfl rfl rfl ⟨Nat.le_of_ble_eq_true rfl, Nat.le_of_ble_eq_true rfl⟩ (Nat.le_of_ble_eq_true rfl) ⟨Nat.le_of_ble_eq_true rfl, Nat.le_of_ble_eq_true rfl⟩ dX11_far_110) (fun z23 h22 H locs hw hC => ?_)
  refine lv_iload_n hx hb dX11_far_113 rfl (lo_at hl 1 rfl) ?_
  refine lv_icmp_ge (tgt := 130) hx hb dX11_far_114 (by decide) (fun c24 => ?_) (fun c24 => ?_)
  ·
    replace hw := (if_pos c24).mp hw
    obtain ⟨v25, ev25⟩ : ∃ y : Int32, y = x7 + (1 : Int32) := ⟨_, rfl⟩
    replace hw := hw v25 ev25
    refine lo_iinc (v := v25) (lv' := [(7, .int v25), (0, .ref o), (2, .int x2), (3, va_rf r3), (4, .int x4), (5, .int x5), (6, va_rf r6), (8, va_rf r8)]) hx hb dX11_far_130 hl (k := 6) rfl (by rw [ev25]; rfl) (by decide) rfl (fun ls hl => ?_)
    refine lv_goto (tgt := 52) hx hb dX11_far_133 (by decide) ?_
    exact hKH x4 v25 h22 H locs ls hC (lo_sub hl [1, 2, 3, 4, 5, 6, 0] rfl) hw
  ·
    replace hw := (if_neg c24).mp hw
    refine lo_aload (r := r8) hx hb dX11_far_117 (lo_at hl 7 rfl) ?_
    obtain ⟨k26, hw⟩ := hw
    refine rf_1 k26.1 ?_
    refine r_getI hx hb hts hown hg hC fb_0_2 k26.2 mk_f_RX11_244 dX11_far_119 ?_
    refine lo_aload (r := r6) hx hb dX11_far_122 (lo_at hl 5 rfl) ?_
    obtain ⟨k27, hw⟩ := hw
    refine rf_1 k27.1 ?_
    refine r_getI hx hb hts hown hg hC fb_0_2 k27.2 mk_f_RX11_244 dX11_far_124 ?_
    refine lv_isub hx hb dX11_far_127 ?_
    refine lv_topi (fun v28 ev28 => ?_)
    replace hw := hw v28 ev28
    refine lo_istore (lv' := [(4, .int v28), (0, .ref o), (2, .int x2), (3, va_rf r3), (5, .int x5), (6, va_rf r6), (7, .int x7), (8, va_rf r8)]) hx hb dX11_far_128 hl (by decide) rfl (fun ls hl => ?_)
    obtain ⟨v29, ev29⟩ : ∃ y : Int32, y = x7 + (1 : Int32) := ⟨_, rfl⟩
    replace hw := hw v29 ev29
    refine lo_iinc (v := v29) (lv' := [(7, .int v29), (4, .int v28), (0, .ref o), (2, .int x2), (3, va_rf r3), (5, .int x5), (6, va_rf r6), (8, va_rf r8)]) hx hb dX11_far_130 hl (k := 6) rfl (by rw [ev29]; rfl) (by decide) rfl (fun ls hl => ?_)
    refine lv_goto (tgt := 52) hx hb dX11_far_133 (by decide) ?_
    exact hKH v28 v29 h22 H locs ls hC (lo_sub hl [2, 3, 4, 1, 5, 6, 0] rfl) hw
set_option maxHeartbeats 4000000 in
set_option maxRecDepth 100000 in
theorem t_X11_far_L52 {p : Program} {l : Launch} {e : Env} {s : State} {m : MethodId} {args : Array Value} {below : List Frame} {meth : Method} {c : Code} {G : GG} {base : Nat} (hM : Mx G base p s m args meth c cX11_far 9 (some .int) RX11 "far") (o : Nat) (x2 : Int32) (r3 : Option Nat) (x5 : Int32) (r6 : Option Nat) (K136 : Int32 → Hp → Prop) (Q : Int32 → Hp → Prop) (hK136 : ∀ (y4 : Int32) (h : Hp) (H : Heap) (locs : List Loc) (ls : Array Slot), Cx G base h s.heap H locs → lo_has ls 9 [(0, .ref o), (2, .int x2), (3, va_rf r3), (4, .int y4), (5, .int x5)] → K136 y4 h → W p l e rm_X11_far s m args below meth c H locs 0 0 (MQ below (va_Qi Q (PU G base) (fun q => base ≤ q)) args s 0 0 (fun q => base ≤ q)) (F0 m 136 ls [])) : ∀ (n : Nat) (x4 : Int32) (x7 : Int32) (h : Hp) (H : Heap) (locs : List Loc) (ls : Array Slot), Cx G base h s.heap H locs → lo_has ls 9 [(0, .ref o), (2, .int x2), (3, va_rf r3), (4, .int x4), (5, .int x5), (6, va_rf r6), (7, .int x7)] → wp_X11_far_L52 o x2 r3 x5 r6 K136 Q n x4 x7 h → W p l e rm_X11_far s m args below meth c H locs 0 0 (MQ below (va_Qi Q (PU G base) (fun q => base ≤ q)) args s 0 0 (fun q => base ≤ q)) (F0 m 52 ls []) := by
  intro n
  induction n with
  | zero =>
    intro x4 x7 h H locs ls hC hl hw
    rw [wp_X11_far_L52] at hw
    exact hw.elim
  | succ n ih =>
    intro x4 x7 h H locs ls hC hl hw
    rw [wp_X11_far_L52] at hw
    obtain ⟨hx, hb, hr, hml, hown, hts, hg, hs, hlk, hnm⟩ := id hM
    refine lv_iload hx hb dX11_far_52 (lo_at hl 6 rfl) ?_
    refine lv_aload_n hx hb dX11_far_54 rfl (lo_at hl 0 rfl) ?_
    obtain ⟨k11, hw⟩ := hw
    refine r_getI hx hb hts hown hg hC fb_9_5 k11 mk_f_RX11_122 dX11_far_55 ?_
    refine lv_icmp_ge (tgt := 136) hx hb dX11_far_58 (by decide) (fun c12 => ?_) (fun c12 => ?_)
    ·
      replace hw := (if_pos c12).mp hw
      exact hK136 x4 h H locs ls hC (lo_sub hl [0, 1, 2, 3, 4] rfl) hw
    ·
      replace hw := (if_neg c12).mp hw
      refine lv_aload_n hx hb dX11_far_61 rfl (lo_at hl 0 rfl) ?_
      refine r_getR hx hb hts hown hg hC fb_9_4 k11 mk_f_RX11_23 dX11_far_62 ?_
      refine lv_iload hx hb dX11_far_65 (lo_at hl 6 rfl) ?_
      obtain ⟨k13, hw⟩ := hw
      refine rf_2 k13.1 ?_
      refine r_aald (kd := 3) (t0 := 2) hx hb hg hC k13.2.1 (by decide) rfl k13.2.2 dX11_far_67 ?_
      refine lo_astore (r := hpR h (ad (hpR h o 4)) (x7).toNatClampNeg) (lv' := [(8, va_rf (hpR h (ad (hpR h o 4)) (x7).toNatClampNeg)), (0, .ref o), (2, .int x2), (3, va_rf r3), (4, .int x4), (5, .int x5), (6, va_rf r6), (7, .int x7)]) hx hb dX11_far_68 hl (by decide) rfl (fun ls hl => ?_)
      refine lo_aload (r := r6) hx hb dX11_far_70 (lo_at hl 6 rfl) ?_
      refine lo_aload (r := hpR h (ad (hpR h o 4)) (x7).toNatClampNeg) hx hb dX11_far_72 (lo_at hl 0 rfl) ?_
      refine res_i hC (run_S (As := [va_rf r6, va_rf (hpR h (ad (hpR h o 4)) (x7).toNatClampNeg)]) (rest := []) hM hC hl.1.1 kv_RX11_241 (c_X11_truthOf l G base r6 (hpR h (ad (hpR h o 4)) (x7).toNatClampNeg) h _ hw) rfl rfl rfl ⟨Nat.le_of_ble_eq_true rfl, Nat.le_of_ble_eq_true rfl⟩ (Nat.le_of_ble_eq_true rfl) ⟨Nat.le_of_ble_eq_true rfl, Nat.le_of_ble_eq_true rfl⟩ dX11_far_74) (fun z15 h14 H locs hw hC => ?_)
      refine lv_if_ne (tgt := 130) hx hb dX11_far_77 (by decide) (fun c16 => ?_) (fun c16 => ?_)
      ·
        replace hw := (if_neg c16).mp hw
        obtain ⟨v17, ev17⟩ : ∃ y : Int32, y = x7 + (1 : Int32) := ⟨_, rfl⟩
        replace hw := hw v17 ev17
        refine lo_iinc (v := v17) (lv' := [(7, .int v17), (8, va_rf (hpR h (ad (hpR h o 4)) (x7).toNatClampNeg)), (0, .ref o), (2, .int x2), (3, va_rf r3), (4, .int x4), (5, .int x5), (6, va_rf r6)]) hx hb dX11_far_130 hl (k := 7) rfl (by rw [ev17]; rfl) (by decide) rfl (fun ls hl => ?_)
        refine lv_goto (tgt := 52) hx hb dX11_far_133 (by decide) ?_
        exact ih x4 v17 h14 H locs ls hC (lo_sub hl [2, 3, 4, 5, 6, 7, 0] rfl) hw
      ·
        replace hw := (if_pos c16).mp hw
        refine lv_iload hx hb dX11_far_80 (lo_at hl 4 rfl) ?_
        refine lv_iconst (v := -1) hx hb dX11_far_82 (by decide) ?_
        refine lv_icmp_eq (tgt := 102) hx hb dX11_far_83 (by decide) (fun c18 => ?_) (fun c18 => ?_)
        ·
          replace hw := (if_pos c18).mp hw
          exact t_X11_far_J102 hM o x2 r3 x4 x5 r6 x7 (hpR h (ad (hpR h o 4)) (x7).toNatClampNeg) (wp_X11_far_L52 o x2 r3 x5 r6 K136 Q n) K136 Q ih hK136 h14 H locs ls hC (lo_sub hl [1, 2, 3, 4, 5, 6, 7, 0] rfl) hw
        ·
          replace hw := (if_neg c18).mp hw
          refine lo_aload (r := hpR h (ad (hpR h o 4)) (x7).toNatClampNeg) hx hb dX11_far_86 (lo_at hl 0 rfl) ?_
          obtain ⟨k30, hw⟩ := hw
          refine rf_1 k30.1 ?_
          refine r_getI hx hb hts hown hg hC fb_0_2 k30.2 mk_f_RX11_244 dX11_far_88 ?_
          refine lo_aload (r := r6) hx hb dX11_far_91 (lo_at hl 6 rfl) ?_
          obtain ⟨k31, hw⟩ := hw
          refine rf_1 k31.1 ?_
          refine r_getI hx hb hts hown hg hC fb_0_2 k31.2 mk_f_RX11_244 dX11_far_93 ?_
          refine lv_isub hx hb dX11_far_96 ?_
          refine lv_iload hx hb dX11_far_97 (lo_at hl 4 rfl) ?_
          refine lv_icmp_ge (tgt := 130) hx hb dX11_far_99 (by decide) (fun c32 => ?_) (fun c32 => ?_)
          ·
            replace hw := (if_pos c32).mp hw
            obtain ⟨v33, ev33⟩ : ∃ y : Int32, y = x7 + (1 : Int32) := ⟨_, rfl⟩
            replace hw := hw v33 ev33
            refine lo_iinc (v := v33) (lv' := [(7, .int v33), (8, va_rf (hpR h (ad (hpR h o 4)) (x7).toNatClampNeg)), (0, .ref o), (2, .int x2), (3, va_rf r3), (4, .int x4), (5, .int x5), (6, va_rf r6)]) hx hb dX11_far_130 hl (k := 7) rfl (by rw [ev33]; rfl) (by decide) rfl (fun ls hl => ?_)
            refine lv_goto (tgt := 52) hx hb dX11_far_133 (by decide) ?_
            exact ih x4 v33 h14 H locs ls hC (lo_sub hl [2, 3, 4, 5, 6, 7, 0] rfl) hw
          ·
            replace hw := (if_neg c32).mp hw
            exact t_X11_far_J102 hM o x2 r3 x4 x5 r6 x7 (hpR h (ad (hpR h o 4)) (x7).toNatClampNeg) (wp_X11_far_L52 o x2 r3 x5 r6 K136 Q n) K136 Q ih hK136 h14 H locs ls hC (lo_sub hl [1, 2, 3, 4, 5, 6, 7, 0] rfl) hw
set_option maxHeartbeats 4000000 in
set_option maxRecDepth 100000 in
theorem t_X11_far_L28 {p : Program} {l : Launch} {e : Env} {s : State} {m : MethodId} {args : Array Value} {below : List Frame} {meth : Method} {c : Code} {G : GG} {base : Nat} (hM : Mx G base p s m args meth c cX11_far 9 (some .int) RX11 "far") (o : Nat) (x2 : Int32) (r3 : Option Nat) (K142 : Int32 → Hp → Prop) (Q : Int32 → Hp → Prop) (hK142 : ∀ (y4 : Int32) (h : Hp) (H : Heap) (locs : List Loc) (ls : Array Slot), Cx G base h s.heap H locs → lo_has ls 9 [(4, .int y4)] → K142 y4 h → W p l e rm_X11_far s m args below meth c H locs 0 0 (MQ below (va_Qi Q (PU G base) (fun q => base ≤ q)) args s 0 0 (fun q => base ≤ q)) (F0 m 142 ls [])) : ∀ (n : Nat) (x4 : Int32) (x5 : Int32) (h : Hp) (H : Heap) (locs : List Loc) (ls : Array Slot), Cx G base h s.heap H locs → lo_has ls 9 [(0, .ref o), (2, .int x2), (3, va_rf r3), (4, .int x4), (5, .int x5)] → wp_X11_far_L28 o x2 r3 K142 Q n x4 x5 h → W p l e rm_X11_far s m args below meth c H locs 0 0 (MQ below (va_Qi Q (PU G base) (fun q => base ≤ q)) args s 0 0 (fun q => base ≤ q)) (F0 m 28 ls []) := by
  intro n
  induction n with
  | zero =>
    intro x4 x5 h H locs ls hC hl hw
    rw [wp_X11_far_L28] at hw
    exact hw.elim
  | succ n ih =>
    intro x4 x5 h H locs ls hC hl hw
    rw [wp_X11_far_L28] at hw
    obtain ⟨hx, hb, hr, hml, hown, hts, hg, hs, hlk, hnm⟩ := id hM
    refine lv_iload hx hb dX11_far_28 (lo_at hl 4 rfl) ?_
    refine lv_aload_n hx hb dX11_far_30 rfl (lo_at hl 0 rfl) ?_
    obtain ⟨k7, hw⟩ := hw
    refine r_getI hx hb hts hown hg hC fb_9_5 k7 mk_f_RX11_122 dX11_far_31 ?_
    refine lv_icmp_ge (tgt := 142) hx hb dX11_far_34 (by decide) (fun c8 => ?_) (fun c8 => ?_)
    ·
      replace hw := (if_pos c8).mp hw
      exact hK142 x4 h H locs ls hC (lo_sub hl [3] rfl) hw
    ·
      replace hw := (if_neg c8).mp hw
      refine lv_aload_n hx hb dX11_far_37 rfl (lo_at hl 0 rfl) ?_
      refine r_getR hx hb hts hown hg hC fb_9_4 k7 mk_f_RX11_23 dX11_far_38 ?_
      refine lv_iload hx hb dX11_far_41 (lo_at hl 4 rfl) ?_
      obtain ⟨k9, hw⟩ := hw
      refine rf_2 k9.1 ?_
      refine r_aald (kd := 3) (t0 := 2) hx hb hg hC k9.2.1 (by decide) rfl k9.2.2 dX11_far_43 ?_
      refine lo_astore (r := hpR h (ad (hpR h o 4)) (x5).toNatClampNeg) (lv' := [(6, va_rf (hpR h (ad (hpR h o 4)) (x5).toNatClampNeg)), (0, .ref o), (2, .int x2), (3, va_rf r3), (4, .int x4), (5, .int x5)]) hx hb dX11_far_44 hl (by decide) rfl (fun ls hl => ?_)
      refine lv_iload hx hb dX11_far_46 (lo_at hl 5 rfl) ?_
      refine lv_iconst (v := 1) hx hb dX11_far_48 (by decide) ?_
      refine lv_iadd hx hb dX11_far_49 ?_
      refine lv_topi (fun v10 ev10 => ?_)
      replace hw := hw v10 ev10
      refine lo_istore (lv' := [(7, .int v10), (6, va_rf (hpR h (ad (hpR h o 4)) (x5).toNatClampNeg)), (0, .ref o), (2, .int x2), (3, va_rf r3), (4, .int x4), (5, .int x5)]) hx hb dX11_far_50 hl (by decide) rfl (fun ls hl => ?_)
      refine t_X11_far_L52 hM o x2 r3 x5 (hpR h (ad (hpR h o 4)) (x5).toNatClampNeg) _ Q ?_ fuel x4 v10 h H locs ls hC (lo_sub hl [2, 3, 4, 5, 6, 1, 0] rfl) hw
      intro y35 h34 H locs ls hC hl hw
      obtain ⟨v36, ev36⟩ : ∃ y : Int32, y = x5 + (1 : Int32) := ⟨_, rfl⟩
      replace hw := hw v36 ev36
      refine lo_iinc (v := v36) (lv' := [(5, .int v36), (0, .ref o), (2, .int x2), (3, va_rf r3), (4, .int y35)]) hx hb dX11_far_136 hl (k := 4) rfl (by rw [ev36]; rfl) (by decide) rfl (fun ls hl => ?_)
      refine lv_goto (tgt := 28) hx hb dX11_far_139 (by decide) ?_
      exact ih y35 v36 h34 H locs ls hC (lo_sub hl [1, 2, 3, 4, 0] rfl) hw
set_option maxHeartbeats 4000000 in
set_option maxRecDepth 100000 in
theorem c_X11_far (l : Launch) (G : GG) (base : Nat) (o : Nat) (x1 : Int32) (x2 : Int32) (h : Hp) (Q : Int32 → Hp → Prop) (hw : wp_X11_far o x1 x2 h Q) : Met l yX11_far (ww yX11_far cX11_far 9 (some .int)) rm_X11_far (va_Pc [.ref o, .int x1, .int x2] (PU G base h)) (va_Qi Q (PU G base) (fun q => base ≤ q)) 0 0 (fun q => base ≤ q) := by
  refine met_of (own := RX11) (nm := "far") (by decide) rfl rfl (List.forall_mem_cons.mpr ⟨rfl, (List.forall_mem_cons.mpr ⟨rfl, (List.forall_mem_cons.mpr ⟨rfl, (fun _ h => absurd h List.not_mem_nil)⟩)⟩)⟩) (Nat.le_of_ble_eq_true rfl) rfl ?_
  intro p e s m below meth c ls hM hC hl
  obtain ⟨hx, hb, hr, hml, hown, hts, hg, hs, hlk, hnm⟩ := id hM
  obtain ⟨args, hargs⟩ : ∃ a : Array Value, a = ([.ref o, .int x1, .int x2] : List Value).toArray := ⟨_, rfl⟩
  rw [← hargs] at hM hts ⊢
  obtain ⟨H, hH⟩ : ∃ H : Heap, H = s.heap := ⟨_, rfl⟩
  obtain ⟨locs, hlocs⟩ : ∃ x : List Loc, x = [] := ⟨_, rfl⟩
  have hC : Cx G base h s.heap H locs := by rw [hH, hlocs]; exact hC
  show W p l e rm_X11_far s m args below meth c s.heap [] 0 0 (MQ below (va_Qi Q (PU G base) (fun q => base ≤ q)) args s 0 0 (fun q => base ≤ q)) (F0 m 0 ls [])
  rw [← hlocs]
  have hgoal : W p l e rm_X11_far s m args below meth c H locs 0 0 (MQ below (va_Qi Q (PU G base) (fun q => base ≤ q)) args s 0 0 (fun q => base ≤ q)) (F0 m 0 ls []) := ?_
  · rw [hH] at hgoal; exact hgoal
  clear hH hlocs
  unfold wp_X11_far at hw
  refine lv_aload_n hx hb dX11_far_0 rfl (lo_at hl 0 rfl) ?_
  refine lv_iload_n hx hb dX11_far_1 rfl (lo_at hl 1 rfl) ?_
  obtain ⟨k1, hw⟩ := hw
  refine res_q hC (run_V (As := [.int x1]) (rest := []) hM hC hl.1.1 kv_RX11_144 (c_X11_lookerAt l G base o x1 h _ hw) (hc_9) k1 rfl rfl rfl ⟨Nat.le_of_ble_eq_true rfl, Nat.le_of_ble_eq_true rfl⟩ (Nat.le_of_ble_eq_true rfl) ⟨Nat.le_of_ble_eq_true rfl, Nat.le_of_ble_eq_true rfl⟩ dX11_far_2) (fun z3 h2 H locs hw hC => ?_)
  refine lo_astore_n (r := z3) (lv' := [(3, va_rf z3), (0, .ref o), (1, .int x1), (2, .int x2)]) hx hb dX11_far_5 rfl hl (by decide) rfl (fun ls hl => ?_)
  refine lo_aload_n (r := z3) hx hb dX11_far_6 rfl (lo_at hl 0 rfl) ?_
  refine lo_ifnull (r := z3) (tgt := 20) hx hb dX11_far_7 (by decide) (fun c4 => ?_) (fun c4 => ?_)
  ·
    replace hw := (if_pos c4).mp hw
    refine lv_iconst (v := -1) hx hb dX11_far_20 (by decide) ?_
    exact ret_i hM hC hw dX11_far_21
  ·
    replace hw := (if_neg c4).mp hw
    refine lv_iload_n hx hb dX11_far_10 rfl (lo_at hl 3 rfl) ?_
    refine lv_if_lt (tgt := 20) hx hb dX11_far_11 (by decide) (fun c5 => ?_) (fun c5 => ?_)
    ·
      replace hw := (if_pos c5).mp hw
      refine lv_iconst (v := -1) hx hb dX11_far_20 (by decide) ?_
      exact ret_i hM hC hw dX11_far_21
    ·
      replace hw := (if_neg c5).mp hw
      refine lv_iload_n hx hb dX11_far_14 rfl (lo_at hl 3 rfl) ?_
      refine lv_bipush (v := 33) hx hb dX11_far_15 (by decide) ?_
      refine lv_icmp_le (tgt := 22) hx hb dX11_far_17 (by decide) (fun c6 => ?_) (fun c6 => ?_)
      ·
        replace hw := (if_pos c6).mp hw
        refine lv_iconst (v := -1) hx hb dX11_far_22 (by decide) ?_
        refine lo_istore (lv' := [(4, .int ((-1 : Int32))), (3, va_rf z3), (0, .ref o), (1, .int x1), (2, .int x2)]) hx hb dX11_far_23 hl (by decide) rfl (fun ls hl => ?_)
        refine lv_iconst (v := 0) hx hb dX11_far_25 (by decide) ?_
        refine lo_istore (lv' := [(5, .int ((0 : Int32))), (4, .int ((-1 : Int32))), (3, va_rf z3), (0, .ref o), (1, .int x1), (2, .int x2)]) hx hb dX11_far_26 hl (by decide) rfl (fun ls hl => ?_)
        refine t_X11_far_L28 hM o x2 z3 _ Q ?_ fuel (-1 : Int32) (0 : Int32) h2 H locs ls hC (lo_sub hl [3, 5, 2, 1, 0] rfl) hw
        intro y38 h37 H locs ls hC hl hw
        refine lv_iload hx hb dX11_far_142 (lo_at hl 0 rfl) ?_
        exact ret_i hM hC hw dX11_far_144
      ·
        replace hw := (if_neg c6).mp hw
        refine lv_iconst (v := -1) hx hb dX11_far_20 (by decide) ?_
        exact ret_i hM hC hw dX11_far_21
abbrev rm_X11_own : Room := { frames := 4, cells := 0, slots := 0, locals := 100 }
def wp_X11_own (o : Nat) (x1 : Int32) (x2 : Int32) (x3 : Int32) (x4 : Int32) (x5 : Int32) (h : Hp) (Q : Int32 → Hp → Prop) : Prop := ((hpK h o).1 = 20 + 9) ∧ (wp_X11_lookerAt o x1 h (fun (z3 : Option Nat) (h2 : Hp) => ((hpK h2 o).1 = 20 + 9) ∧ (wp_X11_ballAt o x2 h2 (fun (z6 : Option Nat) (h5 : Hp) => ((hpK h5 o).1 = 20 + 9) ∧ (wp_X11_ballAt o x3 h5 (fun (z9 : Option Nat) (h8 : Hp) => ((hpK h8 o).1 = 20 + 9) ∧ (wp_X11_ballAt o x4 h8 (fun (z12 : Option Nat) (h11 : Hp) => (if z3 = none then (Q (0 : Int32) h11) else ((if z6 = none then (Q (0 : Int32) h11) else ((if z9 = none then (Q (0 : Int32) h11) else ((if z12 = none then (Q (0 : Int32) h11) else ((if x5 < 0 then (Q (0 : Int32) h11) else ((if x5 ≤ (1 : Int32) then (okO h11 z3 2 ∧ (wp_X3_runsUnderBest (ad z3) z6 z9 h11 (fun (z21 : Int32) (h20 : Hp) => okO h20 z3 2 ∧ (wp_X3_runsUnderBest (ad z3) z6 z12 h20 (fun (z24 : Int32) (h23 : Hp) => (if x5 = 0 then (Q (z21 &&& (z24 ^^^ (-1 : Int32))) h23) else (Q (z21 &&& z24) h23))))))) else (Q (0 : Int32) h11))))))))))))))))))))
set_option maxHeartbeats 4000000 in
set_option maxRecDepth 100000 in
theorem c_X11_own (l : Launch) (G : GG) (base : Nat) (o : Nat) (x1 : Int32) (x2 : Int32) (x3 : Int32) (x4 : Int32) (x5 : Int32) (h : Hp) (Q : Int32 → Hp → Prop) (hw : wp_X11_own o x1 x2 x3 x4 x5 h Q) : Met l yX11_own (ww yX11_own cX11_own 12 (some .int)) rm_X11_own (va_Pc [.ref o, .int x1, .int x2, .int x3, .int x4, .int x5] (PU G base h)) (va_Qi Q (PU G base) (fun q => base ≤ q)) 0 0 (fun q => base ≤ q) := by
  refine met_of (own := RX11) (nm := "own") (by decide) rfl rfl (List.forall_mem_cons.mpr ⟨rfl, (List.forall_mem_cons.mpr ⟨rfl, (List.forall_mem_cons.mpr ⟨rfl, (List.forall_mem_cons.mpr ⟨rfl, (List.forall_mem_cons.mpr ⟨rfl, (List.forall_mem_cons.mpr ⟨rfl, (fun _ h => absurd h List.not_mem_nil)⟩)⟩)⟩)⟩)⟩)⟩) (Nat.le_of_ble_eq_true rfl) rfl ?_
  intro p e s m below meth c ls hM hC hl
  obtain ⟨hx, hb, hr, hml, hown, hts, hg, hs, hlk, hnm⟩ := id hM
  obtain ⟨args, hargs⟩ : ∃ a : Array Value, a = ([.ref o, .int x1, .int x2, .int x3, .int x4, .int x5] : List Value).toArray := ⟨_, rfl⟩
  rw [← hargs] at hM hts ⊢
  obtain ⟨H, hH⟩ : ∃ H : Heap, H = s.heap := ⟨_, rfl⟩
  obtain ⟨locs, hlocs⟩ : ∃ x : List Loc, x = [] := ⟨_, rfl⟩
  have hC : Cx G base h s.heap H locs := by rw [hH, hlocs]; exact hC
  show W p l e rm_X11_own s m args below meth c s.heap [] 0 0 (MQ below (va_Qi Q (PU G base) (fun q => base ≤ q)) args s 0 0 (fun q => base ≤ q)) (F0 m 0 ls [])
  rw [← hlocs]
  have hgoal : W p l e rm_X11_own s m args below meth c H locs 0 0 (MQ below (va_Qi Q (PU G base) (fun q => base ≤ q)) args s 0 0 (fun q => base ≤ q)) (F0 m 0 ls []) := ?_
  · rw [hH] at hgoal; exact hgoal
  clear hH hlocs
  unfold wp_X11_own at hw
  refine lv_aload_n hx hb dX11_own_0 rfl (lo_at hl 0 rfl) ?_
  refine lv_iload_n hx hb dX11_own_1 rfl (lo_at hl 1 rfl) ?_
  obtain ⟨k1, hw⟩ := hw
  refine res_q hC (run_V (As := [.int x1]) (rest := []) hM hC hl.1.1 kv_RX11_144 (c_X11_lookerAt l G base o x1 h _ hw) (hc_9) k1 rfl rfl rfl ⟨Nat.le_of_ble_eq_true rfl, Nat.le_of_ble_eq_true rfl⟩ (Nat.le_of_ble_eq_true rfl) ⟨Nat.le_of_ble_eq_true rfl, Nat.le_of_ble_eq_true rfl⟩ dX11_own_2) (fun z3 h2 H locs hw hC => ?_)
  refine lo_astore (r := z3) (lv' := [(6, va_rf z3), (0, .ref o), (1, .int x1), (2, .int x2), (3, .int x3), (4, .int x4), (5, .int x5)]) hx hb dX11_own_5 hl (by decide) rfl (fun ls hl => ?_)
  refine lv_aload_n hx hb dX11_own_7 rfl (lo_at hl 1 rfl) ?_
  refine lv_iload_n hx hb dX11_own_8 rfl (lo_at hl 3 rfl) ?_
  obtain ⟨k4, hw⟩ := hw
  refine res_q hC (run_V (As := [.int x2]) (rest := []) hM hC hl.1.1 kv_RX11_140 (c_X11_ballAt l G base o x2 h2 _ hw) (hc_9) k4 rfl rfl rfl ⟨Nat.le_of_ble_eq_true rfl, Nat.le_of_ble_eq_true rfl⟩ (Nat.le_of_ble_eq_true rfl) ⟨Nat.le_of_ble_eq_true rfl, Nat.le_of_ble_eq_true rfl⟩ dX11_own_9) (fun z6 h5 H locs hw hC => ?_)
  refine lo_astore (r := z6) (lv' := [(7, va_rf z6), (6, va_rf z3), (0, .ref o), (1, .int x1), (2, .int x2), (3, .int x3), (4, .int x4), (5, .int x5)]) hx hb dX11_own_12 hl (by decide) rfl (fun ls hl => ?_)
  refine lv_aload_n hx hb dX11_own_14 rfl (lo_at hl 2 rfl) ?_
  refine lv_iload_n hx hb dX11_own_15 rfl (lo_at hl 5 rfl) ?_
  obtain ⟨k7, hw⟩ := hw
  refine res_q hC (run_V (As := [.int x3]) (rest := []) hM hC hl.1.1 kv_RX11_140 (c_X11_ballAt l G base o x3 h5 _ hw) (hc_9) k7 rfl rfl rfl ⟨Nat.le_of_ble_eq_true rfl, Nat.le_of_ble_eq_true rfl⟩ (Nat.le_of_ble_eq_true rfl) ⟨Nat.le_of_ble_eq_true rfl, Nat.le_of_ble_eq_true rfl⟩ dX11_own_16) (fun z9 h8 H locs hw hC => ?_)
  refine lo_astore (r := z9) (lv' := [(8, va_rf z9), (7, va_rf z6), (6, va_rf z3), (0, .ref o), (1, .int x1), (2, .int x2), (3, .int x3), (4, .int x4), (5, .int x5)]) hx hb dX11_own_19 hl (by decide) rfl (fun ls hl => ?_)
  refine lv_aload_n hx hb dX11_own_21 rfl (lo_at hl 3 rfl) ?_
  refine lv_iload hx hb dX11_own_22 (lo_at hl 7 rfl) ?_
  obtain ⟨k10, hw⟩ := hw
  refine res_q hC (run_V (As := [.int x4]) (rest := []) hM hC hl.1.1 kv_RX11_140 (c_X11_ballAt l G base o x4 h8 _ hw) (hc_9) k10 rfl rfl rfl ⟨Nat.le_of_ble_eq_true rfl, Nat.le_of_ble_eq_true rfl⟩ (Nat.le_of_ble_eq_true rfl) ⟨Nat.le_of_ble_eq_true rfl, Nat.le_of_ble_eq_true rfl⟩ dX11_own_24) (fun z12 h11 H locs hw hC => ?_)
  refine lo_astore (r := z12) (lv' := [(9, va_rf z12), (8, va_rf z9), (7, va_rf z6), (6, va_rf z3), (0, .ref o), (1, .int x1), (2, .int x2), (3, .int x3), (4, .int x4), (5, .int x5)]) hx hb dX11_own_27 hl (by decide) rfl (fun ls hl => ?_)
  refine lo_aload (r := z3) hx hb dX11_own_29 (lo_at hl 3 rfl) ?_
  refine lo_ifnull (r := z3) (tgt := 60) hx hb dX11_own_31 (by decide) (fun c13 => ?_) (fun c13 => ?_)
  ·
    replace hw := (if_pos c13).mp hw
    refine lv_iconst (v := 0) hx hb dX11_own_60 (by decide) ?_
    exact ret_i hM hC hw dX11_own_61
  ·
    replace hw := (if_neg c13).mp hw
    refine lo_aload (r := z6) hx hb dX11_own_34 (lo_at hl 2 rfl) ?_
    refine lo_ifnull (r := z6) (tgt := 60) hx hb dX11_own_36 (by decide) (fun c14 => ?_) (fun c14 => ?_)
    ·
      replace hw := (if_pos c14).mp hw
      refine lv_iconst (v := 0) hx hb dX11_own_60 (by decide) ?_
      exact ret_i hM hC hw dX11_own_61
    ·
      replace hw := (if_neg c14).mp hw
      refine lo_aload (r := z9) hx hb dX11_own_39 (lo_at hl 1 rfl) ?_
      refine lo_ifnull (r := z9) (tgt := 60) hx hb dX11_own_41 (by decide) (fun c15 => ?_) (fun c15 => ?_)
      ·
        replace hw := (if_pos c15).mp hw
        refine lv_iconst (v := 0) hx hb dX11_own_60 (by decide) ?_
        exact ret_i hM hC hw dX11_own_61
      ·
        replace hw := (if_neg c15).mp hw
        refine lo_aload (r := z12) hx hb dX11_own_44 (lo_at hl 0 rfl) ?_
        refine lo_ifnull (r := z12) (tgt := 60) hx hb dX11_own_46 (by decide) (fun c16 => ?_) (fun c16 => ?_)
        ·
          replace hw := (if_pos c16).mp hw
          refine lv_iconst (v := 0) hx hb dX11_own_60 (by decide) ?_
          exact ret_i hM hC hw dX11_own_61
        ·
          replace hw := (if_neg c16).mp hw
          refine lv_iload hx hb dX11_own_49 (lo_at hl 9 rfl) ?_
          refine lv_if_lt (tgt := 60) hx hb dX11_own_51 (by decide) (fun c17 => ?_) (fun c17 => ?_)
          ·
            replace hw := (if_pos c17).mp hw
            refine lv_iconst (v := 0) hx hb dX11_own_60 (by decide) ?_
            exact ret_i hM hC hw dX11_own_61
          ·
            replace hw := (if_neg c17).mp hw
            refine lv_iload hx hb dX11_own_54 (lo_at hl 9 rfl) ?_
            refine lv_iconst (v := 1) hx hb dX11_own_56 (by decide) ?_
            refine lv_icmp_le (tgt := 62) hx hb dX11_own_57 (by decide) (fun c18 => ?_) (fun c18 => ?_)
            ·
              replace hw := (if_pos c18).mp hw
              refine lo_aload (r := z3) hx hb dX11_own_62 (lo_at hl 3 rfl) ?_
              refine lo_aload (r := z6) hx hb dX11_own_64 (lo_at hl 2 rfl) ?_
              refine lo_aload (r := z9) hx hb dX11_own_66 (lo_at hl 1 rfl) ?_
              obtain ⟨k19, hw⟩ := hw
              refine rf_3 k19.1 ?_
              refine res_i hC (run_V (As := [va_rf z6, va_rf z9]) (rest := []) hM hC hl.1.1 kv_RX11_247 (c_X3_runsUnderBest l G base (ad z3) z6 z9 h11 _ hw) (hc_2) k19.2 rfl rfl rfl ⟨Nat.le_of_ble_eq_true rfl, Nat.le_of_ble_eq_true rfl⟩ (Nat.le_of_ble_eq_true rfl) ⟨Nat.le_of_ble_eq_true rfl, Nat.le_of_ble_eq_true rfl⟩ dX11_own_68) (fun z21 h20 H locs hw hC => ?_)
              refine lo_istore (lv' := [(10, .int z21), (9, va_rf z12), (8, va_rf z9), (7, va_rf z6), (6, va_rf z3), (0, .ref o), (1, .int x1), (2, .int x2), (3, .int x3), (4, .int x4), (5, .int x5)]) hx hb dX11_own_71 hl (by decide) rfl (fun ls hl => ?_)
              refine lo_aload (r := z3) hx hb dX11_own_73 (lo_at hl 4 rfl) ?_
              refine lo_aload (r := z6) hx hb dX11_own_75 (lo_at hl 3 rfl) ?_
              refine lo_aload (r := z12) hx hb dX11_own_77 (lo_at hl 1 rfl) ?_
              obtain ⟨k22, hw⟩ := hw
              refine rf_3 k22.1 ?_
              refine res_i hC (run_V (As := [va_rf z6, va_rf z12]) (rest := []) hM hC hl.1.1 kv_RX11_247 (c_X3_runsUnderBest l G base (ad z3) z6 z12 h20 _ hw) (hc_2) k22.2 rfl rfl rfl ⟨Nat.le_of_ble_eq_true rfl, Nat.le_of_ble_eq_true rfl⟩ (Nat.le_of_ble_eq_true rfl) ⟨Nat.le_of_ble_eq_true rfl, Nat.le_of_ble_eq_true rfl⟩ dX11_own_79) (fun z24 h23 H locs hw hC => ?_)
              refine lo_istore (lv' := [(11, .int z24), (10, .int z21), (9, va_rf z12), (8, va_rf z9), (7, va_rf z6), (6, va_rf z3), (0, .ref o), (1, .int x1), (2, .int x2), (3, .int x3), (4, .int x4), (5, .int x5)]) hx hb dX11_own_82 hl (by decide) rfl (fun ls hl => ?_)
              refine lv_iload hx hb dX11_own_84 (lo_at hl 11 rfl) ?_
              refine lv_if_ne (tgt := 99) hx hb dX11_own_86 (by decide) (fun c25 => ?_) (fun c25 => ?_)
              ·
                replace hw := (if_neg c25).mp hw
                refine lv_iload hx hb dX11_own_99 (lo_at hl 1 rfl) ?_
                refine lv_iload hx hb dX11_own_101 (lo_at hl 0 rfl) ?_
                refine lv_iand hx hb dX11_own_103 ?_
                exact ret_i hM hC hw dX11_own_104
              ·
                replace hw := (if_pos c25).mp hw
                refine lv_iload hx hb dX11_own_89 (lo_at hl 1 rfl) ?_
                refine lv_iload hx hb dX11_own_91 (lo_at hl 0 rfl) ?_
                refine lv_iconst (v := -1) hx hb dX11_own_93 (by decide) ?_
                refine lv_ixor hx hb dX11_own_94 ?_
                refine lv_iand hx hb dX11_own_95 ?_
                refine lv_goto (tgt := 104) hx hb dX11_own_96 (by decide) ?_
                exact ret_i hM hC hw dX11_own_104
            ·
              replace hw := (if_neg c18).mp hw
              refine lv_iconst (v := 0) hx hb dX11_own_60 (by decide) ?_
              exact ret_i hM hC hw dX11_own_61
abbrev rm_X11_nextLikeness : Room := { frames := 3, cells := 0, slots := 0, locals := 78 }
def wp_X11_nextLikeness_L6 (o : Nat) (r1 : Option Nat) (r2 : Option Nat) (x3 : Int32) (K75 : Int32 → Hp → Prop) (Q : Int32 → Hp → Prop) : Nat → Int32 → Int32 → Hp → Prop
  | 0, _, _, _ => False
  | n + 1, x4, x5, h => ((hpK h o).1 = 20 + 9) ∧ ((if (hpI h o 5) ≤ x5 then (K75 x4 h) else (okA h (hpR h o 4) 3 x5 ∧ ((if (hpR h (ad (hpR h o 4)) (x5).toNatClampNeg) = none then (∀ v5 : Int32, v5 = x5 + (1 : Int32) → (wp_X11_nextLikeness_L6 o r1 r2 x3 K75 Q n x4 v5 h)) else (okO h r2 0 ∧ ((if x5 = (hpI h (ad r2) 0) then (∀ v8 : Int32, v8 = x5 + (1 : Int32) → (wp_X11_nextLikeness_L6 o r1 r2 x3 K75 Q n x4 v8 h)) else (okO h r1 2 ∧ (wp_X3_measured (ad r1) r2 (hpR h (ad (hpR h o 4)) (x5).toNatClampNeg) h (fun (z11 : Int32) (h10 : Hp) => wp_X2_likeness z11 x5 h10 (fun (z13 : Int32) (h12 : Hp) => (if x3 ≤ z13 then (∀ v15 : Int32, v15 = x5 + (1 : Int32) → (wp_X11_nextLikeness_L6 o r1 r2 x3 K75 Q n x4 v15 h12)) else ((if z13 ≤ x4 then (∀ v17 : Int32, v17 = x5 + (1 : Int32) → (wp_X11_nextLikeness_L6 o r1 r2 x3 K75 Q n x4 v17 h12)) else (∀ v18 : Int32, v18 = x5 + (1 : Int32) → (wp_X11_nextLikeness_L6 o r1 r2 x3 K75 Q n z13 v18 h12)))))))))))))))))
def wp_X11_nextLikeness (o : Nat) (r1 : Option Nat) (r2 : Option Nat) (x3 : Int32) (h : Hp) (Q : Int32 → Hp → Prop) : Prop := wp_X11_nextLikeness_L6 o r1 r2 x3 (fun (y20 : Int32) (h19 : Hp) => Q y20 h19) Q fuel (-1 : Int32) (0 : Int32) h
set_option maxHeartbeats 4000000 in
set_option maxRecDepth 100000 in
theorem t_X11_nextLikeness_L6 {p : Program} {l : Launch} {e : Env} {s : State} {m : MethodId} {args : Array Value} {below : List Frame} {meth : Method} {c : Code} {G : GG} {base : Nat} (hM : Mx G base p s m args meth c cX11_nextLikeness 8 (some .int) RX11 "nextLikeness") (o : Nat) (r1 : Option Nat) (r2 : Option Nat) (x3 : Int32) (K75 : Int32 → Hp → Prop) (Q : Int32 → Hp → Prop) (hK75 : ∀ (y4 : Int32) (h : Hp) (H : Heap) (locs : List Loc) (ls : Array Slot), Cx G base h s.heap H locs → lo_has ls 8 [(4, .int y4)] → K75 y4 h → W p l e rm_X11_nextLikeness s m args below meth c H locs 0 0 (MQ below (va_Qi Q (PU G base) (fun q => base ≤ q)) args s 0 0 (fun q => base ≤ q)) (F0 m 75 ls [])) : ∀ (n : Nat) (x4 : Int32) (x5 : Int32) (h : Hp) (H : Heap) (locs : List Loc) (ls : Array Slot), Cx G base h s.heap H locs → lo_has ls 8 [(0, .ref o), (1, va_rf r1), (2, va_rf r2), (3, .int x3), (4, .int x4), (5, .int x5)] → wp_X11_nextLikeness_L6 o r1 r2 x3 K75 Q n x4 x5 h → W p l e rm_X11_nextLikeness s m args below meth c H locs 0 0 (MQ below (va_Qi Q (PU G base) (fun q => base ≤ q)) args s 0 0 (fun q => base ≤ q)) (F0 m 6 ls []) := by
  intro n
  induction n with
  | zero =>
    intro x4 x5 h H locs ls hC hl hw
    rw [wp_X11_nextLikeness_L6] at hw
    exact hw.elim
  | succ n ih =>
    intro x4 x5 h H locs ls hC hl hw
    rw [wp_X11_nextLikeness_L6] at hw
    obtain ⟨hx, hb, hr, hml, hown, hts, hg, hs, hlk, hnm⟩ := id hM
    refine lv_iload hx hb dX11_nextLikeness_6 (lo_at hl 5 rfl) ?_
    refine lv_aload_n hx hb dX11_nextLikeness_8 rfl (lo_at hl 0 rfl) ?_
    obtain ⟨k1, hw⟩ := hw
    refine r_getI hx hb hts hown hg hC fb_9_5 k1 mk_f_RX11_122 dX11_nextLikeness_9 ?_
    refine lv_icmp_ge (tgt := 75) hx hb dX11_nextLikeness_12 (by decide) (fun c2 => ?_) (fun c2 => ?_)
    ·
      replace hw := (if_pos c2).mp hw
      exact hK75 x4 h H locs ls hC (lo_sub hl [4] rfl) hw
    ·
      replace hw := (if_neg c2).mp hw
      refine lv_aload_n hx hb dX11_nextLikeness_15 rfl (lo_at hl 0 rfl) ?_
      refine r_getR hx hb hts hown hg hC fb_9_4 k1 mk_f_RX11_23 dX11_nextLikeness_16 ?_
      refine lv_iload hx hb dX11_nextLikeness_19 (lo_at hl 5 rfl) ?_
      obtain ⟨k3, hw⟩ := hw
      refine rf_2 k3.1 ?_
      refine r_aald (kd := 3) (t0 := 2) hx hb hg hC k3.2.1 (by decide) rfl k3.2.2 dX11_nextLikeness_21 ?_
      refine lo_astore (r := hpR h (ad (hpR h o 4)) (x5).toNatClampNeg) (lv' := [(6, va_rf (hpR h (ad (hpR h o 4)) (x5).toNatClampNeg)), (0, .ref o), (1, va_rf r1), (2, va_rf r2), (3, .int x3), (4, .int x4), (5, .int x5)]) hx hb dX11_nextLikeness_22 hl (by decide) rfl (fun ls hl => ?_)
      refine lo_aload (r := hpR h (ad (hpR h o 4)) (x5).toNatClampNeg) hx hb dX11_nextLikeness_24 (lo_at hl 0 rfl) ?_
      refine lo_ifnull (r := hpR h (ad (hpR h o 4)) (x5).toNatClampNeg) (tgt := 69) hx hb dX11_nextLikeness_26 (by decide) (fun c4 => ?_) (fun c4 => ?_)
      ·
        replace hw := (if_pos c4).mp hw
        obtain ⟨v5, ev5⟩ : ∃ y : Int32, y = x5 + (1 : Int32) := ⟨_, rfl⟩
        replace hw := hw v5 ev5
        refine lo_iinc (v := v5) (lv' := [(5, .int v5), (6, va_rf (hpR h (ad (hpR h o 4)) (x5).toNatClampNeg)), (0, .ref o), (1, va_rf r1), (2, va_rf r2), (3, .int x3), (4, .int x4)]) hx hb dX11_nextLikeness_69 hl (k := 6) rfl (by rw [ev5]; rfl) (by decide) rfl (fun ls hl => ?_)
        refine lv_goto (tgt := 6) hx hb dX11_nextLikeness_72 (by decide) ?_
        exact ih x4 v5 h H locs ls hC (lo_sub hl [2, 3, 4, 5, 6, 0] rfl) hw
      ·
        replace hw := (if_neg c4).mp hw
        refine lv_iload hx hb dX11_nextLikeness_29 (lo_at hl 6 rfl) ?_
        refine lo_aload_n (r := r2) hx hb dX11_nextLikeness_31 rfl (lo_at hl 3 rfl) ?_
        obtain ⟨k6, hw⟩ := hw
        refine rf_1 k6.1 ?_
        refine r_getI hx hb hts hown hg hC fb_0_0 k6.2 mk_f_RX11_134 dX11_nextLikeness_32 ?_
        refine lv_icmp_eq (tgt := 69) hx hb dX11_nextLikeness_35 (by decide) (fun c7 => ?_) (fun c7 => ?_)
        ·
          replace hw := (if_pos c7).mp hw
          obtain ⟨v8, ev8⟩ : ∃ y : Int32, y = x5 + (1 : Int32) := ⟨_, rfl⟩
          replace hw := hw v8 ev8
          refine lo_iinc (v := v8) (lv' := [(5, .int v8), (6, va_rf (hpR h (ad (hpR h o 4)) (x5).toNatClampNeg)), (0, .ref o), (1, va_rf r1), (2, va_rf r2), (3, .int x3), (4, .int x4)]) hx hb dX11_nextLikeness_69 hl (k := 6) rfl (by rw [ev8]; rfl) (by decide) rfl (fun ls hl => ?_)
          refine lv_goto (tgt := 6) hx hb dX11_nextLikeness_72 (by decide) ?_
          exact ih x4 v8 h H locs ls hC (lo_sub hl [2, 3, 4, 5, 6, 0] rfl) hw
        ·
          replace hw := (if_neg c7).mp hw
          refine lo_aload_n (r := r1) hx hb dX11_nextLikeness_38 rfl (lo_at hl 2 rfl) ?_
          refine lo_aload_n (r := r2) hx hb dX11_nextLikeness_39 rfl (lo_at hl 3 rfl) ?_
          refine lo_aload (r := hpR h (ad (hpR h o 4)) (x5).toNatClampNeg) hx hb dX11_nextLikeness_40 (lo_at hl 0 rfl) ?_
          obtain ⟨k9, hw⟩ := hw
          refine rf_3 k9.1 ?_
          refine res_i hC (run_V (As := [va_rf r2, va_rf (hpR h (ad (hpR h o 4)) (x5).toNatClampNeg)]) (rest := []) hM hC hl.1.1 kv_RX11_199 (c_X3_measured l G base (ad r1) r2 (hpR h (ad (hpR h o 4)) (x5).toNatClampNeg) h _ hw) (hc_2) k9.2 rfl rfl rfl ⟨Nat.le_of_ble_eq_true rfl, Nat.le_of_ble_eq_true rfl⟩ (Nat.le_of_ble_eq_true rfl) ⟨Nat.le_of_ble_eq_true rfl, Nat.le_of_ble_eq_true rfl⟩ dX11_nextLikeness_42) (fun z11 h10 H locs hw hC => ?_)
          refine lv_iload hx hb dX11_nextLikeness_45 (lo_at hl 6 rfl) ?_
          refine res_i hC (run_S (As := [.int z11, .int x5]) (rest := []) hM hC hl.1.1 kv_RX11_314 (c_X2_likeness l G base z11 x5 h10 _ hw) rfl rfl rfl ⟨Nat.le_of_ble_eq_true rfl, Nat.le_of_ble_eq_true rfl⟩ (Nat.le_of_ble_eq_true rfl) ⟨Nat.le_of_ble_eq_true rfl, Nat.le_of_ble_eq_true rfl⟩ dX11_nextLikeness_47) (fun z13 h12 H locs hw hC => ?_)
          refine lo_istore (lv' := [(7, .int z13), (6, va_rf (hpR h (ad (hpR h o 4)) (x5).toNatClampNeg)), (0, .ref o), (1, va_rf r1), (2, va_rf r2), (3, .int x3), (4, .int x4), (5, .int x5)]) hx hb dX11_nextLikeness_50 hl (by decide) rfl (fun ls hl => ?_)
          refine lv_iload hx hb dX11_nextLikeness_52 (lo_at hl 0 rfl) ?_
          refine lv_iload_n hx hb dX11_nextLikeness_54 rfl (lo_at hl 5 rfl) ?_
          refine lv_icmp_ge (tgt := 69) hx hb dX11_nextLikeness_55 (by decide) (fun c14 => ?_) (fun c14 => ?_)
          ·
            replace hw := (if_pos c14).mp hw
            obtain ⟨v15, ev15⟩ : ∃ y : Int32, y = x5 + (1 : Int32) := ⟨_, rfl⟩
            replace hw := hw v15 ev15
            refine lo_iinc (v := v15) (lv' := [(5, .int v15), (7, .int z13), (6, va_rf (hpR h (ad (hpR h o 4)) (x5).toNatClampNeg)), (0, .ref o), (1, va_rf r1), (2, va_rf r2), (3, .int x3), (4, .int x4)]) hx hb dX11_nextLikeness_69 hl (k := 7) rfl (by rw [ev15]; rfl) (by decide) rfl (fun ls hl => ?_)
            refine lv_goto (tgt := 6) hx hb dX11_nextLikeness_72 (by decide) ?_
            exact ih x4 v15 h12 H locs ls hC (lo_sub hl [3, 4, 5, 6, 7, 0] rfl) hw
          ·
            replace hw := (if_neg c14).mp hw
            refine lv_iload hx hb dX11_nextLikeness_58 (lo_at hl 0 rfl) ?_
            refine lv_iload hx hb dX11_nextLikeness_60 (lo_at hl 6 rfl) ?_
            refine lv_icmp_le (tgt := 69) hx hb dX11_nextLikeness_62 (by decide) (fun c16 => ?_) (fun c16 => ?_)
            ·
              replace hw := (if_pos c16).mp hw
              obtain ⟨v17, ev17⟩ : ∃ y : Int32, y = x5 + (1 : Int32) := ⟨_, rfl⟩
              replace hw := hw v17 ev17
              refine lo_iinc (v := v17) (lv' := [(5, .int v17), (7, .int z13), (6, va_rf (hpR h (ad (hpR h o 4)) (x5).toNatClampNeg)), (0, .ref o), (1, va_rf r1), (2, va_rf r2), (3, .int x3), (4, .int x4)]) hx hb dX11_nextLikeness_69 hl (k := 7) rfl (by rw [ev17]; rfl) (by decide) rfl (fun ls hl => ?_)
              refine lv_goto (tgt := 6) hx hb dX11_nextLikeness_72 (by decide) ?_
              exact ih x4 v17 h12 H locs ls hC (lo_sub hl [3, 4, 5, 6, 7, 0] rfl) hw
            ·
              replace hw := (if_neg c16).mp hw
              refine lv_iload hx hb dX11_nextLikeness_65 (lo_at hl 0 rfl) ?_
              refine lo_istore (lv' := [(4, .int z13), (7, .int z13), (6, va_rf (hpR h (ad (hpR h o 4)) (x5).toNatClampNeg)), (0, .ref o), (1, va_rf r1), (2, va_rf r2), (3, .int x3), (5, .int x5)]) hx hb dX11_nextLikeness_67 hl (by decide) rfl (fun ls hl => ?_)
              obtain ⟨v18, ev18⟩ : ∃ y : Int32, y = x5 + (1 : Int32) := ⟨_, rfl⟩
              replace hw := hw v18 ev18
              refine lo_iinc (v := v18) (lv' := [(5, .int v18), (4, .int z13), (7, .int z13), (6, va_rf (hpR h (ad (hpR h o 4)) (x5).toNatClampNeg)), (0, .ref o), (1, va_rf r1), (2, va_rf r2), (3, .int x3)]) hx hb dX11_nextLikeness_69 hl (k := 7) rfl (by rw [ev18]; rfl) (by decide) rfl (fun ls hl => ?_)
              refine lv_goto (tgt := 6) hx hb dX11_nextLikeness_72 (by decide) ?_
              exact ih z13 v18 h12 H locs ls hC (lo_sub hl [4, 5, 6, 7, 1, 0] rfl) hw
set_option maxHeartbeats 4000000 in
set_option maxRecDepth 100000 in
theorem c_X11_nextLikeness (l : Launch) (G : GG) (base : Nat) (o : Nat) (r1 : Option Nat) (r2 : Option Nat) (x3 : Int32) (h : Hp) (Q : Int32 → Hp → Prop) (hw : wp_X11_nextLikeness o r1 r2 x3 h Q) : Met l yX11_nextLikeness (ww yX11_nextLikeness cX11_nextLikeness 8 (some .int)) rm_X11_nextLikeness (va_Pc [.ref o, va_rf r1, va_rf r2, .int x3] (PU G base h)) (va_Qi Q (PU G base) (fun q => base ≤ q)) 0 0 (fun q => base ≤ q) := by
  refine met_of (own := RX11) (nm := "nextLikeness") (by decide) rfl rfl (List.forall_mem_cons.mpr ⟨rfl, (List.forall_mem_cons.mpr ⟨va_rf_cat _, (List.forall_mem_cons.mpr ⟨va_rf_cat _, (List.forall_mem_cons.mpr ⟨rfl, (fun _ h => absurd h List.not_mem_nil)⟩)⟩)⟩)⟩) (Nat.le_of_ble_eq_true rfl) rfl ?_
  intro p e s m below meth c ls hM hC hl
  obtain ⟨hx, hb, hr, hml, hown, hts, hg, hs, hlk, hnm⟩ := id hM
  obtain ⟨args, hargs⟩ : ∃ a : Array Value, a = ([.ref o, va_rf r1, va_rf r2, .int x3] : List Value).toArray := ⟨_, rfl⟩
  rw [← hargs] at hM hts ⊢
  obtain ⟨H, hH⟩ : ∃ H : Heap, H = s.heap := ⟨_, rfl⟩
  obtain ⟨locs, hlocs⟩ : ∃ x : List Loc, x = [] := ⟨_, rfl⟩
  have hC : Cx G base h s.heap H locs := by rw [hH, hlocs]; exact hC
  show W p l e rm_X11_nextLikeness s m args below meth c s.heap [] 0 0 (MQ below (va_Qi Q (PU G base) (fun q => base ≤ q)) args s 0 0 (fun q => base ≤ q)) (F0 m 0 ls [])
  rw [← hlocs]
  have hgoal : W p l e rm_X11_nextLikeness s m args below meth c H locs 0 0 (MQ below (va_Qi Q (PU G base) (fun q => base ≤ q)) args s 0 0 (fun q => base ≤ q)) (F0 m 0 ls []) := ?_
  · rw [hH] at hgoal; exact hgoal
  clear hH hlocs
  unfold wp_X11_nextLikeness at hw
  refine lv_iconst (v := -1) hx hb dX11_nextLikeness_0 (by decide) ?_
  refine lo_istore (lv' := [(4, .int ((-1 : Int32))), (0, .ref o), (1, va_rf r1), (2, va_rf r2), (3, .int x3)]) hx hb dX11_nextLikeness_1 hl (by decide) rfl (fun ls hl => ?_)
  refine lv_iconst (v := 0) hx hb dX11_nextLikeness_3 (by decide) ?_
  refine lo_istore (lv' := [(5, .int ((0 : Int32))), (4, .int ((-1 : Int32))), (0, .ref o), (1, va_rf r1), (2, va_rf r2), (3, .int x3)]) hx hb dX11_nextLikeness_4 hl (by decide) rfl (fun ls hl => ?_)
  refine t_X11_nextLikeness_L6 hM o r1 r2 x3 _ Q ?_ fuel (-1 : Int32) (0 : Int32) h H locs ls hC (lo_sub hl [2, 3, 4, 5, 1, 0] rfl) hw
  intro y20 h19 H locs ls hC hl hw
  refine lv_iload hx hb dX11_nextLikeness_75 (lo_at hl 0 rfl) ?_
  exact ret_i hM hC hw dX11_nextLikeness_77
abbrev rm_X11_cheapestRound : Room := { frames := 2, cells := 0, slots := 0, locals := 48 }
def wp_X11_cheapestRound_L4 (o : Nat) (x1 : Int32) (K47 : Int32 → Hp → Prop) (Q : Int32 → Hp → Prop) : Nat → Int32 → Int32 → Hp → Prop
  | 0, _, _, _ => False
  | n + 1, x2, x3, h => ((hpK h o).1 = 20 + 9) ∧ ((if ((1 : Int32) <<< ((hpI h o 10) &&& 31)) ≤ x3 then (K47 x2 h) else (wp_X11_misledBy o x3 h (fun (z4 : Int32) (h3 : Hp) => (if (z4 &&& x1) = x1 then ((if x2 = (-1 : Int32) then (∀ v8 : Int32, v8 = x3 + (1 : Int32) → (wp_X11_cheapestRound_L4 o x1 K47 Q n x3 v8 h3)) else (((hpK h3 o).1 = 20 + 9) ∧ (wp_X11_isCheaper o x3 x2 h3 (fun (z11 : Int32) (h10 : Hp) => (if z11 = 0 then (∀ v13 : Int32, v13 = x3 + (1 : Int32) → (wp_X11_cheapestRound_L4 o x1 K47 Q n x2 v13 h10)) else (∀ v14 : Int32, v14 = x3 + (1 : Int32) → (wp_X11_cheapestRound_L4 o x1 K47 Q n x3 v14 h10)))))))) else (∀ v6 : Int32, v6 = x3 + (1 : Int32) → (wp_X11_cheapestRound_L4 o x1 K47 Q n x2 v6 h3)))))))
def wp_X11_cheapestRound (o : Nat) (x1 : Int32) (h : Hp) (Q : Int32 → Hp → Prop) : Prop := wp_X11_cheapestRound_L4 o x1 (fun (y16 : Int32) (h15 : Hp) => Q y16 h15) Q fuel (-1 : Int32) (1 : Int32) h
set_option maxHeartbeats 4000000 in
set_option maxRecDepth 100000 in
theorem t_X11_cheapestRound_L4 {p : Program} {l : Launch} {e : Env} {s : State} {m : MethodId} {args : Array Value} {below : List Frame} {meth : Method} {c : Code} {G : GG} {base : Nat} (hM : Mx G base p s m args meth c cX11_cheapestRound 4 (some .int) RX11 "cheapestRound") (o : Nat) (x1 : Int32) (K47 : Int32 → Hp → Prop) (Q : Int32 → Hp → Prop) (hK47 : ∀ (y2 : Int32) (h : Hp) (H : Heap) (locs : List Loc) (ls : Array Slot), Cx G base h s.heap H locs → lo_has ls 4 [(2, .int y2)] → K47 y2 h → W p l e rm_X11_cheapestRound s m args below meth c H locs 0 0 (MQ below (va_Qi Q (PU G base) (fun q => base ≤ q)) args s 0 0 (fun q => base ≤ q)) (F0 m 47 ls [])) : ∀ (n : Nat) (x2 : Int32) (x3 : Int32) (h : Hp) (H : Heap) (locs : List Loc) (ls : Array Slot), Cx G base h s.heap H locs → lo_has ls 4 [(0, .ref o), (1, .int x1), (2, .int x2), (3, .int x3)] → wp_X11_cheapestRound_L4 o x1 K47 Q n x2 x3 h → W p l e rm_X11_cheapestRound s m args below meth c H locs 0 0 (MQ below (va_Qi Q (PU G base) (fun q => base ≤ q)) args s 0 0 (fun q => base ≤ q)) (F0 m 4 ls []) := by
  intro n
  induction n with
  | zero =>
    intro x2 x3 h H locs ls hC hl hw
    rw [wp_X11_cheapestRound_L4] at hw
    exact hw.elim
  | succ n ih =>
    intro x2 x3 h H locs ls hC hl hw
    rw [wp_X11_cheapestRound_L4] at hw
    obtain ⟨hx, hb, hr, hml, hown, hts, hg, hs, hlk, hnm⟩ := id hM
    refine lv_iload_n hx hb dX11_cheapestRound_4 rfl (lo_at hl 3 rfl) ?_
    refine lv_iconst (v := 1) hx hb dX11_cheapestRound_5 (by decide) ?_
    refine lv_aload_n hx hb dX11_cheapestRound_6 rfl (lo_at hl 0 rfl) ?_
    obtain ⟨k1, hw⟩ := hw
    refine r_getI hx hb hts hown hg hC fb_9_10 k1 mk_f_RX11_258 dX11_cheapestRound_7 ?_
    refine lv_ishl hx hb dX11_cheapestRound_10 ?_
    refine lv_icmp_ge (tgt := 47) hx hb dX11_cheapestRound_11 (by decide) (fun c2 => ?_) (fun c2 => ?_)
    ·
      replace hw := (if_pos c2).mp hw
      exact hK47 x2 h H locs ls hC (lo_sub hl [2] rfl) hw
    ·
      replace hw := (if_neg c2).mp hw
      refine lv_aload_n hx hb dX11_cheapestRound_14 rfl (lo_at hl 0 rfl) ?_
      refine lv_iload_n hx hb dX11_cheapestRound_15 rfl (lo_at hl 3 rfl) ?_
      refine res_i hC (run_V (As := [.int x3]) (rest := []) hM hC hl.1.1 kv_RX11_321 (c_X11_misledBy l G base o x3 h _ hw) (hc_9) k1 rfl rfl rfl ⟨Nat.le_of_ble_eq_true rfl, Nat.le_of_ble_eq_true rfl⟩ (Nat.le_of_ble_eq_true rfl) ⟨Nat.le_of_ble_eq_true rfl, Nat.le_of_ble_eq_true rfl⟩ dX11_cheapestRound_16) (fun z4 h3 H locs hw hC => ?_)
      refine lv_iload_n hx hb dX11_cheapestRound_19 rfl (lo_at hl 1 rfl) ?_
      refine lv_iand hx hb dX11_cheapestRound_20 ?_
      refine lv_iload_n hx hb dX11_cheapestRound_21 rfl (lo_at hl 1 rfl) ?_
      refine lv_icmp_ne (tgt := 41) hx hb dX11_cheapestRound_22 (by decide) (fun c5 => ?_) (fun c5 => ?_)
      ·
        replace hw := (if_neg c5).mp hw
        obtain ⟨v6, ev6⟩ : ∃ y : Int32, y = x3 + (1 : Int32) := ⟨_, rfl⟩
        replace hw := hw v6 ev6
        refine lo_iinc (v := v6) (lv' := [(3, .int v6), (0, .ref o), (1, .int x1), (2, .int x2)]) hx hb dX11_cheapestRound_41 hl (k := 3) rfl (by rw [ev6]; rfl) (by decide) rfl (fun ls hl => ?_)
        refine lv_goto (tgt := 4) hx hb dX11_cheapestRound_44 (by decide) ?_
        exact ih x2 v6 h3 H locs ls hC (lo_sub hl [1, 2, 3, 0] rfl) hw
      ·
        replace hw := (if_pos c5).mp hw
        refine lv_iload_n hx hb dX11_cheapestRound_25 rfl (lo_at hl 2 rfl) ?_
        refine lv_iconst (v := -1) hx hb dX11_cheapestRound_26 (by decide) ?_
        refine lv_icmp_eq (tgt := 39) hx hb dX11_cheapestRound_27 (by decide) (fun c7 => ?_) (fun c7 => ?_)
        ·
          replace hw := (if_pos c7).mp hw
          refine lv_iload_n hx hb dX11_cheapestRound_39 rfl (lo_at hl 3 rfl) ?_
          refine lo_istore_n (lv' := [(2, .int x3), (0, .ref o), (1, .int x1), (3, .int x3)]) hx hb dX11_cheapestRound_40 rfl hl (by decide) rfl (fun ls hl => ?_)
          obtain ⟨v8, ev8⟩ : ∃ y : Int32, y = x3 + (1 : Int32) := ⟨_, rfl⟩
          replace hw := hw v8 ev8
          refine lo_iinc (v := v8) (lv' := [(3, .int v8), (2, .int x3), (0, .ref o), (1, .int x1)]) hx hb dX11_cheapestRound_41 hl (k := 3) rfl (by rw [ev8]; rfl) (by decide) rfl (fun ls hl => ?_)
          refine lv_goto (tgt := 4) hx hb dX11_cheapestRound_44 (by decide) ?_
          exact ih x3 v8 h3 H locs ls hC (lo_sub hl [2, 3, 1, 0] rfl) hw
        ·
          replace hw := (if_neg c7).mp hw
          refine lv_aload_n hx hb dX11_cheapestRound_30 rfl (lo_at hl 0 rfl) ?_
          refine lv_iload_n hx hb dX11_cheapestRound_31 rfl (lo_at hl 3 rfl) ?_
          refine lv_iload_n hx hb dX11_cheapestRound_32 rfl (lo_at hl 2 rfl) ?_
          obtain ⟨k9, hw⟩ := hw
          refine res_i hC (run_V (As := [.int x3, .int x2]) (rest := []) hM hC hl.1.1 kv_RX11_324 (c_X11_isCheaper l G base o x3 x2 h3 _ hw) (hc_9) k9 rfl rfl rfl ⟨Nat.le_of_ble_eq_true rfl, Nat.le_of_ble_eq_true rfl⟩ (Nat.le_of_ble_eq_true rfl) ⟨Nat.le_of_ble_eq_true rfl, Nat.le_of_ble_eq_true rfl⟩ dX11_cheapestRound_33) (fun z11 h10 H locs hw hC => ?_)
          refine lv_if_eq (tgt := 41) hx hb dX11_cheapestRound_36 (by decide) (fun c12 => ?_) (fun c12 => ?_)
          ·
            replace hw := (if_pos c12).mp hw
            obtain ⟨v13, ev13⟩ : ∃ y : Int32, y = x3 + (1 : Int32) := ⟨_, rfl⟩
            replace hw := hw v13 ev13
            refine lo_iinc (v := v13) (lv' := [(3, .int v13), (0, .ref o), (1, .int x1), (2, .int x2)]) hx hb dX11_cheapestRound_41 hl (k := 3) rfl (by rw [ev13]; rfl) (by decide) rfl (fun ls hl => ?_)
            refine lv_goto (tgt := 4) hx hb dX11_cheapestRound_44 (by decide) ?_
            exact ih x2 v13 h10 H locs ls hC (lo_sub hl [1, 2, 3, 0] rfl) hw
          ·
            replace hw := (if_neg c12).mp hw
            refine lv_iload_n hx hb dX11_cheapestRound_39 rfl (lo_at hl 3 rfl) ?_
            refine lo_istore_n (lv' := [(2, .int x3), (0, .ref o), (1, .int x1), (3, .int x3)]) hx hb dX11_cheapestRound_40 rfl hl (by decide) rfl (fun ls hl => ?_)
            obtain ⟨v14, ev14⟩ : ∃ y : Int32, y = x3 + (1 : Int32) := ⟨_, rfl⟩
            replace hw := hw v14 ev14
            refine lo_iinc (v := v14) (lv' := [(3, .int v14), (2, .int x3), (0, .ref o), (1, .int x1)]) hx hb dX11_cheapestRound_41 hl (k := 3) rfl (by rw [ev14]; rfl) (by decide) rfl (fun ls hl => ?_)
            refine lv_goto (tgt := 4) hx hb dX11_cheapestRound_44 (by decide) ?_
            exact ih x3 v14 h10 H locs ls hC (lo_sub hl [2, 3, 1, 0] rfl) hw
set_option maxHeartbeats 4000000 in
set_option maxRecDepth 100000 in
theorem c_X11_cheapestRound (l : Launch) (G : GG) (base : Nat) (o : Nat) (x1 : Int32) (h : Hp) (Q : Int32 → Hp → Prop) (hw : wp_X11_cheapestRound o x1 h Q) : Met l yX11_cheapestRound (ww yX11_cheapestRound cX11_cheapestRound 4 (some .int)) rm_X11_cheapestRound (va_Pc [.ref o, .int x1] (PU G base h)) (va_Qi Q (PU G base) (fun q => base ≤ q)) 0 0 (fun q => base ≤ q) := by
  refine met_of (own := RX11) (nm := "cheapestRound") (by decide) rfl rfl (List.forall_mem_cons.mpr ⟨rfl, (List.forall_mem_cons.mpr ⟨rfl, (fun _ h => absurd h List.not_mem_nil)⟩)⟩) (Nat.le_of_ble_eq_true rfl) rfl ?_
  intro p e s m below meth c ls hM hC hl
  obtain ⟨hx, hb, hr, hml, hown, hts, hg, hs, hlk, hnm⟩ := id hM
  obtain ⟨args, hargs⟩ : ∃ a : Array Value, a = ([.ref o, .int x1] : List Value).toArray := ⟨_, rfl⟩
  rw [← hargs] at hM hts ⊢
  obtain ⟨H, hH⟩ : ∃ H : Heap, H = s.heap := ⟨_, rfl⟩
  obtain ⟨locs, hlocs⟩ : ∃ x : List Loc, x = [] := ⟨_, rfl⟩
  have hC : Cx G base h s.heap H locs := by rw [hH, hlocs]; exact hC
  show W p l e rm_X11_cheapestRound s m args below meth c s.heap [] 0 0 (MQ below (va_Qi Q (PU G base) (fun q => base ≤ q)) args s 0 0 (fun q => base ≤ q)) (F0 m 0 ls [])
  rw [← hlocs]
  have hgoal : W p l e rm_X11_cheapestRound s m args below meth c H locs 0 0 (MQ below (va_Qi Q (PU G base) (fun q => base ≤ q)) args s 0 0 (fun q => base ≤ q)) (F0 m 0 ls []) := ?_
  · rw [hH] at hgoal; exact hgoal
  clear hH hlocs
  unfold wp_X11_cheapestRound at hw
  refine lv_iconst (v := -1) hx hb dX11_cheapestRound_0 (by decide) ?_
  refine lo_istore_n (lv' := [(2, .int ((-1 : Int32))), (0, .ref o), (1, .int x1)]) hx hb dX11_cheapestRound_1 rfl hl (by decide) rfl (fun ls hl => ?_)
  refine lv_iconst (v := 1) hx hb dX11_cheapestRound_2 (by decide) ?_
  refine lo_istore_n (lv' := [(3, .int ((1 : Int32))), (2, .int ((-1 : Int32))), (0, .ref o), (1, .int x1)]) hx hb dX11_cheapestRound_3 rfl hl (by decide) rfl (fun ls hl => ?_)
  refine t_X11_cheapestRound_L4 hM o x1 _ Q ?_ fuel (-1 : Int32) (1 : Int32) h H locs ls hC (lo_sub hl [2, 3, 1, 0] rfl) hw
  intro y16 h15 H locs ls hC hl hw
  refine lv_iload_n hx hb dX11_cheapestRound_47 rfl (lo_at hl 0 rfl) ?_
  exact ret_i hM hC hw dX11_cheapestRound_48
abbrev rm_J0_charAt_5068e : Room := { frames := 3, cells := 0, slots := 0, locals := 64 }
def wp_J0_charAt_5068e (o : Nat) (x1 : Int32) (h : Hp) (Q : Int32 → Hp → Prop) : Prop := (o < 2) ∧ (wp_J0_isLatin1_aae02 o h (fun (z3 : Int32) (h2 : Hp) => (if z3 = 0 then ((o < 2) ∧ (False)) else ((o < 2) ∧ (wp_J1_charAt_3b067 o x1 h2 (fun (z8 : Int32) (h7 : Hp) => narrow .char (.int z8) = .int z8 ∧ Q z8 h7))))))
set_option maxHeartbeats 4000000 in
set_option maxRecDepth 100000 in
theorem c_J0_charAt_5068e (l : Launch) (G : GG) (base : Nat) (o : Nat) (x1 : Int32) (h : Hp) (Q : Int32 → Hp → Prop) (hw : wp_J0_charAt_5068e o x1 h Q) : Met l yJ0_charAt_5068e (ww yJ0_charAt_5068e cJ0_charAt_5068e 2 (some .char)) rm_J0_charAt_5068e (va_Pc [.ref (G.2.2.1 o), .int x1] (PU G base h)) (va_Qi Q (PU G base) (fun q => base ≤ q)) 0 0 (fun q => base ≤ q) := by
  refine met_of (own := RJ0) (nm := "charAt") (by decide) rfl rfl (List.forall_mem_cons.mpr ⟨rfl, (List.forall_mem_cons.mpr ⟨rfl, (fun _ h => absurd h List.not_mem_nil)⟩)⟩) (Nat.le_of_ble_eq_true rfl) rfl ?_
  intro p e s m below meth c ls hM hC hl
  obtain ⟨hx, hb, hr, hml, hown, hts, hg, hs, hlk, hnm⟩ := id hM
  obtain ⟨args, hargs⟩ : ∃ a : Array Value, a = ([.ref (G.2.2.1 o), .int x1] : List Value).toArray := ⟨_, rfl⟩
  rw [← hargs] at hM hts ⊢
  obtain ⟨H, hH⟩ : ∃ H : Heap, H = s.heap := ⟨_, rfl⟩
  obtain ⟨locs, hlocs⟩ : ∃ x : List Loc, x = [] := ⟨_, rfl⟩
  have hC : Cx G base h s.heap H locs := by rw [hH, hlocs]; exact hC
  show W p l e rm_J0_charAt_5068e s m args below meth c s.heap [] 0 0 (MQ below (va_Qi Q (PU G base) (fun q => base ≤ q)) args s 0 0 (fun q => base ≤ q)) (F0 m 0 ls [])
  rw [← hlocs]
  have hgoal : W p l e rm_J0_charAt_5068e s m args below meth c H locs 0 0 (MQ below (va_Qi Q (PU G base) (fun q => base ≤ q)) args s 0 0 (fun q => base ≤ q)) (F0 m 0 ls []) := ?_
  · rw [hH] at hgoal; exact hgoal
  clear hH hlocs
  unfold wp_J0_charAt_5068e at hw
  refine lv_aload_n hx hb dJ0_charAt_5068e_0 rfl (lo_at hl 0 rfl) ?_
  obtain ⟨k1, hw⟩ := hw
  refine res_i hC (run_VS (As := []) (rest := []) hM hC hl.1.1 kv_RJ0_492 (c_J0_isLatin1_aae02 l G base o h _ hw) k1 rfl rfl rfl ⟨Nat.le_of_ble_eq_true rfl, Nat.le_of_ble_eq_true rfl⟩ (Nat.le_of_ble_eq_true rfl) ⟨Nat.le_of_ble_eq_true rfl, Nat.le_of_ble_eq_true rfl⟩ dJ0_charAt_5068e_1) (fun z3 h2 H locs hw hC => ?_)
  refine lv_if_eq (tgt := 16) hx hb dJ0_charAt_5068e_4 (by decide) (fun c4 => ?_) (fun c4 => ?_)
  ·
    replace hw := (if_pos c4).mp hw
    refine lv_aload_n hx hb dJ0_charAt_5068e_16 rfl (lo_at hl 0 rfl) ?_
    obtain ⟨k5, hw⟩ := hw
    refine vk_getf hx hb (hs.1.1.1 _ k5).2.2.1 hC.2.2 hown (hts _ mk_f_RJ0_9) (fun _ h => h) dJ0_charAt_5068e_17 ?_
    refine lv_iload_n hx hb dJ0_charAt_5068e_20 rfl (lo_at hl 1 rfl) ?_
    exact hw.elim
  ·
    replace hw := (if_neg c4).mp hw
    refine lv_aload_n hx hb dJ0_charAt_5068e_7 rfl (lo_at hl 0 rfl) ?_
    obtain ⟨k6, hw⟩ := hw
    refine vk_getf hx hb (hs.1.1.1 _ k6).2.2.1 hC.2.2 hown (hts _ mk_f_RJ0_9) (fun _ h => h) dJ0_charAt_5068e_8 ?_
    refine lv_iload_n hx hb dJ0_charAt_5068e_11 rfl (lo_at hl 1 rfl) ?_
    refine res_i hC (run_S (As := [.ref (G.2.2.2 o), .int x1]) (rest := []) hM hC hl.1.1 kv_RJ0_495 (c_J1_charAt_3b067 l G base o x1 h2 _ hw) rfl rfl rfl ⟨Nat.le_of_ble_eq_true rfl, Nat.le_of_ble_eq_true rfl⟩ (Nat.le_of_ble_eq_true rfl) ⟨Nat.le_of_ble_eq_true rfl, Nat.le_of_ble_eq_true rfl⟩ dJ0_charAt_5068e_12) (fun z8 h7 H locs hw hC => ?_)
    exact ret_t hM hC hw.1 hw.2 dJ0_charAt_5068e_15
abbrev rm_J0_indexOf_7cf53 : Room := { frames := 2, cells := 0, slots := 0, locals := 63 }
def wp_J0_indexOf_7cf53 (o : Nat) (x1 : Int32) (x2 : Int32) (h : Hp) (Q : Int32 → Hp → Prop) : Prop := (o < 2) ∧ (wp_J0_isLatin1_aae02 o h (fun (z3 : Int32) (h2 : Hp) => (if z3 = 0 then ((o < 2) ∧ (wp_J0_length_8abf5 o h2 (fun (z7 : Int32) (h6 : Hp) => False))) else ((o < 2) ∧ (wp_J0_length_8abf5 o h2 (fun (z10 : Int32) (h9 : Hp) => wp_J1_indexOf_4cfef o x1 x2 z10 h9 (fun (z12 : Int32) (h11 : Hp) => Q z12 h11)))))))
set_option maxHeartbeats 4000000 in
set_option maxRecDepth 100000 in
theorem c_J0_indexOf_7cf53 (l : Launch) (G : GG) (base : Nat) (o : Nat) (x1 : Int32) (x2 : Int32) (h : Hp) (Q : Int32 → Hp → Prop) (hw : wp_J0_indexOf_7cf53 o x1 x2 h Q) : Met l yJ0_indexOf_7cf53 (ww yJ0_indexOf_7cf53 cJ0_indexOf_7cf53 3 (some .int)) rm_J0_indexOf_7cf53 (va_Pc [.ref (G.2.2.1 o), .int x1, .int x2] (PU G base h)) (va_Qi Q (PU G base) (fun q => base ≤ q)) 0 0 (fun q => base ≤ q) := by
  refine met_of (own := RJ0) (nm := "indexOf") (by decide) rfl rfl (List.forall_mem_cons.mpr ⟨rfl, (List.forall_mem_cons.mpr ⟨rfl, (List.forall_mem_cons.mpr ⟨rfl, (fun _ h => absurd h List.not_mem_nil)⟩)⟩)⟩) (Nat.le_of_ble_eq_true rfl) rfl ?_
  intro p e s m below meth c ls hM hC hl
  obtain ⟨hx, hb, hr, hml, hown, hts, hg, hs, hlk, hnm⟩ := id hM
  obtain ⟨args, hargs⟩ : ∃ a : Array Value, a = ([.ref (G.2.2.1 o), .int x1, .int x2] : List Value).toArray := ⟨_, rfl⟩
  rw [← hargs] at hM hts ⊢
  obtain ⟨H, hH⟩ : ∃ H : Heap, H = s.heap := ⟨_, rfl⟩
  obtain ⟨locs, hlocs⟩ : ∃ x : List Loc, x = [] := ⟨_, rfl⟩
  have hC : Cx G base h s.heap H locs := by rw [hH, hlocs]; exact hC
  show W p l e rm_J0_indexOf_7cf53 s m args below meth c s.heap [] 0 0 (MQ below (va_Qi Q (PU G base) (fun q => base ≤ q)) args s 0 0 (fun q => base ≤ q)) (F0 m 0 ls [])
  rw [← hlocs]
  have hgoal : W p l e rm_J0_indexOf_7cf53 s m args below meth c H locs 0 0 (MQ below (va_Qi Q (PU G base) (fun q => base ≤ q)) args s 0 0 (fun q => base ≤ q)) (F0 m 0 ls []) := ?_
  · rw [hH] at hgoal; exact hgoal
  clear hH hlocs
  unfold wp_J0_indexOf_7cf53 at hw
  refine lv_aload_n hx hb dJ0_indexOf_7cf53_0 rfl (lo_at hl 0 rfl) ?_
  obtain ⟨k1, hw⟩ := hw
  refine res_i hC (run_VS (As := []) (rest := []) hM hC hl.1.1 kv_RJ0_492 (c_J0_isLatin1_aae02 l G base o h _ hw) k1 rfl rfl rfl ⟨Nat.le_of_ble_eq_true rfl, Nat.le_of_ble_eq_true rfl⟩ (Nat.le_of_ble_eq_true rfl) ⟨Nat.le_of_ble_eq_true rfl, Nat.le_of_ble_eq_true rfl⟩ dJ0_indexOf_7cf53_1) (fun z3 h2 H locs hw hC => ?_)
  refine lv_if_eq (tgt := 23) hx hb dJ0_indexOf_7cf53_4 (by decide) (fun c4 => ?_) (fun c4 => ?_)
  ·
    replace hw := (if_pos c4).mp hw
    refine lv_aload_n hx hb dJ0_indexOf_7cf53_23 rfl (lo_at hl 0 rfl) ?_
    obtain ⟨k5, hw⟩ := hw
    refine vk_getf hx hb (hs.1.1.1 _ k5).2.2.1 hC.2.2 hown (hts _ mk_f_RJ0_9) (fun _ h => h) dJ0_indexOf_7cf53_24 ?_
    refine lv_iload_n hx hb dJ0_indexOf_7cf53_27 rfl (lo_at hl 1 rfl) ?_
    refine lv_iload_n hx hb dJ0_indexOf_7cf53_28 rfl (lo_at hl 2 rfl) ?_
    refine lv_aload_n hx hb dJ0_indexOf_7cf53_29 rfl (lo_at hl 0 rfl) ?_
    refine res_i hC (run_VS (As := []) (rest := [.int x2, .int x1, .ref (G.2.2.2 o)]) hM hC hl.1.1 kv_RJ0_505 (c_J0_length_8abf5 l G base o h2 _ hw) k5 rfl rfl rfl ⟨Nat.le_of_ble_eq_true rfl, Nat.le_of_ble_eq_true rfl⟩ (Nat.le_of_ble_eq_true rfl) ⟨Nat.le_of_ble_eq_true rfl, Nat.le_of_ble_eq_true rfl⟩ dJ0_indexOf_7cf53_30) (fun z7 h6 H locs hw hC => ?_)
    exact hw.elim
  ·
    replace hw := (if_neg c4).mp hw
    refine lv_aload_n hx hb dJ0_indexOf_7cf53_7 rfl (lo_at hl 0 rfl) ?_
    obtain ⟨k8, hw⟩ := hw
    refine vk_getf hx hb (hs.1.1.1 _ k8).2.2.1 hC.2.2 hown (hts _ mk_f_RJ0_9) (fun _ h => h) dJ0_indexOf_7cf53_8 ?_
    refine lv_iload_n hx hb dJ0_indexOf_7cf53_11 rfl (lo_at hl 1 rfl) ?_
    refine lv_iload_n hx hb dJ0_indexOf_7cf53_12 rfl (lo_at hl 2 rfl) ?_
    refine lv_aload_n hx hb dJ0_indexOf_7cf53_13 rfl (lo_at hl 0 rfl) ?_
    refine res_i hC (run_VS (As := []) (rest := [.int x2, .int x1, .ref (G.2.2.2 o)]) hM hC hl.1.1 kv_RJ0_505 (c_J0_length_8abf5 l G base o h2 _ hw) k8 rfl rfl rfl ⟨Nat.le_of_ble_eq_true rfl, Nat.le_of_ble_eq_true rfl⟩ (Nat.le_of_ble_eq_true rfl) ⟨Nat.le_of_ble_eq_true rfl, Nat.le_of_ble_eq_true rfl⟩ dJ0_indexOf_7cf53_14) (fun z10 h9 H locs hw hC => ?_)
    refine res_i hC (run_S (As := [.ref (G.2.2.2 o), .int x1, .int x2, .int z10]) (rest := []) hM hC hl.1.1 kv_RJ0_637 (c_J1_indexOf_4cfef l G base o x1 x2 z10 h9 _ hw) rfl rfl rfl ⟨Nat.le_of_ble_eq_true rfl, Nat.le_of_ble_eq_true rfl⟩ (Nat.le_of_ble_eq_true rfl) ⟨Nat.le_of_ble_eq_true rfl, Nat.le_of_ble_eq_true rfl⟩ dJ0_indexOf_7cf53_17) (fun z12 h11 H locs hw hC => ?_)
    refine lv_goto (tgt := 36) hx hb dJ0_indexOf_7cf53_20 (by decide) ?_
    exact ret_i hM hC hw dJ0_indexOf_7cf53_36
abbrev rm_X3_judge : Room := { frames := 4, cells := 0, slots := 0, locals := 116 }
def wp_X3_judge_L114 (o : Nat) (r4 : Option Nat) (K143 : Int32 → Hp → Prop) (K171 : Hp → Prop) (Q : Int32 → Hp → Prop) : Nat → Int32 → Hp → Prop
  | 0, _, _ => False
  | n + 1, x6, h => ((hpK h o).1 = 20 + 2) ∧ (okO h (hpR h o 1) 5 ∧ ((if (hpI h (ad (hpR h o 1)) 7) ≤ x6 then (K171 h) else (okO h r4 8 ∧ (wp_X7_isSo (ad (hpR h o 1)) x6 (hpR h (ad r4) 0) h (fun (z43 : Int32) (h42 : Hp) => (if z43 = 0 then (∀ v45 : Int32, v45 = x6 + (1 : Int32) → (wp_X3_judge_L114 o r4 K143 K171 Q n v45 h42)) else (K143 x6 h42))))))))
def wp_X3_judge_J76 (o : Nat) (r1 : Option Nat) (r2 : Option Nat) (x3 : Int32) (r4 : Option Nat) (s0 : Int32) (s1 : Int32) (s2 : Option Nat) (Q : Int32 → Hp → Prop) (h : Hp) : Prop := okA h s2 1 s1 ∧ (∀ h24 : Hp, h24 = stI h (ad s2) (s1).toNatClampNeg s0 → (okO h24 r4 8 ∧ (okO h24 r1 0 ∧ (wp_X0_missing (ad r1) h24 (fun (z28 : Int32) (h27 : Hp) => okO h27 r2 0 ∧ (wp_X0_missing (ad r2) h27 (fun (z31 : Int32) (h30 : Hp) => okA h30 (hpR h24 (ad r4) 0) 1 (12 : Int32) ∧ (∀ h33 : Hp, h33 = stI h30 (ad (hpR h24 (ad r4) 0)) ((12 : Int32)).toNatClampNeg (z28 + z31) → (okO h33 r4 8 ∧ ((if x3 = 0 then (okA h33 (hpR h33 (ad r4) 0) 1 (13 : Int32) ∧ (∀ h37 : Hp, h37 = stI h33 (ad (hpR h33 (ad r4) 0)) ((13 : Int32)).toNatClampNeg (0 : Int32) → (wp_X3_judge_L114 o r4 (fun (y47 : Int32) (h46 : Hp) => ((hpK h46 o).1 = 20 + 2) ∧ (okO h46 (hpR h46 o 1) 5 ∧ (okA h46 (hpR h46 (ad (hpR h46 o 1)) 0) 1 y47 ∧ (∀ v51 : Int32, v51 = hpI h46 (ad (hpR h46 (ad (hpR h46 o 1)) 0)) (y47).toNatClampNeg → ((if v51 = (263 : Int32) then (Q (1 : Int32) h46) else (Q (0 : Int32) h46))))))) (fun (h53 : Hp) => Q (2 : Int32) h53) Q fuel (0 : Int32) h37))) else (okA h33 (hpR h33 (ad r4) 0) 1 (13 : Int32) ∧ (∀ h55 : Hp, h55 = stI h33 (ad (hpR h33 (ad r4) 0)) ((13 : Int32)).toNatClampNeg (1 : Int32) → (wp_X3_judge_L114 o r4 (fun (y57 : Int32) (h56 : Hp) => ((hpK h56 o).1 = 20 + 2) ∧ (okO h56 (hpR h56 o 1) 5 ∧ (okA h56 (hpR h56 (ad (hpR h56 o 1)) 0) 1 y57 ∧ (∀ v61 : Int32, v61 = hpI h56 (ad (hpR h56 (ad (hpR h56 o 1)) 0)) (y57).toNatClampNeg → ((if v61 = (263 : Int32) then (Q (1 : Int32) h56) else (Q (0 : Int32) h56))))))) (fun (h63 : Hp) => Q (2 : Int32) h63) Q fuel (0 : Int32) h55))))))))))))))
def wp_X3_judge (o : Nat) (r1 : Option Nat) (r2 : Option Nat) (x3 : Int32) (r4 : Option Nat) (h : Hp) (Q : Int32 → Hp → Prop) : Prop := ((hpK h o).1 = 20 + 2) ∧ (wp_X3_measured o r1 r2 h (fun (z3 : Int32) (h2 : Hp) => okO h2 r4 8 ∧ (wp_X2_many z3 h2 (fun (z6 : Int32) (h5 : Hp) => okA h5 (hpR h2 (ad r4) 0) 1 (8 : Int32) ∧ (∀ h8 : Hp, h8 = stI h5 (ad (hpR h2 (ad r4) 0)) ((8 : Int32)).toNatClampNeg z6 → (okO h8 r4 8 ∧ (wp_X2_longest z3 h8 (fun (z11 : Int32) (h10 : Hp) => okA h10 (hpR h8 (ad r4) 0) 1 (9 : Int32) ∧ (∀ h13 : Hp, h13 = stI h10 (ad (hpR h8 (ad r4) 0)) ((9 : Int32)).toNatClampNeg z11 → (okO h13 r4 8 ∧ (wp_X2_slide z3 h13 (fun (z16 : Int32) (h15 : Hp) => okA h15 (hpR h13 (ad r4) 0) 1 (10 : Int32) ∧ (∀ h18 : Hp, h18 = stI h15 (ad (hpR h13 (ad r4) 0)) ((10 : Int32)).toNatClampNeg z16 → (okO h18 r4 8 ∧ (((hpK h18 o).1 = 20 + 2) ∧ (okO h18 (hpR h18 o 1) 5 ∧ ((if (hpI h18 (ad (hpR h18 o 1)) 8) = 0 then (wp_X3_judge_J76 o r1 r2 x3 r4 (0 : Int32) (11 : Int32) (hpR h18 (ad r4) 0) Q h18) else (wp_X3_piecesOf o r1 r2 r4 h18 (fun (z65 : Int32) (h64 : Hp) => wp_X3_judge_J76 o r1 r2 x3 r4 z65 (11 : Int32) (hpR h18 (ad r4) 0) Q h64))))))))))))))))))))
set_option maxHeartbeats 4000000 in
set_option maxRecDepth 100000 in
theorem t_X3_judge_L114 {p : Program} {l : Launch} {e : Env} {s : State} {m : MethodId} {args : Array Value} {below : List Frame} {meth : Method} {c : Code} {G : GG} {base : Nat} (hM : Mx G base p s m args meth c cX3_judge 7 (some .int) RX3 "judge") (o : Nat) (r4 : Option Nat) (K143 : Int32 → Hp → Prop) (K171 : Hp → Prop) (Q : Int32 → Hp → Prop) (hK143 : ∀ (y6 : Int32) (h : Hp) (H : Heap) (locs : List Loc) (ls : Array Slot), Cx G base h s.heap H locs → lo_has ls 7 [(0, .ref o), (6, .int y6)] → K143 y6 h → W p l e rm_X3_judge s m args below meth c H locs 0 0 (MQ below (va_Qi Q (PU G base) (fun q => base ≤ q)) args s 0 0 (fun q => base ≤ q)) (F0 m 143 ls [])) (hK171 : ∀ (h : Hp) (H : Heap) (locs : List Loc) (ls : Array Slot), Cx G base h s.heap H locs → lo_has ls 7 [] → K171 h → W p l e rm_X3_judge s m args below meth c H locs 0 0 (MQ below (va_Qi Q (PU G base) (fun q => base ≤ q)) args s 0 0 (fun q => base ≤ q)) (F0 m 171 ls [])) : ∀ (n : Nat) (x6 : Int32) (h : Hp) (H : Heap) (locs : List Loc) (ls : Array Slot), Cx G base h s.heap H locs → lo_has ls 7 [(0, .ref o), (4, va_rf r4), (6, .int x6)] → wp_X3_judge_L114 o r4 K143 K171 Q n x6 h → W p l e rm_X3_judge s m args below meth c H locs 0 0 (MQ below (va_Qi Q (PU G base) (fun q => base ≤ q)) args s 0 0 (fun q => base ≤ q)) (F0 m 114 ls []) := by
  intro n
  induction n with
  | zero =>
    intro x6 h H locs ls hC hl hw
    rw [wp_X3_judge_L114] at hw
    exact hw.elim
  | succ n ih =>
    intro x6 h H locs ls hC hl hw
    rw [wp_X3_judge_L114] at hw
    obtain ⟨hx, hb, hr, hml, hown, hts, hg, hs, hlk, hnm⟩ := id hM
    refine lv_iload hx hb dX3_judge_114 (lo_at hl 2 rfl) ?_
    refine lv_aload_n hx hb dX3_judge_116 rfl (lo_at hl 0 rfl) ?_
    obtain ⟨k38, hw⟩ := hw
    refine r_getR hx hb hts hown hg hC fb_2_1 k38 mk_f_RX3_12 dX3_judge_117 ?_
    obtain ⟨k39, hw⟩ := hw
    refine rf_1 k39.1 ?_
    refine r_getI hx hb hts hown hg hC fb_5_7 k39.2 mk_f_RX3_88 dX3_judge_120 ?_
    refine lv_icmp_ge (tgt := 171) hx hb dX3_judge_123 (by decide) (fun c40 => ?_) (fun c40 => ?_)
    ·
      replace hw := (if_pos c40).mp hw
      exact hK171  h H locs ls hC (lo_sub hl [] rfl) hw
    ·
      replace hw := (if_neg c40).mp hw
      refine lv_aload_n hx hb dX3_judge_126 rfl (lo_at hl 0 rfl) ?_
      refine r_getR hx hb hts hown hg hC fb_2_1 k38 mk_f_RX3_12 dX3_judge_127 ?_
      refine lv_iload hx hb dX3_judge_130 (lo_at hl 2 rfl) ?_
      refine lo_aload (r := r4) hx hb dX3_judge_132 (lo_at hl 1 rfl) ?_
      obtain ⟨k41, hw⟩ := hw
      refine rf_1 k41.1 ?_
      refine r_getR hx hb hts hown hg hC fb_8_0 k41.2 mk_f_RX3_65 dX3_judge_134 ?_
      refine rf_3 k39.1 ?_
      refine res_i hC (run_V (As := [.int x6, va_rf (hpR h (ad r4) 0)]) (rest := []) hM hC hl.1.1 kv_RX3_91 (c_X7_isSo l G base (ad (hpR h o 1)) x6 (hpR h (ad r4) 0) h _ hw) (hc_5) k39.2 rfl rfl rfl ⟨Nat.le_of_ble_eq_true rfl, Nat.le_of_ble_eq_true rfl⟩ (Nat.le_of_ble_eq_true rfl) ⟨Nat.le_of_ble_eq_true rfl, Nat.le_of_ble_eq_true rfl⟩ dX3_judge_137) (fun z43 h42 H locs hw hC => ?_)
      refine lv_if_eq (tgt := 165) hx hb dX3_judge_140 (by decide) (fun c44 => ?_) (fun c44 => ?_)
      ·
        replace hw := (if_pos c44).mp hw
        obtain ⟨v45, ev45⟩ : ∃ y : Int32, y = x6 + (1 : Int32) := ⟨_, rfl⟩
        replace hw := hw v45 ev45
        refine lo_iinc (v := v45) (lv' := [(6, .int v45), (0, .ref o), (4, va_rf r4)]) hx hb dX3_judge_165 hl (k := 2) rfl (by rw [ev45]; rfl) (by decide) rfl (fun ls hl => ?_)
        refine lv_goto (tgt := 114) hx hb dX3_judge_168 (by decide) ?_
        exact ih v45 h42 H locs ls hC (lo_sub hl [1, 2, 0] rfl) hw
      ·
        replace hw := (if_neg c44).mp hw
        exact hK143 x6 h42 H locs ls hC (lo_sub hl [0, 2] rfl) hw
set_option maxHeartbeats 4000000 in
set_option maxRecDepth 100000 in
theorem t_X3_judge_J76 {p : Program} {l : Launch} {e : Env} {s : State} {m : MethodId} {args : Array Value} {below : List Frame} {meth : Method} {c : Code} {G : GG} {base : Nat} (hM : Mx G base p s m args meth c cX3_judge 7 (some .int) RX3 "judge") (o : Nat) (r1 : Option Nat) (r2 : Option Nat) (x3 : Int32) (r4 : Option Nat) (s0 : Int32) (s1 : Int32) (s2 : Option Nat) (Q : Int32 → Hp → Prop) (h : Hp) (H : Heap) (locs : List Loc) (ls : Array Slot) : Cx G base h s.heap H locs → lo_has ls 7 [(0, .ref o), (1, va_rf r1), (2, va_rf r2), (3, .int x3), (4, va_rf r4)] → wp_X3_judge_J76 o r1 r2 x3 r4 s0 s1 s2 Q h → W p l e rm_X3_judge s m args below meth c H locs 0 0 (MQ below (va_Qi Q (PU G base) (fun q => base ≤ q)) args s 0 0 (fun q => base ≤ q)) (F0 m 76 ls [.int s0, .int s1, va_rf s2]) := by
  intro hC hl hw
  unfold wp_X3_judge_J76 at hw
  obtain ⟨hx, hb, hr, hml, hown, hts, hg, hs, hlk, hnm⟩ := id hM
  obtain ⟨k23, hw⟩ := hw
  refine rf_3 k23.1 ?_
  refine r_iast hx hb hg hC k23.2.1 k23.2.2 dX3_judge_76 (fun h24 H locs eh24 hC => ?_)
  replace hw := hw h24 eh24
  refine lo_aload (r := r4) hx hb dX3_judge_77 (lo_at hl 4 rfl) ?_
  obtain ⟨k25, hw⟩ := hw
  refine rf_1 k25.1 ?_
  refine r_getR hx hb hts hown hg hC fb_8_0 k25.2 mk_f_RX3_65 dX3_judge_79 ?_
  refine lv_bipush (v := 12) hx hb dX3_judge_82 (by decide) ?_
  refine lo_aload_n (r := r1) hx hb dX3_judge_84 rfl (lo_at hl 1 rfl) ?_
  obtain ⟨k26, hw⟩ := hw
  refine rf_1 k26.1 ?_
  refine res_i hC (run_V (As := []) (rest := [.int ((12 : Int32)), va_rf (hpR h24 (ad r4) 0)]) hM hC hl.1.1 kv_RX3_84 (c_X0_missing l G base (ad r1) h24 _ hw) (hc_0) k26.2 rfl rfl rfl ⟨Nat.le_of_ble_eq_true rfl, Nat.le_of_ble_eq_true rfl⟩ (rest_le (List.forall_mem_cons.mpr ⟨rfl, (List.forall_mem_cons.mpr ⟨va_rf_cat _, (fun _ h => absurd h List.not_mem_nil)⟩)⟩) (Nat.le_of_ble_eq_true rfl)) ⟨Nat.le_of_ble_eq_true rfl, Nat.le_of_ble_eq_true rfl⟩ dX3_judge_85) (fun z28 h27 H locs hw hC => ?_)
  refine lo_aload_n (r := r2) hx hb dX3_judge_88 rfl (lo_at hl 2 rfl) ?_
  obtain ⟨k29, hw⟩ := hw
  refine rf_1 k29.1 ?_
  refine res_i hC (run_V (As := []) (rest := [.int z28, .int ((12 : Int32)), va_rf (hpR h24 (ad r4) 0)]) hM hC hl.1.1 kv_RX3_84 (c_X0_missing l G base (ad r2) h27 _ hw) (hc_0) k29.2 rfl rfl rfl ⟨Nat.le_of_ble_eq_true rfl, Nat.le_of_ble_eq_true rfl⟩ (rest_le (List.forall_mem_cons.mpr ⟨rfl, (List.forall_mem_cons.mpr ⟨rfl, (List.forall_mem_cons.mpr ⟨va_rf_cat _, (fun _ h => absurd h List.not_mem_nil)⟩)⟩)⟩) (Nat.le_of_ble_eq_true rfl)) ⟨Nat.le_of_ble_eq_true rfl, Nat.le_of_ble_eq_true rfl⟩ dX3_judge_89) (fun z31 h30 H locs hw hC => ?_)
  refine lv_iadd hx hb dX3_judge_92 ?_
  obtain ⟨k32, hw⟩ := hw
  refine rf_3 k32.1 ?_
  refine r_iast hx hb hg hC k32.2.1 k32.2.2 dX3_judge_93 (fun h33 H locs eh33 hC => ?_)
  replace hw := hw h33 eh33
  refine lo_aload (r := r4) hx hb dX3_judge_94 (lo_at hl 4 rfl) ?_
  obtain ⟨k34, hw⟩ := hw
  refine rf_1 k34.1 ?_
  refine r_getR hx hb hts hown hg hC fb_8_0 k34.2 mk_f_RX3_65 dX3_judge_96 ?_
  refine lv_bipush (v := 13) hx hb dX3_judge_99 (by decide) ?_
  refine lv_iload_n hx hb dX3_judge_101 rfl (lo_at hl 3 rfl) ?_
  refine lv_if_eq (tgt := 109) hx hb dX3_judge_102 (by decide) (fun c35 => ?_) (fun c35 => ?_)
  ·
    replace hw := (if_pos c35).mp hw
    refine lv_iconst (v := 0) hx hb dX3_judge_109 (by decide) ?_
    obtain ⟨k36, hw⟩ := hw
    refine rf_3 k36.1 ?_
    refine r_iast hx hb hg hC k36.2.1 k36.2.2 dX3_judge_110 (fun h37 H locs eh37 hC => ?_)
    replace hw := hw h37 eh37
    refine lv_iconst (v := 0) hx hb dX3_judge_111 (by decide) ?_
    refine lo_istore (lv' := [(6, .int ((0 : Int32))), (0, .ref o), (1, va_rf r1), (2, va_rf r2), (3, .int x3), (4, va_rf r4)]) hx hb dX3_judge_112 hl (by decide) rfl (fun ls hl => ?_)
    refine t_X3_judge_L114 hM o r4 _ _ Q ?_ ?_ fuel (0 : Int32) h37 H locs ls hC (lo_sub hl [1, 5, 0] rfl) hw
    ·
      intro y47 h46 H locs ls hC hl hw
      refine lv_aload_n hx hb dX3_judge_143 rfl (lo_at hl 0 rfl) ?_
      obtain ⟨k48, hw⟩ := hw
      refine r_getR hx hb hts hown hg hC fb_2_1 k48 mk_f_RX3_12 dX3_judge_144 ?_
      obtain ⟨k49, hw⟩ := hw
      refine rf_1 k49.1 ?_
      refine r_getR hx hb hts hown hg hC fb_5_0 k49.2 mk_f_RX3_95 dX3_judge_147 ?_
      refine lv_iload hx hb dX3_judge_150 (lo_at hl 1 rfl) ?_
      obtain ⟨k50, hw⟩ := hw
      refine rf_2 k50.1 ?_
      refine r_iald hx hb hg hC k50.2.1 k50.2.2 dX3_judge_152 ?_
      refine lv_topi (fun v51 ev51 => ?_)
      replace hw := hw v51 ev51
      refine lv_sipush (v := 263) hx hb dX3_judge_153 (by decide) ?_
      refine lv_icmp_ne (tgt := 163) hx hb dX3_judge_156 (by decide) (fun c52 => ?_) (fun c52 => ?_)
      ·
        replace hw := (if_neg c52).mp hw
        refine lv_iconst (v := 0) hx hb dX3_judge_163 (by decide) ?_
        exact ret_i hM hC hw dX3_judge_164
      ·
        replace hw := (if_pos c52).mp hw
        refine lv_iconst (v := 1) hx hb dX3_judge_159 (by decide) ?_
        refine lv_goto (tgt := 164) hx hb dX3_judge_160 (by decide) ?_
        exact ret_i hM hC hw dX3_judge_164
    ·
      intro  h53 H locs ls hC hl hw
      refine lv_iconst (v := 2) hx hb dX3_judge_171 (by decide) ?_
      exact ret_i hM hC hw dX3_judge_172
  ·
    replace hw := (if_neg c35).mp hw
    refine lv_iconst (v := 1) hx hb dX3_judge_105 (by decide) ?_
    refine lv_goto (tgt := 110) hx hb dX3_judge_106 (by decide) ?_
    obtain ⟨k54, hw⟩ := hw
    refine rf_3 k54.1 ?_
    refine r_iast hx hb hg hC k54.2.1 k54.2.2 dX3_judge_110 (fun h55 H locs eh55 hC => ?_)
    replace hw := hw h55 eh55
    refine lv_iconst (v := 0) hx hb dX3_judge_111 (by decide) ?_
    refine lo_istore (lv' := [(6, .int ((0 : Int32))), (0, .ref o), (1, va_rf r1), (2, va_rf r2), (3, .int x3), (4, va_rf r4)]) hx hb dX3_judge_112 hl (by decide) rfl (fun ls hl => ?_)
    refine t_X3_judge_L114 hM o r4 _ _ Q ?_ ?_ fuel (0 : Int32) h55 H locs ls hC (lo_sub hl [1, 5, 0] rfl) hw
    ·
      intro y57 h56 H locs ls hC hl hw
      refine lv_aload_n hx hb dX3_judge_143 rfl (lo_at hl 0 rfl) ?_
      obtain ⟨k58, hw⟩ := hw
      refine r_getR hx hb hts hown hg hC fb_2_1 k58 mk_f_RX3_12 dX3_judge_144 ?_
      obtain ⟨k59, hw⟩ := hw
      refine rf_1 k59.1 ?_
      refine r_getR hx hb hts hown hg hC fb_5_0 k59.2 mk_f_RX3_95 dX3_judge_147 ?_
      refine lv_iload hx hb dX3_judge_150 (lo_at hl 1 rfl) ?_
      obtain ⟨k60, hw⟩ := hw
      refine rf_2 k60.1 ?_
      refine r_iald hx hb hg hC k60.2.1 k60.2.2 dX3_judge_152 ?_
      refine lv_topi (fun v61 ev61 => ?_)
      replace hw := hw v61 ev61
      refine lv_sipush (v := 263) hx hb dX3_judge_153 (by decide) ?_
      refine lv_icmp_ne (tgt := 163) hx hb dX3_judge_156 (by decide) (fun c62 => ?_) (fun c62 => ?_)
      ·
        replace hw := (if_neg c62).mp hw
        refine lv_iconst (v := 0) hx hb dX3_judge_163 (by decide) ?_
        exact ret_i hM hC hw dX3_judge_164
      ·
        replace hw := (if_pos c62).mp hw
        refine lv_iconst (v := 1) hx hb dX3_judge_159 (by decide) ?_
        refine lv_goto (tgt := 164) hx hb dX3_judge_160 (by decide) ?_
        exact ret_i hM hC hw dX3_judge_164
    ·
      intro  h63 H locs ls hC hl hw
      refine lv_iconst (v := 2) hx hb dX3_judge_171 (by decide) ?_
      exact ret_i hM hC hw dX3_judge_172
set_option maxHeartbeats 4000000 in
set_option maxRecDepth 100000 in
theorem c_X3_judge (l : Launch) (G : GG) (base : Nat) (o : Nat) (r1 : Option Nat) (r2 : Option Nat) (x3 : Int32) (r4 : Option Nat) (h : Hp) (Q : Int32 → Hp → Prop) (hw : wp_X3_judge o r1 r2 x3 r4 h Q) : Met l yX3_judge (ww yX3_judge cX3_judge 7 (some .int)) rm_X3_judge (va_Pc [.ref o, va_rf r1, va_rf r2, .int x3, va_rf r4] (PU G base h)) (va_Qi Q (PU G base) (fun q => base ≤ q)) 0 0 (fun q => base ≤ q) := by
  refine met_of (own := RX3) (nm := "judge") (by decide) rfl rfl (List.forall_mem_cons.mpr ⟨rfl, (List.forall_mem_cons.mpr ⟨va_rf_cat _, (List.forall_mem_cons.mpr ⟨va_rf_cat _, (List.forall_mem_cons.mpr ⟨rfl, (List.forall_mem_cons.mpr ⟨va_rf_cat _, (fun _ h => absurd h List.not_mem_nil)⟩)⟩)⟩)⟩)⟩) (Nat.le_of_ble_eq_true rfl) rfl ?_
  intro p e s m below meth c ls hM hC hl
  obtain ⟨hx, hb, hr, hml, hown, hts, hg, hs, hlk, hnm⟩ := id hM
  obtain ⟨args, hargs⟩ : ∃ a : Array Value, a = ([.ref o, va_rf r1, va_rf r2, .int x3, va_rf r4] : List Value).toArray := ⟨_, rfl⟩
  rw [← hargs] at hM hts ⊢
  obtain ⟨H, hH⟩ : ∃ H : Heap, H = s.heap := ⟨_, rfl⟩
  obtain ⟨locs, hlocs⟩ : ∃ x : List Loc, x = [] := ⟨_, rfl⟩
  have hC : Cx G base h s.heap H locs := by rw [hH, hlocs]; exact hC
  show W p l e rm_X3_judge s m args below meth c s.heap [] 0 0 (MQ below (va_Qi Q (PU G base) (fun q => base ≤ q)) args s 0 0 (fun q => base ≤ q)) (F0 m 0 ls [])
  rw [← hlocs]
  have hgoal : W p l e rm_X3_judge s m args below meth c H locs 0 0 (MQ below (va_Qi Q (PU G base) (fun q => base ≤ q)) args s 0 0 (fun q => base ≤ q)) (F0 m 0 ls []) := ?_
  · rw [hH] at hgoal; exact hgoal
  clear hH hlocs
  unfold wp_X3_judge at hw
  refine lv_aload_n hx hb dX3_judge_0 rfl (lo_at hl 0 rfl) ?_
  refine lo_aload_n (r := r1) hx hb dX3_judge_1 rfl (lo_at hl 1 rfl) ?_
  refine lo_aload_n (r := r2) hx hb dX3_judge_2 rfl (lo_at hl 2 rfl) ?_
  obtain ⟨k1, hw⟩ := hw
  refine res_i hC (run_V (As := [va_rf r1, va_rf r2]) (rest := []) hM hC hl.1.1 kv_RX3_49 (c_X3_measured l G base o r1 r2 h _ hw) (hc_2) k1 rfl rfl rfl ⟨Nat.le_of_ble_eq_true rfl, Nat.le_of_ble_eq_true rfl⟩ (Nat.le_of_ble_eq_true rfl) ⟨Nat.le_of_ble_eq_true rfl, Nat.le_of_ble_eq_true rfl⟩ dX3_judge_3) (fun z3 h2 H locs hw hC => ?_)
  refine lo_istore (lv' := [(5, .int z3), (0, .ref o), (1, va_rf r1), (2, va_rf r2), (3, .int x3), (4, va_rf r4)]) hx hb dX3_judge_6 hl (by decide) rfl (fun ls hl => ?_)
  refine lo_aload (r := r4) hx hb dX3_judge_8 (lo_at hl 5 rfl) ?_
  obtain ⟨k4, hw⟩ := hw
  refine rf_1 k4.1 ?_
  refine r_getR hx hb hts hown hg hC fb_8_0 k4.2 mk_f_RX3_65 dX3_judge_10 ?_
  refine lv_bipush (v := 8) hx hb dX3_judge_13 (by decide) ?_
  refine lv_iload hx hb dX3_judge_15 (lo_at hl 0 rfl) ?_
  refine res_i hC (run_S (As := [.int z3]) (rest := [.int ((8 : Int32)), va_rf (hpR h2 (ad r4) 0)]) hM hC hl.1.1 kv_RX3_70 (c_X2_many l G base z3 h2 _ hw) rfl rfl rfl ⟨Nat.le_of_ble_eq_true rfl, Nat.le_of_ble_eq_true rfl⟩ (rest_le (List.forall_mem_cons.mpr ⟨rfl, (List.forall_mem_cons.mpr ⟨va_rf_cat _, (fun _ h => absurd h List.not_mem_nil)⟩)⟩) (Nat.le_of_ble_eq_true rfl)) ⟨Nat.le_of_ble_eq_true rfl, Nat.le_of_ble_eq_true rfl⟩ dX3_judge_17) (fun z6 h5 H locs hw hC => ?_)
  obtain ⟨k7, hw⟩ := hw
  refine rf_3 k7.1 ?_
  refine r_iast hx hb hg hC k7.2.1 k7.2.2 dX3_judge_20 (fun h8 H locs eh8 hC => ?_)
  replace hw := hw h8 eh8
  refine lo_aload (r := r4) hx hb dX3_judge_21 (lo_at hl 5 rfl) ?_
  obtain ⟨k9, hw⟩ := hw
  refine rf_1 k9.1 ?_
  refine r_getR hx hb hts hown hg hC fb_8_0 k9.2 mk_f_RX3_65 dX3_judge_23 ?_
  refine lv_bipush (v := 9) hx hb dX3_judge_26 (by decide) ?_
  refine lv_iload hx hb dX3_judge_28 (lo_at hl 0 rfl) ?_
  refine res_i hC (run_S (As := [.int z3]) (rest := [.int ((9 : Int32)), va_rf (hpR h8 (ad r4) 0)]) hM hC hl.1.1 kv_RX3_73 (c_X2_longest l G base z3 h8 _ hw) rfl rfl rfl ⟨Nat.le_of_ble_eq_true rfl, Nat.le_of_ble_eq_true rfl⟩ (rest_le (List.forall_mem_cons.mpr ⟨rfl, (List.forall_mem_cons.mpr ⟨va_rf_cat _, (fun _ h => absurd h List.not_mem_nil)⟩)⟩) (Nat.le_of_ble_eq_true rfl)) ⟨Nat.le_of_ble_eq_true rfl, Nat.le_of_ble_eq_true rfl⟩ dX3_judge_30) (fun z11 h10 H locs hw hC => ?_)
  obtain ⟨k12, hw⟩ := hw
  refine rf_3 k12.1 ?_
  refine r_iast hx hb hg hC k12.2.1 k12.2.2 dX3_judge_33 (fun h13 H locs eh13 hC => ?_)
  replace hw := hw h13 eh13
  refine lo_aload (r := r4) hx hb dX3_judge_34 (lo_at hl 5 rfl) ?_
  obtain ⟨k14, hw⟩ := hw
  refine rf_1 k14.1 ?_
  refine r_getR hx hb hts hown hg hC fb_8_0 k14.2 mk_f_RX3_65 dX3_judge_36 ?_
  refine lv_bipush (v := 10) hx hb dX3_judge_39 (by decide) ?_
  refine lv_iload hx hb dX3_judge_41 (lo_at hl 0 rfl) ?_
  refine res_i hC (run_S (As := [.int z3]) (rest := [.int ((10 : Int32)), va_rf (hpR h13 (ad r4) 0)]) hM hC hl.1.1 kv_RX3_53 (c_X2_slide l G base z3 h13 _ hw) rfl rfl rfl ⟨Nat.le_of_ble_eq_true rfl, Nat.le_of_ble_eq_true rfl⟩ (rest_le (List.forall_mem_cons.mpr ⟨rfl, (List.forall_mem_cons.mpr ⟨va_rf_cat _, (fun _ h => absurd h List.not_mem_nil)⟩)⟩) (Nat.le_of_ble_eq_true rfl)) ⟨Nat.le_of_ble_eq_true rfl, Nat.le_of_ble_eq_true rfl⟩ dX3_judge_43) (fun z16 h15 H locs hw hC => ?_)
  obtain ⟨k17, hw⟩ := hw
  refine rf_3 k17.1 ?_
  refine r_iast hx hb hg hC k17.2.1 k17.2.2 dX3_judge_46 (fun h18 H locs eh18 hC => ?_)
  replace hw := hw h18 eh18
  refine lo_aload (r := r4) hx hb dX3_judge_47 (lo_at hl 5 rfl) ?_
  obtain ⟨k19, hw⟩ := hw
  refine rf_1 k19.1 ?_
  refine r_getR hx hb hts hown hg hC fb_8_0 k19.2 mk_f_RX3_65 dX3_judge_49 ?_
  refine lv_bipush (v := 11) hx hb dX3_judge_52 (by decide) ?_
  refine lv_aload_n hx hb dX3_judge_54 rfl (lo_at hl 1 rfl) ?_
  obtain ⟨k20, hw⟩ := hw
  refine r_getR hx hb hts hown hg hC fb_2_1 k20 mk_f_RX3_12 dX3_judge_55 ?_
  obtain ⟨k21, hw⟩ := hw
  refine rf_1 k21.1 ?_
  refine r_getI hx hb hts hown hg hC fb_5_8 k21.2 mk_f_RX3_76 dX3_judge_58 ?_
  refine lv_if_eq (tgt := 75) hx hb dX3_judge_61 (by decide) (fun c22 => ?_) (fun c22 => ?_)
  ·
    replace hw := (if_pos c22).mp hw
    refine lv_iconst (v := 0) hx hb dX3_judge_75 (by decide) ?_
    exact t_X3_judge_J76 hM o r1 r2 x3 r4 (0 : Int32) (11 : Int32) (hpR h18 (ad r4) 0) Q  h18 H locs ls hC (lo_sub hl [1, 2, 3, 4, 5] rfl) hw
  ·
    replace hw := (if_neg c22).mp hw
    refine lv_aload_n hx hb dX3_judge_64 rfl (lo_at hl 1 rfl) ?_
    refine lo_aload_n (r := r1) hx hb dX3_judge_65 rfl (lo_at hl 2 rfl) ?_
    refine lo_aload_n (r := r2) hx hb dX3_judge_66 rfl (lo_at hl 3 rfl) ?_
    refine lo_aload (r := r4) hx hb dX3_judge_67 (lo_at hl 5 rfl) ?_
    refine res_i hC (run_V (As := [va_rf r1, va_rf r2, va_rf r4]) (rest := [.int ((11 : Int32)), va_rf (hpR h18 (ad r4) 0)]) hM hC hl.1.1 kv_RX3_80 (c_X3_piecesOf l G base o r1 r2 r4 h18 _ hw) (hc_2) k20 rfl rfl rfl ⟨Nat.le_of_ble_eq_true rfl, Nat.le_of_ble_eq_true rfl⟩ (rest_le (List.forall_mem_cons.mpr ⟨rfl, (List.forall_mem_cons.mpr ⟨va_rf_cat _, (fun _ h => absurd h List.not_mem_nil)⟩)⟩) (Nat.le_of_ble_eq_true rfl)) ⟨Nat.le_of_ble_eq_true rfl, Nat.le_of_ble_eq_true rfl⟩ dX3_judge_69) (fun z65 h64 H locs hw hC => ?_)
    refine lv_goto (tgt := 76) hx hb dX3_judge_72 (by decide) ?_
    exact t_X3_judge_J76 hM o r1 r2 x3 r4 z65 (11 : Int32) (hpR h18 (ad r4) 0) Q  h64 H locs ls hC (lo_sub hl [1, 2, 3, 4, 5] rfl) hw
