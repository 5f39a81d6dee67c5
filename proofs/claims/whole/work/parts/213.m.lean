abbrev rm_X5_readPart : Room := { frames := 1, cells := 0, slots := 0, locals := 21 }
def wp_X5_readPart_J17 (o : Nat) (x1 : Int32) (Q : Hp → Prop) (h : Hp) : Prop := ((hpK h o).1 = 20 + 4) ∧ (okO h (hpR h o 3) 5 ∧ (wp_X7_put (ad (hpR h o 3)) x1 h (fun (h7 : Hp) => ((hpK h7 o).1 = 20 + 4) ∧ (∀ h10 : Hp, h10 = stI h7 o 5 ((hpI h7 o 5) + (1 : Int32)) → (Q h10)))))
def wp_X5_readPart (o : Nat) (h : Hp) (Q : Hp → Prop) : Prop := ((hpK h o).1 = 20 + 4) ∧ (wp_X5_kind o h (fun (z3 : Int32) (h2 : Hp) => (if z3 < 0 then (wp_X5_readPart_J17 o z3 Q h2) else (((hpK h2 o).1 = 20 + 4) ∧ (wp_X5_isFact o z3 h2 (fun (z13 : Int32) (h12 : Hp) => (if z13 = 0 then (((hpK h12 o).1 = 20 + 4) ∧ (wp_X5_refuse o (1 : Int32) h12 (fun (h16 : Hp) => Q h16))) else (wp_X5_readPart_J17 o z3 Q h12))))))))
set_option maxHeartbeats 4000000 in
set_option maxRecDepth 100000 in
theorem t_X5_readPart_J17 {p : Program} {l : Launch} {e : Env} {s : State} {m : MethodId} {args : Array Value} {below : List Frame} {meth : Method} {c : Code} {G : GG} {base : Nat} (hM : Mx G base p s m args meth c cX5_readPart 2 none RX5 "readPart") (o : Nat) (x1 : Int32) (Q : Hp → Prop) (h : Hp) (H : Heap) (locs : List Loc) (ls : Array Slot) : Cx G base h s.heap H locs → lo_has ls 2 [(0, .ref o), (1, .int x1)] → wp_X5_readPart_J17 o x1 Q h → W p l e rm_X5_readPart s m args below meth c H locs 0 0 (MQ below (va_Qv Q (PU G base) (fun q => base ≤ q)) args s 0 0 (fun q => base ≤ q)) (F0 m 17 ls []) := by
  intro hC hl hw
  unfold wp_X5_readPart_J17 at hw
  obtain ⟨hx, hb, hr, hml, hown, hts, hg, hs, hlk, hnm⟩ := id hM
  refine lv_aload_n hx hb dX5_readPart_17 rfl (lo_at hl 0 rfl) ?_
  obtain ⟨k5, hw⟩ := hw
  refine r_getR hx hb hts hown hg hC fb_4_3 k5 mk_f_RX5_18 dX5_readPart_18 ?_
  refine lv_iload_n hx hb dX5_readPart_21 rfl (lo_at hl 1 rfl) ?_
  obtain ⟨k6, hw⟩ := hw
  refine rf_2 k6.1 ?_
  refine res_v hC (run_V (As := [.int x1]) (rest := []) hM hC hl.1.1 kv_RX5_94 (c_X7_put l G base (ad (hpR h o 3)) x1 h _ hw) (hc_5) k6.2 rfl rfl rfl ⟨Nat.le_of_ble_eq_true rfl, Nat.le_of_ble_eq_true rfl⟩ (Nat.le_of_ble_eq_true rfl) ⟨Nat.le_of_ble_eq_true rfl, Nat.le_of_ble_eq_true rfl⟩ dX5_readPart_22) (fun h7 H locs hw hC => ?_)
  refine lv_aload_n hx hb dX5_readPart_25 rfl (lo_at hl 0 rfl) ?_
  refine lv_dup hx hb dX5_readPart_26 rfl ?_
  obtain ⟨k9, hw⟩ := hw
  refine r_getI hx hb hts hown hg hC fb_4_5 k9 mk_f_RX5_30 dX5_readPart_27 ?_
  refine lv_iconst (v := 1) hx hb dX5_readPart_30 (by decide) ?_
  refine lv_iadd hx hb dX5_readPart_31 ?_
  refine r_putI hx hb hts hown hg hC fb_4_5 k9 rfl rfl mk_f_RX5_30 dX5_readPart_32 (fun h10 H locs eh10 hC => ?_)
  replace hw := hw h10 eh10
  refine lv_goto (tgt := 43) hx hb dX5_readPart_35 (by decide) ?_
  exact ret_v hM hC hw dX5_readPart_43
set_option maxHeartbeats 4000000 in
set_option maxRecDepth 100000 in
theorem c_X5_readPart (l : Launch) (G : GG) (base : Nat) (o : Nat) (h : Hp) (Q : Hp → Prop) (hw : wp_X5_readPart o h Q) : Met l yX5_readPart (ww yX5_readPart cX5_readPart 2 none) rm_X5_readPart (va_Pc [.ref o] (PU G base h)) (va_Qv Q (PU G base) (fun q => base ≤ q)) 0 0 (fun q => base ≤ q) := by
  refine met_of (own := RX5) (nm := "readPart") (by decide) rfl rfl (List.forall_mem_cons.mpr ⟨rfl, (fun _ h => absurd h List.not_mem_nil)⟩) (Nat.le_of_ble_eq_true rfl) rfl ?_
  intro p e s m below meth c ls hM hC hl
  obtain ⟨hx, hb, hr, hml, hown, hts, hg, hs, hlk, hnm⟩ := id hM
  obtain ⟨args, hargs⟩ : ∃ a : Array Value, a = ([.ref o] : List Value).toArray := ⟨_, rfl⟩
  rw [← hargs] at hM hts ⊢
  obtain ⟨H, hH⟩ : ∃ H : Heap, H = s.heap := ⟨_, rfl⟩
  obtain ⟨locs, hlocs⟩ : ∃ x : List Loc, x = [] := ⟨_, rfl⟩
  have hC : Cx G base h s.heap H locs := by rw [hH, hlocs]; exact hC
  show W p l e rm_X5_readPart s m args below meth c s.heap [] 0 0 (MQ below (va_Qv Q (PU G base) (fun q => base ≤ q)) args s 0 0 (fun q => base ≤ q)) (F0 m 0 ls [])
  rw [← hlocs]
  have hgoal : W p l e rm_X5_readPart s m args below meth c H locs 0 0 (MQ below (va_Qv Q (PU G base) (fun q => base ≤ q)) args s 0 0 (fun q => base ≤ q)) (F0 m 0 ls []) := ?_
  · rw [hH] at hgoal; exact hgoal
  clear hH hlocs
  unfold wp_X5_readPart at hw
  refine lv_aload_n hx hb dX5_readPart_0 rfl (lo_at hl 0 rfl) ?_
  obtain ⟨k1, hw⟩ := hw
  refine res_i hC (run_V (As := []) (rest := []) hM hC hl.1.1 kv_RX5_44 (c_X5_kind l G base o h _ hw) (hc_4) k1 rfl rfl rfl ⟨Nat.le_of_ble_eq_true rfl, Nat.le_of_ble_eq_true rfl⟩ (Nat.le_of_ble_eq_true rfl) ⟨Nat.le_of_ble_eq_true rfl, Nat.le_of_ble_eq_true rfl⟩ dX5_readPart_1) (fun z3 h2 H locs hw hC => ?_)
  refine lo_istore_n (lv' := [(1, .int z3), (0, .ref o)]) hx hb dX5_readPart_4 rfl hl (by decide) rfl (fun ls hl => ?_)
  refine lv_iload_n hx hb dX5_readPart_5 rfl (lo_at hl 0 rfl) ?_
  refine lv_if_lt (tgt := 17) hx hb dX5_readPart_6 (by decide) (fun c4 => ?_) (fun c4 => ?_)
  ·
    replace hw := (if_pos c4).mp hw
    exact t_X5_readPart_J17 hM o z3 Q  h2 H locs ls hC (lo_sub hl [1, 0] rfl) hw
  ·
    replace hw := (if_neg c4).mp hw
    refine lv_aload_n hx hb dX5_readPart_9 rfl (lo_at hl 1 rfl) ?_
    refine lv_iload_n hx hb dX5_readPart_10 rfl (lo_at hl 0 rfl) ?_
    obtain ⟨k11, hw⟩ := hw
    refine res_i hC (run_V (As := [.int z3]) (rest := []) hM hC hl.1.1 kv_RX5_106 (c_X5_isFact l G base o z3 h2 _ hw) (hc_4) k11 rfl rfl rfl ⟨Nat.le_of_ble_eq_true rfl, Nat.le_of_ble_eq_true rfl⟩ (Nat.le_of_ble_eq_true rfl) ⟨Nat.le_of_ble_eq_true rfl, Nat.le_of_ble_eq_true rfl⟩ dX5_readPart_11) (fun z13 h12 H locs hw hC => ?_)
    refine lv_if_eq (tgt := 38) hx hb dX5_readPart_14 (by decide) (fun c14 => ?_) (fun c14 => ?_)
    ·
      replace hw := (if_pos c14).mp hw
      refine lv_aload_n hx hb dX5_readPart_38 rfl (lo_at hl 1 rfl) ?_
      refine lv_iconst (v := 1) hx hb dX5_readPart_39 (by decide) ?_
      obtain ⟨k15, hw⟩ := hw
      refine res_v hC (run_V (As := [.int ((1 : Int32))]) (rest := []) hM hC hl.1.1 kv_RX5_61 (c_X5_refuse l G base o (1 : Int32) h12 _ hw) (hc_4) k15 rfl rfl rfl ⟨Nat.le_of_ble_eq_true rfl, Nat.le_of_ble_eq_true rfl⟩ (Nat.le_of_ble_eq_true rfl) ⟨Nat.le_of_ble_eq_true rfl, Nat.le_of_ble_eq_true rfl⟩ dX5_readPart_40) (fun h16 H locs hw hC => ?_)
      exact ret_v hM hC hw dX5_readPart_43
    ·
      replace hw := (if_neg c14).mp hw
      exact t_X5_readPart_J17 hM o z3 Q  h12 H locs ls hC (lo_sub hl [1, 0] rfl) hw
abbrev rm_X6_measure : Room := { frames := 1, cells := 0, slots := 0, locals := 27 }
def wp_X6_measure_L11 (r0 : Option Nat) (r1 : Option Nat) (x2 : Int32) (K58 : Int32 → Int32 → Int32 → Hp → Prop) (Q : Int32 → Hp → Prop) : Nat → Int32 → Int32 → Int32 → Int32 → Hp → Prop
  | 0, _, _, _, _, _ => False
  | n + 1, x3, x4, x5, x6, h => (if (32 : Int32) ≤ x6 then (K58 x3 x4 x5 h) else (wp_X6_runs r0 r1 x6 x2 h (fun (z3 : Int32) (h2 : Hp) => wp_J6_bitCount_0f7a4 z3 h2 (fun (z5 : Int32) (h4 : Hp) => (if z5 ≤ x3 then (∀ v7 : Int32, v7 = x6 + (1 : Int32) → (wp_X6_measure_L11 r0 r1 x2 K58 Q n x3 x4 x5 v7 h4)) else (∀ v8 : Int32, v8 = x6 + (1 : Int32) → (wp_X6_measure_L11 r0 r1 x2 K58 Q n z5 x6 z3 v8 h4)))))))
def wp_X6_measure (r0 : Option Nat) (r1 : Option Nat) (x2 : Int32) (h : Hp) (Q : Int32 → Hp → Prop) : Prop := wp_X6_measure_L11 r0 r1 x2 (fun (y10 : Int32) (y11 : Int32) (y12 : Int32) (h9 : Hp) => wp_X6_longestIn y12 h9 (fun (z14 : Int32) (h13 : Hp) => wp_X2_pack y10 y11 z14 h13 (fun (z16 : Int32) (h15 : Hp) => Q z16 h15))) Q fuel (-1 : Int32) (0 : Int32) (0 : Int32) (0 : Int32) h
set_option maxHeartbeats 4000000 in
set_option maxRecDepth 100000 in
theorem t_X6_measure_L11 {p : Program} {l : Launch} {e : Env} {s : State} {m : MethodId} {args : Array Value} {below : List Frame} {meth : Method} {c : Code} {G : GG} {base : Nat} (hM : Mx G base p s m args meth c cX6_measure 9 (some .int) RX6 "measure") (r0 : Option Nat) (r1 : Option Nat) (x2 : Int32) (K58 : Int32 → Int32 → Int32 → Hp → Prop) (Q : Int32 → Hp → Prop) (hK58 : ∀ (y3 : Int32) (y4 : Int32) (y5 : Int32) (h : Hp) (H : Heap) (locs : List Loc) (ls : Array Slot), Cx G base h s.heap H locs → lo_has ls 9 [(3, .int y3), (4, .int y4), (5, .int y5)] → K58 y3 y4 y5 h → W p l e rm_X6_measure s m args below meth c H locs 0 0 (MQ below (va_Qi Q (PU G base) (fun q => base ≤ q)) args s 0 0 (fun q => base ≤ q)) (F0 m 58 ls [])) : ∀ (n : Nat) (x3 : Int32) (x4 : Int32) (x5 : Int32) (x6 : Int32) (h : Hp) (H : Heap) (locs : List Loc) (ls : Array Slot), Cx G base h s.heap H locs → lo_has ls 9 [(0, va_rf r0), (1, va_rf r1), (2, .int x2), (3, .int x3), (4, .int x4), (5, .int x5), (6, .int x6)] → wp_X6_measure_L11 r0 r1 x2 K58 Q n x3 x4 x5 x6 h → W p l e rm_X6_measure s m args below meth c H locs 0 0 (MQ below (va_Qi Q (PU G base) (fun q => base ≤ q)) args s 0 0 (fun q => base ≤ q)) (F0 m 11 ls []) := by
  intro n
  induction n with
  | zero =>
    intro x3 x4 x5 x6 h H locs ls hC hl hw
    rw [wp_X6_measure_L11] at hw
    exact hw.elim
  | succ n ih =>
    intro x3 x4 x5 x6 h H locs ls hC hl hw
    rw [wp_X6_measure_L11] at hw
    obtain ⟨hx, hb, hr, hml, hown, hts, hg, hs, hlk, hnm⟩ := id hM
    refine lv_iload hx hb dX6_measure_11 (lo_at hl 6 rfl) ?_
    refine lv_bipush (v := 32) hx hb dX6_measure_13 (by decide) ?_
    refine lv_icmp_ge (tgt := 58) hx hb dX6_measure_15 (by decide) (fun c1 => ?_) (fun c1 => ?_)
    ·
      replace hw := (if_pos c1).mp hw
      exact hK58 x3 x4 x5 h H locs ls hC (lo_sub hl [3, 4, 5] rfl) hw
    ·
      replace hw := (if_neg c1).mp hw
      refine lo_aload_n (r := r0) hx hb dX6_measure_18 rfl (lo_at hl 0 rfl) ?_
      refine lo_aload_n (r := r1) hx hb dX6_measure_19 rfl (lo_at hl 1 rfl) ?_
      refine lv_iload hx hb dX6_measure_20 (lo_at hl 6 rfl) ?_
      refine lv_iload_n hx hb dX6_measure_22 rfl (lo_at hl 2 rfl) ?_
      refine res_i hC (run_S (As := [va_rf r0, va_rf r1, .int x6, .int x2]) (rest := []) hM hC hl.1.1 kv_RX6_9 (c_X6_runs l G base r0 r1 x6 x2 h _ hw) rfl rfl rfl ⟨Nat.le_of_ble_eq_true rfl, Nat.le_of_ble_eq_true rfl⟩ (Nat.le_of_ble_eq_true rfl) ⟨Nat.le_of_ble_eq_true rfl, Nat.le_of_ble_eq_true rfl⟩ dX6_measure_23) (fun z3 h2 H locs hw hC => ?_)
      refine lo_istore (lv' := [(7, .int z3), (0, va_rf r0), (1, va_rf r1), (2, .int x2), (3, .int x3), (4, .int x4), (5, .int x5), (6, .int x6)]) hx hb dX6_measure_26 hl (by decide) rfl (fun ls hl => ?_)
      refine lv_iload hx hb dX6_measure_28 (lo_at hl 0 rfl) ?_
      refine res_i hC (run_S (As := [.int z3]) (rest := []) hM hC hl.1.1 kv_RX6_15 (c_J6_bitCount_0f7a4 l G base z3 h2 _ hw) rfl rfl rfl ⟨Nat.le_of_ble_eq_true rfl, Nat.le_of_ble_eq_true rfl⟩ (Nat.le_of_ble_eq_true rfl) ⟨Nat.le_of_ble_eq_true rfl, Nat.le_of_ble_eq_true rfl⟩ dX6_measure_30) (fun z5 h4 H locs hw hC => ?_)
      refine lo_istore (lv' := [(8, .int z5), (7, .int z3), (0, va_rf r0), (1, va_rf r1), (2, .int x2), (3, .int x3), (4, .int x4), (5, .int x5), (6, .int x6)]) hx hb dX6_measure_33 hl (by decide) rfl (fun ls hl => ?_)
      refine lv_iload hx hb dX6_measure_35 (lo_at hl 0 rfl) ?_
      refine lv_iload_n hx hb dX6_measure_37 rfl (lo_at hl 5 rfl) ?_
      refine lv_icmp_le (tgt := 52) hx hb dX6_measure_38 (by decide) (fun c6 => ?_) (fun c6 => ?_)
      ·
        replace hw := (if_pos c6).mp hw
        obtain ⟨v7, ev7⟩ : ∃ y : Int32, y = x6 + (1 : Int32) := ⟨_, rfl⟩
        replace hw := hw v7 ev7
        refine lo_iinc (v := v7) (lv' := [(6, .int v7), (8, .int z5), (7, .int z3), (0, va_rf r0), (1, va_rf r1), (2, .int x2), (3, .int x3), (4, .int x4), (5, .int x5)]) hx hb dX6_measure_52 hl (k := 8) rfl (by rw [ev7]; rfl) (by decide) rfl (fun ls hl => ?_)
        refine lv_goto (tgt := 11) hx hb dX6_measure_55 (by decide) ?_
        exact ih x3 x4 x5 v7 h4 H locs ls hC (lo_sub hl [3, 4, 5, 6, 7, 8, 0] rfl) hw
      ·
        replace hw := (if_neg c6).mp hw
        refine lv_iload hx hb dX6_measure_41 (lo_at hl 0 rfl) ?_
        refine lo_istore_n (lv' := [(3, .int z5), (8, .int z5), (7, .int z3), (0, va_rf r0), (1, va_rf r1), (2, .int x2), (4, .int x4), (5, .int x5), (6, .int x6)]) hx hb dX6_measure_43 rfl hl (by decide) rfl (fun ls hl => ?_)
        refine lv_iload hx hb dX6_measure_44 (lo_at hl 8 rfl) ?_
        refine lo_istore (lv' := [(4, .int x6), (3, .int z5), (8, .int z5), (7, .int z3), (0, va_rf r0), (1, va_rf r1), (2, .int x2), (5, .int x5), (6, .int x6)]) hx hb dX6_measure_46 hl (by decide) rfl (fun ls hl => ?_)
        refine lv_iload hx hb dX6_measure_48 (lo_at hl 3 rfl) ?_
        refine lo_istore (lv' := [(5, .int z3), (4, .int x6), (3, .int z5), (8, .int z5), (7, .int z3), (0, va_rf r0), (1, va_rf r1), (2, .int x2), (6, .int x6)]) hx hb dX6_measure_50 hl (by decide) rfl (fun ls hl => ?_)
        obtain ⟨v8, ev8⟩ : ∃ y : Int32, y = x6 + (1 : Int32) := ⟨_, rfl⟩
        replace hw := hw v8 ev8
        refine lo_iinc (v := v8) (lv' := [(6, .int v8), (5, .int z3), (4, .int x6), (3, .int z5), (8, .int z5), (7, .int z3), (0, va_rf r0), (1, va_rf r1), (2, .int x2)]) hx hb dX6_measure_52 hl (k := 8) rfl (by rw [ev8]; rfl) (by decide) rfl (fun ls hl => ?_)
        refine lv_goto (tgt := 11) hx hb dX6_measure_55 (by decide) ?_
        exact ih z5 x6 z3 v8 h4 H locs ls hC (lo_sub hl [6, 7, 8, 3, 2, 1, 0] rfl) hw
set_option maxHeartbeats 4000000 in
set_option maxRecDepth 100000 in
theorem c_X6_measure (l : Launch) (G : GG) (base : Nat) (r0 : Option Nat) (r1 : Option Nat) (x2 : Int32) (h : Hp) (Q : Int32 → Hp → Prop) (hw : wp_X6_measure r0 r1 x2 h Q) : Met l yX6_measure (ww yX6_measure cX6_measure 9 (some .int)) rm_X6_measure (va_Pc [va_rf r0, va_rf r1, .int x2] (PU G base h)) (va_Qi Q (PU G base) (fun q => base ≤ q)) 0 0 (fun q => base ≤ q) := by
  refine met_of (own := RX6) (nm := "measure") (by decide) rfl rfl (List.forall_mem_cons.mpr ⟨va_rf_cat _, (List.forall_mem_cons.mpr ⟨va_rf_cat _, (List.forall_mem_cons.mpr ⟨rfl, (fun _ h => absurd h List.not_mem_nil)⟩)⟩)⟩) (Nat.le_of_ble_eq_true rfl) rfl ?_
  intro p e s m below meth c ls hM hC hl
  obtain ⟨hx, hb, hr, hml, hown, hts, hg, hs, hlk, hnm⟩ := id hM
  obtain ⟨args, hargs⟩ : ∃ a : Array Value, a = ([va_rf r0, va_rf r1, .int x2] : List Value).toArray := ⟨_, rfl⟩
  rw [← hargs] at hM hts ⊢
  obtain ⟨H, hH⟩ : ∃ H : Heap, H = s.heap := ⟨_, rfl⟩
  obtain ⟨locs, hlocs⟩ : ∃ x : List Loc, x = [] := ⟨_, rfl⟩
  have hC : Cx G base h s.heap H locs := by rw [hH, hlocs]; exact hC
  show W p l e rm_X6_measure s m args below meth c s.heap [] 0 0 (MQ below (va_Qi Q (PU G base) (fun q => base ≤ q)) args s 0 0 (fun q => base ≤ q)) (F0 m 0 ls [])
  rw [← hlocs]
  have hgoal : W p l e rm_X6_measure s m args below meth c H locs 0 0 (MQ below (va_Qi Q (PU G base) (fun q => base ≤ q)) args s 0 0 (fun q => base ≤ q)) (F0 m 0 ls []) := ?_
  · rw [hH] at hgoal; exact hgoal
  clear hH hlocs
  unfold wp_X6_measure at hw
  refine lv_iconst (v := -1) hx hb dX6_measure_0 (by decide) ?_
  refine lo_istore_n (lv' := [(3, .int ((-1 : Int32))), (0, va_rf r0), (1, va_rf r1), (2, .int x2)]) hx hb dX6_measure_1 rfl hl (by decide) rfl (fun ls hl => ?_)
  refine lv_iconst (v := 0) hx hb dX6_measure_2 (by decide) ?_
  refine lo_istore (lv' := [(4, .int ((0 : Int32))), (3, .int ((-1 : Int32))), (0, va_rf r0), (1, va_rf r1), (2, .int x2)]) hx hb dX6_measure_3 hl (by decide) rfl (fun ls hl => ?_)
  refine lv_iconst (v := 0) hx hb dX6_measure_5 (by decide) ?_
  refine lo_istore (lv' := [(5, .int ((0 : Int32))), (4, .int ((0 : Int32))), (3, .int ((-1 : Int32))), (0, va_rf r0), (1, va_rf r1), (2, .int x2)]) hx hb dX6_measure_6 hl (by decide) rfl (fun ls hl => ?_)
  refine lv_iconst (v := 0) hx hb dX6_measure_8 (by decide) ?_
  refine lo_istore (lv' := [(6, .int ((0 : Int32))), (5, .int ((0 : Int32))), (4, .int ((0 : Int32))), (3, .int ((-1 : Int32))), (0, va_rf r0), (1, va_rf r1), (2, .int x2)]) hx hb dX6_measure_9 hl (by decide) rfl (fun ls hl => ?_)
  refine t_X6_measure_L11 hM r0 r1 x2 _ Q ?_ fuel (-1 : Int32) (0 : Int32) (0 : Int32) (0 : Int32) h H locs ls hC (lo_sub hl [4, 5, 6, 3, 2, 1, 0] rfl) hw
  intro y10 y11 y12 h9 H locs ls hC hl hw
  refine lv_iload_n hx hb dX6_measure_58 rfl (lo_at hl 0 rfl) ?_
  refine lv_iload hx hb dX6_measure_59 (lo_at hl 1 rfl) ?_
  refine lv_iload hx hb dX6_measure_61 (lo_at hl 2 rfl) ?_
  refine res_i hC (run_S (As := [.int y12]) (rest := [.int y11, .int y10]) hM hC hl.1.1 kv_RX6_21 (c_X6_longestIn l G base y12 h9 _ hw) rfl rfl rfl ⟨Nat.le_of_ble_eq_true rfl, Nat.le_of_ble_eq_true rfl⟩ (Nat.le_of_ble_eq_true rfl) ⟨Nat.le_of_ble_eq_true rfl, Nat.le_of_ble_eq_true rfl⟩ dX6_measure_63) (fun z14 h13 H locs hw hC => ?_)
  refine res_i hC (run_S (As := [.int y10, .int y11, .int z14]) (rest := []) hM hC hl.1.1 kv_RX6_24 (c_X2_pack l G base y10 y11 z14 h13 _ hw) rfl rfl rfl ⟨Nat.le_of_ble_eq_true rfl, Nat.le_of_ble_eq_true rfl⟩ (Nat.le_of_ble_eq_true rfl) ⟨Nat.le_of_ble_eq_true rfl, Nat.le_of_ble_eq_true rfl⟩ dX6_measure_66) (fun z16 h15 H locs hw hC => ?_)
  exact ret_i hM hC hw dX6_measure_69
abbrev rm_X6_pieces : Room := { frames := 2, cells := 0, slots := 0, locals := 66 }
def wp_X6_pieces_L11 (r0 : Option Nat) (r1 : Option Nat) (x2 : Int32) (r3 : Option Nat) (K39 : Hp → Prop) (Q : Int32 → Hp → Prop) : Nat → Int32 → Hp → Prop
  | 0, _, _ => False
  | n + 1, x4, h => (if (32 : Int32) ≤ x4 then (K39 h) else (okO h r3 8 ∧ (wp_X6_runs r0 r1 x4 x2 h (fun (z7 : Int32) (h6 : Hp) => okA h6 (hpR h (ad r3) 2) 1 x4 ∧ (∀ h9 : Hp, h9 = stI h6 (ad (hpR h (ad r3) 2)) (x4).toNatClampNeg z7 → (∀ v10 : Int32, v10 = x4 + (1 : Int32) → (wp_X6_pieces_L11 r0 r1 x2 r3 K39 Q n v10 h9)))))))
def wp_X6_pieces_L52 (r3 : Option Nat) (x4 : Int32) (K81 : Hp → Prop) (Q : Int32 → Hp → Prop) : Nat → Int32 → Hp → Prop
  | 0, _, _ => False
  | n + 1, x5, h => (if x5 < 0 then (K81 h) else (okO h r3 8 ∧ (wp_X6_addHair x4 (x5 * (32 : Int32)) (hpR h (ad r3) 2) (hpR h (ad r3) 3) h (fun (h15 : Hp) => ∀ v17 : Int32, v17 = x5 + (-1 : Int32) → (wp_X6_pieces_L52 r3 x4 K81 Q n v17 h15)))))
def wp_X6_pieces_L42 (r3 : Option Nat) (K87 : Hp → Prop) (Q : Int32 → Hp → Prop) : Nat → Int32 → Hp → Prop
  | 0, _, _ => False
  | n + 1, x4, h => (if (32 : Int32) ≤ x4 then (K87 h) else (wp_X6_pieces_L52 r3 x4 (fun (h18 : Hp) => ∀ v19 : Int32, v19 = x4 + (1 : Int32) → (wp_X6_pieces_L42 r3 K87 Q n v19 h18)) Q fuel (3 : Int32) h))
def wp_X6_pieces_L93 (r3 : Option Nat) (K123 : Int32 → Hp → Prop) (Q : Int32 → Hp → Prop) : Nat → Int32 → Int32 → Hp → Prop
  | 0, _, _, _ => False
  | n + 1, x4, x5, h => (if (32 : Int32) ≤ x5 then (K123 x4 h) else (okO h r3 8 ∧ (okA h (hpR h (ad r3) 3) 1 ((96 : Int32) + x5) ∧ (∀ v24 : Int32, v24 = hpI h (ad (hpR h (ad r3) 3)) ((96 : Int32) + x5).toNatClampNeg → (∀ v25 : Int32, v25 = (if x4 < v24 then v24 else x4) → (∀ v26 : Int32, v26 = x5 + (1 : Int32) → (wp_X6_pieces_L93 r3 K123 Q n v25 v26 h)))))))
def wp_X6_pieces (r0 : Option Nat) (r1 : Option Nat) (x2 : Int32) (r3 : Option Nat) (h : Hp) (Q : Int32 → Hp → Prop) : Prop := okO h r3 8 ∧ (wp_J7_fill_53178 (hpR h (ad r3) 3) (0 : Int32) h (fun (h2 : Hp) => wp_X6_pieces_L11 r0 r1 x2 r3 (fun (h11 : Hp) => wp_X6_pieces_L42 r3 (fun (h20 : Hp) => wp_X6_pieces_L93 r3 (fun (y28 : Int32) (h27 : Hp) => Q y28 h27) Q fuel (0 : Int32) (0 : Int32) h20) Q fuel (0 : Int32) h11) Q fuel (0 : Int32) h2))
set_option maxHeartbeats 4000000 in
set_option maxRecDepth 100000 in
theorem t_X6_pieces_L11 {p : Program} {l : Launch} {e : Env} {s : State} {m : MethodId} {args : Array Value} {below : List Frame} {meth : Method} {c : Code} {G : GG} {base : Nat} (hM : Mx G base p s m args meth c cX6_pieces 6 (some .int) RX6 "pieces") (r0 : Option Nat) (r1 : Option Nat) (x2 : Int32) (r3 : Option Nat) (K39 : Hp → Prop) (Q : Int32 → Hp → Prop) (hK39 : ∀ (h : Hp) (H : Heap) (locs : List Loc) (ls : Array Slot), Cx G base h s.heap H locs → lo_has ls 6 [(3, va_rf r3)] → K39 h → W p l e rm_X6_pieces s m args below meth c H locs 0 0 (MQ below (va_Qi Q (PU G base) (fun q => base ≤ q)) args s 0 0 (fun q => base ≤ q)) (F0 m 39 ls [])) : ∀ (n : Nat) (x4 : Int32) (h : Hp) (H : Heap) (locs : List Loc) (ls : Array Slot), Cx G base h s.heap H locs → lo_has ls 6 [(0, va_rf r0), (1, va_rf r1), (2, .int x2), (3, va_rf r3), (4, .int x4)] → wp_X6_pieces_L11 r0 r1 x2 r3 K39 Q n x4 h → W p l e rm_X6_pieces s m args below meth c H locs 0 0 (MQ below (va_Qi Q (PU G base) (fun q => base ≤ q)) args s 0 0 (fun q => base ≤ q)) (F0 m 11 ls []) := by
  intro n
  induction n with
  | zero =>
    intro x4 h H locs ls hC hl hw
    rw [wp_X6_pieces_L11] at hw
    exact hw.elim
  | succ n ih =>
    intro x4 h H locs ls hC hl hw
    rw [wp_X6_pieces_L11] at hw
    obtain ⟨hx, hb, hr, hml, hown, hts, hg, hs, hlk, hnm⟩ := id hM
    refine lv_iload hx hb dX6_pieces_11 (lo_at hl 4 rfl) ?_
    refine lv_bipush (v := 32) hx hb dX6_pieces_13 (by decide) ?_
    refine lv_icmp_ge (tgt := 39) hx hb dX6_pieces_15 (by decide) (fun c4 => ?_) (fun c4 => ?_)
    ·
      replace hw := (if_pos c4).mp hw
      exact hK39  h H locs ls hC (lo_sub hl [3] rfl) hw
    ·
      replace hw := (if_neg c4).mp hw
      refine lo_aload_n (r := r3) hx hb dX6_pieces_18 rfl (lo_at hl 3 rfl) ?_
      obtain ⟨k5, hw⟩ := hw
      refine rf_1 k5.1 ?_
      refine r_getR hx hb hts hown hg hC fb_8_2 k5.2 mk_f_RX6_42 dX6_pieces_19 ?_
      refine lv_iload hx hb dX6_pieces_22 (lo_at hl 4 rfl) ?_
      refine lo_aload_n (r := r0) hx hb dX6_pieces_24 rfl (lo_at hl 0 rfl) ?_
      refine lo_aload_n (r := r1) hx hb dX6_pieces_25 rfl (lo_at hl 1 rfl) ?_
      refine lv_iload hx hb dX6_pieces_26 (lo_at hl 4 rfl) ?_
      refine lv_iload_n hx hb dX6_pieces_28 rfl (lo_at hl 2 rfl) ?_
      refine res_i hC (run_S (As := [va_rf r0, va_rf r1, .int x4, .int x2]) (rest := [.int x4, va_rf (hpR h (ad r3) 2)]) hM hC hl.1.1 kv_RX6_9 (c_X6_runs l G base r0 r1 x4 x2 h _ hw) rfl rfl rfl ⟨Nat.le_of_ble_eq_true rfl, Nat.le_of_ble_eq_true rfl⟩ (rest_le (List.forall_mem_cons.mpr ⟨rfl, (List.forall_mem_cons.mpr ⟨va_rf_cat _, (fun _ h => absurd h List.not_mem_nil)⟩)⟩) (Nat.le_of_ble_eq_true rfl)) ⟨Nat.le_of_ble_eq_true rfl, Nat.le_of_ble_eq_true rfl⟩ dX6_pieces_29) (fun z7 h6 H locs hw hC => ?_)
      obtain ⟨k8, hw⟩ := hw
      refine rf_3 k8.1 ?_
      refine r_iast hx hb hg hC k8.2.1 k8.2.2 dX6_pieces_32 (fun h9 H locs eh9 hC => ?_)
      replace hw := hw h9 eh9
      obtain ⟨v10, ev10⟩ : ∃ y : Int32, y = x4 + (1 : Int32) := ⟨_, rfl⟩
      replace hw := hw v10 ev10
      refine lo_iinc (v := v10) (lv' := [(4, .int v10), (0, va_rf r0), (1, va_rf r1), (2, .int x2), (3, va_rf r3)]) hx hb dX6_pieces_33 hl (k := 4) rfl (by rw [ev10]; rfl) (by decide) rfl (fun ls hl => ?_)
      refine lv_goto (tgt := 11) hx hb dX6_pieces_36 (by decide) ?_
      exact ih v10 h9 H locs ls hC (lo_sub hl [1, 2, 3, 4, 0] rfl) hw
set_option maxHeartbeats 4000000 in
set_option maxRecDepth 100000 in
theorem t_X6_pieces_L52 {p : Program} {l : Launch} {e : Env} {s : State} {m : MethodId} {args : Array Value} {below : List Frame} {meth : Method} {c : Code} {G : GG} {base : Nat} (hM : Mx G base p s m args meth c cX6_pieces 6 (some .int) RX6 "pieces") (r3 : Option Nat) (x4 : Int32) (K81 : Hp → Prop) (Q : Int32 → Hp → Prop) (hK81 : ∀ (h : Hp) (H : Heap) (locs : List Loc) (ls : Array Slot), Cx G base h s.heap H locs → lo_has ls 6 [(3, va_rf r3), (4, .int x4)] → K81 h → W p l e rm_X6_pieces s m args below meth c H locs 0 0 (MQ below (va_Qi Q (PU G base) (fun q => base ≤ q)) args s 0 0 (fun q => base ≤ q)) (F0 m 81 ls [])) : ∀ (n : Nat) (x5 : Int32) (h : Hp) (H : Heap) (locs : List Loc) (ls : Array Slot), Cx G base h s.heap H locs → lo_has ls 6 [(3, va_rf r3), (4, .int x4), (5, .int x5)] → wp_X6_pieces_L52 r3 x4 K81 Q n x5 h → W p l e rm_X6_pieces s m args below meth c H locs 0 0 (MQ below (va_Qi Q (PU G base) (fun q => base ≤ q)) args s 0 0 (fun q => base ≤ q)) (F0 m 52 ls []) := by
  intro n
  induction n with
  | zero =>
    intro x5 h H locs ls hC hl hw
    rw [wp_X6_pieces_L52] at hw
    exact hw.elim
  | succ n ih =>
    intro x5 h H locs ls hC hl hw
    rw [wp_X6_pieces_L52] at hw
    obtain ⟨hx, hb, hr, hml, hown, hts, hg, hs, hlk, hnm⟩ := id hM
    refine lv_iload hx hb dX6_pieces_52 (lo_at hl 2 rfl) ?_
    refine lv_if_lt (tgt := 81) hx hb dX6_pieces_54 (by decide) (fun c13 => ?_) (fun c13 => ?_)
    ·
      replace hw := (if_pos c13).mp hw
      exact hK81  h H locs ls hC (lo_sub hl [0, 1] rfl) hw
    ·
      replace hw := (if_neg c13).mp hw
      refine lv_iload hx hb dX6_pieces_57 (lo_at hl 1 rfl) ?_
      refine lv_iload hx hb dX6_pieces_59 (lo_at hl 2 rfl) ?_
      refine lv_bipush (v := 32) hx hb dX6_pieces_61 (by decide) ?_
      refine lv_imul hx hb dX6_pieces_63 ?_
      refine lo_aload_n (r := r3) hx hb dX6_pieces_64 rfl (lo_at hl 0 rfl) ?_
      obtain ⟨k14, hw⟩ := hw
      refine rf_1 k14.1 ?_
      refine r_getR hx hb hts hown hg hC fb_8_2 k14.2 mk_f_RX6_42 dX6_pieces_65 ?_
      refine lo_aload_n (r := r3) hx hb dX6_pieces_68 rfl (lo_at hl 0 rfl) ?_
      refine rf_1 k14.1 ?_
      refine r_getR hx hb hts hown hg hC fb_8_3 k14.2 mk_f_RX6_30 dX6_pieces_69 ?_
      refine res_v hC (run_S (As := [.int x4, .int (x5 * (32 : Int32)), va_rf (hpR h (ad r3) 2), va_rf (hpR h (ad r3) 3)]) (rest := []) hM hC hl.1.1 kv_RX6_45 (c_X6_addHair l G base x4 (x5 * (32 : Int32)) (hpR h (ad r3) 2) (hpR h (ad r3) 3) h _ hw) rfl rfl rfl ⟨Nat.le_of_ble_eq_true rfl, Nat.le_of_ble_eq_true rfl⟩ (Nat.le_of_ble_eq_true rfl) ⟨Nat.le_of_ble_eq_true rfl, Nat.le_of_ble_eq_true rfl⟩ dX6_pieces_72) (fun h15 H locs hw hC => ?_)
      obtain ⟨v17, ev17⟩ : ∃ y : Int32, y = x5 + (-1 : Int32) := ⟨_, rfl⟩
      replace hw := hw v17 ev17
      refine lo_iinc (v := v17) (lv' := [(5, .int v17), (3, va_rf r3), (4, .int x4)]) hx hb dX6_pieces_75 hl (k := 2) rfl (by rw [ev17]; rfl) (by decide) rfl (fun ls hl => ?_)
      refine lv_goto (tgt := 52) hx hb dX6_pieces_78 (by decide) ?_
      exact ih v17 h15 H locs ls hC (lo_sub hl [1, 2, 0] rfl) hw
set_option maxHeartbeats 4000000 in
set_option maxRecDepth 100000 in
theorem t_X6_pieces_L42 {p : Program} {l : Launch} {e : Env} {s : State} {m : MethodId} {args : Array Value} {below : List Frame} {meth : Method} {c : Code} {G : GG} {base : Nat} (hM : Mx G base p s m args meth c cX6_pieces 6 (some .int) RX6 "pieces") (r3 : Option Nat) (K87 : Hp → Prop) (Q : Int32 → Hp → Prop) (hK87 : ∀ (h : Hp) (H : Heap) (locs : List Loc) (ls : Array Slot), Cx G base h s.heap H locs → lo_has ls 6 [(3, va_rf r3)] → K87 h → W p l e rm_X6_pieces s m args below meth c H locs 0 0 (MQ below (va_Qi Q (PU G base) (fun q => base ≤ q)) args s 0 0 (fun q => base ≤ q)) (F0 m 87 ls [])) : ∀ (n : Nat) (x4 : Int32) (h : Hp) (H : Heap) (locs : List Loc) (ls : Array Slot), Cx G base h s.heap H locs → lo_has ls 6 [(3, va_rf r3), (4, .int x4)] → wp_X6_pieces_L42 r3 K87 Q n x4 h → W p l e rm_X6_pieces s m args below meth c H locs 0 0 (MQ below (va_Qi Q (PU G base) (fun q => base ≤ q)) args s 0 0 (fun q => base ≤ q)) (F0 m 42 ls []) := by
  intro n
  induction n with
  | zero =>
    intro x4 h H locs ls hC hl hw
    rw [wp_X6_pieces_L42] at hw
    exact hw.elim
  | succ n ih =>
    intro x4 h H locs ls hC hl hw
    rw [wp_X6_pieces_L42] at hw
    obtain ⟨hx, hb, hr, hml, hown, hts, hg, hs, hlk, hnm⟩ := id hM
    refine lv_iload hx hb dX6_pieces_42 (lo_at hl 1 rfl) ?_
    refine lv_bipush (v := 32) hx hb dX6_pieces_44 (by decide) ?_
    refine lv_icmp_ge (tgt := 87) hx hb dX6_pieces_46 (by decide) (fun c12 => ?_) (fun c12 => ?_)
    ·
      replace hw := (if_pos c12).mp hw
      exact hK87  h H locs ls hC (lo_sub hl [0] rfl) hw
    ·
      replace hw := (if_neg c12).mp hw
      refine lv_iconst (v := 3) hx hb dX6_pieces_49 (by decide) ?_
      refine lo_istore (lv' := [(5, .int ((3 : Int32))), (3, va_rf r3), (4, .int x4)]) hx hb dX6_pieces_50 hl (by decide) rfl (fun ls hl => ?_)
      refine t_X6_pieces_L52 hM r3 x4 _ Q ?_ fuel (3 : Int32) h H locs ls hC (lo_sub hl [1, 2, 0] rfl) hw
      intro  h18 H locs ls hC hl hw
      obtain ⟨v19, ev19⟩ : ∃ y : Int32, y = x4 + (1 : Int32) := ⟨_, rfl⟩
      replace hw := hw v19 ev19
      refine lo_iinc (v := v19) (lv' := [(4, .int v19), (3, va_rf r3)]) hx hb dX6_pieces_81 hl (k := 1) rfl (by rw [ev19]; rfl) (by decide) rfl (fun ls hl => ?_)
      refine lv_goto (tgt := 42) hx hb dX6_pieces_84 (by decide) ?_
      exact ih v19 h18 H locs ls hC (lo_sub hl [1, 0] rfl) hw
set_option maxHeartbeats 4000000 in
set_option maxRecDepth 100000 in
theorem t_X6_pieces_L93 {p : Program} {l : Launch} {e : Env} {s : State} {m : MethodId} {args : Array Value} {below : List Frame} {meth : Method} {c : Code} {G : GG} {base : Nat} (hM : Mx G base p s m args meth c cX6_pieces 6 (some .int) RX6 "pieces") (r3 : Option Nat) (K123 : Int32 → Hp → Prop) (Q : Int32 → Hp → Prop) (hK123 : ∀ (y4 : Int32) (h : Hp) (H : Heap) (locs : List Loc) (ls : Array Slot), Cx G base h s.heap H locs → lo_has ls 6 [(4, .int y4)] → K123 y4 h → W p l e rm_X6_pieces s m args below meth c H locs 0 0 (MQ below (va_Qi Q (PU G base) (fun q => base ≤ q)) args s 0 0 (fun q => base ≤ q)) (F0 m 123 ls [])) : ∀ (n : Nat) (x4 : Int32) (x5 : Int32) (h : Hp) (H : Heap) (locs : List Loc) (ls : Array Slot), Cx G base h s.heap H locs → lo_has ls 6 [(3, va_rf r3), (4, .int x4), (5, .int x5)] → wp_X6_pieces_L93 r3 K123 Q n x4 x5 h → W p l e rm_X6_pieces s m args below meth c H locs 0 0 (MQ below (va_Qi Q (PU G base) (fun q => base ≤ q)) args s 0 0 (fun q => base ≤ q)) (F0 m 93 ls []) := by
  intro n
  induction n with
  | zero =>
    intro x4 x5 h H locs ls hC hl hw
    rw [wp_X6_pieces_L93] at hw
    exact hw.elim
  | succ n ih =>
    intro x4 x5 h H locs ls hC hl hw
    rw [wp_X6_pieces_L93] at hw
    obtain ⟨hx, hb, hr, hml, hown, hts, hg, hs, hlk, hnm⟩ := id hM
    refine lv_iload hx hb dX6_pieces_93 (lo_at hl 2 rfl) ?_
    refine lv_bipush (v := 32) hx hb dX6_pieces_95 (by decide) ?_
    refine lv_icmp_ge (tgt := 123) hx hb dX6_pieces_97 (by decide) (fun c21 => ?_) (fun c21 => ?_)
    ·
      replace hw := (if_pos c21).mp hw
      exact hK123 x4 h H locs ls hC (lo_sub hl [1] rfl) hw
    ·
      replace hw := (if_neg c21).mp hw
      refine lv_iload hx hb dX6_pieces_100 (lo_at hl 1 rfl) ?_
      refine lo_aload_n (r := r3) hx hb dX6_pieces_102 rfl (lo_at hl 0 rfl) ?_
      obtain ⟨k22, hw⟩ := hw
      refine rf_1 k22.1 ?_
      refine r_getR hx hb hts hown hg hC fb_8_3 k22.2 mk_f_RX6_30 dX6_pieces_103 ?_
      refine lv_bipush (v := 96) hx hb dX6_pieces_106 (by decide) ?_
      refine lv_iload hx hb dX6_pieces_108 (lo_at hl 2 rfl) ?_
      refine lv_iadd hx hb dX6_pieces_110 ?_
      obtain ⟨k23, hw⟩ := hw
      refine rf_2 k23.1 ?_
      refine r_iald hx hb hg hC k23.2.1 k23.2.2 dX6_pieces_111 ?_
      refine lv_topi (fun v24 ev24 => ?_)
      replace hw := hw v24 ev24
      refine va_mmax hx hb (by rw [hml]; exact hl.1.1.symm) hown (hts _ mk_m_RX6_49) (hts _ mk_math_s_max) (hts _ mk_ini_math) (hts _ mk_math_c_max) (Nat.le_of_ble_eq_true rfl) (Nat.le_of_ble_eq_true rfl) (Nat.le_of_ble_eq_true rfl) (Nat.le_of_ble_eq_true rfl) dX6_pieces_112 ?_
      refine lv_topi (fun v25 ev25 => ?_)
      replace hw := hw v25 ev25
      refine lo_istore (lv' := [(4, .int v25), (3, va_rf r3), (5, .int x5)]) hx hb dX6_pieces_115 hl (by decide) rfl (fun ls hl => ?_)
      obtain ⟨v26, ev26⟩ : ∃ y : Int32, y = x5 + (1 : Int32) := ⟨_, rfl⟩
      replace hw := hw v26 ev26
      refine lo_iinc (v := v26) (lv' := [(5, .int v26), (4, .int v25), (3, va_rf r3)]) hx hb dX6_pieces_117 hl (k := 2) rfl (by rw [ev26]; rfl) (by decide) rfl (fun ls hl => ?_)
      refine lv_goto (tgt := 93) hx hb dX6_pieces_120 (by decide) ?_
      exact ih v25 v26 h H locs ls hC (lo_sub hl [2, 1, 0] rfl) hw
set_option maxHeartbeats 4000000 in
set_option maxRecDepth 100000 in
theorem c_X6_pieces (l : Launch) (G : GG) (base : Nat) (r0 : Option Nat) (r1 : Option Nat) (x2 : Int32) (r3 : Option Nat) (h : Hp) (Q : Int32 → Hp → Prop) (hw : wp_X6_pieces r0 r1 x2 r3 h Q) : Met l yX6_pieces (ww yX6_pieces cX6_pieces 6 (some .int)) rm_X6_pieces (va_Pc [va_rf r0, va_rf r1, .int x2, va_rf r3] (PU G base h)) (va_Qi Q (PU G base) (fun q => base ≤ q)) 0 0 (fun q => base ≤ q) := by
  refine met_of (own := RX6) (nm := "pieces") (by decide) rfl rfl (List.forall_mem_cons.mpr ⟨va_rf_cat _, (List.forall_mem_cons.mpr ⟨va_rf_cat _, (List.forall_mem_cons.mpr ⟨rfl, (List.forall_mem_cons.mpr ⟨va_rf_cat _, (fun _ h => absurd h List.not_mem_nil)⟩)⟩)⟩)⟩) (Nat.le_of_ble_eq_true rfl) rfl ?_
  intro p e s m below meth c ls hM hC hl
  obtain ⟨hx, hb, hr, hml, hown, hts, hg, hs, hlk, hnm⟩ := id hM
  obtain ⟨args, hargs⟩ : ∃ a : Array Value, a = ([va_rf r0, va_rf r1, .int x2, va_rf r3] : List Value).toArray := ⟨_, rfl⟩
  rw [← hargs] at hM hts ⊢
  obtain ⟨H, hH⟩ : ∃ H : Heap, H = s.heap := ⟨_, rfl⟩
  obtain ⟨locs, hlocs⟩ : ∃ x : List Loc, x = [] := ⟨_, rfl⟩
  have hC : Cx G base h s.heap H locs := by rw [hH, hlocs]; exact hC
  show W p l e rm_X6_pieces s m args below meth c s.heap [] 0 0 (MQ below (va_Qi Q (PU G base) (fun q => base ≤ q)) args s 0 0 (fun q => base ≤ q)) (F0 m 0 ls [])
  rw [← hlocs]
  have hgoal : W p l e rm_X6_pieces s m args below meth c H locs 0 0 (MQ below (va_Qi Q (PU G base) (fun q => base ≤ q)) args s 0 0 (fun q => base ≤ q)) (F0 m 0 ls []) := ?_
  · rw [hH] at hgoal; exact hgoal
  clear hH hlocs
  unfold wp_X6_pieces at hw
  refine lo_aload_n (r := r3) hx hb dX6_pieces_0 rfl (lo_at hl 3 rfl) ?_
  obtain ⟨k1, hw⟩ := hw
  refine rf_1 k1.1 ?_
  refine r_getR hx hb hts hown hg hC fb_8_3 k1.2 mk_f_RX6_30 dX6_pieces_1 ?_
  refine lv_iconst (v := 0) hx hb dX6_pieces_4 (by decide) ?_
  refine res_v hC (run_S (As := [va_rf (hpR h (ad r3) 3), .int ((0 : Int32))]) (rest := []) hM hC hl.1.1 kv_RX6_36 (c_J7_fill_53178 l G base (hpR h (ad r3) 3) (0 : Int32) h _ hw) rfl rfl rfl ⟨Nat.le_of_ble_eq_true rfl, Nat.le_of_ble_eq_true rfl⟩ (Nat.le_of_ble_eq_true rfl) ⟨Nat.le_of_ble_eq_true rfl, Nat.le_of_ble_eq_true rfl⟩ dX6_pieces_5) (fun h2 H locs hw hC => ?_)
  refine lv_iconst (v := 0) hx hb dX6_pieces_8 (by decide) ?_
  refine lo_istore (lv' := [(4, .int ((0 : Int32))), (0, va_rf r0), (1, va_rf r1), (2, .int x2), (3, va_rf r3)]) hx hb dX6_pieces_9 hl (by decide) rfl (fun ls hl => ?_)
  refine t_X6_pieces_L11 hM r0 r1 x2 r3 _ Q ?_ fuel (0 : Int32) h2 H locs ls hC (lo_sub hl [1, 2, 3, 4, 0] rfl) hw
  intro  h11 H locs ls hC hl hw
  refine lv_iconst (v := 0) hx hb dX6_pieces_39 (by decide) ?_
  refine lo_istore (lv' := [(4, .int ((0 : Int32))), (3, va_rf r3)]) hx hb dX6_pieces_40 hl (by decide) rfl (fun ls hl => ?_)
  refine t_X6_pieces_L42 hM r3 _ Q ?_ fuel (0 : Int32) h11 H locs ls hC (lo_sub hl [1, 0] rfl) hw
  intro  h20 H locs ls hC hl hw
  refine lv_iconst (v := 0) hx hb dX6_pieces_87 (by decide) ?_
  refine lo_istore (lv' := [(4, .int ((0 : Int32))), (3, va_rf r3)]) hx hb dX6_pieces_88 hl (by decide) rfl (fun ls hl => ?_)
  refine lv_iconst (v := 0) hx hb dX6_pieces_90 (by decide) ?_
  refine lo_istore (lv' := [(5, .int ((0 : Int32))), (4, .int ((0 : Int32))), (3, va_rf r3)]) hx hb dX6_pieces_91 hl (by decide) rfl (fun ls hl => ?_)
  refine t_X6_pieces_L93 hM r3 _ Q ?_ fuel (0 : Int32) (0 : Int32) h20 H locs ls hC (lo_sub hl [2, 1, 0] rfl) hw
  intro y28 h27 H locs ls hC hl hw
  refine lv_iload hx hb dX6_pieces_123 (lo_at hl 0 rfl) ?_
  exact ret_i hM hC hw dX6_pieces_125
abbrev rm_X7_value : Room := { frames := 1, cells := 0, slots := 0, locals := 22 }
def wp_X7_value_J34 (o : Nat) (x2 : Int32) (r3 : Option Nat) (x4 : Int32) (x5 : Int32) (x6 : Int32) (KH : Int32 → Int32 → Hp → Prop) (K155 : Int32 → Hp → Prop) (Q : Int32 → Hp → Prop) (h : Hp) : Prop := (if (32 : Int32) ≤ x4 then (∀ v7 : Int32, v7 = x5 + (1 : Int32) → (KH x4 v7 h)) else (((hpK h o).1 = 20 + 5) ∧ ((if 0 ≤ x6 then (okA h r3 1 (x6 - (265 : Int32)) ∧ (∀ v11 : Int32, v11 = hpI h (ad r3) (x6 - (265 : Int32)).toNatClampNeg → (okA h (hpR h o 5) 1 x4 ∧ (∀ h13 : Hp, h13 = stI h (ad (hpR h o 5)) (x4).toNatClampNeg v11 → (∀ v14 : Int32, v14 = x4 + (1 : Int32) → (∀ v15 : Int32, v15 = x5 + (1 : Int32) → (KH v14 v15 h13))))))) else (okA h (hpR h o 5) 1 x4 ∧ (∀ h17 : Hp, h17 = stI h (ad (hpR h o 5)) (x4).toNatClampNeg (x6 ^^^ (-1 : Int32)) → (∀ v18 : Int32, v18 = x4 + (1 : Int32) → (∀ v19 : Int32, v19 = x5 + (1 : Int32) → (KH v18 v19 h17)))))))))
def wp_X7_value_L6 (o : Nat) (x2 : Int32) (r3 : Option Nat) (K155 : Int32 → Hp → Prop) (Q : Int32 → Hp → Prop) : Nat → Int32 → Int32 → Hp → Prop
  | 0, _, _, _ => False
  | n + 1, x4, x5, h => (if x2 ≤ x5 then (K155 x4 h) else (((hpK h o).1 = 20 + 5) ∧ (okA h (hpR h o 4) 1 x5 ∧ (∀ v4 : Int32, v4 = hpI h (ad (hpR h o 4)) (x5).toNatClampNeg → ((if v4 < 0 then (wp_X7_value_J34 o x2 r3 x4 x5 v4 (wp_X7_value_L6 o x2 r3 K155 Q n) K155 Q h) else ((if v4 < (265 : Int32) then ((if v4 = (258 : Int32) then ((if x4 ≤ 0 then (∀ v35 : Int32, v35 = x5 + (1 : Int32) → (wp_X7_value_L6 o x2 r3 K155 Q n x4 v35 h)) else (okA h (hpR h o 5) 1 (x4 - (1 : Int32)) ∧ (∀ v37 : Int32, v37 = hpI h (ad (hpR h o 5)) (x4 - (1 : Int32)).toNatClampNeg → (okA h (hpR h o 5) 1 (x4 - (1 : Int32)) ∧ (∀ h39 : Hp, h39 = stI h (ad (hpR h o 5)) (x4 - (1 : Int32)).toNatClampNeg ((1 : Int32) - v37) → (∀ v40 : Int32, v40 = x5 + (1 : Int32) → (wp_X7_value_L6 o x2 r3 K155 Q n x4 v40 h39)))))))) else ((if x4 ≤ (1 : Int32) then (∀ v23 : Int32, v23 = x5 + (1 : Int32) → (wp_X7_value_L6 o x2 r3 K155 Q n x4 v23 h)) else (∀ v24 : Int32, v24 = x4 + (-1 : Int32) → (okA h (hpR h o 5) 1 (v24 - (1 : Int32)) ∧ (∀ v26 : Int32, v26 = hpI h (ad (hpR h o 5)) (v24 - (1 : Int32)).toNatClampNeg → (okA h (hpR h o 5) 1 v24 ∧ (∀ v28 : Int32, v28 = hpI h (ad (hpR h o 5)) (v24).toNatClampNeg → (wp_X7_combined v4 v26 v28 h (fun (z30 : Int32) (h29 : Hp) => okA h29 (hpR h o 5) 1 (v24 - (1 : Int32)) ∧ (∀ h32 : Hp, h32 = stI h29 (ad (hpR h o 5)) (v24 - (1 : Int32)).toNatClampNeg z30 → (∀ v33 : Int32, v33 = x5 + (1 : Int32) → (wp_X7_value_L6 o x2 r3 K155 Q n v24 v33 h32)))))))))))))) else (wp_X7_value_J34 o x2 r3 x4 x5 v4 (wp_X7_value_L6 o x2 r3 K155 Q n) K155 Q h)))))))))
def wp_X7_value (o : Nat) (x1 : Int32) (x2 : Int32) (r3 : Option Nat) (h : Hp) (Q : Int32 → Hp → Prop) : Prop := wp_X7_value_L6 o x2 r3 (fun (y42 : Int32) (h41 : Hp) => (if y42 ≤ 0 then (Q (0 : Int32) h41) else (((hpK h41 o).1 = 20 + 5) ∧ (okA h41 (hpR h41 o 5) 1 (y42 - (1 : Int32)) ∧ (∀ v46 : Int32, v46 = hpI h41 (ad (hpR h41 o 5)) (y42 - (1 : Int32)).toNatClampNeg → (Q v46 h41)))))) Q fuel (0 : Int32) x1 h
set_option maxHeartbeats 4000000 in
set_option maxRecDepth 100000 in
theorem t_X7_value_J34 {p : Program} {l : Launch} {e : Env} {s : State} {m : MethodId} {args : Array Value} {below : List Frame} {meth : Method} {c : Code} {G : GG} {base : Nat} (hM : Mx G base p s m args meth c cX7_value 7 (some .int) RX7 "value") (o : Nat) (x2 : Int32) (r3 : Option Nat) (x4 : Int32) (x5 : Int32) (x6 : Int32) (KH : Int32 → Int32 → Hp → Prop) (K155 : Int32 → Hp → Prop) (Q : Int32 → Hp → Prop) (hKH : ∀ (y4 : Int32) (y5 : Int32) (h : Hp) (H : Heap) (locs : List Loc) (ls : Array Slot), Cx G base h s.heap H locs → lo_has ls 7 [(0, .ref o), (2, .int x2), (3, va_rf r3), (4, .int y4), (5, .int y5)] → KH y4 y5 h → W p l e rm_X7_value s m args below meth c H locs 0 0 (MQ below (va_Qi Q (PU G base) (fun q => base ≤ q)) args s 0 0 (fun q => base ≤ q)) (F0 m 6 ls [])) (hK155 : ∀ (y4 : Int32) (h : Hp) (H : Heap) (locs : List Loc) (ls : Array Slot), Cx G base h s.heap H locs → lo_has ls 7 [(0, .ref o), (4, .int y4)] → K155 y4 h → W p l e rm_X7_value s m args below meth c H locs 0 0 (MQ below (va_Qi Q (PU G base) (fun q => base ≤ q)) args s 0 0 (fun q => base ≤ q)) (F0 m 155 ls [])) (h : Hp) (H : Heap) (locs : List Loc) (ls : Array Slot) : Cx G base h s.heap H locs → lo_has ls 7 [(0, .ref o), (2, .int x2), (3, va_rf r3), (4, .int x4), (5, .int x5), (6, .int x6)] → wp_X7_value_J34 o x2 r3 x4 x5 x6 KH K155 Q h → W p l e rm_X7_value s m args below meth c H locs 0 0 (MQ below (va_Qi Q (PU G base) (fun q => base ≤ q)) args s 0 0 (fun q => base ≤ q)) (F0 m 34 ls []) := by
  intro hC hl hw
  unfold wp_X7_value_J34 at hw
  obtain ⟨hx, hb, hr, hml, hown, hts, hg, hs, hlk, hnm⟩ := id hM
  refine lv_iload hx hb dX7_value_34 (lo_at hl 3 rfl) ?_
  refine lv_bipush (v := 32) hx hb dX7_value_36 (by decide) ?_
  refine lv_icmp_ge (tgt := 149) hx hb dX7_value_38 (by decide) (fun c6 => ?_) (fun c6 => ?_)
  ·
    replace hw := (if_pos c6).mp hw
    obtain ⟨v7, ev7⟩ : ∃ y : Int32, y = x5 + (1 : Int32) := ⟨_, rfl⟩
    replace hw := hw v7 ev7
    refine lo_iinc (v := v7) (lv' := [(5, .int v7), (0, .ref o), (2, .int x2), (3, va_rf r3), (4, .int x4), (6, .int x6)]) hx hb dX7_value_149 hl (k := 4) rfl (by rw [ev7]; rfl) (by decide) rfl (fun ls hl => ?_)
    refine lv_goto (tgt := 6) hx hb dX7_value_152 (by decide) ?_
    exact hKH x4 v7 h H locs ls hC (lo_sub hl [1, 2, 3, 4, 0] rfl) hw
  ·
    replace hw := (if_neg c6).mp hw
    refine lv_aload_n hx hb dX7_value_41 rfl (lo_at hl 0 rfl) ?_
    obtain ⟨k8, hw⟩ := hw
    refine r_getR hx hb hts hown hg hC fb_5_5 k8 mk_f_RX7_27 dX7_value_42 ?_
    refine lv_iload hx hb dX7_value_45 (lo_at hl 3 rfl) ?_
    refine lv_iload hx hb dX7_value_47 (lo_at hl 5 rfl) ?_
    refine lv_if_ge (tgt := 59) hx hb dX7_value_49 (by decide) (fun c9 => ?_) (fun c9 => ?_)
    ·
      replace hw := (if_pos c9).mp hw
      refine lo_aload_n (r := r3) hx hb dX7_value_59 rfl (lo_at hl 2 rfl) ?_
      refine lv_iload hx hb dX7_value_60 (lo_at hl 5 rfl) ?_
      refine lv_sipush (v := 265) hx hb dX7_value_62 (by decide) ?_
      refine lv_isub hx hb dX7_value_65 ?_
      obtain ⟨k10, hw⟩ := hw
      refine rf_2 k10.1 ?_
      refine r_iald hx hb hg hC k10.2.1 k10.2.2 dX7_value_66 ?_
      refine lv_topi (fun v11 ev11 => ?_)
      replace hw := hw v11 ev11
      obtain ⟨k12, hw⟩ := hw
      refine rf_3 k12.1 ?_
      refine r_iast hx hb hg hC k12.2.1 k12.2.2 dX7_value_67 (fun h13 H locs eh13 hC => ?_)
      replace hw := hw h13 eh13
      obtain ⟨v14, ev14⟩ : ∃ y : Int32, y = x4 + (1 : Int32) := ⟨_, rfl⟩
      replace hw := hw v14 ev14
      refine lo_iinc (v := v14) (lv' := [(4, .int v14), (0, .ref o), (2, .int x2), (3, va_rf r3), (5, .int x5), (6, .int x6)]) hx hb dX7_value_68 hl (k := 3) rfl (by rw [ev14]; rfl) (by decide) rfl (fun ls hl => ?_)
      refine lv_goto (tgt := 149) hx hb dX7_value_71 (by decide) ?_
      obtain ⟨v15, ev15⟩ : ∃ y : Int32, y = x5 + (1 : Int32) := ⟨_, rfl⟩
      replace hw := hw v15 ev15
      refine lo_iinc (v := v15) (lv' := [(5, .int v15), (4, .int v14), (0, .ref o), (2, .int x2), (3, va_rf r3), (6, .int x6)]) hx hb dX7_value_149 hl (k := 4) rfl (by rw [ev15]; rfl) (by decide) rfl (fun ls hl => ?_)
      refine lv_goto (tgt := 6) hx hb dX7_value_152 (by decide) ?_
      exact hKH v14 v15 h13 H locs ls hC (lo_sub hl [2, 3, 4, 1, 0] rfl) hw
    ·
      replace hw := (if_neg c9).mp hw
      refine lv_iload hx hb dX7_value_52 (lo_at hl 5 rfl) ?_
      refine lv_iconst (v := -1) hx hb dX7_value_54 (by decide) ?_
      refine lv_ixor hx hb dX7_value_55 ?_
      refine lv_goto (tgt := 67) hx hb dX7_value_56 (by decide) ?_
      obtain ⟨k16, hw⟩ := hw
      refine rf_3 k16.1 ?_
      refine r_iast hx hb hg hC k16.2.1 k16.2.2 dX7_value_67 (fun h17 H locs eh17 hC => ?_)
      replace hw := hw h17 eh17
      obtain ⟨v18, ev18⟩ : ∃ y : Int32, y = x4 + (1 : Int32) := ⟨_, rfl⟩
      replace hw := hw v18 ev18
      refine lo_iinc (v := v18) (lv' := [(4, .int v18), (0, .ref o), (2, .int x2), (3, va_rf r3), (5, .int x5), (6, .int x6)]) hx hb dX7_value_68 hl (k := 3) rfl (by rw [ev18]; rfl) (by decide) rfl (fun ls hl => ?_)
      refine lv_goto (tgt := 149) hx hb dX7_value_71 (by decide) ?_
      obtain ⟨v19, ev19⟩ : ∃ y : Int32, y = x5 + (1 : Int32) := ⟨_, rfl⟩
      replace hw := hw v19 ev19
      refine lo_iinc (v := v19) (lv' := [(5, .int v19), (4, .int v18), (0, .ref o), (2, .int x2), (3, va_rf r3), (6, .int x6)]) hx hb dX7_value_149 hl (k := 4) rfl (by rw [ev19]; rfl) (by decide) rfl (fun ls hl => ?_)
      refine lv_goto (tgt := 6) hx hb dX7_value_152 (by decide) ?_
      exact hKH v18 v19 h17 H locs ls hC (lo_sub hl [2, 3, 4, 1, 0] rfl) hw
set_option maxHeartbeats 4000000 in
set_option maxRecDepth 100000 in
theorem t_X7_value_L6 {p : Program} {l : Launch} {e : Env} {s : State} {m : MethodId} {args : Array Value} {below : List Frame} {meth : Method} {c : Code} {G : GG} {base : Nat} (hM : Mx G base p s m args meth c cX7_value 7 (some .int) RX7 "value") (o : Nat) (x2 : Int32) (r3 : Option Nat) (K155 : Int32 → Hp → Prop) (Q : Int32 → Hp → Prop) (hK155 : ∀ (y4 : Int32) (h : Hp) (H : Heap) (locs : List Loc) (ls : Array Slot), Cx G base h s.heap H locs → lo_has ls 7 [(0, .ref o), (4, .int y4)] → K155 y4 h → W p l e rm_X7_value s m args below meth c H locs 0 0 (MQ below (va_Qi Q (PU G base) (fun q => base ≤ q)) args s 0 0 (fun q => base ≤ q)) (F0 m 155 ls [])) : ∀ (n : Nat) (x4 : Int32) (x5 : Int32) (h : Hp) (H : Heap) (locs : List Loc) (ls : Array Slot), Cx G base h s.heap H locs → lo_has ls 7 [(0, .ref o), (2, .int x2), (3, va_rf r3), (4, .int x4), (5, .int x5)] → wp_X7_value_L6 o x2 r3 K155 Q n x4 x5 h → W p l e rm_X7_value s m args below meth c H locs 0 0 (MQ below (va_Qi Q (PU G base) (fun q => base ≤ q)) args s 0 0 (fun q => base ≤ q)) (F0 m 6 ls []) := by
  intro n
  induction n with
  | zero =>
    intro x4 x5 h H locs ls hC hl hw
    rw [wp_X7_value_L6] at hw
    exact hw.elim
  | succ n ih =>
    intro x4 x5 h H locs ls hC hl hw
    rw [wp_X7_value_L6] at hw
    obtain ⟨hx, hb, hr, hml, hown, hts, hg, hs, hlk, hnm⟩ := id hM
    refine lv_iload hx hb dX7_value_6 (lo_at hl 4 rfl) ?_
    refine lv_iload_n hx hb dX7_value_8 rfl (lo_at hl 1 rfl) ?_
    refine lv_icmp_ge (tgt := 155) hx hb dX7_value_9 (by decide) (fun c1 => ?_) (fun c1 => ?_)
    ·
      replace hw := (if_pos c1).mp hw
      exact hK155 x4 h H locs ls hC (lo_sub hl [0, 3] rfl) hw
    ·
      replace hw := (if_neg c1).mp hw
      refine lv_aload_n hx hb dX7_value_12 rfl (lo_at hl 0 rfl) ?_
      obtain ⟨k2, hw⟩ := hw
      refine r_getR hx hb hts hown hg hC fb_5_4 k2 mk_f_RX7_24 dX7_value_13 ?_
      refine lv_iload hx hb dX7_value_16 (lo_at hl 4 rfl) ?_
      obtain ⟨k3, hw⟩ := hw
      refine rf_2 k3.1 ?_
      refine r_iald hx hb hg hC k3.2.1 k3.2.2 dX7_value_18 ?_
      refine lv_topi (fun v4 ev4 => ?_)
      replace hw := hw v4 ev4
      refine lo_istore (lv' := [(6, .int v4), (0, .ref o), (2, .int x2), (3, va_rf r3), (4, .int x4), (5, .int x5)]) hx hb dX7_value_19 hl (by decide) rfl (fun ls hl => ?_)
      refine lv_iload hx hb dX7_value_21 (lo_at hl 0 rfl) ?_
      refine lv_if_lt (tgt := 34) hx hb dX7_value_23 (by decide) (fun c5 => ?_) (fun c5 => ?_)
      ·
        replace hw := (if_pos c5).mp hw
        exact t_X7_value_J34 hM o x2 r3 x4 x5 v4 (wp_X7_value_L6 o x2 r3 K155 Q n) K155 Q ih hK155 h H locs ls hC (lo_sub hl [1, 2, 3, 4, 5, 0] rfl) hw
      ·
        replace hw := (if_neg c5).mp hw
        refine lv_iload hx hb dX7_value_26 (lo_at hl 0 rfl) ?_
        refine lv_sipush (v := 265) hx hb dX7_value_28 (by decide) ?_
        refine lv_icmp_lt (tgt := 74) hx hb dX7_value_31 (by decide) (fun c20 => ?_) (fun c20 => ?_)
        ·
          replace hw := (if_pos c20).mp hw
          refine lv_iload hx hb dX7_value_74 (lo_at hl 0 rfl) ?_
          refine lv_sipush (v := 258) hx hb dX7_value_76 (by decide) ?_
          refine lv_icmp_ne (tgt := 110) hx hb dX7_value_79 (by decide) (fun c21 => ?_) (fun c21 => ?_)
          ·
            replace hw := (if_neg c21).mp hw
            refine lv_iload hx hb dX7_value_110 (lo_at hl 4 rfl) ?_
            refine lv_iconst (v := 1) hx hb dX7_value_112 (by decide) ?_
            refine lv_icmp_le (tgt := 149) hx hb dX7_value_113 (by decide) (fun c22 => ?_) (fun c22 => ?_)
            ·
              replace hw := (if_pos c22).mp hw
              obtain ⟨v23, ev23⟩ : ∃ y : Int32, y = x5 + (1 : Int32) := ⟨_, rfl⟩
              replace hw := hw v23 ev23
              refine lo_iinc (v := v23) (lv' := [(5, .int v23), (6, .int v4), (0, .ref o), (2, .int x2), (3, va_rf r3), (4, .int x4)]) hx hb dX7_value_149 hl (k := 5) rfl (by rw [ev23]; rfl) (by decide) rfl (fun ls hl => ?_)
              refine lv_goto (tgt := 6) hx hb dX7_value_152 (by decide) ?_
              exact ih x4 v23 h H locs ls hC (lo_sub hl [2, 3, 4, 5, 0] rfl) hw
            ·
              replace hw := (if_neg c22).mp hw
              obtain ⟨v24, ev24⟩ : ∃ y : Int32, y = x4 + (-1 : Int32) := ⟨_, rfl⟩
              replace hw := hw v24 ev24
              refine lo_iinc (v := v24) (lv' := [(4, .int v24), (6, .int v4), (0, .ref o), (2, .int x2), (3, va_rf r3), (5, .int x5)]) hx hb dX7_value_116 hl (k := 4) rfl (by rw [ev24]; rfl) (by decide) rfl (fun ls hl => ?_)
              refine lv_aload_n hx hb dX7_value_119 rfl (lo_at hl 2 rfl) ?_
              refine r_getR hx hb hts hown hg hC fb_5_5 k2 mk_f_RX7_27 dX7_value_120 ?_
              refine lv_iload hx hb dX7_value_123 (lo_at hl 0 rfl) ?_
              refine lv_iconst (v := 1) hx hb dX7_value_125 (by decide) ?_
              refine lv_isub hx hb dX7_value_126 ?_
              refine lv_iload hx hb dX7_value_127 (lo_at hl 1 rfl) ?_
              refine lv_aload_n hx hb dX7_value_129 rfl (lo_at hl 2 rfl) ?_
              refine r_getR hx hb hts hown hg hC fb_5_5 k2 mk_f_RX7_27 dX7_value_130 ?_
              refine lv_iload hx hb dX7_value_133 (lo_at hl 0 rfl) ?_
              refine lv_iconst (v := 1) hx hb dX7_value_135 (by decide) ?_
              refine lv_isub hx hb dX7_value_136 ?_
              obtain ⟨k25, hw⟩ := hw
              refine rf_2 k25.1 ?_
              refine r_iald hx hb hg hC k25.2.1 k25.2.2 dX7_value_137 ?_
              refine lv_topi (fun v26 ev26 => ?_)
              replace hw := hw v26 ev26
              refine lv_aload_n hx hb dX7_value_138 rfl (lo_at hl 2 rfl) ?_
              refine r_getR hx hb hts hown hg hC fb_5_5 k2 mk_f_RX7_27 dX7_value_139 ?_
              refine lv_iload hx hb dX7_value_142 (lo_at hl 0 rfl) ?_
              obtain ⟨k27, hw⟩ := hw
              refine rf_2 k27.1 ?_
              refine r_iald hx hb hg hC k27.2.1 k27.2.2 dX7_value_144 ?_
              refine lv_topi (fun v28 ev28 => ?_)
              replace hw := hw v28 ev28
              refine res_i hC (run_S (As := [.int v4, .int v26, .int v28]) (rest := [.int (v24 - (1 : Int32)), va_rf (hpR h o 5)]) hM hC hl.1.1 kv_RX7_85 (c_X7_combined l G base v4 v26 v28 h _ hw) rfl rfl rfl ⟨Nat.le_of_ble_eq_true rfl, Nat.le_of_ble_eq_true rfl⟩ (rest_le (List.forall_mem_cons.mpr ⟨rfl, (List.forall_mem_cons.mpr ⟨va_rf_cat _, (fun _ h => absurd h List.not_mem_nil)⟩)⟩) (Nat.le_of_ble_eq_true rfl)) ⟨Nat.le_of_ble_eq_true rfl, Nat.le_of_ble_eq_true rfl⟩ dX7_value_145) (fun z30 h29 H locs hw hC => ?_)
              obtain ⟨k31, hw⟩ := hw
              refine rf_3 k31.1 ?_
              refine r_iast hx hb hg hC k31.2.1 k31.2.2 dX7_value_148 (fun h32 H locs eh32 hC => ?_)
              replace hw := hw h32 eh32
              obtain ⟨v33, ev33⟩ : ∃ y : Int32, y = x5 + (1 : Int32) := ⟨_, rfl⟩
              replace hw := hw v33 ev33
              refine lo_iinc (v := v33) (lv' := [(5, .int v33), (4, .int v24), (6, .int v4), (0, .ref o), (2, .int x2), (3, va_rf r3)]) hx hb dX7_value_149 hl (k := 5) rfl (by rw [ev33]; rfl) (by decide) rfl (fun ls hl => ?_)
              refine lv_goto (tgt := 6) hx hb dX7_value_152 (by decide) ?_
              exact ih v24 v33 h32 H locs ls hC (lo_sub hl [3, 4, 5, 1, 0] rfl) hw
          ·
            replace hw := (if_pos c21).mp hw
            refine lv_iload hx hb dX7_value_82 (lo_at hl 4 rfl) ?_
            refine lv_if_le (tgt := 149) hx hb dX7_value_84 (by decide) (fun c34 => ?_) (fun c34 => ?_)
            ·
              replace hw := (if_pos c34).mp hw
              obtain ⟨v35, ev35⟩ : ∃ y : Int32, y = x5 + (1 : Int32) := ⟨_, rfl⟩
              replace hw := hw v35 ev35
              refine lo_iinc (v := v35) (lv' := [(5, .int v35), (6, .int v4), (0, .ref o), (2, .int x2), (3, va_rf r3), (4, .int x4)]) hx hb dX7_value_149 hl (k := 5) rfl (by rw [ev35]; rfl) (by decide) rfl (fun ls hl => ?_)
              refine lv_goto (tgt := 6) hx hb dX7_value_152 (by decide) ?_
              exact ih x4 v35 h H locs ls hC (lo_sub hl [2, 3, 4, 5, 0] rfl) hw
            ·
              replace hw := (if_neg c34).mp hw
              refine lv_aload_n hx hb dX7_value_87 rfl (lo_at hl 1 rfl) ?_
              refine r_getR hx hb hts hown hg hC fb_5_5 k2 mk_f_RX7_27 dX7_value_88 ?_
              refine lv_iload hx hb dX7_value_91 (lo_at hl 4 rfl) ?_
              refine lv_iconst (v := 1) hx hb dX7_value_93 (by decide) ?_
              refine lv_isub hx hb dX7_value_94 ?_
              refine lv_iconst (v := 1) hx hb dX7_value_95 (by decide) ?_
              refine lv_aload_n hx hb dX7_value_96 rfl (lo_at hl 1 rfl) ?_
              refine r_getR hx hb hts hown hg hC fb_5_5 k2 mk_f_RX7_27 dX7_value_97 ?_
              refine lv_iload hx hb dX7_value_100 (lo_at hl 4 rfl) ?_
              refine lv_iconst (v := 1) hx hb dX7_value_102 (by decide) ?_
              refine lv_isub hx hb dX7_value_103 ?_
              obtain ⟨k36, hw⟩ := hw
              refine rf_2 k36.1 ?_
              refine r_iald hx hb hg hC k36.2.1 k36.2.2 dX7_value_104 ?_
              refine lv_topi (fun v37 ev37 => ?_)
              replace hw := hw v37 ev37
              refine lv_isub hx hb dX7_value_105 ?_
              obtain ⟨k38, hw⟩ := hw
              refine rf_3 k38.1 ?_
              refine r_iast hx hb hg hC k38.2.1 k38.2.2 dX7_value_106 (fun h39 H locs eh39 hC => ?_)
              replace hw := hw h39 eh39
              refine lv_goto (tgt := 149) hx hb dX7_value_107 (by decide) ?_
              obtain ⟨v40, ev40⟩ : ∃ y : Int32, y = x5 + (1 : Int32) := ⟨_, rfl⟩
              replace hw := hw v40 ev40
              refine lo_iinc (v := v40) (lv' := [(5, .int v40), (6, .int v4), (0, .ref o), (2, .int x2), (3, va_rf r3), (4, .int x4)]) hx hb dX7_value_149 hl (k := 5) rfl (by rw [ev40]; rfl) (by decide) rfl (fun ls hl => ?_)
              refine lv_goto (tgt := 6) hx hb dX7_value_152 (by decide) ?_
              exact ih x4 v40 h39 H locs ls hC (lo_sub hl [2, 3, 4, 5, 0] rfl) hw
        ·
          replace hw := (if_neg c20).mp hw
          exact t_X7_value_J34 hM o x2 r3 x4 x5 v4 (wp_X7_value_L6 o x2 r3 K155 Q n) K155 Q ih hK155 h H locs ls hC (lo_sub hl [1, 2, 3, 4, 5, 0] rfl) hw
set_option maxHeartbeats 4000000 in
set_option maxRecDepth 100000 in
theorem c_X7_value (l : Launch) (G : GG) (base : Nat) (o : Nat) (x1 : Int32) (x2 : Int32) (r3 : Option Nat) (h : Hp) (Q : Int32 → Hp → Prop) (hw : wp_X7_value o x1 x2 r3 h Q) : Met l yX7_value (ww yX7_value cX7_value 7 (some .int)) rm_X7_value (va_Pc [.ref o, .int x1, .int x2, va_rf r3] (PU G base h)) (va_Qi Q (PU G base) (fun q => base ≤ q)) 0 0 (fun q => base ≤ q) := by
  refine met_of (own := RX7) (nm := "value") (by decide) rfl rfl (List.forall_mem_cons.mpr ⟨rfl, (List.forall_mem_cons.mpr ⟨rfl, (List.forall_mem_cons.mpr ⟨rfl, (List.forall_mem_cons.mpr ⟨va_rf_cat _, (fun _ h => absurd h List.not_mem_nil)⟩)⟩)⟩)⟩) (Nat.le_of_ble_eq_true rfl) rfl ?_
  intro p e s m below meth c ls hM hC hl
  obtain ⟨hx, hb, hr, hml, hown, hts, hg, hs, hlk, hnm⟩ := id hM
  obtain ⟨args, hargs⟩ : ∃ a : Array Value, a = ([.ref o, .int x1, .int x2, va_rf r3] : List Value).toArray := ⟨_, rfl⟩
  rw [← hargs] at hM hts ⊢
  obtain ⟨H, hH⟩ : ∃ H : Heap, H = s.heap := ⟨_, rfl⟩
  obtain ⟨locs, hlocs⟩ : ∃ x : List Loc, x = [] := ⟨_, rfl⟩
  have hC : Cx G base h s.heap H locs := by rw [hH, hlocs]; exact hC
  show W p l e rm_X7_value s m args below meth c s.heap [] 0 0 (MQ below (va_Qi Q (PU G base) (fun q => base ≤ q)) args s 0 0 (fun q => base ≤ q)) (F0 m 0 ls [])
  rw [← hlocs]
  have hgoal : W p l e rm_X7_value s m args below meth c H locs 0 0 (MQ below (va_Qi Q (PU G base) (fun q => base ≤ q)) args s 0 0 (fun q => base ≤ q)) (F0 m 0 ls []) := ?_
  · rw [hH] at hgoal; exact hgoal
  clear hH hlocs
  unfold wp_X7_value at hw
  refine lv_iconst (v := 0) hx hb dX7_value_0 (by decide) ?_
  refine lo_istore (lv' := [(4, .int ((0 : Int32))), (0, .ref o), (1, .int x1), (2, .int x2), (3, va_rf r3)]) hx hb dX7_value_1 hl (by decide) rfl (fun ls hl => ?_)
  refine lv_iload_n hx hb dX7_value_3 rfl (lo_at hl 2 rfl) ?_
  refine lo_istore (lv' := [(5, .int x1), (4, .int ((0 : Int32))), (0, .ref o), (1, .int x1), (2, .int x2), (3, va_rf r3)]) hx hb dX7_value_4 hl (by decide) rfl (fun ls hl => ?_)
  refine t_X7_value_L6 hM o x2 r3 _ Q ?_ fuel (0 : Int32) x1 h H locs ls hC (lo_sub hl [2, 4, 5, 1, 0] rfl) hw
  intro y42 h41 H locs ls hC hl hw
  refine lv_iload hx hb dX7_value_155 (lo_at hl 1 rfl) ?_
  refine lv_if_le (tgt := 172) hx hb dX7_value_157 (by decide) (fun c43 => ?_) (fun c43 => ?_)
  ·
    replace hw := (if_pos c43).mp hw
    refine lv_iconst (v := 0) hx hb dX7_value_172 (by decide) ?_
    exact ret_i hM hC hw dX7_value_173
  ·
    replace hw := (if_neg c43).mp hw
    refine lv_aload_n hx hb dX7_value_160 rfl (lo_at hl 0 rfl) ?_
    obtain ⟨k44, hw⟩ := hw
    refine r_getR hx hb hts hown hg hC fb_5_5 k44 mk_f_RX7_27 dX7_value_161 ?_
    refine lv_iload hx hb dX7_value_164 (lo_at hl 1 rfl) ?_
    refine lv_iconst (v := 1) hx hb dX7_value_166 (by decide) ?_
    refine lv_isub hx hb dX7_value_167 ?_
    obtain ⟨k45, hw⟩ := hw
    refine rf_2 k45.1 ?_
    refine r_iald hx hb hg hC k45.2.1 k45.2.2 dX7_value_168 ?_
    refine lv_topi (fun v46 ev46 => ?_)
    replace hw := hw v46 ev46
    refine lv_goto (tgt := 173) hx hb dX7_value_169 (by decide) ?_
    exact ret_i hM hC hw dX7_value_173
abbrev rm_X8_isStart : Room := { frames := 1, cells := 0, slots := 0, locals := 20 }
def wp_X8_isStart (o : Nat) (x1 : Int32) (h : Hp) (Q : Int32 → Hp → Prop) : Prop := ((hpK h o).1 = 20 + 6) ∧ (okA h (hpR h o 0) 1 x1 ∧ (∀ v3 : Int32, v3 = hpI h (ad (hpR h o 0)) (x1).toNatClampNeg → (wp_X8_sortOf v3 h (fun (z5 : Int32) (h4 : Hp) => (if z5 = (3 : Int32) then (Q (1 : Int32) h4) else ((if z5 = 0 then (Q (0 : Int32) h4) else ((if x1 = 0 then (Q (1 : Int32) h4) else (((hpK h4 o).1 = 20 + 6) ∧ (okA h4 (hpR h4 o 0) 1 (x1 - (1 : Int32)) ∧ (∀ v11 : Int32, v11 = hpI h4 (ad (hpR h4 o 0)) (x1 - (1 : Int32)).toNatClampNeg → (wp_X8_sortOf v11 h4 (fun (z13 : Int32) (h12 : Hp) => (if z13 = z5 then (Q (0 : Int32) h12) else (Q (1 : Int32) h12))))))))))))))))
set_option maxHeartbeats 4000000 in
set_option maxRecDepth 100000 in
theorem c_X8_isStart (l : Launch) (G : GG) (base : Nat) (o : Nat) (x1 : Int32) (h : Hp) (Q : Int32 → Hp → Prop) (hw : wp_X8_isStart o x1 h Q) : Met l yX8_isStart (ww yX8_isStart cX8_isStart 3 (some .boolean)) rm_X8_isStart (va_Pc [.ref o, .int x1] (PU G base h)) (va_Qi Q (PU G base) (fun q => base ≤ q)) 0 0 (fun q => base ≤ q) := by
  refine met_of (own := RX8) (nm := "isStart") (by decide) rfl rfl (List.forall_mem_cons.mpr ⟨rfl, (List.forall_mem_cons.mpr ⟨rfl, (fun _ h => absurd h List.not_mem_nil)⟩)⟩) (Nat.le_of_ble_eq_true rfl) rfl ?_
  intro p e s m below meth c ls hM hC hl
  obtain ⟨hx, hb, hr, hml, hown, hts, hg, hs, hlk, hnm⟩ := id hM
  obtain ⟨args, hargs⟩ : ∃ a : Array Value, a = ([.ref o, .int x1] : List Value).toArray := ⟨_, rfl⟩
  rw [← hargs] at hM hts ⊢
  obtain ⟨H, hH⟩ : ∃ H : Heap, H = s.heap := ⟨_, rfl⟩
  obtain ⟨locs, hlocs⟩ : ∃ x : List Loc, x = [] := ⟨_, rfl⟩
  have hC : Cx G base h s.heap H locs := by rw [hH, hlocs]; exact hC
  show W p l e rm_X8_isStart s m args below meth c s.heap [] 0 0 (MQ below (va_Qi Q (PU G base) (fun q => base ≤ q)) args s 0 0 (fun q => base ≤ q)) (F0 m 0 ls [])
  rw [← hlocs]
  have hgoal : W p l e rm_X8_isStart s m args below meth c H locs 0 0 (MQ below (va_Qi Q (PU G base) (fun q => base ≤ q)) args s 0 0 (fun q => base ≤ q)) (F0 m 0 ls []) := ?_
  · rw [hH] at hgoal; exact hgoal
  clear hH hlocs
  unfold wp_X8_isStart at hw
  refine lv_aload_n hx hb dX8_isStart_0 rfl (lo_at hl 0 rfl) ?_
  obtain ⟨k1, hw⟩ := hw
  refine r_getR hx hb hts hown hg hC fb_6_0 k1 mk_f_RX8_9 dX8_isStart_1 ?_
  refine lv_iload_n hx hb dX8_isStart_4 rfl (lo_at hl 1 rfl) ?_
  obtain ⟨k2, hw⟩ := hw
  refine rf_2 k2.1 ?_
  refine r_iald hx hb hg hC k2.2.1 k2.2.2 dX8_isStart_5 ?_
  refine lv_topi (fun v3 ev3 => ?_)
  replace hw := hw v3 ev3
  refine res_i hC (run_S (As := [.int v3]) (rest := []) hM hC hl.1.1 kv_RX8_36 (c_X8_sortOf l G base v3 h _ hw) rfl rfl rfl ⟨Nat.le_of_ble_eq_true rfl, Nat.le_of_ble_eq_true rfl⟩ (Nat.le_of_ble_eq_true rfl) ⟨Nat.le_of_ble_eq_true rfl, Nat.le_of_ble_eq_true rfl⟩ dX8_isStart_6) (fun z5 h4 H locs hw hC => ?_)
  refine lo_istore_n (lv' := [(2, .int z5), (0, .ref o), (1, .int x1)]) hx hb dX8_isStart_9 rfl hl (by decide) rfl (fun ls hl => ?_)
  refine lv_iload_n hx hb dX8_isStart_10 rfl (lo_at hl 0 rfl) ?_
  refine lv_iconst (v := 3) hx hb dX8_isStart_11 (by decide) ?_
  refine lv_icmp_eq (tgt := 38) hx hb dX8_isStart_12 (by decide) (fun c6 => ?_) (fun c6 => ?_)
  ·
    replace hw := (if_pos c6).mp hw
    refine lv_iconst (v := 1) hx hb dX8_isStart_38 (by decide) ?_
    refine lv_goto (tgt := 43) hx hb dX8_isStart_39 (by decide) ?_
    exact ret_z hM hC rfl hw dX8_isStart_43
  ·
    replace hw := (if_neg c6).mp hw
    refine lv_iload_n hx hb dX8_isStart_15 rfl (lo_at hl 0 rfl) ?_
    refine lv_if_eq (tgt := 42) hx hb dX8_isStart_16 (by decide) (fun c7 => ?_) (fun c7 => ?_)
    ·
      replace hw := (if_pos c7).mp hw
      refine lv_iconst (v := 0) hx hb dX8_isStart_42 (by decide) ?_
      exact ret_z hM hC rfl hw dX8_isStart_43
    ·
      replace hw := (if_neg c7).mp hw
      refine lv_iload_n hx hb dX8_isStart_19 rfl (lo_at hl 2 rfl) ?_
      refine lv_if_eq (tgt := 38) hx hb dX8_isStart_20 (by decide) (fun c8 => ?_) (fun c8 => ?_)
      ·
        replace hw := (if_pos c8).mp hw
        refine lv_iconst (v := 1) hx hb dX8_isStart_38 (by decide) ?_
        refine lv_goto (tgt := 43) hx hb dX8_isStart_39 (by decide) ?_
        exact ret_z hM hC rfl hw dX8_isStart_43
      ·
        replace hw := (if_neg c8).mp hw
        refine lv_aload_n hx hb dX8_isStart_23 rfl (lo_at hl 1 rfl) ?_
        obtain ⟨k9, hw⟩ := hw
        refine r_getR hx hb hts hown hg hC fb_6_0 k9 mk_f_RX8_9 dX8_isStart_24 ?_
        refine lv_iload_n hx hb dX8_isStart_27 rfl (lo_at hl 2 rfl) ?_
        refine lv_iconst (v := 1) hx hb dX8_isStart_28 (by decide) ?_
        refine lv_isub hx hb dX8_isStart_29 ?_
        obtain ⟨k10, hw⟩ := hw
        refine rf_2 k10.1 ?_
        refine r_iald hx hb hg hC k10.2.1 k10.2.2 dX8_isStart_30 ?_
        refine lv_topi (fun v11 ev11 => ?_)
        replace hw := hw v11 ev11
        refine res_i hC (run_S (As := [.int v11]) (rest := []) hM hC hl.1.1 kv_RX8_36 (c_X8_sortOf l G base v11 h4 _ hw) rfl rfl rfl ⟨Nat.le_of_ble_eq_true rfl, Nat.le_of_ble_eq_true rfl⟩ (Nat.le_of_ble_eq_true rfl) ⟨Nat.le_of_ble_eq_true rfl, Nat.le_of_ble_eq_true rfl⟩ dX8_isStart_31) (fun z13 h12 H locs hw hC => ?_)
        refine lv_iload_n hx hb dX8_isStart_34 rfl (lo_at hl 0 rfl) ?_
        refine lv_icmp_eq (tgt := 42) hx hb dX8_isStart_35 (by decide) (fun c14 => ?_) (fun c14 => ?_)
        ·
          replace hw := (if_pos c14).mp hw
          refine lv_iconst (v := 0) hx hb dX8_isStart_42 (by decide) ?_
          exact ret_z hM hC rfl hw dX8_isStart_43
        ·
          replace hw := (if_neg c14).mp hw
          refine lv_iconst (v := 1) hx hb dX8_isStart_38 (by decide) ?_
          refine lv_goto (tgt := 43) hx hb dX8_isStart_39 (by decide) ?_
          exact ret_z hM hC rfl hw dX8_isStart_43
abbrev rm_X9_init : Room := { frames := 1, cells := 1, slots := 32, locals := 23 }
def wp_X9_init (o : Nat) (x1 : Int32) (h : Hp) (Q : Hp → Prop) : Prop := ∀ (q1 : Nat) (h2 : Hp), (hpK h q1).1 = 0 → h2 = alc h q1 1 32 → (((hpK h2 o).1 = 20 + 7) ∧ (∀ h5 : Hp, h5 = stR h2 o 0 (some q1) → (((hpK h5 o).1 = 20 + 7) ∧ (∀ h7 : Hp, h7 = stI h5 o 1 x1 → (((hpK h7 o).1 = 20 + 7) ∧ (wp_J7_fill_53178 (hpR h7 o 0) (32 : Int32) h7 (fun (h9 : Hp) => Q h9)))))))
set_option maxHeartbeats 4000000 in
set_option maxRecDepth 100000 in
theorem c_X9_init (l : Launch) (G : GG) (base : Nat) (o : Nat) (x1 : Int32) (h : Hp) (Q : Hp → Prop) (hw : wp_X9_init o x1 h Q) : Met l yX9_init (ww yX9_init cX9_init 2 none) rm_X9_init (va_Pc [.ref o, .int x1] (PU G base h)) (va_Qv Q (PU G base) (fun q => base ≤ q)) 1 32 (fun q => base ≤ q) := by
  refine met_of (own := RX9) (nm := "<init>") (by decide) rfl rfl (List.forall_mem_cons.mpr ⟨rfl, (List.forall_mem_cons.mpr ⟨rfl, (fun _ h => absurd h List.not_mem_nil)⟩)⟩) (Nat.le_of_ble_eq_true rfl) rfl ?_
  intro p e s m below meth c ls hM hC hl
  obtain ⟨hx, hb, hr, hml, hown, hts, hg, hs, hlk, hnm⟩ := id hM
  obtain ⟨args, hargs⟩ : ∃ a : Array Value, a = ([.ref o, .int x1] : List Value).toArray := ⟨_, rfl⟩
  rw [← hargs] at hM hts ⊢
  obtain ⟨H, hH⟩ : ∃ H : Heap, H = s.heap := ⟨_, rfl⟩
  obtain ⟨locs, hlocs⟩ : ∃ x : List Loc, x = [] := ⟨_, rfl⟩
  have hC : Cx G base h s.heap H locs := by rw [hH, hlocs]; exact hC
  show W p l e rm_X9_init s m args below meth c s.heap [] 0 0 (MQ below (va_Qv Q (PU G base) (fun q => base ≤ q)) args s 1 32 (fun q => base ≤ q)) (F0 m 0 ls [])
  rw [← hlocs]
  have hgoal : W p l e rm_X9_init s m args below meth c H locs 0 0 (MQ below (va_Qv Q (PU G base) (fun q => base ≤ q)) args s 1 32 (fun q => base ≤ q)) (F0 m 0 ls []) := ?_
  · rw [hH] at hgoal; exact hgoal
  clear hH hlocs
  unfold wp_X9_init at hw
  refine lv_aload_n hx hb dX9_init_0 rfl (lo_at hl 0 rfl) ?_
  refine r_oi hx hb hown (hts _ mk_m_RX9_3) (hts _ mk_oi_i) (hts _ mk_oi_c) (by rw [hml]; exact hl.1.1) dX9_init_1 (Nat.le_of_ble_eq_true rfl) (Nat.le_of_ble_eq_true rfl) ?_
  refine lv_aload_n hx hb dX9_init_4 rfl (lo_at hl 0 rfl) ?_
  refine lv_bipush (v := 32) hx hb dX9_init_5 (by decide) ?_
  refine r_newI (N := 32) hx hb hts mk_arc_int hg hC (by decide) rfl (by decide) (Nat.le_of_ble_eq_true rfl) (Nat.le_of_ble_eq_true rfl) dX9_init_7 (fun q1 h2 H k3 eh2 hC => ?_)
  replace hw := hw q1 h2 k3 eh2
  refine W.widen (k := 1) (n := 32) (Nat.le_of_ble_eq_true rfl) (Nat.le_of_ble_eq_true rfl) ?_
  obtain ⟨k4, hw⟩ := hw
  refine r_putFR (v := some q1) hx hb hts hown hnm hg hC fb_7_0 k4 (nv_a) (fv_a) mk_f_RX9_9 dX9_init_9 (fun h5 H locs eh5 hC => ?_)
  replace hw := hw h5 eh5
  refine lv_aload_n hx hb dX9_init_12 rfl (lo_at hl 0 rfl) ?_
  refine lv_iload_n hx hb dX9_init_13 rfl (lo_at hl 1 rfl) ?_
  obtain ⟨k6, hw⟩ := hw
  refine r_putI hx hb hts hown hg hC fb_7_1 k6 rfl rfl mk_f_RX9_15 dX9_init_14 (fun h7 H locs eh7 hC => ?_)
  replace hw := hw h7 eh7
  refine lv_aload_n hx hb dX9_init_17 rfl (lo_at hl 0 rfl) ?_
  obtain ⟨k8, hw⟩ := hw
  refine r_getR hx hb hts hown hg hC fb_7_0 k8 mk_f_RX9_9 dX9_init_18 ?_
  refine lv_bipush (v := 32) hx hb dX9_init_21 (by decide) ?_
  refine res_v hC (run_S (As := [va_rf (hpR h7 o 0), .int ((32 : Int32))]) (rest := []) hM hC hl.1.1 kv_RX9_19 (c_J7_fill_53178 l G base (hpR h7 o 0) (32 : Int32) h7 _ hw) rfl rfl rfl ⟨Nat.le_of_ble_eq_true rfl, Nat.le_of_ble_eq_true rfl⟩ (Nat.le_of_ble_eq_true rfl) ⟨Nat.le_of_ble_eq_true rfl, Nat.le_of_ble_eq_true rfl⟩ dX9_init_23) (fun h9 H locs hw hC => ?_)
  exact ret_v hM hC hw dX9_init_26
abbrev rm_X11_init : Room := { frames := 3, cells := 32, slots := 3539, locals := 61 }
def wp_X11_init (o : Nat) (h : Hp) (Q : Hp → Prop) : Prop := ∀ (q1 : Nat) (h2 : Hp), (hpK h q1).1 = 0 → h2 = alc h q1 10 6 → (((hpK h2 o).1 = 20 + 9) ∧ (∀ h5 : Hp, h5 = stR h2 o 0 (some q1) → (∀ (q6 : Nat) (h7 : Hp), (hpK h5 q6).1 = 0 → h7 = alc h5 q6 4 16 → (((hpK h7 o).1 = 20 + 9) ∧ (∀ h10 : Hp, h10 = stR h7 o 2 (some q6) → (∀ (q11 : Nat) (h12 : Hp), (hpK h10 q11).1 = 0 → h12 = alc h10 q11 3 40 → (((hpK h12 o).1 = 20 + 9) ∧ (∀ h15 : Hp, h15 = stR h12 o 4 (some q11) → (∀ (q16 : Nat) (h17 : Hp), (hpK h15 q16).1 = 0 → h17 = alc h15 q16 5 6 → (((hpK h17 o).1 = 20 + 9) ∧ (∀ h20 : Hp, h20 = stR h17 o 7 (some q16) → (∀ (q21 : Nat) (h22 : Hp), (hpK h20 q21).1 = 0 → h22 = alc h20 q21 6 10 → (((hpK h22 o).1 = 20 + 9) ∧ (∀ h25 : Hp, h25 = stR h22 o 9 (some q21) → (∀ (q26 : Nat) (h27 : Hp), (hpK h25 q26).1 = 0 → h27 = alc h25 q26 2 8 → (((hpK h27 o).1 = 20 + 9) ∧ (∀ h30 : Hp, h30 = stR h27 o 11 (some q26) → (∀ (q31 : Nat) (h32 : Hp), (hpK h30 q31).1 = 0 → h32 = alc h30 q31 (20 + 6) 0 → (((hpK h32 q31).1 = 20 + 6) ∧ (wp_X8_init q31 h32 (fun (h35 : Hp) => ((hpK h35 o).1 = 20 + 9) ∧ (∀ h38 : Hp, h38 = stR h35 o 12 (some q31) → (∀ (q39 : Nat) (h40 : Hp), (hpK h38 q39).1 = 0 → h40 = alc h38 q39 (20 + 4) 0 → (((hpK h40 o).1 = 20 + 9) ∧ (((hpK h40 q39).1 = 20 + 4) ∧ (wp_X5_init q39 (hpR h40 o 12) h40 (fun (h44 : Hp) => ((hpK h44 o).1 = 20 + 9) ∧ (∀ h47 : Hp, h47 = stR h44 o 13 (some q39) → (∀ (q48 : Nat) (h49 : Hp), (hpK h47 q48).1 = 0 → h49 = alc h47 q48 (20 + 5) 0 → (((hpK h49 q48).1 = 20 + 5) ∧ (wp_X7_init q48 h49 (fun (h52 : Hp) => ((hpK h52 o).1 = 20 + 9) ∧ (∀ h55 : Hp, h55 = stR h52 o 14 (some q48) → (∀ (q56 : Nat) (h57 : Hp), (hpK h55 q56).1 = 0 → h57 = alc h55 q56 (20 + 8) 0 → (((hpK h57 q56).1 = 20 + 8) ∧ (wp_X10_init q56 h57 (fun (h60 : Hp) => ((hpK h60 o).1 = 20 + 9) ∧ (∀ h63 : Hp, h63 = stR h60 o 15 (some q56) → (Q h63)))))))))))))))))))))))))))))))))))))))
set_option maxHeartbeats 4000000 in
set_option maxRecDepth 100000 in
theorem c_X11_init (l : Launch) (G : GG) (base : Nat) (o : Nat) (h : Hp) (Q : Hp → Prop) (hw : wp_X11_init o h Q) : Met l yX11_init (ww yX11_init cX11_init 1 none) rm_X11_init (va_Pc [.ref o] (PU G base h)) (va_Qv Q (PU G base) (fun q => base ≤ q)) 32 3539 (fun q => base ≤ q) := by
  refine met_of (own := RX11) (nm := "<init>") (by decide) rfl rfl (List.forall_mem_cons.mpr ⟨rfl, (fun _ h => absurd h List.not_mem_nil)⟩) (Nat.le_of_ble_eq_true rfl) rfl ?_
  intro p e s m below meth c ls hM hC hl
  obtain ⟨hx, hb, hr, hml, hown, hts, hg, hs, hlk, hnm⟩ := id hM
  obtain ⟨args, hargs⟩ : ∃ a : Array Value, a = ([.ref o] : List Value).toArray := ⟨_, rfl⟩
  rw [← hargs] at hM hts ⊢
  obtain ⟨H, hH⟩ : ∃ H : Heap, H = s.heap := ⟨_, rfl⟩
  obtain ⟨locs, hlocs⟩ : ∃ x : List Loc, x = [] := ⟨_, rfl⟩
  have hC : Cx G base h s.heap H locs := by rw [hH, hlocs]; exact hC
  show W p l e rm_X11_init s m args below meth c s.heap [] 0 0 (MQ below (va_Qv Q (PU G base) (fun q => base ≤ q)) args s 32 3539 (fun q => base ≤ q)) (F0 m 0 ls [])
  rw [← hlocs]
  have hgoal : W p l e rm_X11_init s m args below meth c H locs 0 0 (MQ below (va_Qv Q (PU G base) (fun q => base ≤ q)) args s 32 3539 (fun q => base ≤ q)) (F0 m 0 ls []) := ?_
  · rw [hH] at hgoal; exact hgoal
  clear hH hlocs
  unfold wp_X11_init at hw
  refine lv_aload_n hx hb dX11_init_0 rfl (lo_at hl 0 rfl) ?_
  refine r_oi hx hb hown (hts _ mk_m_RX11_3) (hts _ mk_oi_i) (hts _ mk_oi_c) (by rw [hml]; exact hl.1.1) dX11_init_1 (Nat.le_of_ble_eq_true rfl) (Nat.le_of_ble_eq_true rfl) ?_
  refine lv_aload_n hx hb dX11_init_4 rfl (lo_at hl 0 rfl) ?_
  refine lv_bipush (v := 6) hx hb dX11_init_5 (by decide) ?_
  refine r_newA (N := 6) (kd := 10) (t0 := 6) hx hb hts hown mk_c_RX11_9 (hs.2.2.2.2.1 _ (by simp)) hg hC (by decide) rfl (by decide) rfl (by decide) (Nat.le_of_ble_eq_true rfl) (Nat.le_of_ble_eq_true rfl) dX11_init_7 (fun q1 h2 H k3 eh2 hC => ?_)
  replace hw := hw q1 h2 k3 eh2
  refine W.widen (k := 1) (n := 6) (Nat.le_of_ble_eq_true rfl) (Nat.le_of_ble_eq_true rfl) ?_
  obtain ⟨k4, hw⟩ := hw
  refine r_putFR (v := some q1) hx hb hts hown hnm hg hC fb_9_0 k4 (nv_a) (fv_a) mk_f_RX11_11 dX11_init_10 (fun h5 H locs eh5 hC => ?_)
  replace hw := hw h5 eh5
  refine lv_aload_n hx hb dX11_init_13 rfl (lo_at hl 0 rfl) ?_
  refine lv_bipush (v := 16) hx hb dX11_init_14 (by decide) ?_
  refine r_newA (N := 16) (kd := 4) (t0 := 3) hx hb hts hown mk_c_RX11_15 (hs.2.2.2.2.1 _ (by simp)) hg hC (by decide) rfl (by decide) rfl (by decide) (Nat.le_of_ble_eq_true rfl) (Nat.le_of_ble_eq_true rfl) dX11_init_16 (fun q6 h7 H k8 eh7 hC => ?_)
  replace hw := hw q6 h7 k8 eh7
  refine W.widen (k := 2) (n := 22) (Nat.le_of_ble_eq_true rfl) (Nat.le_of_ble_eq_true rfl) ?_
  obtain ⟨k9, hw⟩ := hw
  refine r_putFR (v := some q6) hx hb hts hown hnm hg hC fb_9_2 k9 (nv_a) (fv_a) mk_f_RX11_17 dX11_init_19 (fun h10 H locs eh10 hC => ?_)
  replace hw := hw h10 eh10
  refine lv_aload_n hx hb dX11_init_22 rfl (lo_at hl 0 rfl) ?_
  refine lv_bipush (v := 40) hx hb dX11_init_23 (by decide) ?_
  refine r_newA (N := 40) (kd := 3) (t0 := 2) hx hb hts hown mk_c_RX11_21 (hs.2.2.2.2.1 _ (by simp)) hg hC (by decide) rfl (by decide) rfl (by decide) (Nat.le_of_ble_eq_true rfl) (Nat.le_of_ble_eq_true rfl) dX11_init_25 (fun q11 h12 H k13 eh12 hC => ?_)
  replace hw := hw q11 h12 k13 eh12
  refine W.widen (k := 3) (n := 62) (Nat.le_of_ble_eq_true rfl) (Nat.le_of_ble_eq_true rfl) ?_
  obtain ⟨k14, hw⟩ := hw
  refine r_putFR (v := some q11) hx hb hts hown hnm hg hC fb_9_4 k14 (nv_a) (fv_a) mk_f_RX11_23 dX11_init_28 (fun h15 H locs eh15 hC => ?_)
  replace hw := hw h15 eh15
  refine lv_aload_n hx hb dX11_init_31 rfl (lo_at hl 0 rfl) ?_
  refine lv_bipush (v := 6) hx hb dX11_init_32 (by decide) ?_
  refine r_newA (N := 6) (kd := 5) (t0 := 4) hx hb hts hown mk_c_RX11_27 (hs.2.2.2.2.1 _ (by simp)) hg hC (by decide) rfl (by decide) rfl (by decide) (Nat.le_of_ble_eq_true rfl) (Nat.le_of_ble_eq_true rfl) dX11_init_34 (fun q16 h17 H k18 eh17 hC => ?_)
  replace hw := hw q16 h17 k18 eh17
  refine W.widen (k := 4) (n := 68) (Nat.le_of_ble_eq_true rfl) (Nat.le_of_ble_eq_true rfl) ?_
  obtain ⟨k19, hw⟩ := hw
  refine r_putFR (v := some q16) hx hb hts hown hnm hg hC fb_9_7 k19 (nv_a) (fv_a) mk_f_RX11_29 dX11_init_37 (fun h20 H locs eh20 hC => ?_)
  replace hw := hw h20 eh20
  refine lv_aload_n hx hb dX11_init_40 rfl (lo_at hl 0 rfl) ?_
  refine lv_bipush (v := 10) hx hb dX11_init_41 (by decide) ?_
  refine r_newA (N := 10) (kd := 6) (t0 := 5) hx hb hts hown mk_c_RX11_33 (hs.2.2.2.2.1 _ (by simp)) hg hC (by decide) rfl (by decide) rfl (by decide) (Nat.le_of_ble_eq_true rfl) (Nat.le_of_ble_eq_true rfl) dX11_init_43 (fun q21 h22 H k23 eh22 hC => ?_)
  replace hw := hw q21 h22 k23 eh22
  refine W.widen (k := 5) (n := 78) (Nat.le_of_ble_eq_true rfl) (Nat.le_of_ble_eq_true rfl) ?_
  obtain ⟨k24, hw⟩ := hw
  refine r_putFR (v := some q21) hx hb hts hown hnm hg hC fb_9_9 k24 (nv_a) (fv_a) mk_f_RX11_35 dX11_init_46 (fun h25 H locs eh25 hC => ?_)
  replace hw := hw h25 eh25
  refine lv_aload_n hx hb dX11_init_49 rfl (lo_at hl 0 rfl) ?_
  refine lv_bipush (v := 8) hx hb dX11_init_50 (by decide) ?_
  refine r_newL (N := 8) hx hb hts mk_arc_long hg hC (by decide) rfl (by decide) (Nat.le_of_ble_eq_true rfl) (Nat.le_of_ble_eq_true rfl) dX11_init_52 (fun q26 h27 H k28 eh27 hC => ?_)
  replace hw := hw q26 h27 k28 eh27
  refine W.widen (k := 6) (n := 86) (Nat.le_of_ble_eq_true rfl) (Nat.le_of_ble_eq_true rfl) ?_
  obtain ⟨k29, hw⟩ := hw
  refine r_putFR (v := some q26) hx hb hts hown hnm hg hC fb_9_11 k29 (nv_a) (fv_a) mk_f_RX11_39 dX11_init_54 (fun h30 H locs eh30 hC => ?_)
  replace hw := hw h30 eh30
  refine lv_aload_n hx hb dX11_init_57 rfl (lo_at hl 0 rfl) ?_
  refine r_new hx hb hts hown hg hC cb_6 df_6 mk_c_RX11_43 mk_ins_OneBarrel_Tokens mk_ini_OneBarrel_Tokens (Nat.le_of_ble_eq_true rfl) (Nat.le_of_ble_eq_true rfl) dX11_init_58 (fun q31 h32 H k33 eh32 hC => ?_)
  replace hw := hw q31 h32 k33 eh32
  refine W.widen (k := 7) (n := 91) (Nat.le_of_ble_eq_true rfl) (Nat.le_of_ble_eq_true rfl) ?_
  refine lv_dup hx hb dX11_init_61 rfl ?_
  obtain ⟨k34, hw⟩ := hw
  refine res_v hC (run_IN (As := []) (rest := [.ref q31, .ref o]) hM hC hl.1.1 kv_RX11_45 (c_X8_init l G base q31 h32 _ hw) rfl rfl rfl ⟨Nat.le_of_ble_eq_true rfl, Nat.le_of_ble_eq_true rfl⟩ (Nat.le_of_ble_eq_true rfl) ⟨Nat.le_of_ble_eq_true rfl, Nat.le_of_ble_eq_true rfl⟩ dX11_init_62) (fun h35 H locs hw hC => ?_)
  refine W.widen (k := 10) (n := 1893) (Nat.le_of_ble_eq_true rfl) (Nat.le_of_ble_eq_true rfl) ?_
  obtain ⟨k37, hw⟩ := hw
  refine r_putFR (v := some q31) hx hb hts hown hnm hg hC fb_9_12 k37 (nv_o) (fv_o) mk_f_RX11_46 dX11_init_65 (fun h38 H locs eh38 hC => ?_)
  replace hw := hw h38 eh38
  refine lv_aload_n hx hb dX11_init_68 rfl (lo_at hl 0 rfl) ?_
  refine r_new hx hb hts hown hg hC cb_4 df_4 mk_c_RX11_50 mk_ins_OneBarrel_Reader mk_ini_OneBarrel_Reader (Nat.le_of_ble_eq_true rfl) (Nat.le_of_ble_eq_true rfl) dX11_init_69 (fun q39 h40 H k41 eh40 hC => ?_)
  replace hw := hw q39 h40 k41 eh40
  refine W.widen (k := 11) (n := 1899) (Nat.le_of_ble_eq_true rfl) (Nat.le_of_ble_eq_true rfl) ?_
  refine lv_dup hx hb dX11_init_72 rfl ?_
  refine lv_aload_n hx hb dX11_init_73 rfl (lo_at hl 0 rfl) ?_
  obtain ⟨k42, hw⟩ := hw
  refine r_getR hx hb hts hown hg hC fb_9_12 k42 mk_f_RX11_46 dX11_init_74 ?_
  obtain ⟨k43, hw⟩ := hw
  refine res_v hC (run_I (As := [va_rf (hpR h40 o 12)]) (rest := [.ref q39, .ref o]) hM hC hl.1.1 kv_RX11_52 (c_X5_init l G base q39 (hpR h40 o 12) h40 _ hw) rfl rfl rfl ⟨Nat.le_of_ble_eq_true rfl, Nat.le_of_ble_eq_true rfl⟩ (Nat.le_of_ble_eq_true rfl) ⟨Nat.le_of_ble_eq_true rfl, Nat.le_of_ble_eq_true rfl⟩ dX11_init_77) (fun h44 H locs hw hC => ?_)
  refine W.widen (k := 18) (n := 2604) (Nat.le_of_ble_eq_true rfl) (Nat.le_of_ble_eq_true rfl) ?_
  obtain ⟨k46, hw⟩ := hw
  refine r_putFR (v := some q39) hx hb hts hown hnm hg hC fb_9_13 k46 (nv_o) (fv_o) mk_f_RX11_55 dX11_init_80 (fun h47 H locs eh47 hC => ?_)
  replace hw := hw h47 eh47
  refine lv_aload_n hx hb dX11_init_83 rfl (lo_at hl 0 rfl) ?_
  refine r_new hx hb hts hown hg hC cb_5 df_5 mk_c_RX11_59 mk_ins_OneBarrel_Text mk_ini_OneBarrel_Text (Nat.le_of_ble_eq_true rfl) (Nat.le_of_ble_eq_true rfl) dX11_init_84 (fun q48 h49 H k50 eh49 hC => ?_)
  replace hw := hw q48 h49 k50 eh49
  refine W.widen (k := 19) (n := 2613) (Nat.le_of_ble_eq_true rfl) (Nat.le_of_ble_eq_true rfl) ?_
  refine lv_dup hx hb dX11_init_87 rfl ?_
  obtain ⟨k51, hw⟩ := hw
  refine res_v hC (run_IN (As := []) (rest := [.ref q48, .ref o]) hM hC hl.1.1 kv_RX11_61 (c_X7_init l G base q48 h49 _ hw) rfl rfl rfl ⟨Nat.le_of_ble_eq_true rfl, Nat.le_of_ble_eq_true rfl⟩ (Nat.le_of_ble_eq_true rfl) ⟨Nat.le_of_ble_eq_true rfl, Nat.le_of_ble_eq_true rfl⟩ dX11_init_88) (fun h52 H locs hw hC => ?_)
  refine W.widen (k := 25) (n := 3309) (Nat.le_of_ble_eq_true rfl) (Nat.le_of_ble_eq_true rfl) ?_
  obtain ⟨k54, hw⟩ := hw
  refine r_putR (v := some q48) hx hb hts hown hg hC fb_9_14 k54 (nv_o) (fv_o) mk_f_RX11_62 dX11_init_91 (fun h55 H locs eh55 hC => ?_)
  replace hw := hw h55 eh55
  refine lv_aload_n hx hb dX11_init_94 rfl (lo_at hl 0 rfl) ?_
  refine r_new hx hb hts hown hg hC cb_8 df_8 mk_c_RX11_66 mk_ins_OneBarrel_Work mk_ini_OneBarrel_Work (Nat.le_of_ble_eq_true rfl) (Nat.le_of_ble_eq_true rfl) dX11_init_95 (fun q56 h57 H k58 eh57 hC => ?_)
  replace hw := hw q56 h57 k58 eh57
  refine W.widen (k := 26) (n := 3315) (Nat.le_of_ble_eq_true rfl) (Nat.le_of_ble_eq_true rfl) ?_
  refine lv_dup hx hb dX11_init_98 rfl ?_
  obtain ⟨k59, hw⟩ := hw
  refine res_v hC (run_IN (As := []) (rest := [.ref q56, .ref o]) hM hC hl.1.1 kv_RX11_68 (c_X10_init l G base q56 h57 _ hw) rfl rfl rfl ⟨Nat.le_of_ble_eq_true rfl, Nat.le_of_ble_eq_true rfl⟩ (Nat.le_of_ble_eq_true rfl) ⟨Nat.le_of_ble_eq_true rfl, Nat.le_of_ble_eq_true rfl⟩ dX11_init_99) (fun h60 H locs hw hC => ?_)
  refine W.widen (k := 32) (n := 3539) (Nat.le_of_ble_eq_true rfl) (Nat.le_of_ble_eq_true rfl) ?_
  obtain ⟨k62, hw⟩ := hw
  refine r_putFR (v := some q56) hx hb hts hown hnm hg hC fb_9_15 k62 (nv_o) (fv_o) mk_f_RX11_69 dX11_init_102 (fun h63 H locs eh63 hC => ?_)
  replace hw := hw h63 eh63
  exact ret_v hM hC hw dX11_init_105
abbrev rm_X11_tool : Room := { frames := 2, cells := 2, slots := 35, locals := 44 }
def wp_X11_tool (o : Nat) (x1 : Int32) (h : Hp) (Q : Int32 → Hp → Prop) : Prop := ((hpK h o).1 = 20 + 9) ∧ ((if (hpI h o 1) < (6 : Int32) then (∀ (q3 : Nat) (h4 : Hp), (hpK h q3).1 = 0 → h4 = alc h q3 (20 + 7) 0 → (((hpK h4 q3).1 = 20 + 7) ∧ (wp_X9_init q3 x1 h4 (fun (h7 : Hp) => ((hpK h7 q3).1 = 20 + 7) ∧ (okA h7 (hpR h o 0) 10 (hpI h o 1) ∧ (∀ h11 : Hp, h11 = stR h7 (ad (hpR h o 0)) (hpI h o 1).toNatClampNeg (some q3) → (((hpK h11 o).1 = 20 + 9) ∧ (∀ h13 : Hp, h13 = stI h11 o 1 ((hpI h11 o 1) + (1 : Int32)) → (((hpK h13 o).1 = 20 + 9) ∧ (Q ((hpI h13 o 1) - (1 : Int32)) h13)))))))))) else (Q (-1 : Int32) h)))
set_option maxHeartbeats 4000000 in
set_option maxRecDepth 100000 in
theorem c_X11_tool (l : Launch) (G : GG) (base : Nat) (o : Nat) (x1 : Int32) (h : Hp) (Q : Int32 → Hp → Prop) (hw : wp_X11_tool o x1 h Q) : Met l yX11_tool (ww yX11_tool cX11_tool 2 (some .int)) rm_X11_tool (va_Pc [.ref o, .int x1] (PU G base h)) (va_Qi Q (PU G base) (fun q => base ≤ q)) 2 35 (fun q => base ≤ q) := by
  refine met_of (own := RX11) (nm := "tool") (by decide) rfl rfl (List.forall_mem_cons.mpr ⟨rfl, (List.forall_mem_cons.mpr ⟨rfl, (fun _ h => absurd h List.not_mem_nil)⟩)⟩) (Nat.le_of_ble_eq_true rfl) rfl ?_
  intro p e s m below meth c ls hM hC hl
  obtain ⟨hx, hb, hr, hml, hown, hts, hg, hs, hlk, hnm⟩ := id hM
  obtain ⟨args, hargs⟩ : ∃ a : Array Value, a = ([.ref o, .int x1] : List Value).toArray := ⟨_, rfl⟩
  rw [← hargs] at hM hts ⊢
  obtain ⟨H, hH⟩ : ∃ H : Heap, H = s.heap := ⟨_, rfl⟩
  obtain ⟨locs, hlocs⟩ : ∃ x : List Loc, x = [] := ⟨_, rfl⟩
  have hC : Cx G base h s.heap H locs := by rw [hH, hlocs]; exact hC
  show W p l e rm_X11_tool s m args below meth c s.heap [] 0 0 (MQ below (va_Qi Q (PU G base) (fun q => base ≤ q)) args s 2 35 (fun q => base ≤ q)) (F0 m 0 ls [])
  rw [← hlocs]
  have hgoal : W p l e rm_X11_tool s m args below meth c H locs 0 0 (MQ below (va_Qi Q (PU G base) (fun q => base ≤ q)) args s 2 35 (fun q => base ≤ q)) (F0 m 0 ls []) := ?_
  · rw [hH] at hgoal; exact hgoal
  clear hH hlocs
  unfold wp_X11_tool at hw
  refine lv_aload_n hx hb dX11_tool_0 rfl (lo_at hl 0 rfl) ?_
  obtain ⟨k1, hw⟩ := hw
  refine r_getI hx hb hts hown hg hC fb_9_1 k1 mk_f_RX11_73 dX11_tool_1 ?_
  refine lv_bipush (v := 6) hx hb dX11_tool_4 (by decide) ?_
  refine lv_icmp_lt (tgt := 11) hx hb dX11_tool_6 (by decide) (fun c2 => ?_) (fun c2 => ?_)
  ·
    replace hw := (if_pos c2).mp hw
    refine lv_aload_n hx hb dX11_tool_11 rfl (lo_at hl 0 rfl) ?_
    refine r_getR hx hb hts hown hg hC fb_9_0 k1 mk_f_RX11_11 dX11_tool_12 ?_
    refine lv_aload_n hx hb dX11_tool_15 rfl (lo_at hl 0 rfl) ?_
    refine r_getI hx hb hts hown hg hC fb_9_1 k1 mk_f_RX11_73 dX11_tool_16 ?_
    refine r_new hx hb hts hown hg hC cb_7 df_7 mk_c_RX11_9 mk_ins_OneBarrel_Tool mk_ini_OneBarrel_Tool (Nat.le_of_ble_eq_true rfl) (Nat.le_of_ble_eq_true rfl) dX11_tool_19 (fun q3 h4 H k5 eh4 hC => ?_)
    replace hw := hw q3 h4 k5 eh4
    refine W.widen (k := 1) (n := 3) (Nat.le_of_ble_eq_true rfl) (Nat.le_of_ble_eq_true rfl) ?_
    refine lv_dup hx hb dX11_tool_22 rfl ?_
    refine lv_iload_n hx hb dX11_tool_23 rfl (lo_at hl 1 rfl) ?_
    obtain ⟨k6, hw⟩ := hw
    refine res_v hC (run_I (As := [.int x1]) (rest := [.ref q3, .int (hpI h o 1), va_rf (hpR h o 0)]) hM hC hl.1.1 kv_RX11_77 (c_X9_init l G base q3 x1 h4 _ hw) rfl rfl rfl ⟨Nat.le_of_ble_eq_true rfl, Nat.le_of_ble_eq_true rfl⟩ (rest_le (List.forall_mem_cons.mpr ⟨rfl, (List.forall_mem_cons.mpr ⟨rfl, (List.forall_mem_cons.mpr ⟨va_rf_cat _, (fun _ h => absurd h List.not_mem_nil)⟩)⟩)⟩) (Nat.le_of_ble_eq_true rfl)) ⟨Nat.le_of_ble_eq_true rfl, Nat.le_of_ble_eq_true rfl⟩ dX11_tool_24) (fun h7 H locs hw hC => ?_)
    refine W.widen (k := 2) (n := 35) (Nat.le_of_ble_eq_true rfl) (Nat.le_of_ble_eq_true rfl) ?_
    obtain ⟨k9, hw⟩ := hw
    obtain ⟨k10, hw⟩ := hw
    refine rf_3 k10.1 ?_
    refine r_aast (kd := 10) (t0 := 6) (ci := 7) (q := (RX9, TX9, 3)) hx hb hg hC k10.2.1 (by decide) rfl rfl k9 k10.2.2 dX11_tool_27 (fun h11 H locs eh11 hC => ?_)
    replace hw := hw h11 eh11
    refine lv_aload_n hx hb dX11_tool_28 rfl (lo_at hl 0 rfl) ?_
    refine lv_dup hx hb dX11_tool_29 rfl ?_
    obtain ⟨k12, hw⟩ := hw
    refine r_getI hx hb hts hown hg hC fb_9_1 k12 mk_f_RX11_73 dX11_tool_30 ?_
    refine lv_iconst (v := 1) hx hb dX11_tool_33 (by decide) ?_
    refine lv_iadd hx hb dX11_tool_34 ?_
    refine r_putI hx hb hts hown hg hC fb_9_1 k12 rfl rfl mk_f_RX11_73 dX11_tool_35 (fun h13 H locs eh13 hC => ?_)
    replace hw := hw h13 eh13
    refine lv_aload_n hx hb dX11_tool_38 rfl (lo_at hl 0 rfl) ?_
    obtain ⟨k14, hw⟩ := hw
    refine r_getI hx hb hts hown hg hC fb_9_1 k14 mk_f_RX11_73 dX11_tool_39 ?_
    refine lv_iconst (v := 1) hx hb dX11_tool_42 (by decide) ?_
    refine lv_isub hx hb dX11_tool_43 ?_
    exact ret_i hM hC hw dX11_tool_44
  ·
    replace hw := (if_neg c2).mp hw
    refine lv_iconst (v := -1) hx hb dX11_tool_9 (by decide) ?_
    refine W.widen (k := 2) (n := 35) (Nat.le_of_ble_eq_true rfl) (Nat.le_of_ble_eq_true rfl) ?_
    exact ret_i hM hC hw dX11_tool_10
abbrev rm_X11_edge : Room := { frames := 1, cells := 0, slots := 0, locals := 21 }
def wp_X11_edge (o : Nat) (x1 : Int32) (x2 : Int32) (x3 : Int32) (h : Hp) (Q : Int32 → Hp → Prop) : Prop := ((hpK h o).1 = 20 + 9) ∧ (wp_X11_toolAt o x1 h (fun (z3 : Option Nat) (h2 : Hp) => (if z3 = none then (Q (0 : Int32) h2) else (wp_X11_isHair x2 h2 (fun (z6 : Int32) (h5 : Hp) => (if z6 = 0 then (Q (0 : Int32) h5) else (wp_X11_isHeight x3 h5 (fun (z9 : Int32) (h8 : Hp) => (if z9 = 0 then (Q (0 : Int32) h8) else (okO h8 z3 7 ∧ (okA h8 (hpR h8 (ad z3) 0) 1 x2 ∧ (∀ h13 : Hp, h13 = stI h8 (ad (hpR h8 (ad z3) 0)) (x2).toNatClampNeg x3 → (Q (1 : Int32) h13)))))))))))))
set_option maxHeartbeats 4000000 in
set_option maxRecDepth 100000 in
theorem c_X11_edge (l : Launch) (G : GG) (base : Nat) (o : Nat) (x1 : Int32) (x2 : Int32) (x3 : Int32) (h : Hp) (Q : Int32 → Hp → Prop) (hw : wp_X11_edge o x1 x2 x3 h Q) : Met l yX11_edge (ww yX11_edge cX11_edge 5 (some .boolean)) rm_X11_edge (va_Pc [.ref o, .int x1, .int x2, .int x3] (PU G base h)) (va_Qi Q (PU G base) (fun q => base ≤ q)) 0 0 (fun q => base ≤ q) := by
  refine met_of (own := RX11) (nm := "edge") (by decide) rfl rfl (List.forall_mem_cons.mpr ⟨rfl, (List.forall_mem_cons.mpr ⟨rfl, (List.forall_mem_cons.mpr ⟨rfl, (List.forall_mem_cons.mpr ⟨rfl, (fun _ h => absurd h List.not_mem_nil)⟩)⟩)⟩)⟩) (Nat.le_of_ble_eq_true rfl) rfl ?_
  intro p e s m below meth c ls hM hC hl
  obtain ⟨hx, hb, hr, hml, hown, hts, hg, hs, hlk, hnm⟩ := id hM
  obtain ⟨args, hargs⟩ : ∃ a : Array Value, a = ([.ref o, .int x1, .int x2, .int x3] : List Value).toArray := ⟨_, rfl⟩
  rw [← hargs] at hM hts ⊢
  obtain ⟨H, hH⟩ : ∃ H : Heap, H = s.heap := ⟨_, rfl⟩
  obtain ⟨locs, hlocs⟩ : ∃ x : List Loc, x = [] := ⟨_, rfl⟩
  have hC : Cx G base h s.heap H locs := by rw [hH, hlocs]; exact hC
  show W p l e rm_X11_edge s m args below meth c s.heap [] 0 0 (MQ below (va_Qi Q (PU G base) (fun q => base ≤ q)) args s 0 0 (fun q => base ≤ q)) (F0 m 0 ls [])
  rw [← hlocs]
  have hgoal : W p l e rm_X11_edge s m args below meth c H locs 0 0 (MQ below (va_Qi Q (PU G base) (fun q => base ≤ q)) args s 0 0 (fun q => base ≤ q)) (F0 m 0 ls []) := ?_
  · rw [hH] at hgoal; exact hgoal
  clear hH hlocs
  unfold wp_X11_edge at hw
  refine lv_aload_n hx hb dX11_edge_0 rfl (lo_at hl 0 rfl) ?_
  refine lv_iload_n hx hb dX11_edge_1 rfl (lo_at hl 1 rfl) ?_
  obtain ⟨k1, hw⟩ := hw
  refine res_q hC (run_V (As := [.int x1]) (rest := []) hM hC hl.1.1 kv_RX11_80 (c_X11_toolAt l G base o x1 h _ hw) (hc_9) k1 rfl rfl rfl ⟨Nat.le_of_ble_eq_true rfl, Nat.le_of_ble_eq_true rfl⟩ (Nat.le_of_ble_eq_true rfl) ⟨Nat.le_of_ble_eq_true rfl, Nat.le_of_ble_eq_true rfl⟩ dX11_edge_2) (fun z3 h2 H locs hw hC => ?_)
  refine lo_astore (r := z3) (lv' := [(4, va_rf z3), (0, .ref o), (1, .int x1), (2, .int x2), (3, .int x3)]) hx hb dX11_edge_5 hl (by decide) rfl (fun ls hl => ?_)
  refine lo_aload (r := z3) hx hb dX11_edge_7 (lo_at hl 0 rfl) ?_
  refine lo_ifnull (r := z3) (tgt := 26) hx hb dX11_edge_9 (by decide) (fun c4 => ?_) (fun c4 => ?_)
  ·
    replace hw := (if_pos c4).mp hw
    refine lv_iconst (v := 0) hx hb dX11_edge_26 (by decide) ?_
    exact ret_z hM hC rfl hw dX11_edge_27
  ·
    replace hw := (if_neg c4).mp hw
    refine lv_iload_n hx hb dX11_edge_12 rfl (lo_at hl 3 rfl) ?_
    refine res_i hC (run_S (As := [.int x2]) (rest := []) hM hC hl.1.1 kv_RX11_84 (c_X11_isHair l G base x2 h2 _ hw) rfl rfl rfl ⟨Nat.le_of_ble_eq_true rfl, Nat.le_of_ble_eq_true rfl⟩ (Nat.le_of_ble_eq_true rfl) ⟨Nat.le_of_ble_eq_true rfl, Nat.le_of_ble_eq_true rfl⟩ dX11_edge_13) (fun z6 h5 H locs hw hC => ?_)
    refine lv_if_eq (tgt := 26) hx hb dX11_edge_16 (by decide) (fun c7 => ?_) (fun c7 => ?_)
    ·
      replace hw := (if_pos c7).mp hw
      refine lv_iconst (v := 0) hx hb dX11_edge_26 (by decide) ?_
      exact ret_z hM hC rfl hw dX11_edge_27
    ·
      replace hw := (if_neg c7).mp hw
      refine lv_iload_n hx hb dX11_edge_19 rfl (lo_at hl 4 rfl) ?_
      refine res_i hC (run_S (As := [.int x3]) (rest := []) hM hC hl.1.1 kv_RX11_88 (c_X11_isHeight l G base x3 h5 _ hw) rfl rfl rfl ⟨Nat.le_of_ble_eq_true rfl, Nat.le_of_ble_eq_true rfl⟩ (Nat.le_of_ble_eq_true rfl) ⟨Nat.le_of_ble_eq_true rfl, Nat.le_of_ble_eq_true rfl⟩ dX11_edge_20) (fun z9 h8 H locs hw hC => ?_)
      refine lv_if_ne (tgt := 28) hx hb dX11_edge_23 (by decide) (fun c10 => ?_) (fun c10 => ?_)
      ·
        replace hw := (if_neg c10).mp hw
        refine lo_aload (r := z3) hx hb dX11_edge_28 (lo_at hl 0 rfl) ?_
        obtain ⟨k11, hw⟩ := hw
        refine rf_1 k11.1 ?_
        refine r_getR hx hb hts hown hg hC fb_7_0 k11.2 mk_f_RX11_91 dX11_edge_30 ?_
        refine lv_iload_n hx hb dX11_edge_33 rfl (lo_at hl 3 rfl) ?_
        refine lv_iload_n hx hb dX11_edge_34 rfl (lo_at hl 4 rfl) ?_
        obtain ⟨k12, hw⟩ := hw
        refine rf_3 k12.1 ?_
        refine r_iast hx hb hg hC k12.2.1 k12.2.2 dX11_edge_35 (fun h13 H locs eh13 hC => ?_)
        replace hw := hw h13 eh13
        refine lv_iconst (v := 1) hx hb dX11_edge_36 (by decide) ?_
        exact ret_z hM hC rfl hw dX11_edge_37
      ·
        replace hw := (if_pos c10).mp hw
        refine lv_iconst (v := 0) hx hb dX11_edge_26 (by decide) ?_
        exact ret_z hM hC rfl hw dX11_edge_27
abbrev rm_X11_rust : Room := { frames := 1, cells := 0, slots := 0, locals := 21 }
def wp_X11_rust (o : Nat) (x1 : Int32) (x2 : Int32) (h : Hp) (Q : Int32 → Hp → Prop) : Prop := ((hpK h o).1 = 20 + 9) ∧ (wp_X11_barrelAt o x1 h (fun (z3 : Option Nat) (h2 : Hp) => (if z3 = none then (Q (0 : Int32) h2) else ((if x2 < 0 then (Q (0 : Int32) h2) else ((if x2 ≤ (99 : Int32) then (okO h2 z3 1 ∧ (∀ h8 : Hp, h8 = stI h2 (ad z3) 6 x2 → (Q (1 : Int32) h8))) else (Q (0 : Int32) h2))))))))
set_option maxHeartbeats 4000000 in
set_option maxRecDepth 100000 in
theorem c_X11_rust (l : Launch) (G : GG) (base : Nat) (o : Nat) (x1 : Int32) (x2 : Int32) (h : Hp) (Q : Int32 → Hp → Prop) (hw : wp_X11_rust o x1 x2 h Q) : Met l yX11_rust (ww yX11_rust cX11_rust 4 (some .boolean)) rm_X11_rust (va_Pc [.ref o, .int x1, .int x2] (PU G base h)) (va_Qi Q (PU G base) (fun q => base ≤ q)) 0 0 (fun q => base ≤ q) := by
  refine met_of (own := RX11) (nm := "rust") (by decide) rfl rfl (List.forall_mem_cons.mpr ⟨rfl, (List.forall_mem_cons.mpr ⟨rfl, (List.forall_mem_cons.mpr ⟨rfl, (fun _ h => absurd h List.not_mem_nil)⟩)⟩)⟩) (Nat.le_of_ble_eq_true rfl) rfl ?_
  intro p e s m below meth c ls hM hC hl
  obtain ⟨hx, hb, hr, hml, hown, hts, hg, hs, hlk, hnm⟩ := id hM
  obtain ⟨args, hargs⟩ : ∃ a : Array Value, a = ([.ref o, .int x1, .int x2] : List Value).toArray := ⟨_, rfl⟩
  rw [← hargs] at hM hts ⊢
  obtain ⟨H, hH⟩ : ∃ H : Heap, H = s.heap := ⟨_, rfl⟩
  obtain ⟨locs, hlocs⟩ : ∃ x : List Loc, x = [] := ⟨_, rfl⟩
  have hC : Cx G base h s.heap H locs := by rw [hH, hlocs]; exact hC
  show W p l e rm_X11_rust s m args below meth c s.heap [] 0 0 (MQ below (va_Qi Q (PU G base) (fun q => base ≤ q)) args s 0 0 (fun q => base ≤ q)) (F0 m 0 ls [])
  rw [← hlocs]
  have hgoal : W p l e rm_X11_rust s m args below meth c H locs 0 0 (MQ below (va_Qi Q (PU G base) (fun q => base ≤ q)) args s 0 0 (fun q => base ≤ q)) (F0 m 0 ls []) := ?_
  · rw [hH] at hgoal; exact hgoal
  clear hH hlocs
  unfold wp_X11_rust at hw
  refine lv_aload_n hx hb dX11_rust_0 rfl (lo_at hl 0 rfl) ?_
  refine lv_iload_n hx hb dX11_rust_1 rfl (lo_at hl 1 rfl) ?_
  obtain ⟨k1, hw⟩ := hw
  refine res_q hC (run_V (As := [.int x1]) (rest := []) hM hC hl.1.1 kv_RX11_115 (c_X11_barrelAt l G base o x1 h _ hw) (hc_9) k1 rfl rfl rfl ⟨Nat.le_of_ble_eq_true rfl, Nat.le_of_ble_eq_true rfl⟩ (Nat.le_of_ble_eq_true rfl) ⟨Nat.le_of_ble_eq_true rfl, Nat.le_of_ble_eq_true rfl⟩ dX11_rust_2) (fun z3 h2 H locs hw hC => ?_)
  refine lo_astore_n (r := z3) (lv' := [(3, va_rf z3), (0, .ref o), (1, .int x1), (2, .int x2)]) hx hb dX11_rust_5 rfl hl (by decide) rfl (fun ls hl => ?_)
  refine lo_aload_n (r := z3) hx hb dX11_rust_6 rfl (lo_at hl 0 rfl) ?_
  refine lo_ifnull (r := z3) (tgt := 20) hx hb dX11_rust_7 (by decide) (fun c4 => ?_) (fun c4 => ?_)
  ·
    replace hw := (if_pos c4).mp hw
    refine lv_iconst (v := 0) hx hb dX11_rust_20 (by decide) ?_
    exact ret_z hM hC rfl hw dX11_rust_21
  ·
    replace hw := (if_neg c4).mp hw
    refine lv_iload_n hx hb dX11_rust_10 rfl (lo_at hl 3 rfl) ?_
    refine lv_if_lt (tgt := 20) hx hb dX11_rust_11 (by decide) (fun c5 => ?_) (fun c5 => ?_)
    ·
      replace hw := (if_pos c5).mp hw
      refine lv_iconst (v := 0) hx hb dX11_rust_20 (by decide) ?_
      exact ret_z hM hC rfl hw dX11_rust_21
    ·
      replace hw := (if_neg c5).mp hw
      refine lv_iload_n hx hb dX11_rust_14 rfl (lo_at hl 3 rfl) ?_
      refine lv_bipush (v := 99) hx hb dX11_rust_15 (by decide) ?_
      refine lv_icmp_le (tgt := 22) hx hb dX11_rust_17 (by decide) (fun c6 => ?_) (fun c6 => ?_)
      ·
        replace hw := (if_pos c6).mp hw
        refine lo_aload_n (r := z3) hx hb dX11_rust_22 rfl (lo_at hl 0 rfl) ?_
        refine lv_iload_n hx hb dX11_rust_23 rfl (lo_at hl 3 rfl) ?_
        obtain ⟨k7, hw⟩ := hw
        refine rf_2 k7.1 ?_
        refine r_putI hx hb hts hown hg hC fb_1_6 k7.2 rfl rfl mk_f_RX11_119 dX11_rust_24 (fun h8 H locs eh8 hC => ?_)
        replace hw := hw h8 eh8
        refine lv_iconst (v := 1) hx hb dX11_rust_27 (by decide) ?_
        exact ret_z hM hC rfl hw dX11_rust_28
      ·
        replace hw := (if_neg c6).mp hw
        refine lv_iconst (v := 0) hx hb dX11_rust_20 (by decide) ?_
        exact ret_z hM hC rfl hw dX11_rust_21
