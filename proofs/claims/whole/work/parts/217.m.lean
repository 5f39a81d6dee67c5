abbrev rm_X5_readSum : Room := { frames := 3, cells := 0, slots := 0, locals := 64 }
def wp_X5_readSum_J31 (o : Nat) (x1 : Int32) (KH : Int32 → Hp → Prop) (K64 : Hp → Prop) (Q : Hp → Prop) (h : Hp) : Prop := ((hpK h o).1 = 20 + 4) ∧ (wp_X5_kind o h (fun (z11 : Int32) (h10 : Hp) => ((hpK h10 o).1 = 20 + 4) ∧ (∀ h13 : Hp, h13 = stI h10 o 5 ((hpI h10 o 5) + (1 : Int32)) → (((hpK h13 o).1 = 20 + 4) ∧ (wp_X5_readProduct o h13 (fun (h15 : Hp) => ((hpK h15 o).1 = 20 + 4) ∧ (okO h15 (hpR h15 o 3) 5 ∧ (wp_X7_put (ad (hpR h15 o 3)) z11 h15 (fun (h19 : Hp) => ∀ v21 : Int32, v21 = x1 + (1 : Int32) → (KH v21 h19))))))))))
def wp_X5_readSum_L6 (o : Nat) (K64 : Hp → Prop) (Q : Hp → Prop) : Nat → Int32 → Hp → Prop
  | 0, _, _ => False
  | n + 1, x1, h => (if (600 : Int32) ≤ x1 then (K64 h) else (((hpK h o).1 = 20 + 4) ∧ (wp_X5_kind o h (fun (z7 : Int32) (h6 : Hp) => (if z7 = (43 : Int32) then (wp_X5_readSum_J31 o x1 (wp_X5_readSum_L6 o K64 Q n) K64 Q h6) else (((hpK h6 o).1 = 20 + 4) ∧ (wp_X5_kind o h6 (fun (z24 : Int32) (h23 : Hp) => (if z24 = (45 : Int32) then (wp_X5_readSum_J31 o x1 (wp_X5_readSum_L6 o K64 Q n) K64 Q h23) else (K64 h23))))))))))
def wp_X5_readSum (o : Nat) (h : Hp) (Q : Hp → Prop) : Prop := ((hpK h o).1 = 20 + 4) ∧ (wp_X5_readProduct o h (fun (h2 : Hp) => wp_X5_readSum_L6 o (fun (h26 : Hp) => Q h26) Q fuel (0 : Int32) h2))
set_option maxHeartbeats 4000000 in
set_option maxRecDepth 100000 in
theorem t_X5_readSum_J31 {p : Program} {l : Launch} {e : Env} {s : State} {m : MethodId} {args : Array Value} {below : List Frame} {meth : Method} {c : Code} {G : GG} {base : Nat} (hM : Mx G base p s m args meth c cX5_readSum 3 none RX5 "readSum") (o : Nat) (x1 : Int32) (KH : Int32 → Hp → Prop) (K64 : Hp → Prop) (Q : Hp → Prop) (hKH : ∀ (y1 : Int32) (h : Hp) (H : Heap) (locs : List Loc) (ls : Array Slot), Cx G base h s.heap H locs → lo_has ls 3 [(0, .ref o), (1, .int y1)] → KH y1 h → W p l e rm_X5_readSum s m args below meth c H locs 0 0 (MQ below (va_Qv Q (PU G base) (fun q => base ≤ q)) args s 0 0 (fun q => base ≤ q)) (F0 m 6 ls [])) (hK64 : ∀ (h : Hp) (H : Heap) (locs : List Loc) (ls : Array Slot), Cx G base h s.heap H locs → lo_has ls 3 [] → K64 h → W p l e rm_X5_readSum s m args below meth c H locs 0 0 (MQ below (va_Qv Q (PU G base) (fun q => base ≤ q)) args s 0 0 (fun q => base ≤ q)) (F0 m 64 ls [])) (h : Hp) (H : Heap) (locs : List Loc) (ls : Array Slot) : Cx G base h s.heap H locs → lo_has ls 3 [(0, .ref o), (1, .int x1)] → wp_X5_readSum_J31 o x1 KH K64 Q h → W p l e rm_X5_readSum s m args below meth c H locs 0 0 (MQ below (va_Qv Q (PU G base) (fun q => base ≤ q)) args s 0 0 (fun q => base ≤ q)) (F0 m 31 ls []) := by
  intro hC hl hw
  unfold wp_X5_readSum_J31 at hw
  obtain ⟨hx, hb, hr, hml, hown, hts, hg, hs, hlk, hnm⟩ := id hM
  refine lv_aload_n hx hb dX5_readSum_31 rfl (lo_at hl 0 rfl) ?_
  obtain ⟨k9, hw⟩ := hw
  refine res_i hC (run_V (As := []) (rest := []) hM hC hl.1.1 kv_RX5_44 (c_X5_kind l G base o h _ hw) (hc_4) k9 rfl rfl rfl ⟨Nat.le_of_ble_eq_true rfl, Nat.le_of_ble_eq_true rfl⟩ (Nat.le_of_ble_eq_true rfl) ⟨Nat.le_of_ble_eq_true rfl, Nat.le_of_ble_eq_true rfl⟩ dX5_readSum_32) (fun z11 h10 H locs hw hC => ?_)
  refine lo_istore_n (lv' := [(2, .int z11), (0, .ref o), (1, .int x1)]) hx hb dX5_readSum_35 rfl hl (by decide) rfl (fun ls hl => ?_)
  refine lv_aload_n hx hb dX5_readSum_36 rfl (lo_at hl 1 rfl) ?_
  refine lv_dup hx hb dX5_readSum_37 rfl ?_
  obtain ⟨k12, hw⟩ := hw
  refine r_getI hx hb hts hown hg hC fb_4_5 k12 mk_f_RX5_30 dX5_readSum_38 ?_
  refine lv_iconst (v := 1) hx hb dX5_readSum_41 (by decide) ?_
  refine lv_iadd hx hb dX5_readSum_42 ?_
  refine r_putI hx hb hts hown hg hC fb_4_5 k12 rfl rfl mk_f_RX5_30 dX5_readSum_43 (fun h13 H locs eh13 hC => ?_)
  replace hw := hw h13 eh13
  refine lv_aload_n hx hb dX5_readSum_46 rfl (lo_at hl 1 rfl) ?_
  obtain ⟨k14, hw⟩ := hw
  refine res_v hC (run_V (As := []) (rest := []) hM hC hl.1.1 kv_RX5_100 (c_X5_readProduct l G base o h13 _ hw) (hc_4) k14 rfl rfl rfl ⟨Nat.le_of_ble_eq_true rfl, Nat.le_of_ble_eq_true rfl⟩ (Nat.le_of_ble_eq_true rfl) ⟨Nat.le_of_ble_eq_true rfl, Nat.le_of_ble_eq_true rfl⟩ dX5_readSum_47) (fun h15 H locs hw hC => ?_)
  refine lv_aload_n hx hb dX5_readSum_50 rfl (lo_at hl 1 rfl) ?_
  obtain ⟨k17, hw⟩ := hw
  refine r_getR hx hb hts hown hg hC fb_4_3 k17 mk_f_RX5_18 dX5_readSum_51 ?_
  refine lv_iload_n hx hb dX5_readSum_54 rfl (lo_at hl 0 rfl) ?_
  obtain ⟨k18, hw⟩ := hw
  refine rf_2 k18.1 ?_
  refine res_v hC (run_V (As := [.int z11]) (rest := []) hM hC hl.1.1 kv_RX5_94 (c_X7_put l G base (ad (hpR h15 o 3)) z11 h15 _ hw) (hc_5) k18.2 rfl rfl rfl ⟨Nat.le_of_ble_eq_true rfl, Nat.le_of_ble_eq_true rfl⟩ (Nat.le_of_ble_eq_true rfl) ⟨Nat.le_of_ble_eq_true rfl, Nat.le_of_ble_eq_true rfl⟩ dX5_readSum_55) (fun h19 H locs hw hC => ?_)
  obtain ⟨v21, ev21⟩ : ∃ y : Int32, y = x1 + (1 : Int32) := ⟨_, rfl⟩
  replace hw := hw v21 ev21
  refine lo_iinc (v := v21) (lv' := [(1, .int v21), (2, .int z11), (0, .ref o)]) hx hb dX5_readSum_58 hl (k := 2) rfl (by rw [ev21]; rfl) (by decide) rfl (fun ls hl => ?_)
  refine lv_goto (tgt := 6) hx hb dX5_readSum_61 (by decide) ?_
  exact hKH v21 h19 H locs ls hC (lo_sub hl [2, 0] rfl) hw
set_option maxHeartbeats 4000000 in
set_option maxRecDepth 100000 in
theorem t_X5_readSum_L6 {p : Program} {l : Launch} {e : Env} {s : State} {m : MethodId} {args : Array Value} {below : List Frame} {meth : Method} {c : Code} {G : GG} {base : Nat} (hM : Mx G base p s m args meth c cX5_readSum 3 none RX5 "readSum") (o : Nat) (K64 : Hp → Prop) (Q : Hp → Prop) (hK64 : ∀ (h : Hp) (H : Heap) (locs : List Loc) (ls : Array Slot), Cx G base h s.heap H locs → lo_has ls 3 [] → K64 h → W p l e rm_X5_readSum s m args below meth c H locs 0 0 (MQ below (va_Qv Q (PU G base) (fun q => base ≤ q)) args s 0 0 (fun q => base ≤ q)) (F0 m 64 ls [])) : ∀ (n : Nat) (x1 : Int32) (h : Hp) (H : Heap) (locs : List Loc) (ls : Array Slot), Cx G base h s.heap H locs → lo_has ls 3 [(0, .ref o), (1, .int x1)] → wp_X5_readSum_L6 o K64 Q n x1 h → W p l e rm_X5_readSum s m args below meth c H locs 0 0 (MQ below (va_Qv Q (PU G base) (fun q => base ≤ q)) args s 0 0 (fun q => base ≤ q)) (F0 m 6 ls []) := by
  intro n
  induction n with
  | zero =>
    intro x1 h H locs ls hC hl hw
    rw [wp_X5_readSum_L6] at hw
    exact hw.elim
  | succ n ih =>
    intro x1 h H locs ls hC hl hw
    rw [wp_X5_readSum_L6] at hw
    obtain ⟨hx, hb, hr, hml, hown, hts, hg, hs, hlk, hnm⟩ := id hM
    refine lv_iload_n hx hb dX5_readSum_6 rfl (lo_at hl 1 rfl) ?_
    refine lv_sipush (v := 600) hx hb dX5_readSum_7 (by decide) ?_
    refine lv_icmp_ge (tgt := 64) hx hb dX5_readSum_10 (by decide) (fun c4 => ?_) (fun c4 => ?_)
    ·
      replace hw := (if_pos c4).mp hw
      exact hK64  h H locs ls hC (lo_sub hl [] rfl) hw
    ·
      replace hw := (if_neg c4).mp hw
      refine lv_aload_n hx hb dX5_readSum_13 rfl (lo_at hl 0 rfl) ?_
      obtain ⟨k5, hw⟩ := hw
      refine res_i hC (run_V (As := []) (rest := []) hM hC hl.1.1 kv_RX5_44 (c_X5_kind l G base o h _ hw) (hc_4) k5 rfl rfl rfl ⟨Nat.le_of_ble_eq_true rfl, Nat.le_of_ble_eq_true rfl⟩ (Nat.le_of_ble_eq_true rfl) ⟨Nat.le_of_ble_eq_true rfl, Nat.le_of_ble_eq_true rfl⟩ dX5_readSum_14) (fun z7 h6 H locs hw hC => ?_)
      refine lv_bipush (v := 43) hx hb dX5_readSum_17 (by decide) ?_
      refine lv_icmp_eq (tgt := 31) hx hb dX5_readSum_19 (by decide) (fun c8 => ?_) (fun c8 => ?_)
      ·
        replace hw := (if_pos c8).mp hw
        exact t_X5_readSum_J31 hM o x1 (wp_X5_readSum_L6 o K64 Q n) K64 Q ih hK64 h6 H locs ls hC (lo_sub hl [0, 1] rfl) hw
      ·
        replace hw := (if_neg c8).mp hw
        refine lv_aload_n hx hb dX5_readSum_22 rfl (lo_at hl 0 rfl) ?_
        obtain ⟨k22, hw⟩ := hw
        refine res_i hC (run_V (As := []) (rest := []) hM hC hl.1.1 kv_RX5_44 (c_X5_kind l G base o h6 _ hw) (hc_4) k22 rfl rfl rfl ⟨Nat.le_of_ble_eq_true rfl, Nat.le_of_ble_eq_true rfl⟩ (Nat.le_of_ble_eq_true rfl) ⟨Nat.le_of_ble_eq_true rfl, Nat.le_of_ble_eq_true rfl⟩ dX5_readSum_23) (fun z24 h23 H locs hw hC => ?_)
        refine lv_bipush (v := 45) hx hb dX5_readSum_26 (by decide) ?_
        refine lv_icmp_ne (tgt := 64) hx hb dX5_readSum_28 (by decide) (fun c25 => ?_) (fun c25 => ?_)
        ·
          replace hw := (if_neg c25).mp hw
          exact hK64  h23 H locs ls hC (lo_sub hl [] rfl) hw
        ·
          replace hw := (if_pos c25).mp hw
          exact t_X5_readSum_J31 hM o x1 (wp_X5_readSum_L6 o K64 Q n) K64 Q ih hK64 h23 H locs ls hC (lo_sub hl [0, 1] rfl) hw
set_option maxHeartbeats 4000000 in
set_option maxRecDepth 100000 in
theorem c_X5_readSum (l : Launch) (G : GG) (base : Nat) (o : Nat) (h : Hp) (Q : Hp → Prop) (hw : wp_X5_readSum o h Q) : Met l yX5_readSum (ww yX5_readSum cX5_readSum 3 none) rm_X5_readSum (va_Pc [.ref o] (PU G base h)) (va_Qv Q (PU G base) (fun q => base ≤ q)) 0 0 (fun q => base ≤ q) := by
  refine met_of (own := RX5) (nm := "readSum") (by decide) rfl rfl (List.forall_mem_cons.mpr ⟨rfl, (fun _ h => absurd h List.not_mem_nil)⟩) (Nat.le_of_ble_eq_true rfl) rfl ?_
  intro p e s m below meth c ls hM hC hl
  obtain ⟨hx, hb, hr, hml, hown, hts, hg, hs, hlk, hnm⟩ := id hM
  obtain ⟨args, hargs⟩ : ∃ a : Array Value, a = ([.ref o] : List Value).toArray := ⟨_, rfl⟩
  rw [← hargs] at hM hts ⊢
  obtain ⟨H, hH⟩ : ∃ H : Heap, H = s.heap := ⟨_, rfl⟩
  obtain ⟨locs, hlocs⟩ : ∃ x : List Loc, x = [] := ⟨_, rfl⟩
  have hC : Cx G base h s.heap H locs := by rw [hH, hlocs]; exact hC
  show W p l e rm_X5_readSum s m args below meth c s.heap [] 0 0 (MQ below (va_Qv Q (PU G base) (fun q => base ≤ q)) args s 0 0 (fun q => base ≤ q)) (F0 m 0 ls [])
  rw [← hlocs]
  have hgoal : W p l e rm_X5_readSum s m args below meth c H locs 0 0 (MQ below (va_Qv Q (PU G base) (fun q => base ≤ q)) args s 0 0 (fun q => base ≤ q)) (F0 m 0 ls []) := ?_
  · rw [hH] at hgoal; exact hgoal
  clear hH hlocs
  unfold wp_X5_readSum at hw
  refine lv_aload_n hx hb dX5_readSum_0 rfl (lo_at hl 0 rfl) ?_
  obtain ⟨k1, hw⟩ := hw
  refine res_v hC (run_V (As := []) (rest := []) hM hC hl.1.1 kv_RX5_100 (c_X5_readProduct l G base o h _ hw) (hc_4) k1 rfl rfl rfl ⟨Nat.le_of_ble_eq_true rfl, Nat.le_of_ble_eq_true rfl⟩ (Nat.le_of_ble_eq_true rfl) ⟨Nat.le_of_ble_eq_true rfl, Nat.le_of_ble_eq_true rfl⟩ dX5_readSum_1) (fun h2 H locs hw hC => ?_)
  refine lv_iconst (v := 0) hx hb dX5_readSum_4 (by decide) ?_
  refine lo_istore_n (lv' := [(1, .int ((0 : Int32))), (0, .ref o)]) hx hb dX5_readSum_5 rfl hl (by decide) rfl (fun ls hl => ?_)
  refine t_X5_readSum_L6 hM o _ Q ?_ fuel (0 : Int32) h2 H locs ls hC (lo_sub hl [1, 0] rfl) hw
  intro  h26 H locs ls hC hl hw
  exact ret_v hM hC hw dX5_readSum_64
abbrev rm_X7_change : Room := { frames := 4, cells := 0, slots := 0, locals := 94 }
def wp_X7_change_L19 (o : Nat) (r1 : Option Nat) (x2 : Int32) (r4 : Option Nat) (K72 : Int32 → Hp → Prop) (Q : Int32 → Hp → Prop) : Nat → Int32 → Int32 → Hp → Prop
  | 0, _, _, _ => False
  | n + 1, x5, x6, h => (if (32 : Int32) ≤ x6 then (K72 x5 h) else (∀ v5 : Int32, v5 = ((1664525 : Int32) * x5) + (1013904223 : Int32) → (okO h r4 8 ∧ (wp_X10_tellHair (ad r4) x6 (((v5).toUInt32 >>> (((28 : Int32)).toUInt32 &&& Int32.toUInt32 31)).toInt32) h (fun (h7 : Hp) => okA h7 r1 1 x6 ∧ (∀ v10 : Int32, v10 = hpI h7 (ad r1) (x6).toNatClampNeg → (okO h7 r4 8 ∧ (((hpK h7 o).1 = 20 + 5) ∧ (wp_X7_newHeight o x2 v10 (hpR h7 (ad r4) 0) h7 (fun (z14 : Int32) (h13 : Hp) => okA h13 r1 1 x6 ∧ (∀ h16 : Hp, h16 = stI h13 (ad r1) (x6).toNatClampNeg z14 → (∀ v17 : Int32, v17 = x6 + (1 : Int32) → (wp_X7_change_L19 o r1 x2 r4 K72 Q n v5 v17 h16)))))))))))))
def wp_X7_change (o : Nat) (r1 : Option Nat) (x2 : Int32) (x3 : Int32) (r4 : Option Nat) (h : Hp) (Q : Int32 → Hp → Prop) : Prop := okO h r4 8 ∧ (okC h r1 (0 : Int32) (hpR h (ad r4) 1) (0 : Int32) (32 : Int32) ∧ (∀ h3 : Hp, h3 = cpI h (ad r1) (ad (hpR h (ad r4) 1)) ((0 : Int32)).toNatClampNeg ((0 : Int32)).toNatClampNeg ((32 : Int32)).toNatClampNeg → (wp_X7_change_L19 o r1 x2 r4 (fun (y19 : Int32) (h18 : Hp) => Q y19 h18) Q fuel x3 (0 : Int32) h3)))
set_option maxHeartbeats 4000000 in
set_option maxRecDepth 100000 in
theorem t_X7_change_L19 {p : Program} {l : Launch} {e : Env} {s : State} {m : MethodId} {args : Array Value} {below : List Frame} {meth : Method} {c : Code} {G : GG} {base : Nat} (hM : Mx G base p s m args meth c cX7_change 7 (some .int) RX7 "change") (o : Nat) (r1 : Option Nat) (x2 : Int32) (r4 : Option Nat) (K72 : Int32 → Hp → Prop) (Q : Int32 → Hp → Prop) (hK72 : ∀ (y5 : Int32) (h : Hp) (H : Heap) (locs : List Loc) (ls : Array Slot), Cx G base h s.heap H locs → lo_has ls 7 [(5, .int y5)] → K72 y5 h → W p l e rm_X7_change s m args below meth c H locs 0 0 (MQ below (va_Qi Q (PU G base) (fun q => base ≤ q)) args s 0 0 (fun q => base ≤ q)) (F0 m 72 ls [])) : ∀ (n : Nat) (x5 : Int32) (x6 : Int32) (h : Hp) (H : Heap) (locs : List Loc) (ls : Array Slot), Cx G base h s.heap H locs → lo_has ls 7 [(0, .ref o), (1, va_rf r1), (2, .int x2), (4, va_rf r4), (5, .int x5), (6, .int x6)] → wp_X7_change_L19 o r1 x2 r4 K72 Q n x5 x6 h → W p l e rm_X7_change s m args below meth c H locs 0 0 (MQ below (va_Qi Q (PU G base) (fun q => base ≤ q)) args s 0 0 (fun q => base ≤ q)) (F0 m 19 ls []) := by
  intro n
  induction n with
  | zero =>
    intro x5 x6 h H locs ls hC hl hw
    rw [wp_X7_change_L19] at hw
    exact hw.elim
  | succ n ih =>
    intro x5 x6 h H locs ls hC hl hw
    rw [wp_X7_change_L19] at hw
    obtain ⟨hx, hb, hr, hml, hown, hts, hg, hs, hlk, hnm⟩ := id hM
    refine lv_iload hx hb dX7_change_19 (lo_at hl 5 rfl) ?_
    refine lv_bipush (v := 32) hx hb dX7_change_21 (by decide) ?_
    refine lv_icmp_ge (tgt := 72) hx hb dX7_change_23 (by decide) (fun c4 => ?_) (fun c4 => ?_)
    ·
      replace hw := (if_pos c4).mp hw
      exact hK72 x5 h H locs ls hC (lo_sub hl [4] rfl) hw
    ·
      replace hw := (if_neg c4).mp hw
      refine lv_ldc (v := 1664525) hx hb hown (hts _ mk_k_RX7_60) dX7_change_26 ?_
      refine lv_iload hx hb dX7_change_28 (lo_at hl 4 rfl) ?_
      refine lv_imul hx hb dX7_change_30 ?_
      refine lv_ldc (v := 1013904223) hx hb hown (hts _ mk_k_RX7_61) dX7_change_31 ?_
      refine lv_iadd hx hb dX7_change_33 ?_
      refine lv_topi (fun v5 ev5 => ?_)
      replace hw := hw v5 ev5
      refine lo_istore (lv' := [(5, .int v5), (0, .ref o), (1, va_rf r1), (2, .int x2), (4, va_rf r4), (6, .int x6)]) hx hb dX7_change_34 hl (by decide) rfl (fun ls hl => ?_)
      refine lo_aload (r := r4) hx hb dX7_change_36 (lo_at hl 4 rfl) ?_
      refine lv_iload hx hb dX7_change_38 (lo_at hl 5 rfl) ?_
      refine lv_iload hx hb dX7_change_40 (lo_at hl 0 rfl) ?_
      refine lv_bipush (v := 28) hx hb dX7_change_42 (by decide) ?_
      refine lv_iushr hx hb dX7_change_44 (v := ((v5).toUInt32 >>> (((28 : Int32)).toUInt32 &&& Int32.toUInt32 31)).toInt32) rfl ?_
      obtain ⟨k6, hw⟩ := hw
      refine rf_3 k6.1 ?_
      refine res_v hC (run_V (As := [.int x6, .int (((v5).toUInt32 >>> (((28 : Int32)).toUInt32 &&& Int32.toUInt32 31)).toInt32)]) (rest := []) hM hC hl.1.1 kv_RX7_62 (c_X10_tellHair l G base (ad r4) x6 (((v5).toUInt32 >>> (((28 : Int32)).toUInt32 &&& Int32.toUInt32 31)).toInt32) h _ hw) (hc_8) k6.2 rfl rfl rfl ⟨Nat.le_of_ble_eq_true rfl, Nat.le_of_ble_eq_true rfl⟩ (Nat.le_of_ble_eq_true rfl) ⟨Nat.le_of_ble_eq_true rfl, Nat.le_of_ble_eq_true rfl⟩ dX7_change_45) (fun h7 H locs hw hC => ?_)
      refine lo_aload_n (r := r1) hx hb dX7_change_48 rfl (lo_at hl 2 rfl) ?_
      refine lv_iload hx hb dX7_change_49 (lo_at hl 5 rfl) ?_
      refine lv_aload_n hx hb dX7_change_51 rfl (lo_at hl 1 rfl) ?_
      refine lv_iload_n hx hb dX7_change_52 rfl (lo_at hl 3 rfl) ?_
      refine lo_aload_n (r := r1) hx hb dX7_change_53 rfl (lo_at hl 2 rfl) ?_
      refine lv_iload hx hb dX7_change_54 (lo_at hl 5 rfl) ?_
      obtain ⟨k9, hw⟩ := hw
      refine rf_2 k9.1 ?_
      refine r_iald hx hb hg hC k9.2.1 k9.2.2 dX7_change_56 ?_
      refine lv_topi (fun v10 ev10 => ?_)
      replace hw := hw v10 ev10
      refine lo_aload (r := r4) hx hb dX7_change_57 (lo_at hl 4 rfl) ?_
      obtain ⟨k11, hw⟩ := hw
      refine rf_1 k11.1 ?_
      refine r_getR hx hb hts hown hg hC fb_8_0 k11.2 mk_f_RX7_66 dX7_change_59 ?_
      obtain ⟨k12, hw⟩ := hw
      refine res_i hC (run_V (As := [.int x2, .int v10, va_rf (hpR h7 (ad r4) 0)]) (rest := [.int x6, va_rf r1]) hM hC hl.1.1 kv_RX7_69 (c_X7_newHeight l G base o x2 v10 (hpR h7 (ad r4) 0) h7 _ hw) (hc_5) k12 rfl rfl rfl ⟨Nat.le_of_ble_eq_true rfl, Nat.le_of_ble_eq_true rfl⟩ (rest_le (List.forall_mem_cons.mpr ⟨rfl, (List.forall_mem_cons.mpr ⟨va_rf_cat _, (fun _ h => absurd h List.not_mem_nil)⟩)⟩) (Nat.le_of_ble_eq_true rfl)) ⟨Nat.le_of_ble_eq_true rfl, Nat.le_of_ble_eq_true rfl⟩ dX7_change_62) (fun z14 h13 H locs hw hC => ?_)
      obtain ⟨k15, hw⟩ := hw
      refine rf_3 k15.1 ?_
      refine r_iast hx hb hg hC k15.2.1 k15.2.2 dX7_change_65 (fun h16 H locs eh16 hC => ?_)
      replace hw := hw h16 eh16
      obtain ⟨v17, ev17⟩ : ∃ y : Int32, y = x6 + (1 : Int32) := ⟨_, rfl⟩
      replace hw := hw v17 ev17
      refine lo_iinc (v := v17) (lv' := [(6, .int v17), (5, .int v5), (0, .ref o), (1, va_rf r1), (2, .int x2), (4, va_rf r4)]) hx hb dX7_change_66 hl (k := 5) rfl (by rw [ev17]; rfl) (by decide) rfl (fun ls hl => ?_)
      refine lv_goto (tgt := 19) hx hb dX7_change_69 (by decide) ?_
      exact ih v5 v17 h16 H locs ls hC (lo_sub hl [2, 3, 4, 5, 1, 0] rfl) hw
set_option maxHeartbeats 4000000 in
set_option maxRecDepth 100000 in
theorem c_X7_change (l : Launch) (G : GG) (base : Nat) (o : Nat) (r1 : Option Nat) (x2 : Int32) (x3 : Int32) (r4 : Option Nat) (h : Hp) (Q : Int32 → Hp → Prop) (hw : wp_X7_change o r1 x2 x3 r4 h Q) : Met l yX7_change (ww yX7_change cX7_change 7 (some .int)) rm_X7_change (va_Pc [.ref o, va_rf r1, .int x2, .int x3, va_rf r4] (PU G base h)) (va_Qi Q (PU G base) (fun q => base ≤ q)) 0 0 (fun q => base ≤ q) := by
  refine met_of (own := RX7) (nm := "change") (by decide) rfl rfl (List.forall_mem_cons.mpr ⟨rfl, (List.forall_mem_cons.mpr ⟨va_rf_cat _, (List.forall_mem_cons.mpr ⟨rfl, (List.forall_mem_cons.mpr ⟨rfl, (List.forall_mem_cons.mpr ⟨va_rf_cat _, (fun _ h => absurd h List.not_mem_nil)⟩)⟩)⟩)⟩)⟩) (Nat.le_of_ble_eq_true rfl) rfl ?_
  intro p e s m below meth c ls hM hC hl
  obtain ⟨hx, hb, hr, hml, hown, hts, hg, hs, hlk, hnm⟩ := id hM
  obtain ⟨args, hargs⟩ : ∃ a : Array Value, a = ([.ref o, va_rf r1, .int x2, .int x3, va_rf r4] : List Value).toArray := ⟨_, rfl⟩
  rw [← hargs] at hM hts ⊢
  obtain ⟨H, hH⟩ : ∃ H : Heap, H = s.heap := ⟨_, rfl⟩
  obtain ⟨locs, hlocs⟩ : ∃ x : List Loc, x = [] := ⟨_, rfl⟩
  have hC : Cx G base h s.heap H locs := by rw [hH, hlocs]; exact hC
  show W p l e rm_X7_change s m args below meth c s.heap [] 0 0 (MQ below (va_Qi Q (PU G base) (fun q => base ≤ q)) args s 0 0 (fun q => base ≤ q)) (F0 m 0 ls [])
  rw [← hlocs]
  have hgoal : W p l e rm_X7_change s m args below meth c H locs 0 0 (MQ below (va_Qi Q (PU G base) (fun q => base ≤ q)) args s 0 0 (fun q => base ≤ q)) (F0 m 0 ls []) := ?_
  · rw [hH] at hgoal; exact hgoal
  clear hH hlocs
  unfold wp_X7_change at hw
  refine lv_iload_n hx hb dX7_change_0 rfl (lo_at hl 3 rfl) ?_
  refine lo_istore (lv' := [(5, .int x3), (0, .ref o), (1, va_rf r1), (2, .int x2), (3, .int x3), (4, va_rf r4)]) hx hb dX7_change_1 hl (by decide) rfl (fun ls hl => ?_)
  refine lo_aload_n (r := r1) hx hb dX7_change_3 rfl (lo_at hl 2 rfl) ?_
  refine lv_iconst (v := 0) hx hb dX7_change_4 (by decide) ?_
  refine lo_aload (r := r4) hx hb dX7_change_5 (lo_at hl 5 rfl) ?_
  obtain ⟨k1, hw⟩ := hw
  refine rf_1 k1.1 ?_
  refine r_getR hx hb hts hown hg hC fb_8_1 k1.2 mk_f_RX7_49 dX7_change_7 ?_
  refine lv_iconst (v := 0) hx hb dX7_change_10 (by decide) ?_
  refine lv_bipush (v := 32) hx hb dX7_change_11 (by decide) ?_
  obtain ⟨k2, hw⟩ := hw
  refine rf_3 k2.2.2.1 ?_
  refine rf_5 k2.1 ?_
  refine r_copy hM hC (by rw [hml]; exact hl.1.1.symm) mk_m_RX7_54 k2 (Nat.le_of_ble_eq_true rfl) (Nat.le_of_ble_eq_true rfl) dX7_change_13 (fun h3 H locs eh3 hC => ?_)
  replace hw := hw h3 eh3
  refine lv_iconst (v := 0) hx hb dX7_change_16 (by decide) ?_
  refine lo_istore (lv' := [(6, .int ((0 : Int32))), (5, .int x3), (0, .ref o), (1, va_rf r1), (2, .int x2), (3, .int x3), (4, va_rf r4)]) hx hb dX7_change_17 hl (by decide) rfl (fun ls hl => ?_)
  refine t_X7_change_L19 hM o r1 x2 r4 _ Q ?_ fuel x3 (0 : Int32) h3 H locs ls hC (lo_sub hl [2, 3, 4, 6, 1, 0] rfl) hw
  intro y19 h18 H locs ls hC hl hw
  refine lv_iload hx hb dX7_change_72 (lo_at hl 0 rfl) ?_
  exact ret_i hM hC hw dX7_change_74
abbrev rm_X8_isWord : Room := { frames := 4, cells := 0, slots := 0, locals := 85 }
def wp_X8_isWord_L3 (o : Nat) (x1 : Int32) (x2 : Int32) (x3 : Int32) (K30 : Hp → Prop) (K38 : Hp → Prop) (Q : Int32 → Hp → Prop) : Nat → Int32 → Hp → Prop
  | 0, _, _ => False
  | n + 1, x4, h => (if x3 ≤ x4 then (K38 h) else ((0 < 2) ∧ (wp_J0_charAt_5068e 0 (x2 + x4) h (fun (z4 : Int32) (h3 : Hp) => ((hpK h3 o).1 = 20 + 6) ∧ (okA h3 (hpR h3 o 0) 1 (x1 + x4) ∧ (∀ v7 : Int32, v7 = hpI h3 (ad (hpR h3 o 0)) (x1 + x4).toNatClampNeg → ((if z4 = v7 then (∀ v9 : Int32, v9 = x4 + (1 : Int32) → (wp_X8_isWord_L3 o x1 x2 x3 K30 K38 Q n v9 h3)) else (K30 h3)))))))))
def wp_X8_isWord (o : Nat) (x1 : Int32) (x2 : Int32) (x3 : Int32) (h : Hp) (Q : Int32 → Hp → Prop) : Prop := wp_X8_isWord_L3 o x1 x2 x3 (fun (h10 : Hp) => Q (0 : Int32) h10) (fun (h11 : Hp) => Q (1 : Int32) h11) Q fuel (0 : Int32) h
set_option maxHeartbeats 4000000 in
set_option maxRecDepth 100000 in
theorem t_X8_isWord_L3 {p : Program} {l : Launch} {e : Env} {s : State} {m : MethodId} {args : Array Value} {below : List Frame} {meth : Method} {c : Code} {G : GG} {base : Nat} (hM : Mx G base p s m args meth c cX8_isWord 5 (some .boolean) RX8 "isWord") (o : Nat) (x1 : Int32) (x2 : Int32) (x3 : Int32) (K30 : Hp → Prop) (K38 : Hp → Prop) (Q : Int32 → Hp → Prop) (hK30 : ∀ (h : Hp) (H : Heap) (locs : List Loc) (ls : Array Slot), Cx G base h s.heap H locs → lo_has ls 5 [] → K30 h → W p l e rm_X8_isWord s m args below meth c H locs 0 0 (MQ below (va_Qi Q (PU G base) (fun q => base ≤ q)) args s 0 0 (fun q => base ≤ q)) (F0 m 30 ls [])) (hK38 : ∀ (h : Hp) (H : Heap) (locs : List Loc) (ls : Array Slot), Cx G base h s.heap H locs → lo_has ls 5 [] → K38 h → W p l e rm_X8_isWord s m args below meth c H locs 0 0 (MQ below (va_Qi Q (PU G base) (fun q => base ≤ q)) args s 0 0 (fun q => base ≤ q)) (F0 m 38 ls [])) : ∀ (n : Nat) (x4 : Int32) (h : Hp) (H : Heap) (locs : List Loc) (ls : Array Slot), Cx G base h s.heap H locs → lo_has ls 5 [(0, .ref o), (1, .int x1), (2, .int x2), (3, .int x3), (4, .int x4)] → wp_X8_isWord_L3 o x1 x2 x3 K30 K38 Q n x4 h → W p l e rm_X8_isWord s m args below meth c H locs 0 0 (MQ below (va_Qi Q (PU G base) (fun q => base ≤ q)) args s 0 0 (fun q => base ≤ q)) (F0 m 3 ls []) := by
  intro n
  induction n with
  | zero =>
    intro x4 h H locs ls hC hl hw
    rw [wp_X8_isWord_L3] at hw
    exact hw.elim
  | succ n ih =>
    intro x4 h H locs ls hC hl hw
    rw [wp_X8_isWord_L3] at hw
    obtain ⟨hx, hb, hr, hml, hown, hts, hg, hs, hlk, hnm⟩ := id hM
    refine lv_iload hx hb dX8_isWord_3 (lo_at hl 4 rfl) ?_
    refine lv_iload_n hx hb dX8_isWord_5 rfl (lo_at hl 3 rfl) ?_
    refine lv_icmp_ge (tgt := 38) hx hb dX8_isWord_6 (by decide) (fun c1 => ?_) (fun c1 => ?_)
    ·
      replace hw := (if_pos c1).mp hw
      exact hK38  h H locs ls hC (lo_sub hl [] rfl) hw
    ·
      replace hw := (if_neg c1).mp hw
      refine va_ldcS hx hb hown hs.2.1 dX8_isWord_9 ?_
      refine lv_iload_n hx hb dX8_isWord_11 rfl (lo_at hl 2 rfl) ?_
      refine lv_iload hx hb dX8_isWord_12 (lo_at hl 4 rfl) ?_
      refine lv_iadd hx hb dX8_isWord_14 ?_
      obtain ⟨k2, hw⟩ := hw
      refine res_i hC (run_VS (As := [.int (x2 + x4)]) (rest := []) hM hC hl.1.1 kv_RX8_61 (c_J0_charAt_5068e l G base 0 (x2 + x4) h _ hw) k2 rfl rfl rfl ⟨Nat.le_of_ble_eq_true rfl, Nat.le_of_ble_eq_true rfl⟩ (Nat.le_of_ble_eq_true rfl) ⟨Nat.le_of_ble_eq_true rfl, Nat.le_of_ble_eq_true rfl⟩ dX8_isWord_15) (fun z4 h3 H locs hw hC => ?_)
      refine lv_aload_n hx hb dX8_isWord_18 rfl (lo_at hl 0 rfl) ?_
      obtain ⟨k5, hw⟩ := hw
      refine r_getR hx hb hts hown hg hC fb_6_0 k5 mk_f_RX8_9 dX8_isWord_19 ?_
      refine lv_iload_n hx hb dX8_isWord_22 rfl (lo_at hl 1 rfl) ?_
      refine lv_iload hx hb dX8_isWord_23 (lo_at hl 4 rfl) ?_
      refine lv_iadd hx hb dX8_isWord_25 ?_
      obtain ⟨k6, hw⟩ := hw
      refine rf_2 k6.1 ?_
      refine r_iald hx hb hg hC k6.2.1 k6.2.2 dX8_isWord_26 ?_
      refine lv_topi (fun v7 ev7 => ?_)
      replace hw := hw v7 ev7
      refine lv_icmp_eq (tgt := 32) hx hb dX8_isWord_27 (by decide) (fun c8 => ?_) (fun c8 => ?_)
      ·
        replace hw := (if_pos c8).mp hw
        obtain ⟨v9, ev9⟩ : ∃ y : Int32, y = x4 + (1 : Int32) := ⟨_, rfl⟩
        replace hw := hw v9 ev9
        refine lo_iinc (v := v9) (lv' := [(4, .int v9), (0, .ref o), (1, .int x1), (2, .int x2), (3, .int x3)]) hx hb dX8_isWord_32 hl (k := 4) rfl (by rw [ev9]; rfl) (by decide) rfl (fun ls hl => ?_)
        refine lv_goto (tgt := 3) hx hb dX8_isWord_35 (by decide) ?_
        exact ih v9 h3 H locs ls hC (lo_sub hl [1, 2, 3, 4, 0] rfl) hw
      ·
        replace hw := (if_neg c8).mp hw
        exact hK30  h3 H locs ls hC (lo_sub hl [] rfl) hw
set_option maxHeartbeats 4000000 in
set_option maxRecDepth 100000 in
theorem c_X8_isWord (l : Launch) (G : GG) (base : Nat) (o : Nat) (x1 : Int32) (x2 : Int32) (x3 : Int32) (h : Hp) (Q : Int32 → Hp → Prop) (hw : wp_X8_isWord o x1 x2 x3 h Q) : Met l yX8_isWord (ww yX8_isWord cX8_isWord 5 (some .boolean)) rm_X8_isWord (va_Pc [.ref o, .int x1, .int x2, .int x3] (PU G base h)) (va_Qi Q (PU G base) (fun q => base ≤ q)) 0 0 (fun q => base ≤ q) := by
  refine met_of (own := RX8) (nm := "isWord") (by decide) rfl rfl (List.forall_mem_cons.mpr ⟨rfl, (List.forall_mem_cons.mpr ⟨rfl, (List.forall_mem_cons.mpr ⟨rfl, (List.forall_mem_cons.mpr ⟨rfl, (fun _ h => absurd h List.not_mem_nil)⟩)⟩)⟩)⟩) (Nat.le_of_ble_eq_true rfl) rfl ?_
  intro p e s m below meth c ls hM hC hl
  obtain ⟨hx, hb, hr, hml, hown, hts, hg, hs, hlk, hnm⟩ := id hM
  obtain ⟨args, hargs⟩ : ∃ a : Array Value, a = ([.ref o, .int x1, .int x2, .int x3] : List Value).toArray := ⟨_, rfl⟩
  rw [← hargs] at hM hts ⊢
  obtain ⟨H, hH⟩ : ∃ H : Heap, H = s.heap := ⟨_, rfl⟩
  obtain ⟨locs, hlocs⟩ : ∃ x : List Loc, x = [] := ⟨_, rfl⟩
  have hC : Cx G base h s.heap H locs := by rw [hH, hlocs]; exact hC
  show W p l e rm_X8_isWord s m args below meth c s.heap [] 0 0 (MQ below (va_Qi Q (PU G base) (fun q => base ≤ q)) args s 0 0 (fun q => base ≤ q)) (F0 m 0 ls [])
  rw [← hlocs]
  have hgoal : W p l e rm_X8_isWord s m args below meth c H locs 0 0 (MQ below (va_Qi Q (PU G base) (fun q => base ≤ q)) args s 0 0 (fun q => base ≤ q)) (F0 m 0 ls []) := ?_
  · rw [hH] at hgoal; exact hgoal
  clear hH hlocs
  unfold wp_X8_isWord at hw
  refine lv_iconst (v := 0) hx hb dX8_isWord_0 (by decide) ?_
  refine lo_istore (lv' := [(4, .int ((0 : Int32))), (0, .ref o), (1, .int x1), (2, .int x2), (3, .int x3)]) hx hb dX8_isWord_1 hl (by decide) rfl (fun ls hl => ?_)
  refine t_X8_isWord_L3 hM o x1 x2 x3 _ _ Q ?_ ?_ fuel (0 : Int32) h H locs ls hC (lo_sub hl [1, 2, 3, 4, 0] rfl) hw
  ·
    intro  h10 H locs ls hC hl hw
    refine lv_iconst (v := 0) hx hb dX8_isWord_30 (by decide) ?_
    exact ret_z hM hC rfl hw dX8_isWord_31
  ·
    intro  h11 H locs ls hC hl hw
    refine lv_iconst (v := 1) hx hb dX8_isWord_38 (by decide) ?_
    exact ret_z hM hC rfl hw dX8_isWord_39
abbrev rm_X11_barrel : Room := { frames := 5, cells := 2, slots := 39, locals := 120 }
def wp_X11_barrel (o : Nat) (x1 : Int32) (h : Hp) (Q : Int32 → Hp → Prop) : Prop := ((hpK h o).1 = 20 + 9) ∧ (wp_X11_toolAt o x1 h (fun (z3 : Option Nat) (h2 : Hp) => (if z3 = none then (Q (-1 : Int32) h2) else (((hpK h2 o).1 = 20 + 9) ∧ ((if (hpI h2 o 3) < (16 : Int32) then (∀ (q7 : Nat) (h8 : Hp), (hpK h2 q7).1 = 0 → h8 = alc h2 q7 (20 + 1) 0 → (((hpK h8 o).1 = 20 + 9) ∧ (((hpK h8 q7).1 = 20 + 1) ∧ (wp_X1_init q7 (hpI h8 o 3) x1 z3 h8 (fun (h12 : Hp) => ((hpK h12 q7).1 = 20 + 1) ∧ (okA h12 (hpR h2 o 2) 4 (hpI h2 o 3) ∧ (∀ h16 : Hp, h16 = stR h12 (ad (hpR h2 o 2)) (hpI h2 o 3).toNatClampNeg (some q7) → (((hpK h16 o).1 = 20 + 9) ∧ (∀ h18 : Hp, h18 = stI h16 o 3 ((hpI h16 o 3) + (1 : Int32)) → (okO h18 z3 7 ∧ (∀ h20 : Hp, h20 = stI h18 (ad z3) 2 ((hpI h18 (ad z3) 2) + (1 : Int32)) → (((hpK h20 o).1 = 20 + 9) ∧ (okO h20 z3 7 ∧ (okO h20 (hpR h20 o 15) 8 ∧ (wp_X10_tellShot (ad (hpR h20 o 15)) (hpI h20 (ad z3) 2) (0 : Int32) (0 : Int32) h20 (fun (h24 : Hp) => ((hpK h24 o).1 = 20 + 9) ∧ (okO h24 z3 7 ∧ (okO h24 (hpR h24 o 14) 5 ∧ (wp_X7_change (ad (hpR h24 o 14)) (hpR h24 (ad z3) 0) (260 : Int32) (hpI h24 (ad z3) 1) (hpR h24 o 15) h24 (fun (z30 : Int32) (h29 : Hp) => okO h29 z3 7 ∧ (∀ h32 : Hp, h32 = stI h29 (ad z3) 1 z30 → (((hpK h32 o).1 = 20 + 9) ∧ (Q ((hpI h32 o 3) - (1 : Int32)) h32))))))))))))))))))))))) else (Q (-1 : Int32) h2)))))))
set_option maxHeartbeats 4000000 in
set_option maxRecDepth 100000 in
theorem c_X11_barrel (l : Launch) (G : GG) (base : Nat) (o : Nat) (x1 : Int32) (h : Hp) (Q : Int32 → Hp → Prop) (hw : wp_X11_barrel o x1 h Q) : Met l yX11_barrel (ww yX11_barrel cX11_barrel 3 (some .int)) rm_X11_barrel (va_Pc [.ref o, .int x1] (PU G base h)) (va_Qi Q (PU G base) (fun q => base ≤ q)) 2 39 (fun q => base ≤ q) := by
  refine met_of (own := RX11) (nm := "barrel") (by decide) rfl rfl (List.forall_mem_cons.mpr ⟨rfl, (List.forall_mem_cons.mpr ⟨rfl, (fun _ h => absurd h List.not_mem_nil)⟩)⟩) (Nat.le_of_ble_eq_true rfl) rfl ?_
  intro p e s m below meth c ls hM hC hl
  obtain ⟨hx, hb, hr, hml, hown, hts, hg, hs, hlk, hnm⟩ := id hM
  obtain ⟨args, hargs⟩ : ∃ a : Array Value, a = ([.ref o, .int x1] : List Value).toArray := ⟨_, rfl⟩
  rw [← hargs] at hM hts ⊢
  obtain ⟨H, hH⟩ : ∃ H : Heap, H = s.heap := ⟨_, rfl⟩
  obtain ⟨locs, hlocs⟩ : ∃ x : List Loc, x = [] := ⟨_, rfl⟩
  have hC : Cx G base h s.heap H locs := by rw [hH, hlocs]; exact hC
  show W p l e rm_X11_barrel s m args below meth c s.heap [] 0 0 (MQ below (va_Qi Q (PU G base) (fun q => base ≤ q)) args s 2 39 (fun q => base ≤ q)) (F0 m 0 ls [])
  rw [← hlocs]
  have hgoal : W p l e rm_X11_barrel s m args below meth c H locs 0 0 (MQ below (va_Qi Q (PU G base) (fun q => base ≤ q)) args s 2 39 (fun q => base ≤ q)) (F0 m 0 ls []) := ?_
  · rw [hH] at hgoal; exact hgoal
  clear hH hlocs
  unfold wp_X11_barrel at hw
  refine lv_aload_n hx hb dX11_barrel_0 rfl (lo_at hl 0 rfl) ?_
  refine lv_iload_n hx hb dX11_barrel_1 rfl (lo_at hl 1 rfl) ?_
  obtain ⟨k1, hw⟩ := hw
  refine res_q hC (run_V (As := [.int x1]) (rest := []) hM hC hl.1.1 kv_RX11_80 (c_X11_toolAt l G base o x1 h _ hw) (hc_9) k1 rfl rfl rfl ⟨Nat.le_of_ble_eq_true rfl, Nat.le_of_ble_eq_true rfl⟩ (Nat.le_of_ble_eq_true rfl) ⟨Nat.le_of_ble_eq_true rfl, Nat.le_of_ble_eq_true rfl⟩ dX11_barrel_2) (fun z3 h2 H locs hw hC => ?_)
  refine lo_astore_n (r := z3) (lv' := [(2, va_rf z3), (0, .ref o), (1, .int x1)]) hx hb dX11_barrel_5 rfl hl (by decide) rfl (fun ls hl => ?_)
  refine lo_aload_n (r := z3) hx hb dX11_barrel_6 rfl (lo_at hl 0 rfl) ?_
  refine lo_ifnull (r := z3) (tgt := 19) hx hb dX11_barrel_7 (by decide) (fun c4 => ?_) (fun c4 => ?_)
  ·
    replace hw := (if_pos c4).mp hw
    refine lv_iconst (v := -1) hx hb dX11_barrel_19 (by decide) ?_
    refine W.widen (k := 2) (n := 39) (Nat.le_of_ble_eq_true rfl) (Nat.le_of_ble_eq_true rfl) ?_
    exact ret_i hM hC hw dX11_barrel_20
  ·
    replace hw := (if_neg c4).mp hw
    refine lv_aload_n hx hb dX11_barrel_10 rfl (lo_at hl 1 rfl) ?_
    obtain ⟨k5, hw⟩ := hw
    refine r_getI hx hb hts hown hg hC fb_9_3 k5 mk_f_RX11_95 dX11_barrel_11 ?_
    refine lv_bipush (v := 16) hx hb dX11_barrel_14 (by decide) ?_
    refine lv_icmp_lt (tgt := 21) hx hb dX11_barrel_16 (by decide) (fun c6 => ?_) (fun c6 => ?_)
    ·
      replace hw := (if_pos c6).mp hw
      refine lv_aload_n hx hb dX11_barrel_21 rfl (lo_at hl 1 rfl) ?_
      refine r_getR hx hb hts hown hg hC fb_9_2 k5 mk_f_RX11_17 dX11_barrel_22 ?_
      refine lv_aload_n hx hb dX11_barrel_25 rfl (lo_at hl 1 rfl) ?_
      refine r_getI hx hb hts hown hg hC fb_9_3 k5 mk_f_RX11_95 dX11_barrel_26 ?_
      refine r_new hx hb hts hown hg hC cb_1 df_1 mk_c_RX11_15 mk_ins_OneBarrel_Barrel mk_ini_OneBarrel_Barrel (Nat.le_of_ble_eq_true rfl) (Nat.le_of_ble_eq_true rfl) dX11_barrel_29 (fun q7 h8 H k9 eh8 hC => ?_)
      replace hw := hw q7 h8 k9 eh8
      refine W.widen (k := 1) (n := 7) (Nat.le_of_ble_eq_true rfl) (Nat.le_of_ble_eq_true rfl) ?_
      refine lv_dup hx hb dX11_barrel_32 rfl ?_
      refine lv_aload_n hx hb dX11_barrel_33 rfl (lo_at hl 1 rfl) ?_
      obtain ⟨k10, hw⟩ := hw
      refine r_getI hx hb hts hown hg hC fb_9_3 k10 mk_f_RX11_95 dX11_barrel_34 ?_
      refine lv_iload_n hx hb dX11_barrel_37 rfl (lo_at hl 2 rfl) ?_
      refine lo_aload_n (r := z3) hx hb dX11_barrel_38 rfl (lo_at hl 0 rfl) ?_
      obtain ⟨k11, hw⟩ := hw
      refine res_v hC (run_I (As := [.int (hpI h8 o 3), .int x1, va_rf z3]) (rest := [.ref q7, .int (hpI h2 o 3), va_rf (hpR h2 o 2)]) hM hC hl.1.1 kv_RX11_98 (c_X1_init l G base q7 (hpI h8 o 3) x1 z3 h8 _ hw) rfl rfl rfl ⟨Nat.le_of_ble_eq_true rfl, Nat.le_of_ble_eq_true rfl⟩ (rest_le (List.forall_mem_cons.mpr ⟨rfl, (List.forall_mem_cons.mpr ⟨rfl, (List.forall_mem_cons.mpr ⟨va_rf_cat _, (fun _ h => absurd h List.not_mem_nil)⟩)⟩)⟩) (Nat.le_of_ble_eq_true rfl)) ⟨Nat.le_of_ble_eq_true rfl, Nat.le_of_ble_eq_true rfl⟩ dX11_barrel_39) (fun h12 H locs hw hC => ?_)
      refine W.widen (k := 2) (n := 39) (Nat.le_of_ble_eq_true rfl) (Nat.le_of_ble_eq_true rfl) ?_
      obtain ⟨k14, hw⟩ := hw
      obtain ⟨k15, hw⟩ := hw
      refine rf_3 k15.1 ?_
      refine r_aast (kd := 4) (t0 := 3) (ci := 1) (q := (RX1, TX1, 7)) hx hb hg hC k15.2.1 (by decide) rfl rfl k14 k15.2.2 dX11_barrel_42 (fun h16 H locs eh16 hC => ?_)
      replace hw := hw h16 eh16
      refine lv_aload_n hx hb dX11_barrel_43 rfl (lo_at hl 1 rfl) ?_
      refine lv_dup hx hb dX11_barrel_44 rfl ?_
      obtain ⟨k17, hw⟩ := hw
      refine r_getI hx hb hts hown hg hC fb_9_3 k17 mk_f_RX11_95 dX11_barrel_45 ?_
      refine lv_iconst (v := 1) hx hb dX11_barrel_48 (by decide) ?_
      refine lv_iadd hx hb dX11_barrel_49 ?_
      refine r_putI hx hb hts hown hg hC fb_9_3 k17 rfl rfl mk_f_RX11_95 dX11_barrel_50 (fun h18 H locs eh18 hC => ?_)
      replace hw := hw h18 eh18
      refine lo_aload_n (r := z3) hx hb dX11_barrel_53 rfl (lo_at hl 0 rfl) ?_
      refine lv_dup hx hb dX11_barrel_54 (va_rf_cat _) ?_
      obtain ⟨k19, hw⟩ := hw
      refine rf_1 k19.1 ?_
      refine r_getI hx hb hts hown hg hC fb_7_2 k19.2 mk_f_RX11_101 dX11_barrel_55 ?_
      refine lv_iconst (v := 1) hx hb dX11_barrel_58 (by decide) ?_
      refine lv_iadd hx hb dX11_barrel_59 ?_
      refine rf_2 k19.1 ?_
      refine r_putI hx hb hts hown hg hC fb_7_2 k19.2 rfl rfl mk_f_RX11_101 dX11_barrel_60 (fun h20 H locs eh20 hC => ?_)
      replace hw := hw h20 eh20
      refine lv_aload_n hx hb dX11_barrel_63 rfl (lo_at hl 1 rfl) ?_
      obtain ⟨k21, hw⟩ := hw
      refine r_getR hx hb hts hown hg hC fb_9_15 k21 mk_f_RX11_69 dX11_barrel_64 ?_
      refine lo_aload_n (r := z3) hx hb dX11_barrel_67 rfl (lo_at hl 0 rfl) ?_
      obtain ⟨k22, hw⟩ := hw
      refine rf_1 k22.1 ?_
      refine r_getI hx hb hts hown hg hC fb_7_2 k22.2 mk_f_RX11_101 dX11_barrel_68 ?_
      refine lv_iconst (v := 0) hx hb dX11_barrel_71 (by decide) ?_
      refine lv_iconst (v := 0) hx hb dX11_barrel_72 (by decide) ?_
      obtain ⟨k23, hw⟩ := hw
      refine rf_4 k23.1 ?_
      refine res_v hC (run_V (As := [.int (hpI h20 (ad z3) 2), .int ((0 : Int32)), .int ((0 : Int32))]) (rest := []) hM hC hl.1.1 kv_RX11_104 (c_X10_tellShot l G base (ad (hpR h20 o 15)) (hpI h20 (ad z3) 2) (0 : Int32) (0 : Int32) h20 _ hw) (hc_8) k23.2 rfl rfl rfl ⟨Nat.le_of_ble_eq_true rfl, Nat.le_of_ble_eq_true rfl⟩ (Nat.le_of_ble_eq_true rfl) ⟨Nat.le_of_ble_eq_true rfl, Nat.le_of_ble_eq_true rfl⟩ dX11_barrel_73) (fun h24 H locs hw hC => ?_)
      refine lo_aload_n (r := z3) hx hb dX11_barrel_76 rfl (lo_at hl 0 rfl) ?_
      refine lv_aload_n hx hb dX11_barrel_77 rfl (lo_at hl 1 rfl) ?_
      obtain ⟨k26, hw⟩ := hw
      refine r_getR hx hb hts hown hg hC fb_9_14 k26 mk_f_RX11_62 dX11_barrel_78 ?_
      refine lo_aload_n (r := z3) hx hb dX11_barrel_81 rfl (lo_at hl 0 rfl) ?_
      obtain ⟨k27, hw⟩ := hw
      refine rf_1 k27.1 ?_
      refine r_getR hx hb hts hown hg hC fb_7_0 k27.2 mk_f_RX11_91 dX11_barrel_82 ?_
      refine lv_sipush (v := 260) hx hb dX11_barrel_85 (by decide) ?_
      refine lo_aload_n (r := z3) hx hb dX11_barrel_88 rfl (lo_at hl 0 rfl) ?_
      refine rf_1 k27.1 ?_
      refine r_getI hx hb hts hown hg hC fb_7_1 k27.2 mk_f_RX11_108 dX11_barrel_89 ?_
      refine lv_aload_n hx hb dX11_barrel_92 rfl (lo_at hl 1 rfl) ?_
      refine r_getR hx hb hts hown hg hC fb_9_15 k26 mk_f_RX11_69 dX11_barrel_93 ?_
      obtain ⟨k28, hw⟩ := hw
      refine rf_5 k28.1 ?_
      refine res_i hC (run_V (As := [va_rf (hpR h24 (ad z3) 0), .int ((260 : Int32)), .int (hpI h24 (ad z3) 1), va_rf (hpR h24 o 15)]) (rest := [va_rf z3]) hM hC hl.1.1 kv_RX11_111 (c_X7_change l G base (ad (hpR h24 o 14)) (hpR h24 (ad z3) 0) (260 : Int32) (hpI h24 (ad z3) 1) (hpR h24 o 15) h24 _ hw) (hc_5) k28.2 rfl rfl rfl ⟨Nat.le_of_ble_eq_true rfl, Nat.le_of_ble_eq_true rfl⟩ (rest_le (List.forall_mem_cons.mpr ⟨va_rf_cat _, (fun _ h => absurd h List.not_mem_nil)⟩) (Nat.le_of_ble_eq_true rfl)) ⟨Nat.le_of_ble_eq_true rfl, Nat.le_of_ble_eq_true rfl⟩ dX11_barrel_96) (fun z30 h29 H locs hw hC => ?_)
      obtain ⟨k31, hw⟩ := hw
      refine rf_2 k31.1 ?_
      refine r_putI hx hb hts hown hg hC fb_7_1 k31.2 rfl rfl mk_f_RX11_108 dX11_barrel_99 (fun h32 H locs eh32 hC => ?_)
      replace hw := hw h32 eh32
      refine lv_aload_n hx hb dX11_barrel_102 rfl (lo_at hl 1 rfl) ?_
      obtain ⟨k33, hw⟩ := hw
      refine r_getI hx hb hts hown hg hC fb_9_3 k33 mk_f_RX11_95 dX11_barrel_103 ?_
      refine lv_iconst (v := 1) hx hb dX11_barrel_106 (by decide) ?_
      refine lv_isub hx hb dX11_barrel_107 ?_
      exact ret_i hM hC hw dX11_barrel_108
    ·
      replace hw := (if_neg c6).mp hw
      refine lv_iconst (v := -1) hx hb dX11_barrel_19 (by decide) ?_
      refine W.widen (k := 2) (n := 39) (Nat.le_of_ble_eq_true rfl) (Nat.le_of_ble_eq_true rfl) ?_
      exact ret_i hM hC hw dX11_barrel_20
abbrev rm_X11_shot : Room := { frames := 5, cells := 2, slots := 37, locals := 120 }
def wp_X11_shot (o : Nat) (x1 : Int32) (x2 : Int32) (h : Hp) (Q : Int32 → Hp → Prop) : Prop := ((hpK h o).1 = 20 + 9) ∧ (wp_X11_barrelAt o x1 h (fun (z3 : Option Nat) (h2 : Hp) => (if z3 = none then (Q (-1 : Int32) h2) else ((if x2 < 0 then (Q (-1 : Int32) h2) else ((if (9 : Int32) < x2 then (Q (-1 : Int32) h2) else (((hpK h2 o).1 = 20 + 9) ∧ ((if (hpI h2 o 5) < (40 : Int32) then (∀ (q9 : Nat) (h10 : Hp), (hpK h2 q9).1 = 0 → h10 = alc h2 q9 (20 + 0) 0 → (((hpK h10 o).1 = 20 + 9) ∧ (((hpK h10 q9).1 = 20 + 0) ∧ (wp_X0_init q9 (hpI h10 o 5) z3 x2 h10 (fun (h14 : Hp) => ((hpK h14 o).1 = 20 + 9) ∧ (okO h14 z3 1 ∧ (okO h14 (hpR h14 o 15) 8 ∧ (wp_X10_tellShot (ad (hpR h14 o 15)) (hpI h14 (ad z3) 5) (hpI h14 (ad z3) 6) x2 h14 (fun (h19 : Hp) => ((hpK h19 o).1 = 20 + 9) ∧ (((hpK h19 q9).1 = 20 + 0) ∧ (okO h19 z3 1 ∧ (okO h19 (hpR h19 o 14) 5 ∧ (wp_X7_change (ad (hpR h19 o 14)) (hpR h19 q9 4) (262 : Int32) (hpI h19 (ad z3) 4) (hpR h19 o 15) h19 (fun (z26 : Int32) (h25 : Hp) => okO h25 z3 1 ∧ (∀ h28 : Hp, h28 = stI h25 (ad z3) 4 z26 → (((hpK h28 o).1 = 20 + 9) ∧ (okO h28 z3 1 ∧ (okO h28 (hpR h28 o 14) 5 ∧ (wp_X7_change (ad (hpR h28 o 14)) (hpR h28 (ad z3) 3) (261 : Int32) (hpI h28 (ad z3) 4) (hpR h28 o 15) h28 (fun (z33 : Int32) (h32 : Hp) => okO h32 z3 1 ∧ (∀ h35 : Hp, h35 = stI h32 (ad z3) 4 z33 → (okO h35 z3 1 ∧ (∀ h37 : Hp, h37 = stI h35 (ad z3) 5 ((hpI h35 (ad z3) 5) + (1 : Int32)) → (((hpK h37 o).1 = 20 + 9) ∧ (((hpK h37 q9).1 = 20 + 0) ∧ (okA h37 (hpR h37 o 4) 3 (hpI h37 o 5) ∧ (∀ h41 : Hp, h41 = stR h37 (ad (hpR h37 o 4)) (hpI h37 o 5).toNatClampNeg (some q9) → (((hpK h41 o).1 = 20 + 9) ∧ (∀ h43 : Hp, h43 = stI h41 o 5 ((hpI h41 o 5) + (1 : Int32)) → (((hpK h43 q9).1 = 20 + 0) ∧ (Q (hpI h43 q9 0) h43))))))))))))))))))))))))))))))) else (Q (-1 : Int32) h2)))))))))))
set_option maxHeartbeats 4000000 in
set_option maxRecDepth 100000 in
theorem c_X11_shot (l : Launch) (G : GG) (base : Nat) (o : Nat) (x1 : Int32) (x2 : Int32) (h : Hp) (Q : Int32 → Hp → Prop) (hw : wp_X11_shot o x1 x2 h Q) : Met l yX11_shot (ww yX11_shot cX11_shot 5 (some .int)) rm_X11_shot (va_Pc [.ref o, .int x1, .int x2] (PU G base h)) (va_Qi Q (PU G base) (fun q => base ≤ q)) 2 37 (fun q => base ≤ q) := by
  refine met_of (own := RX11) (nm := "shot") (by decide) rfl rfl (List.forall_mem_cons.mpr ⟨rfl, (List.forall_mem_cons.mpr ⟨rfl, (List.forall_mem_cons.mpr ⟨rfl, (fun _ h => absurd h List.not_mem_nil)⟩)⟩)⟩) (Nat.le_of_ble_eq_true rfl) rfl ?_
  intro p e s m below meth c ls hM hC hl
  obtain ⟨hx, hb, hr, hml, hown, hts, hg, hs, hlk, hnm⟩ := id hM
  obtain ⟨args, hargs⟩ : ∃ a : Array Value, a = ([.ref o, .int x1, .int x2] : List Value).toArray := ⟨_, rfl⟩
  rw [← hargs] at hM hts ⊢
  obtain ⟨H, hH⟩ : ∃ H : Heap, H = s.heap := ⟨_, rfl⟩
  obtain ⟨locs, hlocs⟩ : ∃ x : List Loc, x = [] := ⟨_, rfl⟩
  have hC : Cx G base h s.heap H locs := by rw [hH, hlocs]; exact hC
  show W p l e rm_X11_shot s m args below meth c s.heap [] 0 0 (MQ below (va_Qi Q (PU G base) (fun q => base ≤ q)) args s 2 37 (fun q => base ≤ q)) (F0 m 0 ls [])
  rw [← hlocs]
  have hgoal : W p l e rm_X11_shot s m args below meth c H locs 0 0 (MQ below (va_Qi Q (PU G base) (fun q => base ≤ q)) args s 2 37 (fun q => base ≤ q)) (F0 m 0 ls []) := ?_
  · rw [hH] at hgoal; exact hgoal
  clear hH hlocs
  unfold wp_X11_shot at hw
  refine lv_aload_n hx hb dX11_shot_0 rfl (lo_at hl 0 rfl) ?_
  refine lv_iload_n hx hb dX11_shot_1 rfl (lo_at hl 1 rfl) ?_
  obtain ⟨k1, hw⟩ := hw
  refine res_q hC (run_V (As := [.int x1]) (rest := []) hM hC hl.1.1 kv_RX11_115 (c_X11_barrelAt l G base o x1 h _ hw) (hc_9) k1 rfl rfl rfl ⟨Nat.le_of_ble_eq_true rfl, Nat.le_of_ble_eq_true rfl⟩ (Nat.le_of_ble_eq_true rfl) ⟨Nat.le_of_ble_eq_true rfl, Nat.le_of_ble_eq_true rfl⟩ dX11_shot_2) (fun z3 h2 H locs hw hC => ?_)
  refine lo_astore_n (r := z3) (lv' := [(3, va_rf z3), (0, .ref o), (1, .int x1), (2, .int x2)]) hx hb dX11_shot_5 rfl hl (by decide) rfl (fun ls hl => ?_)
  refine lo_aload_n (r := z3) hx hb dX11_shot_6 rfl (lo_at hl 0 rfl) ?_
  refine lo_ifnull (r := z3) (tgt := 29) hx hb dX11_shot_7 (by decide) (fun c4 => ?_) (fun c4 => ?_)
  ·
    replace hw := (if_pos c4).mp hw
    refine lv_iconst (v := -1) hx hb dX11_shot_29 (by decide) ?_
    refine W.widen (k := 2) (n := 37) (Nat.le_of_ble_eq_true rfl) (Nat.le_of_ble_eq_true rfl) ?_
    exact ret_i hM hC hw dX11_shot_30
  ·
    replace hw := (if_neg c4).mp hw
    refine lv_iload_n hx hb dX11_shot_10 rfl (lo_at hl 3 rfl) ?_
    refine lv_if_lt (tgt := 29) hx hb dX11_shot_11 (by decide) (fun c5 => ?_) (fun c5 => ?_)
    ·
      replace hw := (if_pos c5).mp hw
      refine lv_iconst (v := -1) hx hb dX11_shot_29 (by decide) ?_
      refine W.widen (k := 2) (n := 37) (Nat.le_of_ble_eq_true rfl) (Nat.le_of_ble_eq_true rfl) ?_
      exact ret_i hM hC hw dX11_shot_30
    ·
      replace hw := (if_neg c5).mp hw
      refine lv_iload_n hx hb dX11_shot_14 rfl (lo_at hl 3 rfl) ?_
      refine lv_bipush (v := 9) hx hb dX11_shot_15 (by decide) ?_
      refine lv_icmp_gt (tgt := 29) hx hb dX11_shot_17 (by decide) (fun c6 => ?_) (fun c6 => ?_)
      ·
        replace hw := (if_pos c6).mp hw
        refine lv_iconst (v := -1) hx hb dX11_shot_29 (by decide) ?_
        refine W.widen (k := 2) (n := 37) (Nat.le_of_ble_eq_true rfl) (Nat.le_of_ble_eq_true rfl) ?_
        exact ret_i hM hC hw dX11_shot_30
      ·
        replace hw := (if_neg c6).mp hw
        refine lv_aload_n hx hb dX11_shot_20 rfl (lo_at hl 1 rfl) ?_
        obtain ⟨k7, hw⟩ := hw
        refine r_getI hx hb hts hown hg hC fb_9_5 k7 mk_f_RX11_122 dX11_shot_21 ?_
        refine lv_bipush (v := 40) hx hb dX11_shot_24 (by decide) ?_
        refine lv_icmp_lt (tgt := 31) hx hb dX11_shot_26 (by decide) (fun c8 => ?_) (fun c8 => ?_)
        ·
          replace hw := (if_pos c8).mp hw
          refine r_new hx hb hts hown hg hC cb_0 df_0 mk_c_RX11_21 mk_ins_OneBarrel_Ball mk_ini_OneBarrel_Ball (Nat.le_of_ble_eq_true rfl) (Nat.le_of_ble_eq_true rfl) dX11_shot_31 (fun q9 h10 H k11 eh10 hC => ?_)
          replace hw := hw q9 h10 k11 eh10
          refine W.widen (k := 1) (n := 5) (Nat.le_of_ble_eq_true rfl) (Nat.le_of_ble_eq_true rfl) ?_
          refine lv_dup hx hb dX11_shot_34 rfl ?_
          refine lv_aload_n hx hb dX11_shot_35 rfl (lo_at hl 1 rfl) ?_
          obtain ⟨k12, hw⟩ := hw
          refine r_getI hx hb hts hown hg hC fb_9_5 k12 mk_f_RX11_122 dX11_shot_36 ?_
          refine lo_aload_n (r := z3) hx hb dX11_shot_39 rfl (lo_at hl 0 rfl) ?_
          refine lv_iload_n hx hb dX11_shot_40 rfl (lo_at hl 3 rfl) ?_
          obtain ⟨k13, hw⟩ := hw
          refine res_v hC (run_I (As := [.int (hpI h10 o 5), va_rf z3, .int x2]) (rest := [.ref q9]) hM hC hl.1.1 kv_RX11_125 (c_X0_init l G base q9 (hpI h10 o 5) z3 x2 h10 _ hw) rfl rfl rfl ⟨Nat.le_of_ble_eq_true rfl, Nat.le_of_ble_eq_true rfl⟩ (Nat.le_of_ble_eq_true rfl) ⟨Nat.le_of_ble_eq_true rfl, Nat.le_of_ble_eq_true rfl⟩ dX11_shot_41) (fun h14 H locs hw hC => ?_)
          refine W.widen (k := 2) (n := 37) (Nat.le_of_ble_eq_true rfl) (Nat.le_of_ble_eq_true rfl) ?_
          refine lo_astore (r := some q9) (lv' := [(4, .ref q9), (3, va_rf z3), (0, .ref o), (1, .int x1), (2, .int x2)]) hx hb dX11_shot_44 hl (by decide) rfl (fun ls hl => ?_)
          refine lv_aload_n hx hb dX11_shot_46 rfl (lo_at hl 2 rfl) ?_
          obtain ⟨k16, hw⟩ := hw
          refine r_getR hx hb hts hown hg hC fb_9_15 k16 mk_f_RX11_69 dX11_shot_47 ?_
          refine lo_aload_n (r := z3) hx hb dX11_shot_50 rfl (lo_at hl 1 rfl) ?_
          obtain ⟨k17, hw⟩ := hw
          refine rf_1 k17.1 ?_
          refine r_getI hx hb hts hown hg hC fb_1_5 k17.2 mk_f_RX11_128 dX11_shot_51 ?_
          refine lo_aload_n (r := z3) hx hb dX11_shot_54 rfl (lo_at hl 1 rfl) ?_
          refine rf_1 k17.1 ?_
          refine r_getI hx hb hts hown hg hC fb_1_6 k17.2 mk_f_RX11_119 dX11_shot_55 ?_
          refine lv_iload_n hx hb dX11_shot_58 rfl (lo_at hl 4 rfl) ?_
          obtain ⟨k18, hw⟩ := hw
          refine rf_4 k18.1 ?_
          refine res_v hC (run_V (As := [.int (hpI h14 (ad z3) 5), .int (hpI h14 (ad z3) 6), .int x2]) (rest := []) hM hC hl.1.1 kv_RX11_104 (c_X10_tellShot l G base (ad (hpR h14 o 15)) (hpI h14 (ad z3) 5) (hpI h14 (ad z3) 6) x2 h14 _ hw) (hc_8) k18.2 rfl rfl rfl ⟨Nat.le_of_ble_eq_true rfl, Nat.le_of_ble_eq_true rfl⟩ (Nat.le_of_ble_eq_true rfl) ⟨Nat.le_of_ble_eq_true rfl, Nat.le_of_ble_eq_true rfl⟩ dX11_shot_59) (fun h19 H locs hw hC => ?_)
          refine lo_aload_n (r := z3) hx hb dX11_shot_62 rfl (lo_at hl 1 rfl) ?_
          refine lv_aload_n hx hb dX11_shot_63 rfl (lo_at hl 2 rfl) ?_
          obtain ⟨k21, hw⟩ := hw
          refine r_getR hx hb hts hown hg hC fb_9_14 k21 mk_f_RX11_62 dX11_shot_64 ?_
          refine lv_aload hx hb dX11_shot_67 (lo_at hl 0 rfl) ?_
          obtain ⟨k22, hw⟩ := hw
          refine r_getR hx hb hts hown hg hC fb_0_4 k22 mk_f_RX11_131 dX11_shot_69 ?_
          refine lv_sipush (v := 262) hx hb dX11_shot_72 (by decide) ?_
          refine lo_aload_n (r := z3) hx hb dX11_shot_75 rfl (lo_at hl 1 rfl) ?_
          obtain ⟨k23, hw⟩ := hw
          refine rf_1 k23.1 ?_
          refine r_getI hx hb hts hown hg hC fb_1_4 k23.2 mk_f_RX11_132 dX11_shot_76 ?_
          refine lv_aload_n hx hb dX11_shot_79 rfl (lo_at hl 2 rfl) ?_
          refine r_getR hx hb hts hown hg hC fb_9_15 k21 mk_f_RX11_69 dX11_shot_80 ?_
          obtain ⟨k24, hw⟩ := hw
          refine rf_5 k24.1 ?_
          refine res_i hC (run_V (As := [va_rf (hpR h19 q9 4), .int ((262 : Int32)), .int (hpI h19 (ad z3) 4), va_rf (hpR h19 o 15)]) (rest := [va_rf z3]) hM hC hl.1.1 kv_RX11_111 (c_X7_change l G base (ad (hpR h19 o 14)) (hpR h19 q9 4) (262 : Int32) (hpI h19 (ad z3) 4) (hpR h19 o 15) h19 _ hw) (hc_5) k24.2 rfl rfl rfl ⟨Nat.le_of_ble_eq_true rfl, Nat.le_of_ble_eq_true rfl⟩ (rest_le (List.forall_mem_cons.mpr ⟨va_rf_cat _, (fun _ h => absurd h List.not_mem_nil)⟩) (Nat.le_of_ble_eq_true rfl)) ⟨Nat.le_of_ble_eq_true rfl, Nat.le_of_ble_eq_true rfl⟩ dX11_shot_83) (fun z26 h25 H locs hw hC => ?_)
          obtain ⟨k27, hw⟩ := hw
          refine rf_2 k27.1 ?_
          refine r_putI hx hb hts hown hg hC fb_1_4 k27.2 rfl rfl mk_f_RX11_132 dX11_shot_86 (fun h28 H locs eh28 hC => ?_)
          replace hw := hw h28 eh28
          refine lo_aload_n (r := z3) hx hb dX11_shot_89 rfl (lo_at hl 1 rfl) ?_
          refine lv_aload_n hx hb dX11_shot_90 rfl (lo_at hl 2 rfl) ?_
          obtain ⟨k29, hw⟩ := hw
          refine r_getR hx hb hts hown hg hC fb_9_14 k29 mk_f_RX11_62 dX11_shot_91 ?_
          refine lo_aload_n (r := z3) hx hb dX11_shot_94 rfl (lo_at hl 1 rfl) ?_
          obtain ⟨k30, hw⟩ := hw
          refine rf_1 k30.1 ?_
          refine r_getR hx hb hts hown hg hC fb_1_3 k30.2 mk_f_RX11_133 dX11_shot_95 ?_
          refine lv_sipush (v := 261) hx hb dX11_shot_98 (by decide) ?_
          refine lo_aload_n (r := z3) hx hb dX11_shot_101 rfl (lo_at hl 1 rfl) ?_
          refine rf_1 k30.1 ?_
          refine r_getI hx hb hts hown hg hC fb_1_4 k30.2 mk_f_RX11_132 dX11_shot_102 ?_
          refine lv_aload_n hx hb dX11_shot_105 rfl (lo_at hl 2 rfl) ?_
          refine r_getR hx hb hts hown hg hC fb_9_15 k29 mk_f_RX11_69 dX11_shot_106 ?_
          obtain ⟨k31, hw⟩ := hw
          refine rf_5 k31.1 ?_
          refine res_i hC (run_V (As := [va_rf (hpR h28 (ad z3) 3), .int ((261 : Int32)), .int (hpI h28 (ad z3) 4), va_rf (hpR h28 o 15)]) (rest := [va_rf z3]) hM hC hl.1.1 kv_RX11_111 (c_X7_change l G base (ad (hpR h28 o 14)) (hpR h28 (ad z3) 3) (261 : Int32) (hpI h28 (ad z3) 4) (hpR h28 o 15) h28 _ hw) (hc_5) k31.2 rfl rfl rfl ⟨Nat.le_of_ble_eq_true rfl, Nat.le_of_ble_eq_true rfl⟩ (rest_le (List.forall_mem_cons.mpr ⟨va_rf_cat _, (fun _ h => absurd h List.not_mem_nil)⟩) (Nat.le_of_ble_eq_true rfl)) ⟨Nat.le_of_ble_eq_true rfl, Nat.le_of_ble_eq_true rfl⟩ dX11_shot_109) (fun z33 h32 H locs hw hC => ?_)
          obtain ⟨k34, hw⟩ := hw
          refine rf_2 k34.1 ?_
          refine r_putI hx hb hts hown hg hC fb_1_4 k34.2 rfl rfl mk_f_RX11_132 dX11_shot_112 (fun h35 H locs eh35 hC => ?_)
          replace hw := hw h35 eh35
          refine lo_aload_n (r := z3) hx hb dX11_shot_115 rfl (lo_at hl 1 rfl) ?_
          refine lv_dup hx hb dX11_shot_116 (va_rf_cat _) ?_
          obtain ⟨k36, hw⟩ := hw
          refine rf_1 k36.1 ?_
          refine r_getI hx hb hts hown hg hC fb_1_5 k36.2 mk_f_RX11_128 dX11_shot_117 ?_
          refine lv_iconst (v := 1) hx hb dX11_shot_120 (by decide) ?_
          refine lv_iadd hx hb dX11_shot_121 ?_
          refine rf_2 k36.1 ?_
          refine r_putI hx hb hts hown hg hC fb_1_5 k36.2 rfl rfl mk_f_RX11_128 dX11_shot_122 (fun h37 H locs eh37 hC => ?_)
          replace hw := hw h37 eh37
          refine lv_aload_n hx hb dX11_shot_125 rfl (lo_at hl 2 rfl) ?_
          obtain ⟨k38, hw⟩ := hw
          refine r_getR hx hb hts hown hg hC fb_9_4 k38 mk_f_RX11_23 dX11_shot_126 ?_
          refine lv_aload_n hx hb dX11_shot_129 rfl (lo_at hl 2 rfl) ?_
          refine r_getI hx hb hts hown hg hC fb_9_5 k38 mk_f_RX11_122 dX11_shot_130 ?_
          refine lv_aload hx hb dX11_shot_133 (lo_at hl 0 rfl) ?_
          obtain ⟨k39, hw⟩ := hw
          obtain ⟨k40, hw⟩ := hw
          refine rf_3 k40.1 ?_
          refine r_aast (kd := 3) (t0 := 2) (ci := 0) (q := (RX0, TX0, 5)) hx hb hg hC k40.2.1 (by decide) rfl rfl k39 k40.2.2 dX11_shot_135 (fun h41 H locs eh41 hC => ?_)
          replace hw := hw h41 eh41
          refine lv_aload_n hx hb dX11_shot_136 rfl (lo_at hl 2 rfl) ?_
          refine lv_dup hx hb dX11_shot_137 rfl ?_
          obtain ⟨k42, hw⟩ := hw
          refine r_getI hx hb hts hown hg hC fb_9_5 k42 mk_f_RX11_122 dX11_shot_138 ?_
          refine lv_iconst (v := 1) hx hb dX11_shot_141 (by decide) ?_
          refine lv_iadd hx hb dX11_shot_142 ?_
          refine r_putI hx hb hts hown hg hC fb_9_5 k42 rfl rfl mk_f_RX11_122 dX11_shot_143 (fun h43 H locs eh43 hC => ?_)
          replace hw := hw h43 eh43
          refine lv_aload hx hb dX11_shot_146 (lo_at hl 0 rfl) ?_
          obtain ⟨k44, hw⟩ := hw
          refine r_getI hx hb hts hown hg hC fb_0_0 k44 mk_f_RX11_134 dX11_shot_148 ?_
          exact ret_i hM hC hw dX11_shot_151
        ·
          replace hw := (if_neg c8).mp hw
          refine lv_iconst (v := -1) hx hb dX11_shot_29 (by decide) ?_
          refine W.widen (k := 2) (n := 37) (Nat.le_of_ble_eq_true rfl) (Nat.le_of_ble_eq_true rfl) ?_
          exact ret_i hM hC hw dX11_shot_30
abbrev rm_X11_list : Room := { frames := 4, cells := 0, slots := 0, locals := 105 }
def wp_X11_list_L47 (o : Nat) (x3 : Int32) (r4 : Option Nat) (r5 : Option Nat) (K71 : Int32 → Hp → Prop) (Q : Int32 → Hp → Prop) : Nat → Int32 → Int32 → Hp → Prop
  | 0, _, _, _ => False
  | n + 1, x6, x7, h => (if x3 < x7 then (K71 x6 h) else (((hpK h o).1 = 20 + 9) ∧ (wp_X11_nextLikeness o r4 r5 x6 h (fun (z15 : Int32) (h14 : Hp) => ∀ v16 : Int32, v16 = x7 + (1 : Int32) → (wp_X11_list_L47 o x3 r4 r5 K71 Q n z15 v16 h14)))))
def wp_X11_list (o : Nat) (x1 : Int32) (x2 : Int32) (x3 : Int32) (h : Hp) (Q : Int32 → Hp → Prop) : Prop := ((hpK h o).1 = 20 + 9) ∧ (wp_X11_lookerAt o x1 h (fun (z3 : Option Nat) (h2 : Hp) => ((hpK h2 o).1 = 20 + 9) ∧ (wp_X11_ballAt o x2 h2 (fun (z6 : Option Nat) (h5 : Hp) => (if z3 = none then (Q (-1 : Int32) h5) else ((if z6 = none then (Q (-1 : Int32) h5) else ((if x3 < 0 then (Q (-1 : Int32) h5) else (((hpK h5 o).1 = 20 + 9) ∧ ((if x3 < ((hpI h5 o 5) - (1 : Int32)) then (wp_X11_list_L47 o x3 z3 z6 (fun (y18 : Int32) (h17 : Hp) => wp_X2_likenessBall y18 h17 (fun (z20 : Int32) (h19 : Hp) => Q z20 h19)) Q fuel (262144 : Int32) (0 : Int32) h5) else (Q (-1 : Int32) h5)))))))))))))
set_option maxHeartbeats 4000000 in
set_option maxRecDepth 100000 in
theorem t_X11_list_L47 {p : Program} {l : Launch} {e : Env} {s : State} {m : MethodId} {args : Array Value} {below : List Frame} {meth : Method} {c : Code} {G : GG} {base : Nat} (hM : Mx G base p s m args meth c cX11_list 8 (some .int) RX11 "list") (o : Nat) (x3 : Int32) (r4 : Option Nat) (r5 : Option Nat) (K71 : Int32 → Hp → Prop) (Q : Int32 → Hp → Prop) (hK71 : ∀ (y6 : Int32) (h : Hp) (H : Heap) (locs : List Loc) (ls : Array Slot), Cx G base h s.heap H locs → lo_has ls 8 [(6, .int y6)] → K71 y6 h → W p l e rm_X11_list s m args below meth c H locs 0 0 (MQ below (va_Qi Q (PU G base) (fun q => base ≤ q)) args s 0 0 (fun q => base ≤ q)) (F0 m 71 ls [])) : ∀ (n : Nat) (x6 : Int32) (x7 : Int32) (h : Hp) (H : Heap) (locs : List Loc) (ls : Array Slot), Cx G base h s.heap H locs → lo_has ls 8 [(0, .ref o), (3, .int x3), (4, va_rf r4), (5, va_rf r5), (6, .int x6), (7, .int x7)] → wp_X11_list_L47 o x3 r4 r5 K71 Q n x6 x7 h → W p l e rm_X11_list s m args below meth c H locs 0 0 (MQ below (va_Qi Q (PU G base) (fun q => base ≤ q)) args s 0 0 (fun q => base ≤ q)) (F0 m 47 ls []) := by
  intro n
  induction n with
  | zero =>
    intro x6 x7 h H locs ls hC hl hw
    rw [wp_X11_list_L47] at hw
    exact hw.elim
  | succ n ih =>
    intro x6 x7 h H locs ls hC hl hw
    rw [wp_X11_list_L47] at hw
    obtain ⟨hx, hb, hr, hml, hown, hts, hg, hs, hlk, hnm⟩ := id hM
    refine lv_iload hx hb dX11_list_47 (lo_at hl 5 rfl) ?_
    refine lv_iload_n hx hb dX11_list_49 rfl (lo_at hl 1 rfl) ?_
    refine lv_icmp_gt (tgt := 71) hx hb dX11_list_50 (by decide) (fun c12 => ?_) (fun c12 => ?_)
    ·
      replace hw := (if_pos c12).mp hw
      exact hK71 x6 h H locs ls hC (lo_sub hl [4] rfl) hw
    ·
      replace hw := (if_neg c12).mp hw
      refine lv_aload_n hx hb dX11_list_53 rfl (lo_at hl 0 rfl) ?_
      refine lo_aload (r := r4) hx hb dX11_list_54 (lo_at hl 2 rfl) ?_
      refine lo_aload (r := r5) hx hb dX11_list_56 (lo_at hl 3 rfl) ?_
      refine lv_iload hx hb dX11_list_58 (lo_at hl 4 rfl) ?_
      obtain ⟨k13, hw⟩ := hw
      refine res_i hC (run_V (As := [va_rf r4, va_rf r5, .int x6]) (rest := []) hM hC hl.1.1 kv_RX11_251 (c_X11_nextLikeness l G base o r4 r5 x6 h _ hw) (hc_9) k13 rfl rfl rfl ⟨Nat.le_of_ble_eq_true rfl, Nat.le_of_ble_eq_true rfl⟩ (Nat.le_of_ble_eq_true rfl) ⟨Nat.le_of_ble_eq_true rfl, Nat.le_of_ble_eq_true rfl⟩ dX11_list_60) (fun z15 h14 H locs hw hC => ?_)
      refine lo_istore (lv' := [(6, .int z15), (0, .ref o), (3, .int x3), (4, va_rf r4), (5, va_rf r5), (7, .int x7)]) hx hb dX11_list_63 hl (by decide) rfl (fun ls hl => ?_)
      obtain ⟨v16, ev16⟩ : ∃ y : Int32, y = x7 + (1 : Int32) := ⟨_, rfl⟩
      replace hw := hw v16 ev16
      refine lo_iinc (v := v16) (lv' := [(7, .int v16), (6, .int z15), (0, .ref o), (3, .int x3), (4, va_rf r4), (5, va_rf r5)]) hx hb dX11_list_65 hl (k := 5) rfl (by rw [ev16]; rfl) (by decide) rfl (fun ls hl => ?_)
      refine lv_goto (tgt := 47) hx hb dX11_list_68 (by decide) ?_
      exact ih z15 v16 h14 H locs ls hC (lo_sub hl [2, 3, 4, 5, 1, 0] rfl) hw
set_option maxHeartbeats 4000000 in
set_option maxRecDepth 100000 in
theorem c_X11_list (l : Launch) (G : GG) (base : Nat) (o : Nat) (x1 : Int32) (x2 : Int32) (x3 : Int32) (h : Hp) (Q : Int32 → Hp → Prop) (hw : wp_X11_list o x1 x2 x3 h Q) : Met l yX11_list (ww yX11_list cX11_list 8 (some .int)) rm_X11_list (va_Pc [.ref o, .int x1, .int x2, .int x3] (PU G base h)) (va_Qi Q (PU G base) (fun q => base ≤ q)) 0 0 (fun q => base ≤ q) := by
  refine met_of (own := RX11) (nm := "list") (by decide) rfl rfl (List.forall_mem_cons.mpr ⟨rfl, (List.forall_mem_cons.mpr ⟨rfl, (List.forall_mem_cons.mpr ⟨rfl, (List.forall_mem_cons.mpr ⟨rfl, (fun _ h => absurd h List.not_mem_nil)⟩)⟩)⟩)⟩) (Nat.le_of_ble_eq_true rfl) rfl ?_
  intro p e s m below meth c ls hM hC hl
  obtain ⟨hx, hb, hr, hml, hown, hts, hg, hs, hlk, hnm⟩ := id hM
  obtain ⟨args, hargs⟩ : ∃ a : Array Value, a = ([.ref o, .int x1, .int x2, .int x3] : List Value).toArray := ⟨_, rfl⟩
  rw [← hargs] at hM hts ⊢
  obtain ⟨H, hH⟩ : ∃ H : Heap, H = s.heap := ⟨_, rfl⟩
  obtain ⟨locs, hlocs⟩ : ∃ x : List Loc, x = [] := ⟨_, rfl⟩
  have hC : Cx G base h s.heap H locs := by rw [hH, hlocs]; exact hC
  show W p l e rm_X11_list s m args below meth c s.heap [] 0 0 (MQ below (va_Qi Q (PU G base) (fun q => base ≤ q)) args s 0 0 (fun q => base ≤ q)) (F0 m 0 ls [])
  rw [← hlocs]
  have hgoal : W p l e rm_X11_list s m args below meth c H locs 0 0 (MQ below (va_Qi Q (PU G base) (fun q => base ≤ q)) args s 0 0 (fun q => base ≤ q)) (F0 m 0 ls []) := ?_
  · rw [hH] at hgoal; exact hgoal
  clear hH hlocs
  unfold wp_X11_list at hw
  refine lv_aload_n hx hb dX11_list_0 rfl (lo_at hl 0 rfl) ?_
  refine lv_iload_n hx hb dX11_list_1 rfl (lo_at hl 1 rfl) ?_
  obtain ⟨k1, hw⟩ := hw
  refine res_q hC (run_V (As := [.int x1]) (rest := []) hM hC hl.1.1 kv_RX11_144 (c_X11_lookerAt l G base o x1 h _ hw) (hc_9) k1 rfl rfl rfl ⟨Nat.le_of_ble_eq_true rfl, Nat.le_of_ble_eq_true rfl⟩ (Nat.le_of_ble_eq_true rfl) ⟨Nat.le_of_ble_eq_true rfl, Nat.le_of_ble_eq_true rfl⟩ dX11_list_2) (fun z3 h2 H locs hw hC => ?_)
  refine lo_astore (r := z3) (lv' := [(4, va_rf z3), (0, .ref o), (1, .int x1), (2, .int x2), (3, .int x3)]) hx hb dX11_list_5 hl (by decide) rfl (fun ls hl => ?_)
  refine lv_aload_n hx hb dX11_list_7 rfl (lo_at hl 1 rfl) ?_
  refine lv_iload_n hx hb dX11_list_8 rfl (lo_at hl 3 rfl) ?_
  obtain ⟨k4, hw⟩ := hw
  refine res_q hC (run_V (As := [.int x2]) (rest := []) hM hC hl.1.1 kv_RX11_140 (c_X11_ballAt l G base o x2 h2 _ hw) (hc_9) k4 rfl rfl rfl ⟨Nat.le_of_ble_eq_true rfl, Nat.le_of_ble_eq_true rfl⟩ (Nat.le_of_ble_eq_true rfl) ⟨Nat.le_of_ble_eq_true rfl, Nat.le_of_ble_eq_true rfl⟩ dX11_list_9) (fun z6 h5 H locs hw hC => ?_)
  refine lo_astore (r := z6) (lv' := [(5, va_rf z6), (4, va_rf z3), (0, .ref o), (1, .int x1), (2, .int x2), (3, .int x3)]) hx hb dX11_list_12 hl (by decide) rfl (fun ls hl => ?_)
  refine lo_aload (r := z3) hx hb dX11_list_14 (lo_at hl 1 rfl) ?_
  refine lo_ifnull (r := z3) (tgt := 38) hx hb dX11_list_16 (by decide) (fun c7 => ?_) (fun c7 => ?_)
  ·
    replace hw := (if_pos c7).mp hw
    refine lv_iconst (v := -1) hx hb dX11_list_38 (by decide) ?_
    exact ret_i hM hC hw dX11_list_39
  ·
    replace hw := (if_neg c7).mp hw
    refine lo_aload (r := z6) hx hb dX11_list_19 (lo_at hl 0 rfl) ?_
    refine lo_ifnull (r := z6) (tgt := 38) hx hb dX11_list_21 (by decide) (fun c8 => ?_) (fun c8 => ?_)
    ·
      replace hw := (if_pos c8).mp hw
      refine lv_iconst (v := -1) hx hb dX11_list_38 (by decide) ?_
      exact ret_i hM hC hw dX11_list_39
    ·
      replace hw := (if_neg c8).mp hw
      refine lv_iload_n hx hb dX11_list_24 rfl (lo_at hl 5 rfl) ?_
      refine lv_if_lt (tgt := 38) hx hb dX11_list_25 (by decide) (fun c9 => ?_) (fun c9 => ?_)
      ·
        replace hw := (if_pos c9).mp hw
        refine lv_iconst (v := -1) hx hb dX11_list_38 (by decide) ?_
        exact ret_i hM hC hw dX11_list_39
      ·
        replace hw := (if_neg c9).mp hw
        refine lv_iload_n hx hb dX11_list_28 rfl (lo_at hl 5 rfl) ?_
        refine lv_aload_n hx hb dX11_list_29 rfl (lo_at hl 2 rfl) ?_
        obtain ⟨k10, hw⟩ := hw
        refine r_getI hx hb hts hown hg hC fb_9_5 k10 mk_f_RX11_122 dX11_list_30 ?_
        refine lv_iconst (v := 1) hx hb dX11_list_33 (by decide) ?_
        refine lv_isub hx hb dX11_list_34 ?_
        refine lv_icmp_lt (tgt := 40) hx hb dX11_list_35 (by decide) (fun c11 => ?_) (fun c11 => ?_)
        ·
          replace hw := (if_pos c11).mp hw
          refine lv_ldc (v := 262144) hx hb hown (hts _ mk_k_RX11_250) dX11_list_40 ?_
          refine lo_istore (lv' := [(6, .int ((262144 : Int32))), (5, va_rf z6), (4, va_rf z3), (0, .ref o), (1, .int x1), (2, .int x2), (3, .int x3)]) hx hb dX11_list_42 hl (by decide) rfl (fun ls hl => ?_)
          refine lv_iconst (v := 0) hx hb dX11_list_44 (by decide) ?_
          refine lo_istore (lv' := [(7, .int ((0 : Int32))), (6, .int ((262144 : Int32))), (5, va_rf z6), (4, va_rf z3), (0, .ref o), (1, .int x1), (2, .int x2), (3, .int x3)]) hx hb dX11_list_45 hl (by decide) rfl (fun ls hl => ?_)
          refine t_X11_list_L47 hM o x3 z3 z6 _ Q ?_ fuel (262144 : Int32) (0 : Int32) h5 H locs ls hC (lo_sub hl [4, 7, 3, 2, 1, 0] rfl) hw
          intro y18 h17 H locs ls hC hl hw
          refine lv_iload hx hb dX11_list_71 (lo_at hl 0 rfl) ?_
          refine res_i hC (run_S (As := [.int y18]) (rest := []) hM hC hl.1.1 kv_RX11_255 (c_X2_likenessBall l G base y18 h17 _ hw) rfl rfl rfl ⟨Nat.le_of_ble_eq_true rfl, Nat.le_of_ble_eq_true rfl⟩ (Nat.le_of_ble_eq_true rfl) ⟨Nat.le_of_ble_eq_true rfl, Nat.le_of_ble_eq_true rfl⟩ dX11_list_73) (fun z20 h19 H locs hw hC => ?_)
          exact ret_i hM hC hw dX11_list_76
        ·
          replace hw := (if_neg c11).mp hw
          refine lv_iconst (v := -1) hx hb dX11_list_38 (by decide) ?_
          exact ret_i hM hC hw dX11_list_39
abbrev rm_J0_indexOf_0f7a4 : Room := { frames := 3, cells := 0, slots := 0, locals := 85 }
def wp_J0_indexOf_0f7a4 (o : Nat) (x1 : Int32) (h : Hp) (Q : Int32 → Hp → Prop) : Prop := (o < 2) ∧ (wp_J0_indexOf_7cf53 o x1 (0 : Int32) h (fun (z3 : Int32) (h2 : Hp) => Q z3 h2))
set_option maxHeartbeats 4000000 in
set_option maxRecDepth 100000 in
theorem c_J0_indexOf_0f7a4 (l : Launch) (G : GG) (base : Nat) (o : Nat) (x1 : Int32) (h : Hp) (Q : Int32 → Hp → Prop) (hw : wp_J0_indexOf_0f7a4 o x1 h Q) : Met l yJ0_indexOf_0f7a4 (ww yJ0_indexOf_0f7a4 cJ0_indexOf_0f7a4 2 (some .int)) rm_J0_indexOf_0f7a4 (va_Pc [.ref (G.2.2.1 o), .int x1] (PU G base h)) (va_Qi Q (PU G base) (fun q => base ≤ q)) 0 0 (fun q => base ≤ q) := by
  refine met_of (own := RJ0) (nm := "indexOf") (by decide) rfl rfl (List.forall_mem_cons.mpr ⟨rfl, (List.forall_mem_cons.mpr ⟨rfl, (fun _ h => absurd h List.not_mem_nil)⟩)⟩) (Nat.le_of_ble_eq_true rfl) rfl ?_
  intro p e s m below meth c ls hM hC hl
  obtain ⟨hx, hb, hr, hml, hown, hts, hg, hs, hlk, hnm⟩ := id hM
  obtain ⟨args, hargs⟩ : ∃ a : Array Value, a = ([.ref (G.2.2.1 o), .int x1] : List Value).toArray := ⟨_, rfl⟩
  rw [← hargs] at hM hts ⊢
  obtain ⟨H, hH⟩ : ∃ H : Heap, H = s.heap := ⟨_, rfl⟩
  obtain ⟨locs, hlocs⟩ : ∃ x : List Loc, x = [] := ⟨_, rfl⟩
  have hC : Cx G base h s.heap H locs := by rw [hH, hlocs]; exact hC
  show W p l e rm_J0_indexOf_0f7a4 s m args below meth c s.heap [] 0 0 (MQ below (va_Qi Q (PU G base) (fun q => base ≤ q)) args s 0 0 (fun q => base ≤ q)) (F0 m 0 ls [])
  rw [← hlocs]
  have hgoal : W p l e rm_J0_indexOf_0f7a4 s m args below meth c H locs 0 0 (MQ below (va_Qi Q (PU G base) (fun q => base ≤ q)) args s 0 0 (fun q => base ≤ q)) (F0 m 0 ls []) := ?_
  · rw [hH] at hgoal; exact hgoal
  clear hH hlocs
  unfold wp_J0_indexOf_0f7a4 at hw
  refine lv_aload_n hx hb dJ0_indexOf_0f7a4_0 rfl (lo_at hl 0 rfl) ?_
  refine lv_iload_n hx hb dJ0_indexOf_0f7a4_1 rfl (lo_at hl 1 rfl) ?_
  refine lv_iconst (v := 0) hx hb dJ0_indexOf_0f7a4_2 (by decide) ?_
  obtain ⟨k1, hw⟩ := hw
  refine res_i hC (run_VS (As := [.int x1, .int ((0 : Int32))]) (rest := []) hM hC hl.1.1 kv_RJ0_633 (c_J0_indexOf_7cf53 l G base o x1 (0 : Int32) h _ hw) k1 rfl rfl rfl ⟨Nat.le_of_ble_eq_true rfl, Nat.le_of_ble_eq_true rfl⟩ (Nat.le_of_ble_eq_true rfl) ⟨Nat.le_of_ble_eq_true rfl, Nat.le_of_ble_eq_true rfl⟩ dJ0_indexOf_0f7a4_3) (fun z3 h2 H locs hw hC => ?_)
  exact ret_i hM hC hw dJ0_indexOf_0f7a4_6
abbrev rm_X3_sayingOf : Room := { frames := 5, cells := 0, slots := 0, locals := 142 }
def wp_X3_sayingOf_J70 (o : Nat) (x5 : Int32) (x6 : Int32) (Q : Int32 → Hp → Prop) (h : Hp) : Prop := ((hpK h o).1 = 20 + 2) ∧ (okA h (hpR h o 2) 1 x5 ∧ (∀ v11 : Int32, v11 = hpI h (ad (hpR h o 2)) (x5).toNatClampNeg → (Q (((((v11).toUInt32 >>> ((x6).toUInt32 &&& Int32.toUInt32 31)).toInt32) &&& (3 : Int32)) - (1 : Int32)) h)))
def wp_X3_sayingOf_J25 (o : Nat) (r1 : Option Nat) (r2 : Option Nat) (x3 : Int32) (r4 : Option Nat) (x5 : Int32) (s0 : Int32) (Q : Int32 → Hp → Prop) (h : Hp) : Prop := ((hpK h o).1 = 20 + 2) ∧ (okA h (hpR h o 2) 1 x5 ∧ (∀ v7 : Int32, v7 = hpI h (ad (hpR h o 2)) (x5).toNatClampNeg → ((if ((((v7).toUInt32 >>> ((s0).toUInt32 &&& Int32.toUInt32 31)).toInt32) &&& (3 : Int32)) = 0 then (wp_X3_judge o r1 r2 x3 r4 h (fun (z13 : Int32) (h12 : Hp) => ((hpK h12 o).1 = 20 + 2) ∧ (okA h12 (hpR h12 o 2) 1 x5 ∧ (∀ v16 : Int32, v16 = hpI h12 (ad (hpR h12 o 2)) (x5).toNatClampNeg → (okA h12 (hpR h12 o 2) 1 x5 ∧ (∀ h18 : Hp, h18 = stI h12 (ad (hpR h12 o 2)) (x5).toNatClampNeg (v16 ||| ((z13 + (1 : Int32)) <<< (s0 &&& 31))) → (wp_X3_sayingOf_J70 o x5 s0 Q h18))))))) else (wp_X3_sayingOf_J70 o x5 s0 Q h)))))
def wp_X3_sayingOf (o : Nat) (r1 : Option Nat) (r2 : Option Nat) (x3 : Int32) (r4 : Option Nat) (h : Hp) (Q : Int32 → Hp → Prop) : Prop := okO h r1 0 ∧ (okO h r2 0 ∧ (∀ v3 : Int32, v3 = ((hpI h (ad r1) 0) * (40 : Int32)) + (hpI h (ad r2) 0) → ((if x3 = 0 then (wp_X3_sayingOf_J25 o r1 r2 x3 r4 v3 (25 : Int32) Q h) else (wp_X3_sayingOf_J25 o r1 r2 x3 r4 v3 (27 : Int32) Q h)))))
set_option maxHeartbeats 4000000 in
set_option maxRecDepth 100000 in
theorem t_X3_sayingOf_J70 {p : Program} {l : Launch} {e : Env} {s : State} {m : MethodId} {args : Array Value} {below : List Frame} {meth : Method} {c : Code} {G : GG} {base : Nat} (hM : Mx G base p s m args meth c cX3_sayingOf 8 (some .int) RX3 "sayingOf") (o : Nat) (x5 : Int32) (x6 : Int32) (Q : Int32 → Hp → Prop) (h : Hp) (H : Heap) (locs : List Loc) (ls : Array Slot) : Cx G base h s.heap H locs → lo_has ls 8 [(0, .ref o), (5, .int x5), (6, .int x6)] → wp_X3_sayingOf_J70 o x5 x6 Q h → W p l e rm_X3_sayingOf s m args below meth c H locs 0 0 (MQ below (va_Qi Q (PU G base) (fun q => base ≤ q)) args s 0 0 (fun q => base ≤ q)) (F0 m 70 ls []) := by
  intro hC hl hw
  unfold wp_X3_sayingOf_J70 at hw
  obtain ⟨hx, hb, hr, hml, hown, hts, hg, hs, hlk, hnm⟩ := id hM
  refine lv_aload_n hx hb dX3_sayingOf_70 rfl (lo_at hl 0 rfl) ?_
  obtain ⟨k9, hw⟩ := hw
  refine r_getR hx hb hts hown hg hC fb_2_2 k9 mk_f_RX3_18 dX3_sayingOf_71 ?_
  refine lv_iload hx hb dX3_sayingOf_74 (lo_at hl 1 rfl) ?_
  obtain ⟨k10, hw⟩ := hw
  refine rf_2 k10.1 ?_
  refine r_iald hx hb hg hC k10.2.1 k10.2.2 dX3_sayingOf_76 ?_
  refine lv_topi (fun v11 ev11 => ?_)
  replace hw := hw v11 ev11
  refine lv_iload hx hb dX3_sayingOf_77 (lo_at hl 2 rfl) ?_
  refine lv_iushr hx hb dX3_sayingOf_79 (v := ((v11).toUInt32 >>> ((x6).toUInt32 &&& Int32.toUInt32 31)).toInt32) rfl ?_
  refine lv_iconst (v := 3) hx hb dX3_sayingOf_80 (by decide) ?_
  refine lv_iand hx hb dX3_sayingOf_81 ?_
  refine lv_iconst (v := 1) hx hb dX3_sayingOf_82 (by decide) ?_
  refine lv_isub hx hb dX3_sayingOf_83 ?_
  exact ret_i hM hC hw dX3_sayingOf_84
set_option maxHeartbeats 4000000 in
set_option maxRecDepth 100000 in
theorem t_X3_sayingOf_J25 {p : Program} {l : Launch} {e : Env} {s : State} {m : MethodId} {args : Array Value} {below : List Frame} {meth : Method} {c : Code} {G : GG} {base : Nat} (hM : Mx G base p s m args meth c cX3_sayingOf 8 (some .int) RX3 "sayingOf") (o : Nat) (r1 : Option Nat) (r2 : Option Nat) (x3 : Int32) (r4 : Option Nat) (x5 : Int32) (s0 : Int32) (Q : Int32 → Hp → Prop) (h : Hp) (H : Heap) (locs : List Loc) (ls : Array Slot) : Cx G base h s.heap H locs → lo_has ls 8 [(0, .ref o), (1, va_rf r1), (2, va_rf r2), (3, .int x3), (4, va_rf r4), (5, .int x5)] → wp_X3_sayingOf_J25 o r1 r2 x3 r4 x5 s0 Q h → W p l e rm_X3_sayingOf s m args below meth c H locs 0 0 (MQ below (va_Qi Q (PU G base) (fun q => base ≤ q)) args s 0 0 (fun q => base ≤ q)) (F0 m 25 ls [.int s0]) := by
  intro hC hl hw
  unfold wp_X3_sayingOf_J25 at hw
  obtain ⟨hx, hb, hr, hml, hown, hts, hg, hs, hlk, hnm⟩ := id hM
  refine lo_istore (lv' := [(6, .int s0), (0, .ref o), (1, va_rf r1), (2, va_rf r2), (3, .int x3), (4, va_rf r4), (5, .int x5)]) hx hb dX3_sayingOf_25 hl (by decide) rfl (fun ls hl => ?_)
  refine lv_aload_n hx hb dX3_sayingOf_27 rfl (lo_at hl 1 rfl) ?_
  obtain ⟨k5, hw⟩ := hw
  refine r_getR hx hb hts hown hg hC fb_2_2 k5 mk_f_RX3_18 dX3_sayingOf_28 ?_
  refine lv_iload hx hb dX3_sayingOf_31 (lo_at hl 6 rfl) ?_
  obtain ⟨k6, hw⟩ := hw
  refine rf_2 k6.1 ?_
  refine r_iald hx hb hg hC k6.2.1 k6.2.2 dX3_sayingOf_33 ?_
  refine lv_topi (fun v7 ev7 => ?_)
  replace hw := hw v7 ev7
  refine lv_iload hx hb dX3_sayingOf_34 (lo_at hl 0 rfl) ?_
  refine lv_iushr hx hb dX3_sayingOf_36 (v := ((v7).toUInt32 >>> ((s0).toUInt32 &&& Int32.toUInt32 31)).toInt32) rfl ?_
  refine lv_iconst (v := 3) hx hb dX3_sayingOf_37 (by decide) ?_
  refine lv_iand hx hb dX3_sayingOf_38 ?_
  refine lv_if_ne (tgt := 70) hx hb dX3_sayingOf_39 (by decide) (fun c8 => ?_) (fun c8 => ?_)
  ·
    replace hw := (if_neg c8).mp hw
    exact t_X3_sayingOf_J70 hM o x5 s0 Q  h H locs ls hC (lo_sub hl [1, 6, 0] rfl) hw
  ·
    replace hw := (if_pos c8).mp hw
    refine lv_aload_n hx hb dX3_sayingOf_42 rfl (lo_at hl 1 rfl) ?_
    refine lo_aload_n (r := r1) hx hb dX3_sayingOf_43 rfl (lo_at hl 2 rfl) ?_
    refine lo_aload_n (r := r2) hx hb dX3_sayingOf_44 rfl (lo_at hl 3 rfl) ?_
    refine lv_iload_n hx hb dX3_sayingOf_45 rfl (lo_at hl 4 rfl) ?_
    refine lo_aload (r := r4) hx hb dX3_sayingOf_46 (lo_at hl 5 rfl) ?_
    refine res_i hC (run_V (As := [va_rf r1, va_rf r2, .int x3, va_rf r4]) (rest := []) hM hC hl.1.1 kv_RX3_61 (c_X3_judge l G base o r1 r2 x3 r4 h _ hw) (hc_2) k5 rfl rfl rfl ⟨Nat.le_of_ble_eq_true rfl, Nat.le_of_ble_eq_true rfl⟩ (Nat.le_of_ble_eq_true rfl) ⟨Nat.le_of_ble_eq_true rfl, Nat.le_of_ble_eq_true rfl⟩ dX3_sayingOf_48) (fun z13 h12 H locs hw hC => ?_)
    refine lo_istore (lv' := [(7, .int z13), (6, .int s0), (0, .ref o), (1, va_rf r1), (2, va_rf r2), (3, .int x3), (4, va_rf r4), (5, .int x5)]) hx hb dX3_sayingOf_51 hl (by decide) rfl (fun ls hl => ?_)
    refine lv_aload_n hx hb dX3_sayingOf_53 rfl (lo_at hl 2 rfl) ?_
    obtain ⟨k14, hw⟩ := hw
    refine r_getR hx hb hts hown hg hC fb_2_2 k14 mk_f_RX3_18 dX3_sayingOf_54 ?_
    refine lv_iload hx hb dX3_sayingOf_57 (lo_at hl 7 rfl) ?_
    refine lv_dup2_11 hx hb dX3_sayingOf_59 rfl (va_rf_cat _) ?_
    obtain ⟨k15, hw⟩ := hw
    refine rf_2 k15.1 ?_
    refine r_iald hx hb hg hC k15.2.1 k15.2.2 dX3_sayingOf_60 ?_
    refine lv_topi (fun v16 ev16 => ?_)
    replace hw := hw v16 ev16
    refine lv_iload hx hb dX3_sayingOf_61 (lo_at hl 0 rfl) ?_
    refine lv_iconst (v := 1) hx hb dX3_sayingOf_63 (by decide) ?_
    refine lv_iadd hx hb dX3_sayingOf_64 ?_
    refine lv_iload hx hb dX3_sayingOf_65 (lo_at hl 1 rfl) ?_
    refine lv_ishl hx hb dX3_sayingOf_67 ?_
    refine lv_ior hx hb dX3_sayingOf_68 ?_
    obtain ⟨k17, hw⟩ := hw
    refine rf_3 k17.1 ?_
    refine r_iast hx hb hg hC k17.2.1 k17.2.2 dX3_sayingOf_69 (fun h18 H locs eh18 hC => ?_)
    replace hw := hw h18 eh18
    exact t_X3_sayingOf_J70 hM o x5 s0 Q  h18 H locs ls hC (lo_sub hl [2, 7, 1] rfl) hw
set_option maxHeartbeats 4000000 in
set_option maxRecDepth 100000 in
theorem c_X3_sayingOf (l : Launch) (G : GG) (base : Nat) (o : Nat) (r1 : Option Nat) (r2 : Option Nat) (x3 : Int32) (r4 : Option Nat) (h : Hp) (Q : Int32 → Hp → Prop) (hw : wp_X3_sayingOf o r1 r2 x3 r4 h Q) : Met l yX3_sayingOf (ww yX3_sayingOf cX3_sayingOf 8 (some .int)) rm_X3_sayingOf (va_Pc [.ref o, va_rf r1, va_rf r2, .int x3, va_rf r4] (PU G base h)) (va_Qi Q (PU G base) (fun q => base ≤ q)) 0 0 (fun q => base ≤ q) := by
  refine met_of (own := RX3) (nm := "sayingOf") (by decide) rfl rfl (List.forall_mem_cons.mpr ⟨rfl, (List.forall_mem_cons.mpr ⟨va_rf_cat _, (List.forall_mem_cons.mpr ⟨va_rf_cat _, (List.forall_mem_cons.mpr ⟨rfl, (List.forall_mem_cons.mpr ⟨va_rf_cat _, (fun _ h => absurd h List.not_mem_nil)⟩)⟩)⟩)⟩)⟩) (Nat.le_of_ble_eq_true rfl) rfl ?_
  intro p e s m below meth c ls hM hC hl
  obtain ⟨hx, hb, hr, hml, hown, hts, hg, hs, hlk, hnm⟩ := id hM
  obtain ⟨args, hargs⟩ : ∃ a : Array Value, a = ([.ref o, va_rf r1, va_rf r2, .int x3, va_rf r4] : List Value).toArray := ⟨_, rfl⟩
  rw [← hargs] at hM hts ⊢
  obtain ⟨H, hH⟩ : ∃ H : Heap, H = s.heap := ⟨_, rfl⟩
  obtain ⟨locs, hlocs⟩ : ∃ x : List Loc, x = [] := ⟨_, rfl⟩
  have hC : Cx G base h s.heap H locs := by rw [hH, hlocs]; exact hC
  show W p l e rm_X3_sayingOf s m args below meth c s.heap [] 0 0 (MQ below (va_Qi Q (PU G base) (fun q => base ≤ q)) args s 0 0 (fun q => base ≤ q)) (F0 m 0 ls [])
  rw [← hlocs]
  have hgoal : W p l e rm_X3_sayingOf s m args below meth c H locs 0 0 (MQ below (va_Qi Q (PU G base) (fun q => base ≤ q)) args s 0 0 (fun q => base ≤ q)) (F0 m 0 ls []) := ?_
  · rw [hH] at hgoal; exact hgoal
  clear hH hlocs
  unfold wp_X3_sayingOf at hw
  refine lo_aload_n (r := r1) hx hb dX3_sayingOf_0 rfl (lo_at hl 1 rfl) ?_
  obtain ⟨k1, hw⟩ := hw
  refine rf_1 k1.1 ?_
  refine r_getI hx hb hts hown hg hC fb_0_0 k1.2 mk_f_RX3_29 dX3_sayingOf_1 ?_
  refine lv_bipush (v := 40) hx hb dX3_sayingOf_4 (by decide) ?_
  refine lv_imul hx hb dX3_sayingOf_6 ?_
  refine lo_aload_n (r := r2) hx hb dX3_sayingOf_7 rfl (lo_at hl 2 rfl) ?_
  obtain ⟨k2, hw⟩ := hw
  refine rf_1 k2.1 ?_
  refine r_getI hx hb hts hown hg hC fb_0_0 k2.2 mk_f_RX3_29 dX3_sayingOf_8 ?_
  refine lv_iadd hx hb dX3_sayingOf_11 ?_
  refine lv_topi (fun v3 ev3 => ?_)
  replace hw := hw v3 ev3
  refine lo_istore (lv' := [(5, .int v3), (0, .ref o), (1, va_rf r1), (2, va_rf r2), (3, .int x3), (4, va_rf r4)]) hx hb dX3_sayingOf_12 hl (by decide) rfl (fun ls hl => ?_)
  refine lv_iload_n hx hb dX3_sayingOf_14 rfl (lo_at hl 4 rfl) ?_
  refine lv_if_eq (tgt := 23) hx hb dX3_sayingOf_15 (by decide) (fun c4 => ?_) (fun c4 => ?_)
  ·
    replace hw := (if_pos c4).mp hw
    refine lv_bipush (v := 25) hx hb dX3_sayingOf_23 (by decide) ?_
    exact t_X3_sayingOf_J25 hM o r1 r2 x3 r4 v3 (25 : Int32) Q  h H locs ls hC (lo_sub hl [1, 2, 3, 4, 5, 0] rfl) hw
  ·
    replace hw := (if_neg c4).mp hw
    refine lv_bipush (v := 27) hx hb dX3_sayingOf_18 (by decide) ?_
    refine lv_goto (tgt := 25) hx hb dX3_sayingOf_20 (by decide) ?_
    exact t_X3_sayingOf_J25 hM o r1 r2 x3 r4 v3 (27 : Int32) Q  h H locs ls hC (lo_sub hl [1, 2, 3, 4, 5, 0] rfl) hw
def wp_X5_readClaim_J78 (C : Nat → Int32 → Hp → (Hp → Prop) → Prop) (o : Nat) (x1 : Int32) (x2 : Int32) (Q : Hp → Prop) (h : Hp) : Prop := (if x1 < (8 : Int32) then ((if x2 = (258 : Int32) then (((hpK h o).1 = 20 + 4) ∧ (∀ h16 : Hp, h16 = stI h o 5 ((hpI h o 5) + (1 : Int32)) → (((hpK h16 o).1 = 20 + 4) ∧ (C o (x1 + (1 : Int32)) h16 (fun (h18 : Hp) => ((hpK h18 o).1 = 20 + 4) ∧ (okO h18 (hpR h18 o 3) 5 ∧ (wp_X7_put (ad (hpR h18 o 3)) (258 : Int32) h18 (fun (h22 : Hp) => Q h22)))))))) else (((hpK h o).1 = 20 + 4) ∧ (∀ h8 : Hp, h8 = stI h o 5 ((hpI h o 5) + (1 : Int32)) → (((hpK h8 o).1 = 20 + 4) ∧ (wp_X5_readEither C o (x1 + (1 : Int32)) h8 (fun (h10 : Hp) => ((hpK h10 o).1 = 20 + 4) ∧ (wp_X5_expect o (41 : Int32) h10 (fun (h13 : Hp) => Q h13))))))))) else (((hpK h o).1 = 20 + 4) ∧ (wp_X5_refuse o (3 : Int32) h (fun (h25 : Hp) => Q h25))))
def wp_X5_readClaim_J45 (C : Nat → Int32 → Hp → (Hp → Prop) → Prop) (o : Nat) (x3 : Int32) (Q : Hp → Prop) (h : Hp) : Prop := ((hpK h o).1 = 20 + 4) ∧ (∀ h36 : Hp, h36 = stI h o 5 ((hpI h o 5) + (1 : Int32)) → (((hpK h36 o).1 = 20 + 4) ∧ (wp_X5_readSum o h36 (fun (h38 : Hp) => ((hpK h38 o).1 = 20 + 4) ∧ (okO h38 (hpR h38 o 3) 5 ∧ (wp_X7_put (ad (hpR h38 o 3)) x3 h38 (fun (h42 : Hp) => Q h42)))))))
def wp_X5_readClaim (C : Nat → Int32 → Hp → (Hp → Prop) → Prop) (o : Nat) (x1 : Int32) (h : Hp) (Q : Hp → Prop) : Prop := ((hpK h o).1 = 20 + 4) ∧ (wp_X5_kind o h (fun (z3 : Int32) (h2 : Hp) => (if z3 = (258 : Int32) then (wp_X5_readClaim_J78 C o x1 z3 Q h2) else ((if z3 = (40 : Int32) then (wp_X5_readClaim_J78 C o x1 z3 Q h2) else (((hpK h2 o).1 = 20 + 4) ∧ (wp_X5_readSum o h2 (fun (h29 : Hp) => ((hpK h29 o).1 = 20 + 4) ∧ (wp_X5_kind o h29 (fun (z33 : Int32) (h32 : Hp) => (if z33 = (60 : Int32) then (wp_X5_readClaim_J45 C o z33 Q h32) else ((if z33 = (61 : Int32) then (wp_X5_readClaim_J45 C o z33 Q h32) else ((if z33 = (62 : Int32) then (wp_X5_readClaim_J45 C o z33 Q h32) else (((hpK h32 o).1 = 20 + 4) ∧ (wp_X5_refuse o (1 : Int32) h32 (fun (h47 : Hp) => Q h47))))))))))))))))))
set_option maxHeartbeats 4000000 in
set_option maxRecDepth 100000 in
theorem t_X5_readClaim_J78 {p : Program} {l : Launch} {e : Env} {s : State} {m : MethodId} {args : Array Value} {below : List Frame} {meth : Method} {c : Code} {G : GG} {base : Nat} (hM : Mx G base p s m args meth c cX5_readClaim 4 none RX5 "readClaim") (d : Nat) (C : Nat → Int32 → Hp → (Hp → Prop) → Prop) (hCl : ∀ (o : Nat) (x : Int32) (h : Hp) (Q : Hp → Prop), C o x h Q → Met l yX5_readClaim (ww yX5_readClaim cX5_readClaim 4 none) (rm_claim d) (va_Pc [.ref o, .int x] (PU G base h)) (va_Qv Q (PU G base) (fun q => base ≤ q)) 0 0 (fun q => base ≤ q)) (o : Nat) (x1 : Int32) (x2 : Int32) (Q : Hp → Prop) (h : Hp) (H : Heap) (locs : List Loc) (ls : Array Slot) : Cx G base h s.heap H locs → lo_has ls 4 [(0, .ref o), (1, .int x1), (2, .int x2)] → wp_X5_readClaim_J78 C o x1 x2 Q h → W p l e (rm_X5_readClaim d) s m args below meth c H locs 0 0 (MQ below (va_Qv Q (PU G base) (fun q => base ≤ q)) args s 0 0 (fun q => base ≤ q)) (F0 m 78 ls []) := by
  intro hC hl hw
  unfold wp_X5_readClaim_J78 at hw
  obtain ⟨hx, hb, hr, hml, hown, hts, hg, hs, hlk, hnm⟩ := id hM
  refine lv_iload_n hx hb dX5_readClaim_78 rfl (lo_at hl 1 rfl) ?_
  refine lv_bipush (v := 8) hx hb dX5_readClaim_79 (by decide) ?_
  refine lv_icmp_lt (tgt := 92) hx hb dX5_readClaim_81 (by decide) (fun c5 => ?_) (fun c5 => ?_)
  ·
    replace hw := (if_pos c5).mp hw
    refine lv_iload_n hx hb dX5_readClaim_92 rfl (lo_at hl 2 rfl) ?_
    refine lv_sipush (v := 258) hx hb dX5_readClaim_93 (by decide) ?_
    refine lv_icmp_ne (tgt := 129) hx hb dX5_readClaim_96 (by decide) (fun c6 => ?_) (fun c6 => ?_)
    ·
      replace hw := (if_neg c6).mp hw
      refine lv_aload_n hx hb dX5_readClaim_129 rfl (lo_at hl 0 rfl) ?_
      refine lv_dup hx hb dX5_readClaim_130 rfl ?_
      obtain ⟨k7, hw⟩ := hw
      refine r_getI hx hb hts hown hg hC fb_4_5 k7 mk_f_RX5_30 dX5_readClaim_131 ?_
      refine lv_iconst (v := 1) hx hb dX5_readClaim_134 (by decide) ?_
      refine lv_iadd hx hb dX5_readClaim_135 ?_
      refine r_putI hx hb hts hown hg hC fb_4_5 k7 rfl rfl mk_f_RX5_30 dX5_readClaim_136 (fun h8 H locs eh8 hC => ?_)
      replace hw := hw h8 eh8
      refine lv_aload_n hx hb dX5_readClaim_139 rfl (lo_at hl 0 rfl) ?_
      refine lv_iload_n hx hb dX5_readClaim_140 rfl (lo_at hl 1 rfl) ?_
      refine lv_iconst (v := 1) hx hb dX5_readClaim_141 (by decide) ?_
      refine lv_iadd hx hb dX5_readClaim_142 ?_
      obtain ⟨k9, hw⟩ := hw
      refine res_v hC (run_V (As := [.int (x1 + (1 : Int32))]) (rest := []) hM hC hl.1.1 kv_RX5_76 (c_X5_readEither l G base d C hCl o (x1 + (1 : Int32)) h8 _ hw) (hc_4) k9 rfl rfl rfl (by dsimp only [rm_claim, rm_X5_readBoth, rm_X5_readEither, rm_X5_readClaim]; omega) (Nat.le_of_ble_eq_true rfl) ⟨Nat.le_of_ble_eq_true rfl, Nat.le_of_ble_eq_true rfl⟩ dX5_readClaim_143) (fun h10 H locs hw hC => ?_)
      refine lv_aload_n hx hb dX5_readClaim_146 rfl (lo_at hl 0 rfl) ?_
      refine lv_bipush (v := 41) hx hb dX5_readClaim_147 (by decide) ?_
      obtain ⟨k12, hw⟩ := hw
      refine res_v hC (run_V (As := [.int ((41 : Int32))]) (rest := []) hM hC hl.1.1 kv_RX5_85 (c_X5_expect l G base o (41 : Int32) h10 _ hw) (hc_4) k12 rfl rfl rfl (by dsimp only [rm_claim, rm_X5_readBoth, rm_X5_readEither, rm_X5_readClaim, rm_X5_expect]; omega) (Nat.le_of_ble_eq_true rfl) ⟨Nat.le_of_ble_eq_true rfl, Nat.le_of_ble_eq_true rfl⟩ dX5_readClaim_149) (fun h13 H locs hw hC => ?_)
      exact ret_v hM hC hw dX5_readClaim_152
    ·
      replace hw := (if_pos c6).mp hw
      refine lv_aload_n hx hb dX5_readClaim_99 rfl (lo_at hl 0 rfl) ?_
      refine lv_dup hx hb dX5_readClaim_100 rfl ?_
      obtain ⟨k15, hw⟩ := hw
      refine r_getI hx hb hts hown hg hC fb_4_5 k15 mk_f_RX5_30 dX5_readClaim_101 ?_
      refine lv_iconst (v := 1) hx hb dX5_readClaim_104 (by decide) ?_
      refine lv_iadd hx hb dX5_readClaim_105 ?_
      refine r_putI hx hb hts hown hg hC fb_4_5 k15 rfl rfl mk_f_RX5_30 dX5_readClaim_106 (fun h16 H locs eh16 hC => ?_)
      replace hw := hw h16 eh16
      refine lv_aload_n hx hb dX5_readClaim_109 rfl (lo_at hl 0 rfl) ?_
      refine lv_iload_n hx hb dX5_readClaim_110 rfl (lo_at hl 1 rfl) ?_
      refine lv_iconst (v := 1) hx hb dX5_readClaim_111 (by decide) ?_
      refine lv_iadd hx hb dX5_readClaim_112 ?_
      obtain ⟨k17, hw⟩ := hw
      refine res_v hC (run_V (As := [.int (x1 + (1 : Int32))]) (rest := []) hM hC hl.1.1 kv_RX5_97 (hCl o (x1 + (1 : Int32)) h16 _ hw) (hc_4) k17 rfl rfl rfl (by dsimp only [rm_claim, rm_X5_readBoth, rm_X5_readEither, rm_X5_readClaim]; omega) (Nat.le_of_ble_eq_true rfl) ⟨Nat.le_of_ble_eq_true rfl, Nat.le_of_ble_eq_true rfl⟩ dX5_readClaim_113) (fun h18 H locs hw hC => ?_)
      refine lv_aload_n hx hb dX5_readClaim_116 rfl (lo_at hl 0 rfl) ?_
      obtain ⟨k20, hw⟩ := hw
      refine r_getR hx hb hts hown hg hC fb_4_3 k20 mk_f_RX5_18 dX5_readClaim_117 ?_
      refine lv_sipush (v := 258) hx hb dX5_readClaim_120 (by decide) ?_
      obtain ⟨k21, hw⟩ := hw
      refine rf_2 k21.1 ?_
      refine res_v hC (run_V (As := [.int ((258 : Int32))]) (rest := []) hM hC hl.1.1 kv_RX5_94 (c_X7_put l G base (ad (hpR h18 o 3)) (258 : Int32) h18 _ hw) (hc_5) k21.2 rfl rfl rfl (by dsimp only [rm_claim, rm_X5_readBoth, rm_X5_readEither, rm_X5_readClaim, rm_X7_put]; omega) (Nat.le_of_ble_eq_true rfl) ⟨Nat.le_of_ble_eq_true rfl, Nat.le_of_ble_eq_true rfl⟩ dX5_readClaim_123) (fun h22 H locs hw hC => ?_)
      refine lv_goto (tgt := 152) hx hb dX5_readClaim_126 (by decide) ?_
      exact ret_v hM hC hw dX5_readClaim_152
  ·
    replace hw := (if_neg c5).mp hw
    refine lv_aload_n hx hb dX5_readClaim_84 rfl (lo_at hl 0 rfl) ?_
    refine lv_iconst (v := 3) hx hb dX5_readClaim_85 (by decide) ?_
    obtain ⟨k24, hw⟩ := hw
    refine res_v hC (run_V (As := [.int ((3 : Int32))]) (rest := []) hM hC hl.1.1 kv_RX5_61 (c_X5_refuse l G base o (3 : Int32) h _ hw) (hc_4) k24 rfl rfl rfl (by dsimp only [rm_claim, rm_X5_readBoth, rm_X5_readEither, rm_X5_readClaim, rm_X5_refuse]; omega) (Nat.le_of_ble_eq_true rfl) ⟨Nat.le_of_ble_eq_true rfl, Nat.le_of_ble_eq_true rfl⟩ dX5_readClaim_86) (fun h25 H locs hw hC => ?_)
    refine lv_goto (tgt := 152) hx hb dX5_readClaim_89 (by decide) ?_
    exact ret_v hM hC hw dX5_readClaim_152
set_option maxHeartbeats 4000000 in
set_option maxRecDepth 100000 in
theorem t_X5_readClaim_J45 {p : Program} {l : Launch} {e : Env} {s : State} {m : MethodId} {args : Array Value} {below : List Frame} {meth : Method} {c : Code} {G : GG} {base : Nat} (hM : Mx G base p s m args meth c cX5_readClaim 4 none RX5 "readClaim") (d : Nat) (C : Nat → Int32 → Hp → (Hp → Prop) → Prop) (hCl : ∀ (o : Nat) (x : Int32) (h : Hp) (Q : Hp → Prop), C o x h Q → Met l yX5_readClaim (ww yX5_readClaim cX5_readClaim 4 none) (rm_claim d) (va_Pc [.ref o, .int x] (PU G base h)) (va_Qv Q (PU G base) (fun q => base ≤ q)) 0 0 (fun q => base ≤ q)) (o : Nat) (x3 : Int32) (Q : Hp → Prop) (h : Hp) (H : Heap) (locs : List Loc) (ls : Array Slot) : Cx G base h s.heap H locs → lo_has ls 4 [(0, .ref o), (3, .int x3)] → wp_X5_readClaim_J45 C o x3 Q h → W p l e (rm_X5_readClaim d) s m args below meth c H locs 0 0 (MQ below (va_Qv Q (PU G base) (fun q => base ≤ q)) args s 0 0 (fun q => base ≤ q)) (F0 m 45 ls []) := by
  intro hC hl hw
  unfold wp_X5_readClaim_J45 at hw
  obtain ⟨hx, hb, hr, hml, hown, hts, hg, hs, hlk, hnm⟩ := id hM
  refine lv_aload_n hx hb dX5_readClaim_45 rfl (lo_at hl 0 rfl) ?_
  refine lv_dup hx hb dX5_readClaim_46 rfl ?_
  obtain ⟨k35, hw⟩ := hw
  refine r_getI hx hb hts hown hg hC fb_4_5 k35 mk_f_RX5_30 dX5_readClaim_47 ?_
  refine lv_iconst (v := 1) hx hb dX5_readClaim_50 (by decide) ?_
  refine lv_iadd hx hb dX5_readClaim_51 ?_
  refine r_putI hx hb hts hown hg hC fb_4_5 k35 rfl rfl mk_f_RX5_30 dX5_readClaim_52 (fun h36 H locs eh36 hC => ?_)
  replace hw := hw h36 eh36
  refine lv_aload_n hx hb dX5_readClaim_55 rfl (lo_at hl 0 rfl) ?_
  obtain ⟨k37, hw⟩ := hw
  refine res_v hC (run_V (As := []) (rest := []) hM hC hl.1.1 kv_RX5_79 (c_X5_readSum l G base o h36 _ hw) (hc_4) k37 rfl rfl rfl (by dsimp only [rm_claim, rm_X5_readBoth, rm_X5_readEither, rm_X5_readClaim, rm_X5_readSum]; omega) (Nat.le_of_ble_eq_true rfl) ⟨Nat.le_of_ble_eq_true rfl, Nat.le_of_ble_eq_true rfl⟩ dX5_readClaim_56) (fun h38 H locs hw hC => ?_)
  refine lv_aload_n hx hb dX5_readClaim_59 rfl (lo_at hl 0 rfl) ?_
  obtain ⟨k40, hw⟩ := hw
  refine r_getR hx hb hts hown hg hC fb_4_3 k40 mk_f_RX5_18 dX5_readClaim_60 ?_
  refine lv_iload_n hx hb dX5_readClaim_63 rfl (lo_at hl 1 rfl) ?_
  obtain ⟨k41, hw⟩ := hw
  refine rf_2 k41.1 ?_
  refine res_v hC (run_V (As := [.int x3]) (rest := []) hM hC hl.1.1 kv_RX5_94 (c_X7_put l G base (ad (hpR h38 o 3)) x3 h38 _ hw) (hc_5) k41.2 rfl rfl rfl (by dsimp only [rm_claim, rm_X5_readBoth, rm_X5_readEither, rm_X5_readClaim, rm_X7_put]; omega) (Nat.le_of_ble_eq_true rfl) ⟨Nat.le_of_ble_eq_true rfl, Nat.le_of_ble_eq_true rfl⟩ dX5_readClaim_64) (fun h42 H locs hw hC => ?_)
  refine lv_goto (tgt := 75) hx hb dX5_readClaim_67 (by decide) ?_
  refine lv_goto (tgt := 152) hx hb dX5_readClaim_75 (by decide) ?_
  exact ret_v hM hC hw dX5_readClaim_152
set_option maxHeartbeats 4000000 in
set_option maxRecDepth 100000 in
theorem c_X5_readClaim (l : Launch) (G : GG) (base : Nat) (d : Nat) (C : Nat → Int32 → Hp → (Hp → Prop) → Prop) (hCl : ∀ (o : Nat) (x : Int32) (h : Hp) (Q : Hp → Prop), C o x h Q → Met l yX5_readClaim (ww yX5_readClaim cX5_readClaim 4 none) (rm_claim d) (va_Pc [.ref o, .int x] (PU G base h)) (va_Qv Q (PU G base) (fun q => base ≤ q)) 0 0 (fun q => base ≤ q)) (o : Nat) (x1 : Int32) (h : Hp) (Q : Hp → Prop) (hw : wp_X5_readClaim C o x1 h Q) : Met l yX5_readClaim (ww yX5_readClaim cX5_readClaim 4 none) (rm_X5_readClaim d) (va_Pc [.ref o, .int x1] (PU G base h)) (va_Qv Q (PU G base) (fun q => base ≤ q)) 0 0 (fun q => base ≤ q) := by
  refine met_of (own := RX5) (nm := "readClaim") (by decide) rfl rfl (List.forall_mem_cons.mpr ⟨rfl, (List.forall_mem_cons.mpr ⟨rfl, (fun _ h => absurd h List.not_mem_nil)⟩)⟩) (Nat.le_of_ble_eq_true rfl) rfl ?_
  intro p e s m below meth c ls hM hC hl
  obtain ⟨hx, hb, hr, hml, hown, hts, hg, hs, hlk, hnm⟩ := id hM
  obtain ⟨args, hargs⟩ : ∃ a : Array Value, a = ([.ref o, .int x1] : List Value).toArray := ⟨_, rfl⟩
  rw [← hargs] at hM hts ⊢
  obtain ⟨H, hH⟩ : ∃ H : Heap, H = s.heap := ⟨_, rfl⟩
  obtain ⟨locs, hlocs⟩ : ∃ x : List Loc, x = [] := ⟨_, rfl⟩
  have hC : Cx G base h s.heap H locs := by rw [hH, hlocs]; exact hC
  show W p l e (rm_X5_readClaim d) s m args below meth c s.heap [] 0 0 (MQ below (va_Qv Q (PU G base) (fun q => base ≤ q)) args s 0 0 (fun q => base ≤ q)) (F0 m 0 ls [])
  rw [← hlocs]
  have hgoal : W p l e (rm_X5_readClaim d) s m args below meth c H locs 0 0 (MQ below (va_Qv Q (PU G base) (fun q => base ≤ q)) args s 0 0 (fun q => base ≤ q)) (F0 m 0 ls []) := ?_
  · rw [hH] at hgoal; exact hgoal
  clear hH hlocs
  unfold wp_X5_readClaim at hw
  refine lv_aload_n hx hb dX5_readClaim_0 rfl (lo_at hl 0 rfl) ?_
  obtain ⟨k1, hw⟩ := hw
  refine res_i hC (run_V (As := []) (rest := []) hM hC hl.1.1 kv_RX5_44 (c_X5_kind l G base o h _ hw) (hc_4) k1 rfl rfl rfl (by dsimp only [rm_claim, rm_X5_readBoth, rm_X5_readEither, rm_X5_readClaim, rm_X5_kind]; omega) (Nat.le_of_ble_eq_true rfl) ⟨Nat.le_of_ble_eq_true rfl, Nat.le_of_ble_eq_true rfl⟩ dX5_readClaim_1) (fun z3 h2 H locs hw hC => ?_)
  refine lo_istore_n (lv' := [(2, .int z3), (0, .ref o), (1, .int x1)]) hx hb dX5_readClaim_4 rfl hl (by decide) rfl (fun ls hl => ?_)
  refine lv_iload_n hx hb dX5_readClaim_5 rfl (lo_at hl 0 rfl) ?_
  refine lv_sipush (v := 258) hx hb dX5_readClaim_6 (by decide) ?_
  refine lv_icmp_eq (tgt := 78) hx hb dX5_readClaim_9 (by decide) (fun c4 => ?_) (fun c4 => ?_)
  ·
    replace hw := (if_pos c4).mp hw
    exact t_X5_readClaim_J78 hM d C hCl o x1 z3 Q  h2 H locs ls hC (lo_sub hl [1, 2, 0] rfl) hw
  ·
    replace hw := (if_neg c4).mp hw
    refine lv_iload_n hx hb dX5_readClaim_12 rfl (lo_at hl 0 rfl) ?_
    refine lv_bipush (v := 40) hx hb dX5_readClaim_13 (by decide) ?_
    refine lv_icmp_eq (tgt := 78) hx hb dX5_readClaim_15 (by decide) (fun c27 => ?_) (fun c27 => ?_)
    ·
      replace hw := (if_pos c27).mp hw
      exact t_X5_readClaim_J78 hM d C hCl o x1 z3 Q  h2 H locs ls hC (lo_sub hl [1, 2, 0] rfl) hw
    ·
      replace hw := (if_neg c27).mp hw
      refine lv_aload_n hx hb dX5_readClaim_18 rfl (lo_at hl 1 rfl) ?_
      obtain ⟨k28, hw⟩ := hw
      refine res_v hC (run_V (As := []) (rest := []) hM hC hl.1.1 kv_RX5_79 (c_X5_readSum l G base o h2 _ hw) (hc_4) k28 rfl rfl rfl (by dsimp only [rm_claim, rm_X5_readBoth, rm_X5_readEither, rm_X5_readClaim, rm_X5_readSum]; omega) (Nat.le_of_ble_eq_true rfl) ⟨Nat.le_of_ble_eq_true rfl, Nat.le_of_ble_eq_true rfl⟩ dX5_readClaim_19) (fun h29 H locs hw hC => ?_)
      refine lv_aload_n hx hb dX5_readClaim_22 rfl (lo_at hl 1 rfl) ?_
      obtain ⟨k31, hw⟩ := hw
      refine res_i hC (run_V (As := []) (rest := []) hM hC hl.1.1 kv_RX5_44 (c_X5_kind l G base o h29 _ hw) (hc_4) k31 rfl rfl rfl (by dsimp only [rm_claim, rm_X5_readBoth, rm_X5_readEither, rm_X5_readClaim, rm_X5_kind]; omega) (Nat.le_of_ble_eq_true rfl) ⟨Nat.le_of_ble_eq_true rfl, Nat.le_of_ble_eq_true rfl⟩ dX5_readClaim_23) (fun z33 h32 H locs hw hC => ?_)
      refine lo_istore_n (lv' := [(3, .int z33), (2, .int z3), (0, .ref o), (1, .int x1)]) hx hb dX5_readClaim_26 rfl hl (by decide) rfl (fun ls hl => ?_)
      refine lv_iload_n hx hb dX5_readClaim_27 rfl (lo_at hl 0 rfl) ?_
      refine lv_bipush (v := 60) hx hb dX5_readClaim_28 (by decide) ?_
      refine lv_icmp_eq (tgt := 45) hx hb dX5_readClaim_30 (by decide) (fun c34 => ?_) (fun c34 => ?_)
      ·
        replace hw := (if_pos c34).mp hw
        exact t_X5_readClaim_J45 hM d C hCl o z33 Q  h32 H locs ls hC (lo_sub hl [2, 0] rfl) hw
      ·
        replace hw := (if_neg c34).mp hw
        refine lv_iload_n hx hb dX5_readClaim_33 rfl (lo_at hl 0 rfl) ?_
        refine lv_bipush (v := 61) hx hb dX5_readClaim_34 (by decide) ?_
        refine lv_icmp_eq (tgt := 45) hx hb dX5_readClaim_36 (by decide) (fun c44 => ?_) (fun c44 => ?_)
        ·
          replace hw := (if_pos c44).mp hw
          exact t_X5_readClaim_J45 hM d C hCl o z33 Q  h32 H locs ls hC (lo_sub hl [2, 0] rfl) hw
        ·
          replace hw := (if_neg c44).mp hw
          refine lv_iload_n hx hb dX5_readClaim_39 rfl (lo_at hl 0 rfl) ?_
          refine lv_bipush (v := 62) hx hb dX5_readClaim_40 (by decide) ?_
          refine lv_icmp_ne (tgt := 70) hx hb dX5_readClaim_42 (by decide) (fun c45 => ?_) (fun c45 => ?_)
          ·
            replace hw := (if_neg c45).mp hw
            refine lv_aload_n hx hb dX5_readClaim_70 rfl (lo_at hl 2 rfl) ?_
            refine lv_iconst (v := 1) hx hb dX5_readClaim_71 (by decide) ?_
            obtain ⟨k46, hw⟩ := hw
            refine res_v hC (run_V (As := [.int ((1 : Int32))]) (rest := []) hM hC hl.1.1 kv_RX5_61 (c_X5_refuse l G base o (1 : Int32) h32 _ hw) (hc_4) k46 rfl rfl rfl (by dsimp only [rm_claim, rm_X5_readBoth, rm_X5_readEither, rm_X5_readClaim, rm_X5_refuse]; omega) (Nat.le_of_ble_eq_true rfl) ⟨Nat.le_of_ble_eq_true rfl, Nat.le_of_ble_eq_true rfl⟩ dX5_readClaim_72) (fun h47 H locs hw hC => ?_)
            refine lv_goto (tgt := 152) hx hb dX5_readClaim_75 (by decide) ?_
            exact ret_v hM hC hw dX5_readClaim_152
          ·
            replace hw := (if_pos c45).mp hw
            exact t_X5_readClaim_J45 hM d C hCl o z33 Q  h32 H locs ls hC (lo_sub hl [2, 0] rfl) hw
def wpR_claim : Nat → Nat → Int32 → Hp → (Hp → Prop) → Prop
  | 0, _, _, _, _ => False
  | d + 1, o, x, h, Q => wp_X5_readClaim (wpR_claim d) o x h Q
theorem cR_claim (l : Launch) (G : GG) (base : Nat) : ∀ (d : Nat) (o : Nat) (x : Int32) (h : Hp) (Q : Hp → Prop), wpR_claim d o x h Q → Met l yX5_readClaim (ww yX5_readClaim cX5_readClaim 4 none) (rm_claim d) (va_Pc [.ref o, .int x] (PU G base h)) (va_Qv Q (PU G base) (fun q => base ≤ q)) 0 0 (fun q => base ≤ q) := by
  intro d
  induction d with
  | zero => intro o x h Q hw; exact hw.elim
  | succ d ih => intro o x h Q hw; exact c_X5_readClaim l G base d (wpR_claim d) ih o x h Q hw
