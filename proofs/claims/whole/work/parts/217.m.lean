abbrev rm_X11_markMisled : Room := { frames := 7, cells := 0, slots := 0, locals := 194 }
set_option maxRecDepth 100000 in
def wp_X11_markMisled_L14 (o : Nat) (x1 : Int32) (K61 : Int32 → Hp → Prop) (Q : Hp → Prop) : Nat → Int32 → Int32 → Hp → Prop
  | 0, _, _, _ => False
  | n + 1, x2, x3, h => (if (6 : Int32) ≤ x3 then (K61 x2 h) else (((hpK h o).1 = 20 + 9) ∧ (wp_X11_lookerAt o x3 h (fun (z6 : Option Nat) (h5 : Hp) => (if z6 = none then (∀ v8 : Int32, v8 = x3 + (1 : Int32) → (wp_X11_markMisled_L14 o x1 K61 Q n x2 v8 h5)) else (((hpK h5 o).1 = 20 + 9) ∧ (okA h5 (hpR h5 o 9) 6 x1 ∧ (wp_X11_gradeOf o z6 (hpR h5 (ad (hpR h5 o 9)) (x1).toNatClampNeg) (0 : Int32) h5 (fun (z12 : Int32) (h11 : Hp) => (if z12 = (1 : Int32) then (∀ v15 : Int32, v15 = x2 ||| ((1 : Int32) <<< (x3 &&& 31)) → (∀ v16 : Int32, v16 = x3 + (1 : Int32) → (wp_X11_markMisled_L14 o x1 K61 Q n v15 v16 h11))) else (∀ v14 : Int32, v14 = x3 + (1 : Int32) → (wp_X11_markMisled_L14 o x1 K61 Q n x2 v14 h11))))))))))))
set_option maxRecDepth 100000 in
def wp_X11_markMisled_L2 (o : Nat) (K77 : Hp → Prop) (Q : Hp → Prop) : Nat → Int32 → Hp → Prop
  | 0, _, _ => False
  | n + 1, x1, h => ((hpK h o).1 = 20 + 9) ∧ ((if (hpI h o 10) ≤ x1 then (K77 h) else (wp_X11_markMisled_L14 o x1 (fun (y18 : Int32) (h17 : Hp) => ((hpK h17 o).1 = 20 + 9) ∧ (okO h17 (hpR h17 o 15) 8 ∧ (okA h17 (hpR h17 (ad (hpR h17 o 15)) 4) 1 x1 ∧ (∀ h22 : Hp, h22 = stI h17 (ad (hpR h17 (ad (hpR h17 o 15)) 4)) (x1).toNatClampNeg y18 → (∀ v23 : Int32, v23 = x1 + (1 : Int32) → (wp_X11_markMisled_L2 o K77 Q n v23 h22)))))) Q fuel (0 : Int32) (0 : Int32) h)))
set_option maxRecDepth 100000 in
def wp_X11_markMisled (o : Nat) (h : Hp) (Q : Hp → Prop) : Prop := wp_X11_markMisled_L2 o (fun (h24 : Hp) => Q h24) Q fuel (0 : Int32) h
set_option maxHeartbeats 4000000 in
set_option maxRecDepth 100000 in
theorem t_X11_markMisled_L14 {p : Program} {l : Launch} {e : Env} {s : State} {m : MethodId} {args : Array Value} {below : List Frame} {meth : Method} {c : Code} {G : GG} {base : Nat} {A : Nat → Nat} {g0 : Hp} (hM : Mx G base p s m args meth c cX11_markMisled 5 none RX11 "markMisled") (o : Nat) (x1 : Int32) (K61 : Int32 → Hp → Prop) (Q : Hp → Prop) (hK61 : ∀ (y2 : Int32) (h : Hp) (H : Heap) (locs : List Loc) (ls : Array Slot), Cx2 G base A g0 A h s.heap H locs → lo_has ls 5 [(0, .ref (A o)), (1, .int x1), (2, .int y2)] → K61 y2 h → W p l e rm_X11_markMisled s m args below meth c H locs 0 0 (MQ below (va_Qv Q (PU2 G base A g0 A) (fun q => base ≤ q)) args s 0 0 (fun q => base ≤ q)) (F0 m 61 ls [])) : ∀ (n : Nat) (x2 : Int32) (x3 : Int32) (h : Hp) (H : Heap) (locs : List Loc) (ls : Array Slot), Cx2 G base A g0 A h s.heap H locs → lo_has ls 5 [(0, .ref (A o)), (1, .int x1), (2, .int x2), (3, .int x3)] → wp_X11_markMisled_L14 o x1 K61 Q n x2 x3 h → W p l e rm_X11_markMisled s m args below meth c H locs 0 0 (MQ below (va_Qv Q (PU2 G base A g0 A) (fun q => base ≤ q)) args s 0 0 (fun q => base ≤ q)) (F0 m 14 ls []) := by
  intro n
  induction n with
  | zero =>
    intro x2 x3 h H locs ls hC hl hw
    rw [wp_X11_markMisled_L14] at hw
    exact hw.elim
  | succ n ih =>
    intro x2 x3 h H locs ls hC hl hw
    rw [wp_X11_markMisled_L14] at hw
    obtain ⟨hx, hb, hr, hml, hown, hts, hg, hs, hlk, hnm⟩ := id hM
    refine lv_iload_n hx hb dX11_markMisled_14 rfl (lo_at hl 3 rfl) ?_
    refine lv_bipush (v := 6) hx hb dX11_markMisled_15 (by decide) ?_
    refine lv_icmp_ge (tgt := 61) hx hb dX11_markMisled_17 (by decide) (fun c3 => ?_) (fun c3 => ?_)
    ·
      replace hw := (if_pos c3).mp hw
      exact hK61 x2 h H locs ls hC (lo_sub hl [0, 1, 2] rfl) hw
    ·
      replace hw := (if_neg c3).mp hw
      refine lv_aload_n hx hb dX11_markMisled_20 rfl (lo_at hl 0 rfl) ?_
      refine lv_iload_n hx hb dX11_markMisled_21 rfl (lo_at hl 3 rfl) ?_
      obtain ⟨k4, hw⟩ := hw
      refine res2_q hC (run2_V (As := [.int x3]) (rest := []) hM hC hl.1.1 kv_RX11_144 (c_X11_lookerAt l G base A o x3 h _ hw) (hc_9) k4 rfl rfl rfl ⟨Nat.le_of_ble_eq_true rfl, Nat.le_of_ble_eq_true rfl⟩ (Nat.le_of_ble_eq_true rfl) ⟨Nat.le_of_ble_eq_true rfl, Nat.le_of_ble_eq_true rfl⟩ dX11_markMisled_22) (fun z6 h5 H locs hw hC => ?_)
      refine lo_astore (r := Option.map A z6) (lv' := [(4, va_rf (Option.map A z6)), (0, .ref (A o)), (1, .int x1), (2, .int x2), (3, .int x3)]) hx hb dX11_markMisled_25 hl (by decide) rfl (fun ls hl => ?_)
      refine lo_aload (r := Option.map A z6) hx hb dX11_markMisled_27 (lo_at hl 0 rfl) ?_
      refine s_ifnull (r := z6) (A := A) (tgt := 55) hx hb dX11_markMisled_29 (by decide) (fun c7 => ?_) (fun c7 => ?_)
      ·
        replace hw := (if_pos c7).mp hw
        obtain ⟨v8, ev8⟩ : ∃ y : Int32, y = x3 + (1 : Int32) := ⟨_, rfl⟩
        replace hw := hw v8 ev8
        refine lo_iinc (v := v8) (lv' := [(3, .int v8), (4, va_rf (Option.map A z6)), (0, .ref (A o)), (1, .int x1), (2, .int x2)]) hx hb dX11_markMisled_55 hl (k := 4) rfl (by rw [ev8]; rfl) (by decide) rfl (fun ls hl => ?_)
        refine lv_goto (tgt := 14) hx hb dX11_markMisled_58 (by decide) ?_
        exact ih x2 v8 h5 H locs ls hC (lo_sub hl [2, 3, 4, 0] rfl) hw
      ·
        replace hw := (if_neg c7).mp hw
        refine lv_aload_n hx hb dX11_markMisled_32 rfl (lo_at hl 1 rfl) ?_
        refine lo_aload (r := Option.map A z6) hx hb dX11_markMisled_33 (lo_at hl 0 rfl) ?_
        refine lv_aload_n hx hb dX11_markMisled_35 rfl (lo_at hl 1 rfl) ?_
        obtain ⟨k9, hw⟩ := hw
        refine s_getR hx hb hts hown hg hC fb_9_9 k9 mk_f_RX11_35 dX11_markMisled_36 ?_
        refine lv_iload_n hx hb dX11_markMisled_39 rfl (lo_at hl 2 rfl) ?_
        obtain ⟨k10, hw⟩ := hw
        refine sf_2 k10.1 ?_
        refine s_aald (kd := 6) (t0 := 5) hx hb hg hC k10.2.1 (by decide) rfl k10.2.2 dX11_markMisled_40 ?_
        refine lv_iconst (v := 0) hx hb dX11_markMisled_41 (by decide) ?_
        refine res2_i hC (run2_V (As := [va_rf (Option.map A z6), va_rf (Option.map A (hpR h5 (ad (hpR h5 o 9)) (x1).toNatClampNeg)), .int ((0 : Int32))]) (rest := []) hM hC hl.1.1 kv_RX11_264 (c_X11_gradeOf l G base A o z6 (hpR h5 (ad (hpR h5 o 9)) (x1).toNatClampNeg) (0 : Int32) h5 _ hw) (hc_9) k9 rfl rfl rfl ⟨Nat.le_of_ble_eq_true rfl, Nat.le_of_ble_eq_true rfl⟩ (Nat.le_of_ble_eq_true rfl) ⟨Nat.le_of_ble_eq_true rfl, Nat.le_of_ble_eq_true rfl⟩ dX11_markMisled_42) (fun z12 h11 H locs hw hC => ?_)
        refine lv_iconst (v := 1) hx hb dX11_markMisled_45 (by decide) ?_
        refine lv_icmp_ne (tgt := 55) hx hb dX11_markMisled_46 (by decide) (fun c13 => ?_) (fun c13 => ?_)
        ·
          replace hw := (if_neg c13).mp hw
          obtain ⟨v14, ev14⟩ : ∃ y : Int32, y = x3 + (1 : Int32) := ⟨_, rfl⟩
          replace hw := hw v14 ev14
          refine lo_iinc (v := v14) (lv' := [(3, .int v14), (4, va_rf (Option.map A z6)), (0, .ref (A o)), (1, .int x1), (2, .int x2)]) hx hb dX11_markMisled_55 hl (k := 4) rfl (by rw [ev14]; rfl) (by decide) rfl (fun ls hl => ?_)
          refine lv_goto (tgt := 14) hx hb dX11_markMisled_58 (by decide) ?_
          exact ih x2 v14 h11 H locs ls hC (lo_sub hl [2, 3, 4, 0] rfl) hw
        ·
          replace hw := (if_pos c13).mp hw
          refine lv_iload_n hx hb dX11_markMisled_49 rfl (lo_at hl 3 rfl) ?_
          refine lv_iconst (v := 1) hx hb dX11_markMisled_50 (by decide) ?_
          refine lv_iload_n hx hb dX11_markMisled_51 rfl (lo_at hl 4 rfl) ?_
          refine lv_ishl hx hb dX11_markMisled_52 ?_
          refine lv_ior hx hb dX11_markMisled_53 ?_
          refine lv_topi (fun v15 ev15 => ?_)
          replace hw := hw v15 ev15
          refine lo_istore_n (lv' := [(2, .int v15), (4, va_rf (Option.map A z6)), (0, .ref (A o)), (1, .int x1), (3, .int x3)]) hx hb dX11_markMisled_54 rfl hl (by decide) rfl (fun ls hl => ?_)
          obtain ⟨v16, ev16⟩ : ∃ y : Int32, y = x3 + (1 : Int32) := ⟨_, rfl⟩
          replace hw := hw v16 ev16
          refine lo_iinc (v := v16) (lv' := [(3, .int v16), (2, .int v15), (4, va_rf (Option.map A z6)), (0, .ref (A o)), (1, .int x1)]) hx hb dX11_markMisled_55 hl (k := 4) rfl (by rw [ev16]; rfl) (by decide) rfl (fun ls hl => ?_)
          refine lv_goto (tgt := 14) hx hb dX11_markMisled_58 (by decide) ?_
          exact ih v15 v16 h11 H locs ls hC (lo_sub hl [3, 4, 1, 0] rfl) hw
set_option maxHeartbeats 4000000 in
set_option maxRecDepth 100000 in
theorem t_X11_markMisled_L2 {p : Program} {l : Launch} {e : Env} {s : State} {m : MethodId} {args : Array Value} {below : List Frame} {meth : Method} {c : Code} {G : GG} {base : Nat} {A : Nat → Nat} {g0 : Hp} (hM : Mx G base p s m args meth c cX11_markMisled 5 none RX11 "markMisled") (o : Nat) (K77 : Hp → Prop) (Q : Hp → Prop) (hK77 : ∀ (h : Hp) (H : Heap) (locs : List Loc) (ls : Array Slot), Cx2 G base A g0 A h s.heap H locs → lo_has ls 5 [] → K77 h → W p l e rm_X11_markMisled s m args below meth c H locs 0 0 (MQ below (va_Qv Q (PU2 G base A g0 A) (fun q => base ≤ q)) args s 0 0 (fun q => base ≤ q)) (F0 m 77 ls [])) : ∀ (n : Nat) (x1 : Int32) (h : Hp) (H : Heap) (locs : List Loc) (ls : Array Slot), Cx2 G base A g0 A h s.heap H locs → lo_has ls 5 [(0, .ref (A o)), (1, .int x1)] → wp_X11_markMisled_L2 o K77 Q n x1 h → W p l e rm_X11_markMisled s m args below meth c H locs 0 0 (MQ below (va_Qv Q (PU2 G base A g0 A) (fun q => base ≤ q)) args s 0 0 (fun q => base ≤ q)) (F0 m 2 ls []) := by
  intro n
  induction n with
  | zero =>
    intro x1 h H locs ls hC hl hw
    rw [wp_X11_markMisled_L2] at hw
    exact hw.elim
  | succ n ih =>
    intro x1 h H locs ls hC hl hw
    rw [wp_X11_markMisled_L2] at hw
    obtain ⟨hx, hb, hr, hml, hown, hts, hg, hs, hlk, hnm⟩ := id hM
    refine lv_iload_n hx hb dX11_markMisled_2 rfl (lo_at hl 1 rfl) ?_
    refine lv_aload_n hx hb dX11_markMisled_3 rfl (lo_at hl 0 rfl) ?_
    obtain ⟨k1, hw⟩ := hw
    refine s_getI hx hb hts hown hg hC fb_9_10 k1 mk_f_RX11_258 dX11_markMisled_4 ?_
    refine lv_icmp_ge (tgt := 77) hx hb dX11_markMisled_7 (by decide) (fun c2 => ?_) (fun c2 => ?_)
    ·
      replace hw := (if_pos c2).mp hw
      exact hK77  h H locs ls hC (lo_sub hl [] rfl) hw
    ·
      replace hw := (if_neg c2).mp hw
      refine lv_iconst (v := 0) hx hb dX11_markMisled_10 (by decide) ?_
      refine lo_istore_n (lv' := [(2, .int ((0 : Int32))), (0, .ref (A o)), (1, .int x1)]) hx hb dX11_markMisled_11 rfl hl (by decide) rfl (fun ls hl => ?_)
      refine lv_iconst (v := 0) hx hb dX11_markMisled_12 (by decide) ?_
      refine lo_istore_n (lv' := [(3, .int ((0 : Int32))), (2, .int ((0 : Int32))), (0, .ref (A o)), (1, .int x1)]) hx hb dX11_markMisled_13 rfl hl (by decide) rfl (fun ls hl => ?_)
      refine t_X11_markMisled_L14 hM o x1 _ Q ?_ fuel (0 : Int32) (0 : Int32) h H locs ls hC (lo_sub hl [2, 3, 1, 0] rfl) hw
      intro y18 h17 H locs ls hC hl hw
      refine lv_aload_n hx hb dX11_markMisled_61 rfl (lo_at hl 0 rfl) ?_
      obtain ⟨k19, hw⟩ := hw
      refine s_getR hx hb hts hown hg hC fb_9_15 k19 mk_f_RX11_69 dX11_markMisled_62 ?_
      obtain ⟨k20, hw⟩ := hw
      refine sf_1 k20.1 ?_
      refine s_getR hx hb hts hown hg hC fb_8_4 k20.2 mk_f_RX11_318 dX11_markMisled_65 ?_
      refine lv_iload_n hx hb dX11_markMisled_68 rfl (lo_at hl 1 rfl) ?_
      refine lv_iload_n hx hb dX11_markMisled_69 rfl (lo_at hl 2 rfl) ?_
      obtain ⟨k21, hw⟩ := hw
      refine sf_3 k21.1 ?_
      refine s_iast hx hb hg hC k21.2.1 k21.2.2 dX11_markMisled_70 (fun h22 H locs eh22 hC => ?_)
      replace hw := hw h22 eh22
      obtain ⟨v23, ev23⟩ : ∃ y : Int32, y = x1 + (1 : Int32) := ⟨_, rfl⟩
      replace hw := hw v23 ev23
      refine lo_iinc (v := v23) (lv' := [(1, .int v23), (0, .ref (A o)), (2, .int y18)]) hx hb dX11_markMisled_71 hl (k := 1) rfl (by rw [ev23]; rfl) (by decide) rfl (fun ls hl => ?_)
      refine lv_goto (tgt := 2) hx hb dX11_markMisled_74 (by decide) ?_
      exact ih v23 h22 H locs ls hC (lo_sub hl [1, 0] rfl) hw
set_option maxHeartbeats 4000000 in
set_option maxRecDepth 100000 in
theorem c_X11_markMisled (l : Launch) (G : GG) (base : Nat) (A : Nat → Nat) (o : Nat) (h : Hp) (Q : Hp → Prop) (hw : wp_X11_markMisled o h Q) : Met l yX11_markMisled (ww yX11_markMisled cX11_markMisled 5 none) rm_X11_markMisled (va_Pc [.ref (A o)] (PU2 G base A h A h)) (va_Qv Q (PU2 G base A h A) (fun q => base ≤ q)) 0 0 (fun q => base ≤ q) := by
  refine met2_of (own := RX11) (nm := "markMisled") (by decide) rfl rfl (List.forall_mem_cons.mpr ⟨rfl, (fun _ h => absurd h List.not_mem_nil)⟩) (Nat.le_of_ble_eq_true rfl) rfl ?_
  intro p e s m args below meth c H locs ls hM hC hl
  obtain ⟨hx, hb, hr, hml, hown, hts, hg, hs, hlk, hnm⟩ := id hM
  unfold wp_X11_markMisled at hw
  refine lv_iconst (v := 0) hx hb dX11_markMisled_0 (by decide) ?_
  refine lo_istore_n (lv' := [(1, .int ((0 : Int32))), (0, .ref (A o))]) hx hb dX11_markMisled_1 rfl hl (by decide) rfl (fun ls hl => ?_)
  refine t_X11_markMisled_L2 hM o _ Q ?_ fuel (0 : Int32) h H locs ls hC (lo_sub hl [1, 0] rfl) hw
  intro  h24 H locs ls hC hl hw
  exact ret2_v hM hC hw dX11_markMisled_77
abbrev rm_X11_strengthOf : Room := { frames := 6, cells := 0, slots := 0, locals := 169 }
set_option maxRecDepth 100000 in
def wp_X11_strengthOf_L45 (o : Nat) (r1 : Option Nat) (x2 : Int32) (x3 : Int32) (x5 : Int32) (r6 : Option Nat) (K119 : Int32 → Hp → Prop) (Q : Int32 → Hp → Prop) : Nat → Int32 → Int32 → Hp → Prop
  | 0, _, _, _ => False
  | n + 1, x4, x7, h => ((hpK h o).1 = 20 + 9) ∧ ((if (hpI h o 5) ≤ x7 then (K119 x4 h) else (okA h (hpR h o 4) 3 x7 ∧ ((if (hpR h (ad (hpR h o 4)) (x7).toNatClampNeg) = none then (∀ v13 : Int32, v13 = x7 + (1 : Int32) → (wp_X11_strengthOf_L45 o r1 x2 x3 x5 r6 K119 Q n x4 v13 h)) else (wp_X11_isOfScene o x3 x7 h (fun (z15 : Int32) (h14 : Hp) => (if z15 = 0 then (∀ v17 : Int32, v17 = x7 + (1 : Int32) → (wp_X11_strengthOf_L45 o r1 x2 x3 x5 r6 K119 Q n x4 v17 h14)) else (((hpK h14 o).1 = 20 + 9) ∧ (okO h14 r1 2 ∧ (wp_X3_sayingOf (ad r1) r6 (hpR h (ad (hpR h o 4)) (x7).toNatClampNeg) (0 : Int32) (hpR h14 o 15) h14 (fun (z21 : Int32) (h20 : Hp) => (if z21 = (1 : Int32) then (okO h20 r1 2 ∧ (wp_X3_measured (ad r1) r6 (hpR h (ad (hpR h o 4)) (x7).toNatClampNeg) h20 (fun (z26 : Int32) (h25 : Hp) => wp_X2_longest z26 h25 (fun (z28 : Int32) (h27 : Hp) => ∀ v29 : Int32, v29 = (if x4 < z28 then z28 else x4) → (∀ v30 : Int32, v30 = x7 + (1 : Int32) → (wp_X11_strengthOf_L45 o r1 x2 x3 x5 r6 K119 Q n v29 v30 h27)))))) else (∀ v23 : Int32, v23 = x7 + (1 : Int32) → (wp_X11_strengthOf_L45 o r1 x2 x3 x5 r6 K119 Q n x4 v23 h20)))))))))))))))
set_option maxRecDepth 100000 in
def wp_X11_strengthOf_L6 (o : Nat) (r1 : Option Nat) (x2 : Int32) (x3 : Int32) (K125 : Int32 → Hp → Prop) (Q : Int32 → Hp → Prop) : Nat → Int32 → Int32 → Hp → Prop
  | 0, _, _, _ => False
  | n + 1, x4, x5, h => ((hpK h o).1 = 20 + 9) ∧ ((if (hpI h o 5) ≤ x5 then (K125 x4 h) else (okA h (hpR h o 4) 3 x5 ∧ ((if (hpR h (ad (hpR h o 4)) (x5).toNatClampNeg) = none then (∀ v5 : Int32, v5 = x5 + (1 : Int32) → (wp_X11_strengthOf_L6 o r1 x2 x3 K125 Q n x4 v5 h)) else (wp_X11_isOfScene o x2 x5 h (fun (z7 : Int32) (h6 : Hp) => (if z7 = 0 then (∀ v34 : Int32, v34 = x5 + (1 : Int32) → (wp_X11_strengthOf_L6 o r1 x2 x3 K125 Q n x4 v34 h6)) else (wp_X11_strengthOf_L45 o r1 x2 x3 x5 (hpR h (ad (hpR h o 4)) (x5).toNatClampNeg) (fun (y32 : Int32) (h31 : Hp) => ∀ v33 : Int32, v33 = x5 + (1 : Int32) → (wp_X11_strengthOf_L6 o r1 x2 x3 K125 Q n y32 v33 h31)) Q fuel x4 (0 : Int32) h6)))))))))
set_option maxRecDepth 100000 in
def wp_X11_strengthOf (o : Nat) (r1 : Option Nat) (x2 : Int32) (x3 : Int32) (h : Hp) (Q : Int32 → Hp → Prop) : Prop := wp_X11_strengthOf_L6 o r1 x2 x3 (fun (y36 : Int32) (h35 : Hp) => Q y36 h35) Q fuel (-1 : Int32) (0 : Int32) h
set_option maxHeartbeats 4000000 in
set_option maxRecDepth 100000 in
theorem t_X11_strengthOf_L45 {p : Program} {l : Launch} {e : Env} {s : State} {m : MethodId} {args : Array Value} {below : List Frame} {meth : Method} {c : Code} {G : GG} {base : Nat} {A : Nat → Nat} {g0 : Hp} (hM : Mx G base p s m args meth c cX11_strengthOf 9 (some .int) RX11 "strengthOf") (o : Nat) (r1 : Option Nat) (x2 : Int32) (x3 : Int32) (x5 : Int32) (r6 : Option Nat) (K119 : Int32 → Hp → Prop) (Q : Int32 → Hp → Prop) (hK119 : ∀ (y4 : Int32) (h : Hp) (H : Heap) (locs : List Loc) (ls : Array Slot), Cx2 G base A g0 A h s.heap H locs → lo_has ls 9 [(0, .ref (A o)), (1, va_rf (Option.map A r1)), (2, .int x2), (3, .int x3), (4, .int y4), (5, .int x5)] → K119 y4 h → W p l e rm_X11_strengthOf s m args below meth c H locs 0 0 (MQ below (va_Qi Q (PU2 G base A g0 A) (fun q => base ≤ q)) args s 0 0 (fun q => base ≤ q)) (F0 m 119 ls [])) : ∀ (n : Nat) (x4 : Int32) (x7 : Int32) (h : Hp) (H : Heap) (locs : List Loc) (ls : Array Slot), Cx2 G base A g0 A h s.heap H locs → lo_has ls 9 [(0, .ref (A o)), (1, va_rf (Option.map A r1)), (2, .int x2), (3, .int x3), (4, .int x4), (5, .int x5), (6, va_rf (Option.map A r6)), (7, .int x7)] → wp_X11_strengthOf_L45 o r1 x2 x3 x5 r6 K119 Q n x4 x7 h → W p l e rm_X11_strengthOf s m args below meth c H locs 0 0 (MQ below (va_Qi Q (PU2 G base A g0 A) (fun q => base ≤ q)) args s 0 0 (fun q => base ≤ q)) (F0 m 45 ls []) := by
  intro n
  induction n with
  | zero =>
    intro x4 x7 h H locs ls hC hl hw
    rw [wp_X11_strengthOf_L45] at hw
    exact hw.elim
  | succ n ih =>
    intro x4 x7 h H locs ls hC hl hw
    rw [wp_X11_strengthOf_L45] at hw
    obtain ⟨hx, hb, hr, hml, hown, hts, hg, hs, hlk, hnm⟩ := id hM
    refine lv_iload hx hb dX11_strengthOf_45 (lo_at hl 7 rfl) ?_
    refine lv_aload_n hx hb dX11_strengthOf_47 rfl (lo_at hl 0 rfl) ?_
    obtain ⟨k9, hw⟩ := hw
    refine s_getI hx hb hts hown hg hC fb_9_5 k9 mk_f_RX11_122 dX11_strengthOf_48 ?_
    refine lv_icmp_ge (tgt := 119) hx hb dX11_strengthOf_51 (by decide) (fun c10 => ?_) (fun c10 => ?_)
    ·
      replace hw := (if_pos c10).mp hw
      exact hK119 x4 h H locs ls hC (lo_sub hl [0, 1, 2, 3, 4, 5] rfl) hw
    ·
      replace hw := (if_neg c10).mp hw
      refine lv_aload_n hx hb dX11_strengthOf_54 rfl (lo_at hl 0 rfl) ?_
      refine s_getR hx hb hts hown hg hC fb_9_4 k9 mk_f_RX11_23 dX11_strengthOf_55 ?_
      refine lv_iload hx hb dX11_strengthOf_58 (lo_at hl 7 rfl) ?_
      obtain ⟨k11, hw⟩ := hw
      refine sf_2 k11.1 ?_
      refine s_aald (kd := 3) (t0 := 2) hx hb hg hC k11.2.1 (by decide) rfl k11.2.2 dX11_strengthOf_60 ?_
      refine lo_astore (r := Option.map A (hpR h (ad (hpR h o 4)) (x7).toNatClampNeg)) (lv' := [(8, va_rf (Option.map A (hpR h (ad (hpR h o 4)) (x7).toNatClampNeg))), (0, .ref (A o)), (1, va_rf (Option.map A r1)), (2, .int x2), (3, .int x3), (4, .int x4), (5, .int x5), (6, va_rf (Option.map A r6)), (7, .int x7)]) hx hb dX11_strengthOf_61 hl (by decide) rfl (fun ls hl => ?_)
      refine lo_aload (r := Option.map A (hpR h (ad (hpR h o 4)) (x7).toNatClampNeg)) hx hb dX11_strengthOf_63 (lo_at hl 0 rfl) ?_
      refine s_ifnull (r := hpR h (ad (hpR h o 4)) (x7).toNatClampNeg) (A := A) (tgt := 113) hx hb dX11_strengthOf_65 (by decide) (fun c12 => ?_) (fun c12 => ?_)
      ·
        replace hw := (if_pos c12).mp hw
        obtain ⟨v13, ev13⟩ : ∃ y : Int32, y = x7 + (1 : Int32) := ⟨_, rfl⟩
        replace hw := hw v13 ev13
        refine lo_iinc (v := v13) (lv' := [(7, .int v13), (8, va_rf (Option.map A (hpR h (ad (hpR h o 4)) (x7).toNatClampNeg))), (0, .ref (A o)), (1, va_rf (Option.map A r1)), (2, .int x2), (3, .int x3), (4, .int x4), (5, .int x5), (6, va_rf (Option.map A r6))]) hx hb dX11_strengthOf_113 hl (k := 8) rfl (by rw [ev13]; rfl) (by decide) rfl (fun ls hl => ?_)
        refine lv_goto (tgt := 45) hx hb dX11_strengthOf_116 (by decide) ?_
        exact ih x4 v13 h H locs ls hC (lo_sub hl [2, 3, 4, 5, 6, 7, 8, 0] rfl) hw
      ·
        replace hw := (if_neg c12).mp hw
        refine lv_aload_n hx hb dX11_strengthOf_68 rfl (lo_at hl 1 rfl) ?_
        refine lv_iload_n hx hb dX11_strengthOf_69 rfl (lo_at hl 4 rfl) ?_
        refine lv_iload hx hb dX11_strengthOf_70 (lo_at hl 8 rfl) ?_
        refine res2_i hC (run2_V (As := [.int x3, .int x7]) (rest := []) hM hC hl.1.1 kv_RX11_284 (c_X11_isOfScene l G base A o x3 x7 h _ hw) (hc_9) k9 rfl rfl rfl ⟨Nat.le_of_ble_eq_true rfl, Nat.le_of_ble_eq_true rfl⟩ (Nat.le_of_ble_eq_true rfl) ⟨Nat.le_of_ble_eq_true rfl, Nat.le_of_ble_eq_true rfl⟩ dX11_strengthOf_72) (fun z15 h14 H locs hw hC => ?_)
        refine lv_if_eq (tgt := 113) hx hb dX11_strengthOf_75 (by decide) (fun c16 => ?_) (fun c16 => ?_)
        ·
          replace hw := (if_pos c16).mp hw
          obtain ⟨v17, ev17⟩ : ∃ y : Int32, y = x7 + (1 : Int32) := ⟨_, rfl⟩
          replace hw := hw v17 ev17
          refine lo_iinc (v := v17) (lv' := [(7, .int v17), (8, va_rf (Option.map A (hpR h (ad (hpR h o 4)) (x7).toNatClampNeg))), (0, .ref (A o)), (1, va_rf (Option.map A r1)), (2, .int x2), (3, .int x3), (4, .int x4), (5, .int x5), (6, va_rf (Option.map A r6))]) hx hb dX11_strengthOf_113 hl (k := 8) rfl (by rw [ev17]; rfl) (by decide) rfl (fun ls hl => ?_)
          refine lv_goto (tgt := 45) hx hb dX11_strengthOf_116 (by decide) ?_
          exact ih x4 v17 h14 H locs ls hC (lo_sub hl [2, 3, 4, 5, 6, 7, 8, 0] rfl) hw
        ·
          replace hw := (if_neg c16).mp hw
          refine lo_aload_n (r := Option.map A r1) hx hb dX11_strengthOf_78 rfl (lo_at hl 2 rfl) ?_
          refine lo_aload (r := Option.map A r6) hx hb dX11_strengthOf_79 (lo_at hl 7 rfl) ?_
          refine lo_aload (r := Option.map A (hpR h (ad (hpR h o 4)) (x7).toNatClampNeg)) hx hb dX11_strengthOf_81 (lo_at hl 0 rfl) ?_
          refine lv_iconst (v := 0) hx hb dX11_strengthOf_83 (by decide) ?_
          refine lv_aload_n hx hb dX11_strengthOf_84 rfl (lo_at hl 1 rfl) ?_
          obtain ⟨k18, hw⟩ := hw
          refine s_getR hx hb hts hown hg hC fb_9_15 k18 mk_f_RX11_69 dX11_strengthOf_85 ?_
          obtain ⟨k19, hw⟩ := hw
          refine sf_5 k19.1 ?_
          refine res2_i hC (run2_V (As := [va_rf (Option.map A r6), va_rf (Option.map A (hpR h (ad (hpR h o 4)) (x7).toNatClampNeg)), .int ((0 : Int32)), va_rf (Option.map A (hpR h14 o 15))]) (rest := []) hM hC hl.1.1 kv_RX11_237 (c_X3_sayingOf l G base A (ad r1) r6 (hpR h (ad (hpR h o 4)) (x7).toNatClampNeg) (0 : Int32) (hpR h14 o 15) h14 _ hw) (hc_2) k19.2 rfl rfl rfl ⟨Nat.le_of_ble_eq_true rfl, Nat.le_of_ble_eq_true rfl⟩ (Nat.le_of_ble_eq_true rfl) ⟨Nat.le_of_ble_eq_true rfl, Nat.le_of_ble_eq_true rfl⟩ dX11_strengthOf_88) (fun z21 h20 H locs hw hC => ?_)
          refine lv_iconst (v := 1) hx hb dX11_strengthOf_91 (by decide) ?_
          refine lv_icmp_ne (tgt := 113) hx hb dX11_strengthOf_92 (by decide) (fun c22 => ?_) (fun c22 => ?_)
          ·
            replace hw := (if_neg c22).mp hw
            obtain ⟨v23, ev23⟩ : ∃ y : Int32, y = x7 + (1 : Int32) := ⟨_, rfl⟩
            replace hw := hw v23 ev23
            refine lo_iinc (v := v23) (lv' := [(7, .int v23), (8, va_rf (Option.map A (hpR h (ad (hpR h o 4)) (x7).toNatClampNeg))), (0, .ref (A o)), (1, va_rf (Option.map A r1)), (2, .int x2), (3, .int x3), (4, .int x4), (5, .int x5), (6, va_rf (Option.map A r6))]) hx hb dX11_strengthOf_113 hl (k := 8) rfl (by rw [ev23]; rfl) (by decide) rfl (fun ls hl => ?_)
            refine lv_goto (tgt := 45) hx hb dX11_strengthOf_116 (by decide) ?_
            exact ih x4 v23 h20 H locs ls hC (lo_sub hl [2, 3, 4, 5, 6, 7, 8, 0] rfl) hw
          ·
            replace hw := (if_pos c22).mp hw
            refine lv_iload hx hb dX11_strengthOf_95 (lo_at hl 5 rfl) ?_
            refine lo_aload_n (r := Option.map A r1) hx hb dX11_strengthOf_97 rfl (lo_at hl 2 rfl) ?_
            refine lo_aload (r := Option.map A r6) hx hb dX11_strengthOf_98 (lo_at hl 7 rfl) ?_
            refine lo_aload (r := Option.map A (hpR h (ad (hpR h o 4)) (x7).toNatClampNeg)) hx hb dX11_strengthOf_100 (lo_at hl 0 rfl) ?_
            obtain ⟨k24, hw⟩ := hw
            refine sf_3 k24.1 ?_
            refine res2_i hC (run2_V (As := [va_rf (Option.map A r6), va_rf (Option.map A (hpR h (ad (hpR h o 4)) (x7).toNatClampNeg))]) (rest := [.int x4]) hM hC hl.1.1 kv_RX11_199 (c_X3_measured l G base A (ad r1) r6 (hpR h (ad (hpR h o 4)) (x7).toNatClampNeg) h20 _ hw) (hc_2) k24.2 rfl rfl rfl ⟨Nat.le_of_ble_eq_true rfl, Nat.le_of_ble_eq_true rfl⟩ (Nat.le_of_ble_eq_true rfl) ⟨Nat.le_of_ble_eq_true rfl, Nat.le_of_ble_eq_true rfl⟩ dX11_strengthOf_102) (fun z26 h25 H locs hw hC => ?_)
            refine res2_i hC (run2_S (As := [.int z26]) (rest := [.int x4]) hM hC hl.1.1 kv_RX11_212 (c_X2_longest l G base A z26 h25 _ hw) rfl rfl rfl ⟨Nat.le_of_ble_eq_true rfl, Nat.le_of_ble_eq_true rfl⟩ (Nat.le_of_ble_eq_true rfl) ⟨Nat.le_of_ble_eq_true rfl, Nat.le_of_ble_eq_true rfl⟩ dX11_strengthOf_105) (fun z28 h27 H locs hw hC => ?_)
            refine va_mmax hx hb (by rw [hml]; exact hl.1.1.symm) hown (hts _ mk_m_RX11_330) (hts _ mk_math_s_max) (hts _ mk_ini_math) (hts _ mk_math_c_max) (Nat.le_of_ble_eq_true rfl) (Nat.le_of_ble_eq_true rfl) (Nat.le_of_ble_eq_true rfl) (Nat.le_of_ble_eq_true rfl) dX11_strengthOf_108 ?_
            refine lv_topi (fun v29 ev29 => ?_)
            replace hw := hw v29 ev29
            refine lo_istore (lv' := [(4, .int v29), (8, va_rf (Option.map A (hpR h (ad (hpR h o 4)) (x7).toNatClampNeg))), (0, .ref (A o)), (1, va_rf (Option.map A r1)), (2, .int x2), (3, .int x3), (5, .int x5), (6, va_rf (Option.map A r6)), (7, .int x7)]) hx hb dX11_strengthOf_111 hl (by decide) rfl (fun ls hl => ?_)
            obtain ⟨v30, ev30⟩ : ∃ y : Int32, y = x7 + (1 : Int32) := ⟨_, rfl⟩
            replace hw := hw v30 ev30
            refine lo_iinc (v := v30) (lv' := [(7, .int v30), (4, .int v29), (8, va_rf (Option.map A (hpR h (ad (hpR h o 4)) (x7).toNatClampNeg))), (0, .ref (A o)), (1, va_rf (Option.map A r1)), (2, .int x2), (3, .int x3), (5, .int x5), (6, va_rf (Option.map A r6))]) hx hb dX11_strengthOf_113 hl (k := 8) rfl (by rw [ev30]; rfl) (by decide) rfl (fun ls hl => ?_)
            refine lv_goto (tgt := 45) hx hb dX11_strengthOf_116 (by decide) ?_
            exact ih v29 v30 h27 H locs ls hC (lo_sub hl [3, 4, 5, 6, 1, 7, 8, 0] rfl) hw
set_option maxHeartbeats 4000000 in
set_option maxRecDepth 100000 in
theorem t_X11_strengthOf_L6 {p : Program} {l : Launch} {e : Env} {s : State} {m : MethodId} {args : Array Value} {below : List Frame} {meth : Method} {c : Code} {G : GG} {base : Nat} {A : Nat → Nat} {g0 : Hp} (hM : Mx G base p s m args meth c cX11_strengthOf 9 (some .int) RX11 "strengthOf") (o : Nat) (r1 : Option Nat) (x2 : Int32) (x3 : Int32) (K125 : Int32 → Hp → Prop) (Q : Int32 → Hp → Prop) (hK125 : ∀ (y4 : Int32) (h : Hp) (H : Heap) (locs : List Loc) (ls : Array Slot), Cx2 G base A g0 A h s.heap H locs → lo_has ls 9 [(4, .int y4)] → K125 y4 h → W p l e rm_X11_strengthOf s m args below meth c H locs 0 0 (MQ below (va_Qi Q (PU2 G base A g0 A) (fun q => base ≤ q)) args s 0 0 (fun q => base ≤ q)) (F0 m 125 ls [])) : ∀ (n : Nat) (x4 : Int32) (x5 : Int32) (h : Hp) (H : Heap) (locs : List Loc) (ls : Array Slot), Cx2 G base A g0 A h s.heap H locs → lo_has ls 9 [(0, .ref (A o)), (1, va_rf (Option.map A r1)), (2, .int x2), (3, .int x3), (4, .int x4), (5, .int x5)] → wp_X11_strengthOf_L6 o r1 x2 x3 K125 Q n x4 x5 h → W p l e rm_X11_strengthOf s m args below meth c H locs 0 0 (MQ below (va_Qi Q (PU2 G base A g0 A) (fun q => base ≤ q)) args s 0 0 (fun q => base ≤ q)) (F0 m 6 ls []) := by
  intro n
  induction n with
  | zero =>
    intro x4 x5 h H locs ls hC hl hw
    rw [wp_X11_strengthOf_L6] at hw
    exact hw.elim
  | succ n ih =>
    intro x4 x5 h H locs ls hC hl hw
    rw [wp_X11_strengthOf_L6] at hw
    obtain ⟨hx, hb, hr, hml, hown, hts, hg, hs, hlk, hnm⟩ := id hM
    refine lv_iload hx hb dX11_strengthOf_6 (lo_at hl 5 rfl) ?_
    refine lv_aload_n hx hb dX11_strengthOf_8 rfl (lo_at hl 0 rfl) ?_
    obtain ⟨k1, hw⟩ := hw
    refine s_getI hx hb hts hown hg hC fb_9_5 k1 mk_f_RX11_122 dX11_strengthOf_9 ?_
    refine lv_icmp_ge (tgt := 125) hx hb dX11_strengthOf_12 (by decide) (fun c2 => ?_) (fun c2 => ?_)
    ·
      replace hw := (if_pos c2).mp hw
      exact hK125 x4 h H locs ls hC (lo_sub hl [4] rfl) hw
    ·
      replace hw := (if_neg c2).mp hw
      refine lv_aload_n hx hb dX11_strengthOf_15 rfl (lo_at hl 0 rfl) ?_
      refine s_getR hx hb hts hown hg hC fb_9_4 k1 mk_f_RX11_23 dX11_strengthOf_16 ?_
      refine lv_iload hx hb dX11_strengthOf_19 (lo_at hl 5 rfl) ?_
      obtain ⟨k3, hw⟩ := hw
      refine sf_2 k3.1 ?_
      refine s_aald (kd := 3) (t0 := 2) hx hb hg hC k3.2.1 (by decide) rfl k3.2.2 dX11_strengthOf_21 ?_
      refine lo_astore (r := Option.map A (hpR h (ad (hpR h o 4)) (x5).toNatClampNeg)) (lv' := [(6, va_rf (Option.map A (hpR h (ad (hpR h o 4)) (x5).toNatClampNeg))), (0, .ref (A o)), (1, va_rf (Option.map A r1)), (2, .int x2), (3, .int x3), (4, .int x4), (5, .int x5)]) hx hb dX11_strengthOf_22 hl (by decide) rfl (fun ls hl => ?_)
      refine lo_aload (r := Option.map A (hpR h (ad (hpR h o 4)) (x5).toNatClampNeg)) hx hb dX11_strengthOf_24 (lo_at hl 0 rfl) ?_
      refine s_ifnull (r := hpR h (ad (hpR h o 4)) (x5).toNatClampNeg) (A := A) (tgt := 119) hx hb dX11_strengthOf_26 (by decide) (fun c4 => ?_) (fun c4 => ?_)
      ·
        replace hw := (if_pos c4).mp hw
        obtain ⟨v5, ev5⟩ : ∃ y : Int32, y = x5 + (1 : Int32) := ⟨_, rfl⟩
        replace hw := hw v5 ev5
        refine lo_iinc (v := v5) (lv' := [(5, .int v5), (6, va_rf (Option.map A (hpR h (ad (hpR h o 4)) (x5).toNatClampNeg))), (0, .ref (A o)), (1, va_rf (Option.map A r1)), (2, .int x2), (3, .int x3), (4, .int x4)]) hx hb dX11_strengthOf_119 hl (k := 6) rfl (by rw [ev5]; rfl) (by decide) rfl (fun ls hl => ?_)
        refine lv_goto (tgt := 6) hx hb dX11_strengthOf_122 (by decide) ?_
        exact ih x4 v5 h H locs ls hC (lo_sub hl [2, 3, 4, 5, 6, 0] rfl) hw
      ·
        replace hw := (if_neg c4).mp hw
        refine lv_aload_n hx hb dX11_strengthOf_29 rfl (lo_at hl 1 rfl) ?_
        refine lv_iload_n hx hb dX11_strengthOf_30 rfl (lo_at hl 3 rfl) ?_
        refine lv_iload hx hb dX11_strengthOf_31 (lo_at hl 6 rfl) ?_
        refine res2_i hC (run2_V (As := [.int x2, .int x5]) (rest := []) hM hC hl.1.1 kv_RX11_284 (c_X11_isOfScene l G base A o x2 x5 h _ hw) (hc_9) k1 rfl rfl rfl ⟨Nat.le_of_ble_eq_true rfl, Nat.le_of_ble_eq_true rfl⟩ (Nat.le_of_ble_eq_true rfl) ⟨Nat.le_of_ble_eq_true rfl, Nat.le_of_ble_eq_true rfl⟩ dX11_strengthOf_33) (fun z7 h6 H locs hw hC => ?_)
        refine lv_if_ne (tgt := 42) hx hb dX11_strengthOf_36 (by decide) (fun c8 => ?_) (fun c8 => ?_)
        ·
          replace hw := (if_neg c8).mp hw
          refine lv_iconst (v := 0) hx hb dX11_strengthOf_42 (by decide) ?_
          refine lo_istore (lv' := [(7, .int ((0 : Int32))), (6, va_rf (Option.map A (hpR h (ad (hpR h o 4)) (x5).toNatClampNeg))), (0, .ref (A o)), (1, va_rf (Option.map A r1)), (2, .int x2), (3, .int x3), (4, .int x4), (5, .int x5)]) hx hb dX11_strengthOf_43 hl (by decide) rfl (fun ls hl => ?_)
          refine t_X11_strengthOf_L45 hM o r1 x2 x3 x5 (hpR h (ad (hpR h o 4)) (x5).toNatClampNeg) _ Q ?_ fuel x4 (0 : Int32) h6 H locs ls hC (lo_sub hl [2, 3, 4, 5, 6, 7, 1, 0] rfl) hw
          intro y32 h31 H locs ls hC hl hw
          obtain ⟨v33, ev33⟩ : ∃ y : Int32, y = x5 + (1 : Int32) := ⟨_, rfl⟩
          replace hw := hw v33 ev33
          refine lo_iinc (v := v33) (lv' := [(5, .int v33), (0, .ref (A o)), (1, va_rf (Option.map A r1)), (2, .int x2), (3, .int x3), (4, .int y32)]) hx hb dX11_strengthOf_119 hl (k := 5) rfl (by rw [ev33]; rfl) (by decide) rfl (fun ls hl => ?_)
          refine lv_goto (tgt := 6) hx hb dX11_strengthOf_122 (by decide) ?_
          exact ih y32 v33 h31 H locs ls hC (lo_sub hl [1, 2, 3, 4, 5, 0] rfl) hw
        ·
          replace hw := (if_pos c8).mp hw
          refine lv_goto (tgt := 119) hx hb dX11_strengthOf_39 (by decide) ?_
          obtain ⟨v34, ev34⟩ : ∃ y : Int32, y = x5 + (1 : Int32) := ⟨_, rfl⟩
          replace hw := hw v34 ev34
          refine lo_iinc (v := v34) (lv' := [(5, .int v34), (6, va_rf (Option.map A (hpR h (ad (hpR h o 4)) (x5).toNatClampNeg))), (0, .ref (A o)), (1, va_rf (Option.map A r1)), (2, .int x2), (3, .int x3), (4, .int x4)]) hx hb dX11_strengthOf_119 hl (k := 6) rfl (by rw [ev34]; rfl) (by decide) rfl (fun ls hl => ?_)
          refine lv_goto (tgt := 6) hx hb dX11_strengthOf_122 (by decide) ?_
          exact ih x4 v34 h6 H locs ls hC (lo_sub hl [2, 3, 4, 5, 6, 0] rfl) hw
set_option maxHeartbeats 4000000 in
set_option maxRecDepth 100000 in
theorem c_X11_strengthOf (l : Launch) (G : GG) (base : Nat) (A : Nat → Nat) (o : Nat) (r1 : Option Nat) (x2 : Int32) (x3 : Int32) (h : Hp) (Q : Int32 → Hp → Prop) (hw : wp_X11_strengthOf o r1 x2 x3 h Q) : Met l yX11_strengthOf (ww yX11_strengthOf cX11_strengthOf 9 (some .int)) rm_X11_strengthOf (va_Pc [.ref (A o), va_rf (Option.map A r1), .int x2, .int x3] (PU2 G base A h A h)) (va_Qi Q (PU2 G base A h A) (fun q => base ≤ q)) 0 0 (fun q => base ≤ q) := by
  refine met2_of (own := RX11) (nm := "strengthOf") (by decide) rfl rfl (List.forall_mem_cons.mpr ⟨rfl, (List.forall_mem_cons.mpr ⟨va_rf_cat _, (List.forall_mem_cons.mpr ⟨rfl, (List.forall_mem_cons.mpr ⟨rfl, (fun _ h => absurd h List.not_mem_nil)⟩)⟩)⟩)⟩) (Nat.le_of_ble_eq_true rfl) rfl ?_
  intro p e s m args below meth c H locs ls hM hC hl
  obtain ⟨hx, hb, hr, hml, hown, hts, hg, hs, hlk, hnm⟩ := id hM
  unfold wp_X11_strengthOf at hw
  refine lv_iconst (v := -1) hx hb dX11_strengthOf_0 (by decide) ?_
  refine lo_istore (lv' := [(4, .int ((-1 : Int32))), (0, .ref (A o)), (1, va_rf (Option.map A r1)), (2, .int x2), (3, .int x3)]) hx hb dX11_strengthOf_1 hl (by decide) rfl (fun ls hl => ?_)
  refine lv_iconst (v := 0) hx hb dX11_strengthOf_3 (by decide) ?_
  refine lo_istore (lv' := [(5, .int ((0 : Int32))), (4, .int ((-1 : Int32))), (0, .ref (A o)), (1, va_rf (Option.map A r1)), (2, .int x2), (3, .int x3)]) hx hb dX11_strengthOf_4 hl (by decide) rfl (fun ls hl => ?_)
  refine t_X11_strengthOf_L6 hM o r1 x2 x3 _ Q ?_ fuel (-1 : Int32) (0 : Int32) h H locs ls hC (lo_sub hl [2, 3, 4, 5, 1, 0] rfl) hw
  intro y36 h35 H locs ls hC hl hw
  refine lv_iload hx hb dX11_strengthOf_125 (lo_at hl 0 rfl) ?_
  exact ret2_i hM hC hw dX11_strengthOf_127
abbrev rm_X11_weakest : Room := { frames := 7, cells := 0, slots := 0, locals := 197 }
set_option maxRecDepth 100000 in
def wp_X11_weakest_L15 (o : Nat) (r1 : Option Nat) (x3 : Int32) (K73 : Int32 → Hp → Prop) (Q : Int32 → Hp → Prop) : Nat → Int32 → Int32 → Hp → Prop
  | 0, _, _, _ => False
  | n + 1, x2, x4, h => (if (8 : Int32) ≤ x4 then (K73 x2 h) else (((hpK h o).1 = 20 + 9) ∧ (wp_X11_strengthOf o r1 x3 x4 h (fun (z6 : Int32) (h5 : Hp) => ∀ v7 : Int32, v7 = (((z6 * (8 : Int32)) + x3) * (8 : Int32)) + x4 → ((if z6 = (-1 : Int32) then (∀ v9 : Int32, v9 = x4 + (1 : Int32) → (wp_X11_weakest_L15 o r1 x3 K73 Q n x2 v9 h5)) else ((if x2 = (-1 : Int32) then (∀ v11 : Int32, v11 = x4 + (1 : Int32) → (wp_X11_weakest_L15 o r1 x3 K73 Q n v7 v11 h5)) else ((if x2 ≤ v7 then (∀ v13 : Int32, v13 = x4 + (1 : Int32) → (wp_X11_weakest_L15 o r1 x3 K73 Q n x2 v13 h5)) else (∀ v14 : Int32, v14 = x4 + (1 : Int32) → (wp_X11_weakest_L15 o r1 x3 K73 Q n v7 v14 h5))))))))))))
set_option maxRecDepth 100000 in
def wp_X11_weakest_L4 (o : Nat) (r1 : Option Nat) (K79 : Int32 → Hp → Prop) (Q : Int32 → Hp → Prop) : Nat → Int32 → Int32 → Hp → Prop
  | 0, _, _, _ => False
  | n + 1, x2, x3, h => (if (8 : Int32) ≤ x3 then (K79 x2 h) else (∀ v2 : Int32, v2 = x3 + (1 : Int32) → (wp_X11_weakest_L15 o r1 x3 (fun (y16 : Int32) (h15 : Hp) => ∀ v17 : Int32, v17 = x3 + (1 : Int32) → (wp_X11_weakest_L4 o r1 K79 Q n y16 v17 h15)) Q fuel x2 v2 h)))
set_option maxRecDepth 100000 in
def wp_X11_weakest (o : Nat) (r1 : Option Nat) (h : Hp) (Q : Int32 → Hp → Prop) : Prop := wp_X11_weakest_L4 o r1 (fun (y19 : Int32) (h18 : Hp) => Q y19 h18) Q fuel (-1 : Int32) (0 : Int32) h
set_option maxHeartbeats 4000000 in
set_option maxRecDepth 100000 in
theorem t_X11_weakest_L15 {p : Program} {l : Launch} {e : Env} {s : State} {m : MethodId} {args : Array Value} {below : List Frame} {meth : Method} {c : Code} {G : GG} {base : Nat} {A : Nat → Nat} {g0 : Hp} (hM : Mx G base p s m args meth c cX11_weakest 7 (some .int) RX11 "weakest") (o : Nat) (r1 : Option Nat) (x3 : Int32) (K73 : Int32 → Hp → Prop) (Q : Int32 → Hp → Prop) (hK73 : ∀ (y2 : Int32) (h : Hp) (H : Heap) (locs : List Loc) (ls : Array Slot), Cx2 G base A g0 A h s.heap H locs → lo_has ls 7 [(0, .ref (A o)), (1, va_rf (Option.map A r1)), (2, .int y2), (3, .int x3)] → K73 y2 h → W p l e rm_X11_weakest s m args below meth c H locs 0 0 (MQ below (va_Qi Q (PU2 G base A g0 A) (fun q => base ≤ q)) args s 0 0 (fun q => base ≤ q)) (F0 m 73 ls [])) : ∀ (n : Nat) (x2 : Int32) (x4 : Int32) (h : Hp) (H : Heap) (locs : List Loc) (ls : Array Slot), Cx2 G base A g0 A h s.heap H locs → lo_has ls 7 [(0, .ref (A o)), (1, va_rf (Option.map A r1)), (2, .int x2), (3, .int x3), (4, .int x4)] → wp_X11_weakest_L15 o r1 x3 K73 Q n x2 x4 h → W p l e rm_X11_weakest s m args below meth c H locs 0 0 (MQ below (va_Qi Q (PU2 G base A g0 A) (fun q => base ≤ q)) args s 0 0 (fun q => base ≤ q)) (F0 m 15 ls []) := by
  intro n
  induction n with
  | zero =>
    intro x2 x4 h H locs ls hC hl hw
    rw [wp_X11_weakest_L15] at hw
    exact hw.elim
  | succ n ih =>
    intro x2 x4 h H locs ls hC hl hw
    rw [wp_X11_weakest_L15] at hw
    obtain ⟨hx, hb, hr, hml, hown, hts, hg, hs, hlk, hnm⟩ := id hM
    refine lv_iload hx hb dX11_weakest_15 (lo_at hl 4 rfl) ?_
    refine lv_bipush (v := 8) hx hb dX11_weakest_17 (by decide) ?_
    refine lv_icmp_ge (tgt := 73) hx hb dX11_weakest_19 (by decide) (fun c3 => ?_) (fun c3 => ?_)
    ·
      replace hw := (if_pos c3).mp hw
      exact hK73 x2 h H locs ls hC (lo_sub hl [0, 1, 2, 3] rfl) hw
    ·
      replace hw := (if_neg c3).mp hw
      refine lv_aload_n hx hb dX11_weakest_22 rfl (lo_at hl 0 rfl) ?_
      refine lo_aload_n (r := Option.map A r1) hx hb dX11_weakest_23 rfl (lo_at hl 1 rfl) ?_
      refine lv_iload_n hx hb dX11_weakest_24 rfl (lo_at hl 3 rfl) ?_
      refine lv_iload hx hb dX11_weakest_25 (lo_at hl 4 rfl) ?_
      obtain ⟨k4, hw⟩ := hw
      refine res2_i hC (run2_V (As := [va_rf (Option.map A r1), .int x3, .int x4]) (rest := []) hM hC hl.1.1 kv_RX11_335 (c_X11_strengthOf l G base A o r1 x3 x4 h _ hw) (hc_9) k4 rfl rfl rfl ⟨Nat.le_of_ble_eq_true rfl, Nat.le_of_ble_eq_true rfl⟩ (Nat.le_of_ble_eq_true rfl) ⟨Nat.le_of_ble_eq_true rfl, Nat.le_of_ble_eq_true rfl⟩ dX11_weakest_27) (fun z6 h5 H locs hw hC => ?_)
      refine lo_istore (lv' := [(5, .int z6), (0, .ref (A o)), (1, va_rf (Option.map A r1)), (2, .int x2), (3, .int x3), (4, .int x4)]) hx hb dX11_weakest_30 hl (by decide) rfl (fun ls hl => ?_)
      refine lv_iload hx hb dX11_weakest_32 (lo_at hl 0 rfl) ?_
      refine lv_bipush (v := 8) hx hb dX11_weakest_34 (by decide) ?_
      refine lv_imul hx hb dX11_weakest_36 ?_
      refine lv_iload_n hx hb dX11_weakest_37 rfl (lo_at hl 4 rfl) ?_
      refine lv_iadd hx hb dX11_weakest_38 ?_
      refine lv_bipush (v := 8) hx hb dX11_weakest_39 (by decide) ?_
      refine lv_imul hx hb dX11_weakest_41 ?_
      refine lv_iload hx hb dX11_weakest_42 (lo_at hl 5 rfl) ?_
      refine lv_iadd hx hb dX11_weakest_44 ?_
      refine lv_topi (fun v7 ev7 => ?_)
      replace hw := hw v7 ev7
      refine lo_istore (lv' := [(6, .int v7), (5, .int z6), (0, .ref (A o)), (1, va_rf (Option.map A r1)), (2, .int x2), (3, .int x3), (4, .int x4)]) hx hb dX11_weakest_45 hl (by decide) rfl (fun ls hl => ?_)
      refine lv_iload hx hb dX11_weakest_47 (lo_at hl 1 rfl) ?_
      refine lv_iconst (v := -1) hx hb dX11_weakest_49 (by decide) ?_
      refine lv_icmp_eq (tgt := 67) hx hb dX11_weakest_50 (by decide) (fun c8 => ?_) (fun c8 => ?_)
      ·
        replace hw := (if_pos c8).mp hw
        obtain ⟨v9, ev9⟩ : ∃ y : Int32, y = x4 + (1 : Int32) := ⟨_, rfl⟩
        replace hw := hw v9 ev9
        refine lo_iinc (v := v9) (lv' := [(4, .int v9), (6, .int v7), (5, .int z6), (0, .ref (A o)), (1, va_rf (Option.map A r1)), (2, .int x2), (3, .int x3)]) hx hb dX11_weakest_67 hl (k := 6) rfl (by rw [ev9]; rfl) (by decide) rfl (fun ls hl => ?_)
        refine lv_goto (tgt := 15) hx hb dX11_weakest_70 (by decide) ?_
        exact ih x2 v9 h5 H locs ls hC (lo_sub hl [3, 4, 5, 6, 0] rfl) hw
      ·
        replace hw := (if_neg c8).mp hw
        refine lv_iload_n hx hb dX11_weakest_53 rfl (lo_at hl 4 rfl) ?_
        refine lv_iconst (v := -1) hx hb dX11_weakest_54 (by decide) ?_
        refine lv_icmp_eq (tgt := 64) hx hb dX11_weakest_55 (by decide) (fun c10 => ?_) (fun c10 => ?_)
        ·
          replace hw := (if_pos c10).mp hw
          refine lv_iload hx hb dX11_weakest_64 (lo_at hl 0 rfl) ?_
          refine lo_istore_n (lv' := [(2, .int v7), (6, .int v7), (5, .int z6), (0, .ref (A o)), (1, va_rf (Option.map A r1)), (3, .int x3), (4, .int x4)]) hx hb dX11_weakest_66 rfl hl (by decide) rfl (fun ls hl => ?_)
          obtain ⟨v11, ev11⟩ : ∃ y : Int32, y = x4 + (1 : Int32) := ⟨_, rfl⟩
          replace hw := hw v11 ev11
          refine lo_iinc (v := v11) (lv' := [(4, .int v11), (2, .int v7), (6, .int v7), (5, .int z6), (0, .ref (A o)), (1, va_rf (Option.map A r1)), (3, .int x3)]) hx hb dX11_weakest_67 hl (k := 6) rfl (by rw [ev11]; rfl) (by decide) rfl (fun ls hl => ?_)
          refine lv_goto (tgt := 15) hx hb dX11_weakest_70 (by decide) ?_
          exact ih v7 v11 h5 H locs ls hC (lo_sub hl [4, 5, 1, 6, 0] rfl) hw
        ·
          replace hw := (if_neg c10).mp hw
          refine lv_iload hx hb dX11_weakest_58 (lo_at hl 0 rfl) ?_
          refine lv_iload_n hx hb dX11_weakest_60 rfl (lo_at hl 4 rfl) ?_
          refine lv_icmp_ge (tgt := 67) hx hb dX11_weakest_61 (by decide) (fun c12 => ?_) (fun c12 => ?_)
          ·
            replace hw := (if_pos c12).mp hw
            obtain ⟨v13, ev13⟩ : ∃ y : Int32, y = x4 + (1 : Int32) := ⟨_, rfl⟩
            replace hw := hw v13 ev13
            refine lo_iinc (v := v13) (lv' := [(4, .int v13), (6, .int v7), (5, .int z6), (0, .ref (A o)), (1, va_rf (Option.map A r1)), (2, .int x2), (3, .int x3)]) hx hb dX11_weakest_67 hl (k := 6) rfl (by rw [ev13]; rfl) (by decide) rfl (fun ls hl => ?_)
            refine lv_goto (tgt := 15) hx hb dX11_weakest_70 (by decide) ?_
            exact ih x2 v13 h5 H locs ls hC (lo_sub hl [3, 4, 5, 6, 0] rfl) hw
          ·
            replace hw := (if_neg c12).mp hw
            refine lv_iload hx hb dX11_weakest_64 (lo_at hl 0 rfl) ?_
            refine lo_istore_n (lv' := [(2, .int v7), (6, .int v7), (5, .int z6), (0, .ref (A o)), (1, va_rf (Option.map A r1)), (3, .int x3), (4, .int x4)]) hx hb dX11_weakest_66 rfl hl (by decide) rfl (fun ls hl => ?_)
            obtain ⟨v14, ev14⟩ : ∃ y : Int32, y = x4 + (1 : Int32) := ⟨_, rfl⟩
            replace hw := hw v14 ev14
            refine lo_iinc (v := v14) (lv' := [(4, .int v14), (2, .int v7), (6, .int v7), (5, .int z6), (0, .ref (A o)), (1, va_rf (Option.map A r1)), (3, .int x3)]) hx hb dX11_weakest_67 hl (k := 6) rfl (by rw [ev14]; rfl) (by decide) rfl (fun ls hl => ?_)
            refine lv_goto (tgt := 15) hx hb dX11_weakest_70 (by decide) ?_
            exact ih v7 v14 h5 H locs ls hC (lo_sub hl [4, 5, 1, 6, 0] rfl) hw
set_option maxHeartbeats 4000000 in
set_option maxRecDepth 100000 in
theorem t_X11_weakest_L4 {p : Program} {l : Launch} {e : Env} {s : State} {m : MethodId} {args : Array Value} {below : List Frame} {meth : Method} {c : Code} {G : GG} {base : Nat} {A : Nat → Nat} {g0 : Hp} (hM : Mx G base p s m args meth c cX11_weakest 7 (some .int) RX11 "weakest") (o : Nat) (r1 : Option Nat) (K79 : Int32 → Hp → Prop) (Q : Int32 → Hp → Prop) (hK79 : ∀ (y2 : Int32) (h : Hp) (H : Heap) (locs : List Loc) (ls : Array Slot), Cx2 G base A g0 A h s.heap H locs → lo_has ls 7 [(2, .int y2)] → K79 y2 h → W p l e rm_X11_weakest s m args below meth c H locs 0 0 (MQ below (va_Qi Q (PU2 G base A g0 A) (fun q => base ≤ q)) args s 0 0 (fun q => base ≤ q)) (F0 m 79 ls [])) : ∀ (n : Nat) (x2 : Int32) (x3 : Int32) (h : Hp) (H : Heap) (locs : List Loc) (ls : Array Slot), Cx2 G base A g0 A h s.heap H locs → lo_has ls 7 [(0, .ref (A o)), (1, va_rf (Option.map A r1)), (2, .int x2), (3, .int x3)] → wp_X11_weakest_L4 o r1 K79 Q n x2 x3 h → W p l e rm_X11_weakest s m args below meth c H locs 0 0 (MQ below (va_Qi Q (PU2 G base A g0 A) (fun q => base ≤ q)) args s 0 0 (fun q => base ≤ q)) (F0 m 4 ls []) := by
  intro n
  induction n with
  | zero =>
    intro x2 x3 h H locs ls hC hl hw
    rw [wp_X11_weakest_L4] at hw
    exact hw.elim
  | succ n ih =>
    intro x2 x3 h H locs ls hC hl hw
    rw [wp_X11_weakest_L4] at hw
    obtain ⟨hx, hb, hr, hml, hown, hts, hg, hs, hlk, hnm⟩ := id hM
    refine lv_iload_n hx hb dX11_weakest_4 rfl (lo_at hl 3 rfl) ?_
    refine lv_bipush (v := 8) hx hb dX11_weakest_5 (by decide) ?_
    refine lv_icmp_ge (tgt := 79) hx hb dX11_weakest_7 (by decide) (fun c1 => ?_) (fun c1 => ?_)
    ·
      replace hw := (if_pos c1).mp hw
      exact hK79 x2 h H locs ls hC (lo_sub hl [2] rfl) hw
    ·
      replace hw := (if_neg c1).mp hw
      refine lv_iload_n hx hb dX11_weakest_10 rfl (lo_at hl 3 rfl) ?_
      refine lv_iconst (v := 1) hx hb dX11_weakest_11 (by decide) ?_
      refine lv_iadd hx hb dX11_weakest_12 ?_
      refine lv_topi (fun v2 ev2 => ?_)
      replace hw := hw v2 ev2
      refine lo_istore (lv' := [(4, .int v2), (0, .ref (A o)), (1, va_rf (Option.map A r1)), (2, .int x2), (3, .int x3)]) hx hb dX11_weakest_13 hl (by decide) rfl (fun ls hl => ?_)
      refine t_X11_weakest_L15 hM o r1 x3 _ Q ?_ fuel x2 v2 h H locs ls hC (lo_sub hl [1, 2, 3, 4, 0] rfl) hw
      intro y16 h15 H locs ls hC hl hw
      obtain ⟨v17, ev17⟩ : ∃ y : Int32, y = x3 + (1 : Int32) := ⟨_, rfl⟩
      replace hw := hw v17 ev17
      refine lo_iinc (v := v17) (lv' := [(3, .int v17), (0, .ref (A o)), (1, va_rf (Option.map A r1)), (2, .int y16)]) hx hb dX11_weakest_73 hl (k := 3) rfl (by rw [ev17]; rfl) (by decide) rfl (fun ls hl => ?_)
      refine lv_goto (tgt := 4) hx hb dX11_weakest_76 (by decide) ?_
      exact ih y16 v17 h15 H locs ls hC (lo_sub hl [1, 2, 3, 0] rfl) hw
set_option maxHeartbeats 4000000 in
set_option maxRecDepth 100000 in
theorem c_X11_weakest (l : Launch) (G : GG) (base : Nat) (A : Nat → Nat) (o : Nat) (r1 : Option Nat) (h : Hp) (Q : Int32 → Hp → Prop) (hw : wp_X11_weakest o r1 h Q) : Met l yX11_weakest (ww yX11_weakest cX11_weakest 7 (some .int)) rm_X11_weakest (va_Pc [.ref (A o), va_rf (Option.map A r1)] (PU2 G base A h A h)) (va_Qi Q (PU2 G base A h A) (fun q => base ≤ q)) 0 0 (fun q => base ≤ q) := by
  refine met2_of (own := RX11) (nm := "weakest") (by decide) rfl rfl (List.forall_mem_cons.mpr ⟨rfl, (List.forall_mem_cons.mpr ⟨va_rf_cat _, (fun _ h => absurd h List.not_mem_nil)⟩)⟩) (Nat.le_of_ble_eq_true rfl) rfl ?_
  intro p e s m args below meth c H locs ls hM hC hl
  obtain ⟨hx, hb, hr, hml, hown, hts, hg, hs, hlk, hnm⟩ := id hM
  unfold wp_X11_weakest at hw
  refine lv_iconst (v := -1) hx hb dX11_weakest_0 (by decide) ?_
  refine lo_istore_n (lv' := [(2, .int ((-1 : Int32))), (0, .ref (A o)), (1, va_rf (Option.map A r1))]) hx hb dX11_weakest_1 rfl hl (by decide) rfl (fun ls hl => ?_)
  refine lv_iconst (v := 0) hx hb dX11_weakest_2 (by decide) ?_
  refine lo_istore_n (lv' := [(3, .int ((0 : Int32))), (2, .int ((-1 : Int32))), (0, .ref (A o)), (1, va_rf (Option.map A r1))]) hx hb dX11_weakest_3 rfl hl (by decide) rfl (fun ls hl => ?_)
  refine t_X11_weakest_L4 hM o r1 _ Q ?_ fuel (-1 : Int32) (0 : Int32) h H locs ls hC (lo_sub hl [2, 3, 1, 0] rfl) hw
  intro y19 h18 H locs ls hC hl hw
  refine lv_iload_n hx hb dX11_weakest_79 rfl (lo_at hl 0 rfl) ?_
  exact ret2_i hM hC hw dX11_weakest_80
abbrev rm_X11_makeGroups : Room := { frames := 7, cells := 0, slots := 0, locals := 197 }
set_option maxRecDepth 100000 in
def wp_X11_makeGroups_L2 (o : Nat) (r1 : Option Nat) (K24 : Hp → Prop) (Q : Hp → Prop) : Nat → Int32 → Hp → Prop
  | 0, _, _ => False
  | n + 1, x2, h => (if (8 : Int32) ≤ x2 then (K24 h) else (((hpK h o).1 = 20 + 9) ∧ (okO h (hpR h o 15) 8 ∧ (okA h (hpR h (ad (hpR h o 15)) 5) 1 x2 ∧ (∀ h5 : Hp, h5 = stI h (ad (hpR h (ad (hpR h o 15)) 5)) (x2).toNatClampNeg x2 → (∀ v6 : Int32, v6 = x2 + (1 : Int32) → (wp_X11_makeGroups_L2 o r1 K24 Q n v6 h5)))))))
set_option maxRecDepth 100000 in
def wp_X11_makeGroups_L36 (o : Nat) (r1 : Option Nat) (x2 : Int32) (K105 : Hp → Prop) (Q : Hp → Prop) : Nat → Int32 → Hp → Prop
  | 0, _, _ => False
  | n + 1, x3, h => (if (8 : Int32) ≤ x3 then (K105 h) else (((hpK h o).1 = 20 + 9) ∧ (okO h (hpR h o 15) 8 ∧ (okA h (hpR h (ad (hpR h o 15)) 5) 1 x2 ∧ (∀ v14 : Int32, v14 = hpI h (ad (hpR h (ad (hpR h o 15)) 5)) (x2).toNatClampNeg → (okA h (hpR h (ad (hpR h o 15)) 5) 1 x3 ∧ (∀ v16 : Int32, v16 = hpI h (ad (hpR h (ad (hpR h o 15)) 5)) (x3).toNatClampNeg → ((if v14 = v16 then (∀ v18 : Int32, v18 = x3 + (1 : Int32) → (wp_X11_makeGroups_L36 o r1 x2 K105 Q n v18 h)) else (wp_X11_strengthOf o r1 x2 x3 h (fun (z20 : Int32) (h19 : Hp) => (if z20 = (-1 : Int32) then (∀ v22 : Int32, v22 = x3 + (1 : Int32) → (wp_X11_makeGroups_L36 o r1 x2 K105 Q n v22 h19)) else (((hpK h19 o).1 = 20 + 9) ∧ (okO h19 (hpR h19 o 15) 8 ∧ (okA h19 (hpR h19 (ad (hpR h19 o 15)) 5) 1 x2 ∧ (∀ v26 : Int32, v26 = hpI h19 (ad (hpR h19 (ad (hpR h19 o 15)) 5)) (x2).toNatClampNeg → (okA h19 (hpR h19 (ad (hpR h19 o 15)) 5) 1 x3 ∧ (∀ v28 : Int32, v28 = hpI h19 (ad (hpR h19 (ad (hpR h19 o 15)) 5)) (x3).toNatClampNeg → (wp_X10_uniteGroups (ad (hpR h19 o 15)) v26 v28 h19 (fun (h29 : Hp) => ∀ v31 : Int32, v31 = x3 + (1 : Int32) → (wp_X11_makeGroups_L36 o r1 x2 K105 Q n v31 h29)))))))))))))))))))))
set_option maxRecDepth 100000 in
def wp_X11_makeGroups_L26 (o : Nat) (r1 : Option Nat) (K111 : Hp → Prop) (Q : Hp → Prop) : Nat → Int32 → Hp → Prop
  | 0, _, _ => False
  | n + 1, x2, h => (if (8 : Int32) ≤ x2 then (K111 h) else (∀ v9 : Int32, v9 = x2 + (1 : Int32) → (wp_X11_makeGroups_L36 o r1 x2 (fun (h32 : Hp) => ∀ v33 : Int32, v33 = x2 + (1 : Int32) → (wp_X11_makeGroups_L26 o r1 K111 Q n v33 h32)) Q fuel v9 h)))
set_option maxRecDepth 100000 in
def wp_X11_makeGroups (o : Nat) (r1 : Option Nat) (h : Hp) (Q : Hp → Prop) : Prop := wp_X11_makeGroups_L2 o r1 (fun (h7 : Hp) => wp_X11_makeGroups_L26 o r1 (fun (h34 : Hp) => Q h34) Q fuel (0 : Int32) h7) Q fuel (0 : Int32) h
set_option maxHeartbeats 4000000 in
set_option maxRecDepth 100000 in
theorem t_X11_makeGroups_L2 {p : Program} {l : Launch} {e : Env} {s : State} {m : MethodId} {args : Array Value} {below : List Frame} {meth : Method} {c : Code} {G : GG} {base : Nat} {A : Nat → Nat} {g0 : Hp} (hM : Mx G base p s m args meth c cX11_makeGroups 4 none RX11 "makeGroups") (o : Nat) (r1 : Option Nat) (K24 : Hp → Prop) (Q : Hp → Prop) (hK24 : ∀ (h : Hp) (H : Heap) (locs : List Loc) (ls : Array Slot), Cx2 G base A g0 A h s.heap H locs → lo_has ls 4 [(0, .ref (A o)), (1, va_rf (Option.map A r1))] → K24 h → W p l e rm_X11_makeGroups s m args below meth c H locs 0 0 (MQ below (va_Qv Q (PU2 G base A g0 A) (fun q => base ≤ q)) args s 0 0 (fun q => base ≤ q)) (F0 m 24 ls [])) : ∀ (n : Nat) (x2 : Int32) (h : Hp) (H : Heap) (locs : List Loc) (ls : Array Slot), Cx2 G base A g0 A h s.heap H locs → lo_has ls 4 [(0, .ref (A o)), (1, va_rf (Option.map A r1)), (2, .int x2)] → wp_X11_makeGroups_L2 o r1 K24 Q n x2 h → W p l e rm_X11_makeGroups s m args below meth c H locs 0 0 (MQ below (va_Qv Q (PU2 G base A g0 A) (fun q => base ≤ q)) args s 0 0 (fun q => base ≤ q)) (F0 m 2 ls []) := by
  intro n
  induction n with
  | zero =>
    intro x2 h H locs ls hC hl hw
    rw [wp_X11_makeGroups_L2] at hw
    exact hw.elim
  | succ n ih =>
    intro x2 h H locs ls hC hl hw
    rw [wp_X11_makeGroups_L2] at hw
    obtain ⟨hx, hb, hr, hml, hown, hts, hg, hs, hlk, hnm⟩ := id hM
    refine lv_iload_n hx hb dX11_makeGroups_2 rfl (lo_at hl 2 rfl) ?_
    refine lv_bipush (v := 8) hx hb dX11_makeGroups_3 (by decide) ?_
    refine lv_icmp_ge (tgt := 24) hx hb dX11_makeGroups_5 (by decide) (fun c1 => ?_) (fun c1 => ?_)
    ·
      replace hw := (if_pos c1).mp hw
      exact hK24  h H locs ls hC (lo_sub hl [0, 1] rfl) hw
    ·
      replace hw := (if_neg c1).mp hw
      refine lv_aload_n hx hb dX11_makeGroups_8 rfl (lo_at hl 0 rfl) ?_
      obtain ⟨k2, hw⟩ := hw
      refine s_getR hx hb hts hown hg hC fb_9_15 k2 mk_f_RX11_69 dX11_makeGroups_9 ?_
      obtain ⟨k3, hw⟩ := hw
      refine sf_1 k3.1 ?_
      refine s_getR hx hb hts hown hg hC fb_8_5 k3.2 mk_f_RX11_299 dX11_makeGroups_12 ?_
      refine lv_iload_n hx hb dX11_makeGroups_15 rfl (lo_at hl 2 rfl) ?_
      refine lv_iload_n hx hb dX11_makeGroups_16 rfl (lo_at hl 2 rfl) ?_
      obtain ⟨k4, hw⟩ := hw
      refine sf_3 k4.1 ?_
      refine s_iast hx hb hg hC k4.2.1 k4.2.2 dX11_makeGroups_17 (fun h5 H locs eh5 hC => ?_)
      replace hw := hw h5 eh5
      obtain ⟨v6, ev6⟩ : ∃ y : Int32, y = x2 + (1 : Int32) := ⟨_, rfl⟩
      replace hw := hw v6 ev6
      refine lo_iinc (v := v6) (lv' := [(2, .int v6), (0, .ref (A o)), (1, va_rf (Option.map A r1))]) hx hb dX11_makeGroups_18 hl (k := 2) rfl (by rw [ev6]; rfl) (by decide) rfl (fun ls hl => ?_)
      refine lv_goto (tgt := 2) hx hb dX11_makeGroups_21 (by decide) ?_
      exact ih v6 h5 H locs ls hC (lo_sub hl [1, 2, 0] rfl) hw
set_option maxHeartbeats 4000000 in
set_option maxRecDepth 100000 in
theorem t_X11_makeGroups_L36 {p : Program} {l : Launch} {e : Env} {s : State} {m : MethodId} {args : Array Value} {below : List Frame} {meth : Method} {c : Code} {G : GG} {base : Nat} {A : Nat → Nat} {g0 : Hp} (hM : Mx G base p s m args meth c cX11_makeGroups 4 none RX11 "makeGroups") (o : Nat) (r1 : Option Nat) (x2 : Int32) (K105 : Hp → Prop) (Q : Hp → Prop) (hK105 : ∀ (h : Hp) (H : Heap) (locs : List Loc) (ls : Array Slot), Cx2 G base A g0 A h s.heap H locs → lo_has ls 4 [(0, .ref (A o)), (1, va_rf (Option.map A r1)), (2, .int x2)] → K105 h → W p l e rm_X11_makeGroups s m args below meth c H locs 0 0 (MQ below (va_Qv Q (PU2 G base A g0 A) (fun q => base ≤ q)) args s 0 0 (fun q => base ≤ q)) (F0 m 105 ls [])) : ∀ (n : Nat) (x3 : Int32) (h : Hp) (H : Heap) (locs : List Loc) (ls : Array Slot), Cx2 G base A g0 A h s.heap H locs → lo_has ls 4 [(0, .ref (A o)), (1, va_rf (Option.map A r1)), (2, .int x2), (3, .int x3)] → wp_X11_makeGroups_L36 o r1 x2 K105 Q n x3 h → W p l e rm_X11_makeGroups s m args below meth c H locs 0 0 (MQ below (va_Qv Q (PU2 G base A g0 A) (fun q => base ≤ q)) args s 0 0 (fun q => base ≤ q)) (F0 m 36 ls []) := by
  intro n
  induction n with
  | zero =>
    intro x3 h H locs ls hC hl hw
    rw [wp_X11_makeGroups_L36] at hw
    exact hw.elim
  | succ n ih =>
    intro x3 h H locs ls hC hl hw
    rw [wp_X11_makeGroups_L36] at hw
    obtain ⟨hx, hb, hr, hml, hown, hts, hg, hs, hlk, hnm⟩ := id hM
    refine lv_iload_n hx hb dX11_makeGroups_36 rfl (lo_at hl 3 rfl) ?_
    refine lv_bipush (v := 8) hx hb dX11_makeGroups_37 (by decide) ?_
    refine lv_icmp_ge (tgt := 105) hx hb dX11_makeGroups_39 (by decide) (fun c10 => ?_) (fun c10 => ?_)
    ·
      replace hw := (if_pos c10).mp hw
      exact hK105  h H locs ls hC (lo_sub hl [0, 1, 2] rfl) hw
    ·
      replace hw := (if_neg c10).mp hw
      refine lv_aload_n hx hb dX11_makeGroups_42 rfl (lo_at hl 0 rfl) ?_
      obtain ⟨k11, hw⟩ := hw
      refine s_getR hx hb hts hown hg hC fb_9_15 k11 mk_f_RX11_69 dX11_makeGroups_43 ?_
      obtain ⟨k12, hw⟩ := hw
      refine sf_1 k12.1 ?_
      refine s_getR hx hb hts hown hg hC fb_8_5 k12.2 mk_f_RX11_299 dX11_makeGroups_46 ?_
      refine lv_iload_n hx hb dX11_makeGroups_49 rfl (lo_at hl 2 rfl) ?_
      obtain ⟨k13, hw⟩ := hw
      refine sf_2 k13.1 ?_
      refine s_iald hx hb hg hC k13.2.1 k13.2.2 dX11_makeGroups_50 ?_
      refine lv_topi (fun v14 ev14 => ?_)
      replace hw := hw v14 ev14
      refine lv_aload_n hx hb dX11_makeGroups_51 rfl (lo_at hl 0 rfl) ?_
      refine s_getR hx hb hts hown hg hC fb_9_15 k11 mk_f_RX11_69 dX11_makeGroups_52 ?_
      refine sf_1 k12.1 ?_
      refine s_getR hx hb hts hown hg hC fb_8_5 k12.2 mk_f_RX11_299 dX11_makeGroups_55 ?_
      refine lv_iload_n hx hb dX11_makeGroups_58 rfl (lo_at hl 3 rfl) ?_
      obtain ⟨k15, hw⟩ := hw
      refine sf_2 k15.1 ?_
      refine s_iald hx hb hg hC k15.2.1 k15.2.2 dX11_makeGroups_59 ?_
      refine lv_topi (fun v16 ev16 => ?_)
      replace hw := hw v16 ev16
      refine lv_icmp_eq (tgt := 99) hx hb dX11_makeGroups_60 (by decide) (fun c17 => ?_) (fun c17 => ?_)
      ·
        replace hw := (if_pos c17).mp hw
        obtain ⟨v18, ev18⟩ : ∃ y : Int32, y = x3 + (1 : Int32) := ⟨_, rfl⟩
        replace hw := hw v18 ev18
        refine lo_iinc (v := v18) (lv' := [(3, .int v18), (0, .ref (A o)), (1, va_rf (Option.map A r1)), (2, .int x2)]) hx hb dX11_makeGroups_99 hl (k := 3) rfl (by rw [ev18]; rfl) (by decide) rfl (fun ls hl => ?_)
        refine lv_goto (tgt := 36) hx hb dX11_makeGroups_102 (by decide) ?_
        exact ih v18 h H locs ls hC (lo_sub hl [1, 2, 3, 0] rfl) hw
      ·
        replace hw := (if_neg c17).mp hw
        refine lv_aload_n hx hb dX11_makeGroups_63 rfl (lo_at hl 0 rfl) ?_
        refine lo_aload_n (r := Option.map A r1) hx hb dX11_makeGroups_64 rfl (lo_at hl 1 rfl) ?_
        refine lv_iload_n hx hb dX11_makeGroups_65 rfl (lo_at hl 2 rfl) ?_
        refine lv_iload_n hx hb dX11_makeGroups_66 rfl (lo_at hl 3 rfl) ?_
        refine res2_i hC (run2_V (As := [va_rf (Option.map A r1), .int x2, .int x3]) (rest := []) hM hC hl.1.1 kv_RX11_335 (c_X11_strengthOf l G base A o r1 x2 x3 h _ hw) (hc_9) k11 rfl rfl rfl ⟨Nat.le_of_ble_eq_true rfl, Nat.le_of_ble_eq_true rfl⟩ (Nat.le_of_ble_eq_true rfl) ⟨Nat.le_of_ble_eq_true rfl, Nat.le_of_ble_eq_true rfl⟩ dX11_makeGroups_67) (fun z20 h19 H locs hw hC => ?_)
        refine lv_iconst (v := -1) hx hb dX11_makeGroups_70 (by decide) ?_
        refine lv_icmp_eq (tgt := 99) hx hb dX11_makeGroups_71 (by decide) (fun c21 => ?_) (fun c21 => ?_)
        ·
          replace hw := (if_pos c21).mp hw
          obtain ⟨v22, ev22⟩ : ∃ y : Int32, y = x3 + (1 : Int32) := ⟨_, rfl⟩
          replace hw := hw v22 ev22
          refine lo_iinc (v := v22) (lv' := [(3, .int v22), (0, .ref (A o)), (1, va_rf (Option.map A r1)), (2, .int x2)]) hx hb dX11_makeGroups_99 hl (k := 3) rfl (by rw [ev22]; rfl) (by decide) rfl (fun ls hl => ?_)
          refine lv_goto (tgt := 36) hx hb dX11_makeGroups_102 (by decide) ?_
          exact ih v22 h19 H locs ls hC (lo_sub hl [1, 2, 3, 0] rfl) hw
        ·
          replace hw := (if_neg c21).mp hw
          refine lv_aload_n hx hb dX11_makeGroups_74 rfl (lo_at hl 0 rfl) ?_
          obtain ⟨k23, hw⟩ := hw
          refine s_getR hx hb hts hown hg hC fb_9_15 k23 mk_f_RX11_69 dX11_makeGroups_75 ?_
          refine lv_aload_n hx hb dX11_makeGroups_78 rfl (lo_at hl 0 rfl) ?_
          refine s_getR hx hb hts hown hg hC fb_9_15 k23 mk_f_RX11_69 dX11_makeGroups_79 ?_
          obtain ⟨k24, hw⟩ := hw
          refine sf_1 k24.1 ?_
          refine s_getR hx hb hts hown hg hC fb_8_5 k24.2 mk_f_RX11_299 dX11_makeGroups_82 ?_
          refine lv_iload_n hx hb dX11_makeGroups_85 rfl (lo_at hl 2 rfl) ?_
          obtain ⟨k25, hw⟩ := hw
          refine sf_2 k25.1 ?_
          refine s_iald hx hb hg hC k25.2.1 k25.2.2 dX11_makeGroups_86 ?_
          refine lv_topi (fun v26 ev26 => ?_)
          replace hw := hw v26 ev26
          refine lv_aload_n hx hb dX11_makeGroups_87 rfl (lo_at hl 0 rfl) ?_
          refine s_getR hx hb hts hown hg hC fb_9_15 k23 mk_f_RX11_69 dX11_makeGroups_88 ?_
          refine sf_1 k24.1 ?_
          refine s_getR hx hb hts hown hg hC fb_8_5 k24.2 mk_f_RX11_299 dX11_makeGroups_91 ?_
          refine lv_iload_n hx hb dX11_makeGroups_94 rfl (lo_at hl 3 rfl) ?_
          obtain ⟨k27, hw⟩ := hw
          refine sf_2 k27.1 ?_
          refine s_iald hx hb hg hC k27.2.1 k27.2.2 dX11_makeGroups_95 ?_
          refine lv_topi (fun v28 ev28 => ?_)
          replace hw := hw v28 ev28
          refine sf_3 k24.1 ?_
          refine res2_v hC (run2_V (As := [.int v26, .int v28]) (rest := []) hM hC hl.1.1 kv_RX11_339 (c_X10_uniteGroups l G base A (ad (hpR h19 o 15)) v26 v28 h19 _ hw) (hc_8) k24.2 rfl rfl rfl ⟨Nat.le_of_ble_eq_true rfl, Nat.le_of_ble_eq_true rfl⟩ (Nat.le_of_ble_eq_true rfl) ⟨Nat.le_of_ble_eq_true rfl, Nat.le_of_ble_eq_true rfl⟩ dX11_makeGroups_96) (fun h29 H locs hw hC => ?_)
          obtain ⟨v31, ev31⟩ : ∃ y : Int32, y = x3 + (1 : Int32) := ⟨_, rfl⟩
          replace hw := hw v31 ev31
          refine lo_iinc (v := v31) (lv' := [(3, .int v31), (0, .ref (A o)), (1, va_rf (Option.map A r1)), (2, .int x2)]) hx hb dX11_makeGroups_99 hl (k := 3) rfl (by rw [ev31]; rfl) (by decide) rfl (fun ls hl => ?_)
          refine lv_goto (tgt := 36) hx hb dX11_makeGroups_102 (by decide) ?_
          exact ih v31 h29 H locs ls hC (lo_sub hl [1, 2, 3, 0] rfl) hw
set_option maxHeartbeats 4000000 in
set_option maxRecDepth 100000 in
theorem t_X11_makeGroups_L26 {p : Program} {l : Launch} {e : Env} {s : State} {m : MethodId} {args : Array Value} {below : List Frame} {meth : Method} {c : Code} {G : GG} {base : Nat} {A : Nat → Nat} {g0 : Hp} (hM : Mx G base p s m args meth c cX11_makeGroups 4 none RX11 "makeGroups") (o : Nat) (r1 : Option Nat) (K111 : Hp → Prop) (Q : Hp → Prop) (hK111 : ∀ (h : Hp) (H : Heap) (locs : List Loc) (ls : Array Slot), Cx2 G base A g0 A h s.heap H locs → lo_has ls 4 [] → K111 h → W p l e rm_X11_makeGroups s m args below meth c H locs 0 0 (MQ below (va_Qv Q (PU2 G base A g0 A) (fun q => base ≤ q)) args s 0 0 (fun q => base ≤ q)) (F0 m 111 ls [])) : ∀ (n : Nat) (x2 : Int32) (h : Hp) (H : Heap) (locs : List Loc) (ls : Array Slot), Cx2 G base A g0 A h s.heap H locs → lo_has ls 4 [(0, .ref (A o)), (1, va_rf (Option.map A r1)), (2, .int x2)] → wp_X11_makeGroups_L26 o r1 K111 Q n x2 h → W p l e rm_X11_makeGroups s m args below meth c H locs 0 0 (MQ below (va_Qv Q (PU2 G base A g0 A) (fun q => base ≤ q)) args s 0 0 (fun q => base ≤ q)) (F0 m 26 ls []) := by
  intro n
  induction n with
  | zero =>
    intro x2 h H locs ls hC hl hw
    rw [wp_X11_makeGroups_L26] at hw
    exact hw.elim
  | succ n ih =>
    intro x2 h H locs ls hC hl hw
    rw [wp_X11_makeGroups_L26] at hw
    obtain ⟨hx, hb, hr, hml, hown, hts, hg, hs, hlk, hnm⟩ := id hM
    refine lv_iload_n hx hb dX11_makeGroups_26 rfl (lo_at hl 2 rfl) ?_
    refine lv_bipush (v := 8) hx hb dX11_makeGroups_27 (by decide) ?_
    refine lv_icmp_ge (tgt := 111) hx hb dX11_makeGroups_29 (by decide) (fun c8 => ?_) (fun c8 => ?_)
    ·
      replace hw := (if_pos c8).mp hw
      exact hK111  h H locs ls hC (lo_sub hl [] rfl) hw
    ·
      replace hw := (if_neg c8).mp hw
      refine lv_iload_n hx hb dX11_makeGroups_32 rfl (lo_at hl 2 rfl) ?_
      refine lv_iconst (v := 1) hx hb dX11_makeGroups_33 (by decide) ?_
      refine lv_iadd hx hb dX11_makeGroups_34 ?_
      refine lv_topi (fun v9 ev9 => ?_)
      replace hw := hw v9 ev9
      refine lo_istore_n (lv' := [(3, .int v9), (0, .ref (A o)), (1, va_rf (Option.map A r1)), (2, .int x2)]) hx hb dX11_makeGroups_35 rfl hl (by decide) rfl (fun ls hl => ?_)
      refine t_X11_makeGroups_L36 hM o r1 x2 _ Q ?_ fuel v9 h H locs ls hC (lo_sub hl [1, 2, 3, 0] rfl) hw
      intro  h32 H locs ls hC hl hw
      obtain ⟨v33, ev33⟩ : ∃ y : Int32, y = x2 + (1 : Int32) := ⟨_, rfl⟩
      replace hw := hw v33 ev33
      refine lo_iinc (v := v33) (lv' := [(2, .int v33), (0, .ref (A o)), (1, va_rf (Option.map A r1))]) hx hb dX11_makeGroups_105 hl (k := 2) rfl (by rw [ev33]; rfl) (by decide) rfl (fun ls hl => ?_)
      refine lv_goto (tgt := 26) hx hb dX11_makeGroups_108 (by decide) ?_
      exact ih v33 h32 H locs ls hC (lo_sub hl [1, 2, 0] rfl) hw
set_option maxHeartbeats 4000000 in
set_option maxRecDepth 100000 in
theorem c_X11_makeGroups (l : Launch) (G : GG) (base : Nat) (A : Nat → Nat) (o : Nat) (r1 : Option Nat) (h : Hp) (Q : Hp → Prop) (hw : wp_X11_makeGroups o r1 h Q) : Met l yX11_makeGroups (ww yX11_makeGroups cX11_makeGroups 4 none) rm_X11_makeGroups (va_Pc [.ref (A o), va_rf (Option.map A r1)] (PU2 G base A h A h)) (va_Qv Q (PU2 G base A h A) (fun q => base ≤ q)) 0 0 (fun q => base ≤ q) := by
  refine met2_of (own := RX11) (nm := "makeGroups") (by decide) rfl rfl (List.forall_mem_cons.mpr ⟨rfl, (List.forall_mem_cons.mpr ⟨va_rf_cat _, (fun _ h => absurd h List.not_mem_nil)⟩)⟩) (Nat.le_of_ble_eq_true rfl) rfl ?_
  intro p e s m args below meth c H locs ls hM hC hl
  obtain ⟨hx, hb, hr, hml, hown, hts, hg, hs, hlk, hnm⟩ := id hM
  unfold wp_X11_makeGroups at hw
  refine lv_iconst (v := 0) hx hb dX11_makeGroups_0 (by decide) ?_
  refine lo_istore_n (lv' := [(2, .int ((0 : Int32))), (0, .ref (A o)), (1, va_rf (Option.map A r1))]) hx hb dX11_makeGroups_1 rfl hl (by decide) rfl (fun ls hl => ?_)
  refine t_X11_makeGroups_L2 hM o r1 _ Q ?_ fuel (0 : Int32) h H locs ls hC (lo_sub hl [1, 2, 0] rfl) hw
  intro  h7 H locs ls hC hl hw
  refine lv_iconst (v := 0) hx hb dX11_makeGroups_24 (by decide) ?_
  refine lo_istore_n (lv' := [(2, .int ((0 : Int32))), (0, .ref (A o)), (1, va_rf (Option.map A r1))]) hx hb dX11_makeGroups_25 rfl hl (by decide) rfl (fun ls hl => ?_)
  refine t_X11_makeGroups_L26 hM o r1 _ Q ?_ fuel (0 : Int32) h7 H locs ls hC (lo_sub hl [1, 2, 0] rfl) hw
  intro  h34 H locs ls hC hl hw
  exact ret2_v hM hC hw dX11_makeGroups_111
abbrev rm_X5_readLine : Room := { frames := 165, cells := 0, slots := 0, locals := 3502 }
set_option maxRecDepth 100000 in
def wp_X5_readLine_J104 (o : Nat) (Q : Hp → Prop) (h : Hp) : Prop := ((hpK h o).1 = 20 + 4) ∧ (wp_X5_expect o (59 : Int32) h (fun (h32 : Hp) => ((hpK h32 o).1 = 20 + 4) ∧ (okO h32 (hpR h32 o 3) 5 ∧ (wp_X7_finishLine (ad (hpR h32 o 3)) h32 (fun (h36 : Hp) => Q h36)))))
set_option maxRecDepth 100000 in
def wp_X5_readLine (o : Nat) (h : Hp) (Q : Hp → Prop) : Prop := ((hpK h o).1 = 20 + 4) ∧ (wp_X5_kind o h (fun (z3 : Int32) (h2 : Hp) => ((hpK h2 o).1 = 20 + 4) ∧ (wp_X5_isHead o z3 h2 (fun (z6 : Int32) (h5 : Hp) => (if z6 = 0 then (((hpK h5 o).1 = 20 + 4) ∧ (wp_X5_refuse o (1 : Int32) h5 (fun (h49 : Hp) => Q h49))) else (((hpK h5 o).1 = 20 + 4) ∧ (okO h5 (hpR h5 o 3) 5 ∧ (wp_X7_isFull (ad (hpR h5 o 3)) h5 (fun (z11 : Int32) (h10 : Hp) => (if z11 = 0 then (((hpK h10 o).1 = 20 + 4) ∧ (∀ h14 : Hp, h14 = stI h10 o 5 ((hpI h10 o 5) + (1 : Int32)) → (((hpK h14 o).1 = 20 + 4) ∧ (okO h14 (hpR h14 o 3) 5 ∧ (wp_X7_beginLine (ad (hpR h14 o 3)) z3 h14 (fun (h17 : Hp) => ((hpK h17 o).1 = 20 + 4) ∧ ((if (hpI h17 o 4) = 0 then (wp_X5_readEither (wpR_claim 12) o (0 : Int32) h17 (fun (h43 : Hp) => wp_X5_readLine_J104 o Q h43)) else (wp_X5_readSum o h17 (fun (h21 : Hp) => ((hpK h21 o).1 = 20 + 4) ∧ (okO h21 (hpR h21 o 3) 5 ∧ (wp_X7_beginClaim (ad (hpR h21 o 3)) h21 (fun (h25 : Hp) => ((hpK h25 o).1 = 20 + 4) ∧ (wp_X5_kind o h25 (fun (z29 : Int32) (h28 : Hp) => (if z29 = (259 : Int32) then (((hpK h28 o).1 = 20 + 4) ∧ (∀ h39 : Hp, h39 = stI h28 o 5 ((hpI h28 o 5) + (1 : Int32)) → (((hpK h39 o).1 = 20 + 4) ∧ (wp_X5_readEither (wpR_claim 12) o (0 : Int32) h39 (fun (h41 : Hp) => wp_X5_readLine_J104 o Q h41))))) else (wp_X5_readLine_J104 o Q h28))))))))))))))))) else (((hpK h10 o).1 = 20 + 4) ∧ (wp_X5_refuse o (3 : Int32) h10 (fun (h46 : Hp) => Q h46)))))))))))))
set_option maxHeartbeats 4000000 in
set_option maxRecDepth 100000 in
theorem t_X5_readLine_J104 {p : Program} {l : Launch} {e : Env} {s : State} {m : MethodId} {args : Array Value} {below : List Frame} {meth : Method} {c : Code} {G : GG} {base : Nat} {A : Nat → Nat} {g0 : Hp} (hM : Mx G base p s m args meth c cX5_readLine 2 none RX5 "readLine") (o : Nat) (Q : Hp → Prop) (h : Hp) (H : Heap) (locs : List Loc) (ls : Array Slot) : Cx2 G base A g0 A h s.heap H locs → lo_has ls 2 [(0, .ref (A o))] → wp_X5_readLine_J104 o Q h → W p l e rm_X5_readLine s m args below meth c H locs 0 0 (MQ below (va_Qv Q (PU2 G base A g0 A) (fun q => base ≤ q)) args s 0 0 (fun q => base ≤ q)) (F0 m 104 ls []) := by
  intro hC hl hw
  unfold wp_X5_readLine_J104 at hw
  obtain ⟨hx, hb, hr, hml, hown, hts, hg, hs, hlk, hnm⟩ := id hM
  refine lv_aload_n hx hb dX5_readLine_104 rfl (lo_at hl 0 rfl) ?_
  refine lv_bipush (v := 59) hx hb dX5_readLine_105 (by decide) ?_
  obtain ⟨k31, hw⟩ := hw
  refine res2_v hC (run2_V (As := [.int ((59 : Int32))]) (rest := []) hM hC hl.1.1 kv_RX5_85 (c_X5_expect l G base A o (59 : Int32) h _ hw) (hc_4) k31 rfl rfl rfl ⟨Nat.le_of_ble_eq_true rfl, Nat.le_of_ble_eq_true rfl⟩ (Nat.le_of_ble_eq_true rfl) ⟨Nat.le_of_ble_eq_true rfl, Nat.le_of_ble_eq_true rfl⟩ dX5_readLine_107) (fun h32 H locs hw hC => ?_)
  refine lv_aload_n hx hb dX5_readLine_110 rfl (lo_at hl 0 rfl) ?_
  obtain ⟨k34, hw⟩ := hw
  refine s_getR hx hb hts hown hg hC fb_4_3 k34 mk_f_RX5_18 dX5_readLine_111 ?_
  obtain ⟨k35, hw⟩ := hw
  refine sf_1 k35.1 ?_
  refine res2_v hC (run2_V (As := []) (rest := []) hM hC hl.1.1 kv_RX5_88 (c_X7_finishLine l G base A (ad (hpR h32 o 3)) h32 _ hw) (hc_5) k35.2 rfl rfl rfl ⟨Nat.le_of_ble_eq_true rfl, Nat.le_of_ble_eq_true rfl⟩ (Nat.le_of_ble_eq_true rfl) ⟨Nat.le_of_ble_eq_true rfl, Nat.le_of_ble_eq_true rfl⟩ dX5_readLine_114) (fun h36 H locs hw hC => ?_)
  exact ret2_v hM hC hw dX5_readLine_117
set_option maxHeartbeats 4000000 in
set_option maxRecDepth 100000 in
theorem c_X5_readLine (l : Launch) (G : GG) (base : Nat) (A : Nat → Nat) (o : Nat) (h : Hp) (Q : Hp → Prop) (hw : wp_X5_readLine o h Q) : Met l yX5_readLine (ww yX5_readLine cX5_readLine 2 none) rm_X5_readLine (va_Pc [.ref (A o)] (PU2 G base A h A h)) (va_Qv Q (PU2 G base A h A) (fun q => base ≤ q)) 0 0 (fun q => base ≤ q) := by
  refine met2_of (own := RX5) (nm := "readLine") (by decide) rfl rfl (List.forall_mem_cons.mpr ⟨rfl, (fun _ h => absurd h List.not_mem_nil)⟩) (Nat.le_of_ble_eq_true rfl) rfl ?_
  intro p e s m args below meth c H locs ls hM hC hl
  obtain ⟨hx, hb, hr, hml, hown, hts, hg, hs, hlk, hnm⟩ := id hM
  unfold wp_X5_readLine at hw
  refine lv_aload_n hx hb dX5_readLine_0 rfl (lo_at hl 0 rfl) ?_
  obtain ⟨k1, hw⟩ := hw
  refine res2_i hC (run2_V (As := []) (rest := []) hM hC hl.1.1 kv_RX5_44 (c_X5_kind l G base A o h _ hw) (hc_4) k1 rfl rfl rfl ⟨Nat.le_of_ble_eq_true rfl, Nat.le_of_ble_eq_true rfl⟩ (Nat.le_of_ble_eq_true rfl) ⟨Nat.le_of_ble_eq_true rfl, Nat.le_of_ble_eq_true rfl⟩ dX5_readLine_1) (fun z3 h2 H locs hw hC => ?_)
  refine lo_istore_n (lv' := [(1, .int z3), (0, .ref (A o))]) hx hb dX5_readLine_4 rfl hl (by decide) rfl (fun ls hl => ?_)
  refine lv_aload_n hx hb dX5_readLine_5 rfl (lo_at hl 1 rfl) ?_
  refine lv_iload_n hx hb dX5_readLine_6 rfl (lo_at hl 0 rfl) ?_
  obtain ⟨k4, hw⟩ := hw
  refine res2_i hC (run2_V (As := [.int z3]) (rest := []) hM hC hl.1.1 kv_RX5_65 (c_X5_isHead l G base A o z3 h2 _ hw) (hc_4) k4 rfl rfl rfl ⟨Nat.le_of_ble_eq_true rfl, Nat.le_of_ble_eq_true rfl⟩ (Nat.le_of_ble_eq_true rfl) ⟨Nat.le_of_ble_eq_true rfl, Nat.le_of_ble_eq_true rfl⟩ dX5_readLine_7) (fun z6 h5 H locs hw hC => ?_)
  refine lv_if_ne (tgt := 19) hx hb dX5_readLine_10 (by decide) (fun c7 => ?_) (fun c7 => ?_)
  ·
    replace hw := (if_neg c7).mp hw
    refine lv_aload_n hx hb dX5_readLine_19 rfl (lo_at hl 1 rfl) ?_
    obtain ⟨k8, hw⟩ := hw
    refine s_getR hx hb hts hown hg hC fb_4_3 k8 mk_f_RX5_18 dX5_readLine_20 ?_
    obtain ⟨k9, hw⟩ := hw
    refine sf_1 k9.1 ?_
    refine res2_i hC (run2_V (As := []) (rest := []) hM hC hl.1.1 kv_RX5_69 (c_X7_isFull l G base A (ad (hpR h5 o 3)) h5 _ hw) (hc_5) k9.2 rfl rfl rfl ⟨Nat.le_of_ble_eq_true rfl, Nat.le_of_ble_eq_true rfl⟩ (Nat.le_of_ble_eq_true rfl) ⟨Nat.le_of_ble_eq_true rfl, Nat.le_of_ble_eq_true rfl⟩ dX5_readLine_23) (fun z11 h10 H locs hw hC => ?_)
    refine lv_if_eq (tgt := 35) hx hb dX5_readLine_26 (by decide) (fun c12 => ?_) (fun c12 => ?_)
    ·
      replace hw := (if_pos c12).mp hw
      refine lv_aload_n hx hb dX5_readLine_35 rfl (lo_at hl 1 rfl) ?_
      refine lv_dup hx hb dX5_readLine_36 rfl ?_
      obtain ⟨k13, hw⟩ := hw
      refine s_getI hx hb hts hown hg hC fb_4_5 k13 mk_f_RX5_30 dX5_readLine_37 ?_
      refine lv_iconst (v := 1) hx hb dX5_readLine_40 (by decide) ?_
      refine lv_iadd hx hb dX5_readLine_41 ?_
      refine s_putI hx hb hts hown hg hC fb_4_5 k13 rfl rfl mk_f_RX5_30 dX5_readLine_42 (fun h14 H locs eh14 hC => ?_)
      replace hw := hw h14 eh14
      refine lv_aload_n hx hb dX5_readLine_45 rfl (lo_at hl 1 rfl) ?_
      obtain ⟨k15, hw⟩ := hw
      refine s_getR hx hb hts hown hg hC fb_4_3 k15 mk_f_RX5_18 dX5_readLine_46 ?_
      refine lv_iload_n hx hb dX5_readLine_49 rfl (lo_at hl 0 rfl) ?_
      obtain ⟨k16, hw⟩ := hw
      refine sf_2 k16.1 ?_
      refine res2_v hC (run2_V (As := [.int z3]) (rest := []) hM hC hl.1.1 kv_RX5_73 (c_X7_beginLine l G base A (ad (hpR h14 o 3)) z3 h14 _ hw) (hc_5) k16.2 rfl rfl rfl ⟨Nat.le_of_ble_eq_true rfl, Nat.le_of_ble_eq_true rfl⟩ (Nat.le_of_ble_eq_true rfl) ⟨Nat.le_of_ble_eq_true rfl, Nat.le_of_ble_eq_true rfl⟩ dX5_readLine_50) (fun h17 H locs hw hC => ?_)
      refine lv_aload_n hx hb dX5_readLine_53 rfl (lo_at hl 1 rfl) ?_
      obtain ⟨k19, hw⟩ := hw
      refine s_getI hx hb hts hown hg hC fb_4_4 k19 mk_f_RX5_26 dX5_readLine_54 ?_
      refine lv_if_ne (tgt := 68) hx hb dX5_readLine_57 (by decide) (fun c20 => ?_) (fun c20 => ?_)
      ·
        replace hw := (if_neg c20).mp hw
        refine lv_aload_n hx hb dX5_readLine_68 rfl (lo_at hl 1 rfl) ?_
        refine res2_v hC (run2_V (As := []) (rest := []) hM hC hl.1.1 kv_RX5_79 (c_X5_readSum l G base A o h17 _ hw) (hc_4) k19 rfl rfl rfl ⟨Nat.le_of_ble_eq_true rfl, Nat.le_of_ble_eq_true rfl⟩ (Nat.le_of_ble_eq_true rfl) ⟨Nat.le_of_ble_eq_true rfl, Nat.le_of_ble_eq_true rfl⟩ dX5_readLine_69) (fun h21 H locs hw hC => ?_)
        refine lv_aload_n hx hb dX5_readLine_72 rfl (lo_at hl 1 rfl) ?_
        obtain ⟨k23, hw⟩ := hw
        refine s_getR hx hb hts hown hg hC fb_4_3 k23 mk_f_RX5_18 dX5_readLine_73 ?_
        obtain ⟨k24, hw⟩ := hw
        refine sf_1 k24.1 ?_
        refine res2_v hC (run2_V (As := []) (rest := []) hM hC hl.1.1 kv_RX5_82 (c_X7_beginClaim l G base A (ad (hpR h21 o 3)) h21 _ hw) (hc_5) k24.2 rfl rfl rfl ⟨Nat.le_of_ble_eq_true rfl, Nat.le_of_ble_eq_true rfl⟩ (Nat.le_of_ble_eq_true rfl) ⟨Nat.le_of_ble_eq_true rfl, Nat.le_of_ble_eq_true rfl⟩ dX5_readLine_76) (fun h25 H locs hw hC => ?_)
        refine lv_aload_n hx hb dX5_readLine_79 rfl (lo_at hl 1 rfl) ?_
        obtain ⟨k27, hw⟩ := hw
        refine res2_i hC (run2_V (As := []) (rest := []) hM hC hl.1.1 kv_RX5_44 (c_X5_kind l G base A o h25 _ hw) (hc_4) k27 rfl rfl rfl ⟨Nat.le_of_ble_eq_true rfl, Nat.le_of_ble_eq_true rfl⟩ (Nat.le_of_ble_eq_true rfl) ⟨Nat.le_of_ble_eq_true rfl, Nat.le_of_ble_eq_true rfl⟩ dX5_readLine_80) (fun z29 h28 H locs hw hC => ?_)
        refine lv_sipush (v := 259) hx hb dX5_readLine_83 (by decide) ?_
        refine lv_icmp_ne (tgt := 104) hx hb dX5_readLine_86 (by decide) (fun c30 => ?_) (fun c30 => ?_)
        ·
          replace hw := (if_neg c30).mp hw
          exact t_X5_readLine_J104 hM o Q  h28 H locs ls hC (lo_sub hl [1] rfl) hw
        ·
          replace hw := (if_pos c30).mp hw
          refine lv_aload_n hx hb dX5_readLine_89 rfl (lo_at hl 1 rfl) ?_
          refine lv_dup hx hb dX5_readLine_90 rfl ?_
          obtain ⟨k38, hw⟩ := hw
          refine s_getI hx hb hts hown hg hC fb_4_5 k38 mk_f_RX5_30 dX5_readLine_91 ?_
          refine lv_iconst (v := 1) hx hb dX5_readLine_94 (by decide) ?_
          refine lv_iadd hx hb dX5_readLine_95 ?_
          refine s_putI hx hb hts hown hg hC fb_4_5 k38 rfl rfl mk_f_RX5_30 dX5_readLine_96 (fun h39 H locs eh39 hC => ?_)
          replace hw := hw h39 eh39
          refine lv_aload_n hx hb dX5_readLine_99 rfl (lo_at hl 1 rfl) ?_
          refine lv_iconst (v := 0) hx hb dX5_readLine_100 (by decide) ?_
          obtain ⟨k40, hw⟩ := hw
          refine res2_v hC (run2_V (As := [.int ((0 : Int32))]) (rest := []) hM hC hl.1.1 kv_RX5_76 (c_X5_readEither l G base A 12 (wpR_claim 12) (cR_claim l G base A 12) o (0 : Int32) h39 _ hw) (hc_4) k40 rfl rfl rfl ⟨Nat.le_of_ble_eq_true rfl, Nat.le_of_ble_eq_true rfl⟩ (Nat.le_of_ble_eq_true rfl) ⟨Nat.le_of_ble_eq_true rfl, Nat.le_of_ble_eq_true rfl⟩ dX5_readLine_101) (fun h41 H locs hw hC => ?_)
          exact t_X5_readLine_J104 hM o Q  h41 H locs ls hC (lo_sub hl [1] rfl) hw
      ·
        replace hw := (if_pos c20).mp hw
        refine lv_aload_n hx hb dX5_readLine_60 rfl (lo_at hl 1 rfl) ?_
        refine lv_iconst (v := 0) hx hb dX5_readLine_61 (by decide) ?_
        refine res2_v hC (run2_V (As := [.int ((0 : Int32))]) (rest := []) hM hC hl.1.1 kv_RX5_76 (c_X5_readEither l G base A 12 (wpR_claim 12) (cR_claim l G base A 12) o (0 : Int32) h17 _ hw) (hc_4) k19 rfl rfl rfl ⟨Nat.le_of_ble_eq_true rfl, Nat.le_of_ble_eq_true rfl⟩ (Nat.le_of_ble_eq_true rfl) ⟨Nat.le_of_ble_eq_true rfl, Nat.le_of_ble_eq_true rfl⟩ dX5_readLine_62) (fun h43 H locs hw hC => ?_)
        refine lv_goto (tgt := 104) hx hb dX5_readLine_65 (by decide) ?_
        exact t_X5_readLine_J104 hM o Q  h43 H locs ls hC (lo_sub hl [1] rfl) hw
    ·
      replace hw := (if_neg c12).mp hw
      refine lv_aload_n hx hb dX5_readLine_29 rfl (lo_at hl 1 rfl) ?_
      refine lv_iconst (v := 3) hx hb dX5_readLine_30 (by decide) ?_
      obtain ⟨k45, hw⟩ := hw
      refine res2_v hC (run2_V (As := [.int ((3 : Int32))]) (rest := []) hM hC hl.1.1 kv_RX5_61 (c_X5_refuse l G base A o (3 : Int32) h10 _ hw) (hc_4) k45 rfl rfl rfl ⟨Nat.le_of_ble_eq_true rfl, Nat.le_of_ble_eq_true rfl⟩ (Nat.le_of_ble_eq_true rfl) ⟨Nat.le_of_ble_eq_true rfl, Nat.le_of_ble_eq_true rfl⟩ dX5_readLine_31) (fun h46 H locs hw hC => ?_)
      exact ret2_v hM hC hw dX5_readLine_34
  ·
    replace hw := (if_pos c7).mp hw
    refine lv_aload_n hx hb dX5_readLine_13 rfl (lo_at hl 1 rfl) ?_
    refine lv_iconst (v := 1) hx hb dX5_readLine_14 (by decide) ?_
    obtain ⟨k48, hw⟩ := hw
    refine res2_v hC (run2_V (As := [.int ((1 : Int32))]) (rest := []) hM hC hl.1.1 kv_RX5_61 (c_X5_refuse l G base A o (1 : Int32) h5 _ hw) (hc_4) k48 rfl rfl rfl ⟨Nat.le_of_ble_eq_true rfl, Nat.le_of_ble_eq_true rfl⟩ (Nat.le_of_ble_eq_true rfl) ⟨Nat.le_of_ble_eq_true rfl, Nat.le_of_ble_eq_true rfl⟩ dX5_readLine_15) (fun h49 H locs hw hC => ?_)
    exact ret2_v hM hC hw dX5_readLine_18
abbrev rm_X8_kindAt : Room := { frames := 6, cells := 0, slots := 0, locals := 134 }
set_option maxRecDepth 100000 in
def wp_X8_kindAt (o : Nat) (x1 : Int32) (h : Hp) (Q : Int32 → Hp → Prop) : Prop := ((hpK h o).1 = 20 + 6) ∧ (okA h (hpR h o 0) 1 x1 ∧ (∀ v3 : Int32, v3 = hpI h (ad (hpR h o 0)) (x1).toNatClampNeg → (wp_X8_sortOf v3 h (fun (z5 : Int32) (h4 : Hp) => (if z5 = (1 : Int32) then (((hpK h4 o).1 = 20 + 6) ∧ (wp_X8_runFrom o x1 h4 (fun (z26 : Int32) (h25 : Hp) => ((hpK h25 o).1 = 20 + 6) ∧ (wp_X8_wordKind o x1 z26 h25 (fun (z29 : Int32) (h28 : Hp) => Q z29 h28))))) else ((if z5 = (2 : Int32) then (((hpK h4 o).1 = 20 + 6) ∧ (wp_X8_runFrom o x1 h4 (fun (z20 : Int32) (h19 : Hp) => ((hpK h19 o).1 = 20 + 6) ∧ (wp_X8_numberKind o x1 z20 h19 (fun (z23 : Int32) (h22 : Hp) => Q z23 h22))))) else (((hpK h4 o).1 = 20 + 6) ∧ (okA h4 (hpR h4 o 0) 1 x1 ∧ (∀ v10 : Int32, v10 = hpI h4 (ad (hpR h4 o 0)) (x1).toNatClampNeg → ((1 < 2) ∧ (wp_J0_indexOf_0f7a4 1 (((v10).toUInt32 % 65536).toInt32) h4 (fun (z13 : Int32) (h12 : Hp) => (if z13 < 0 then (Q (1 : Int32) h12) else (((hpK h12 o).1 = 20 + 6) ∧ (okA h12 (hpR h12 o 0) 1 x1 ∧ (∀ v17 : Int32, v17 = hpI h12 (ad (hpR h12 o 0)) (x1).toNatClampNeg → (Q v17 h12))))))))))))))))))
set_option maxHeartbeats 4000000 in
set_option maxRecDepth 100000 in
theorem c_X8_kindAt (l : Launch) (G : GG) (base : Nat) (A : Nat → Nat) (o : Nat) (x1 : Int32) (h : Hp) (Q : Int32 → Hp → Prop) (hw : wp_X8_kindAt o x1 h Q) : Met l yX8_kindAt (ww yX8_kindAt cX8_kindAt 3 (some .int)) rm_X8_kindAt (va_Pc [.ref (A o), .int x1] (PU2 G base A h A h)) (va_Qi Q (PU2 G base A h A) (fun q => base ≤ q)) 0 0 (fun q => base ≤ q) := by
  refine met2_of (own := RX8) (nm := "kindAt") (by decide) rfl rfl (List.forall_mem_cons.mpr ⟨rfl, (List.forall_mem_cons.mpr ⟨rfl, (fun _ h => absurd h List.not_mem_nil)⟩)⟩) (Nat.le_of_ble_eq_true rfl) rfl ?_
  intro p e s m args below meth c H locs ls hM hC hl
  obtain ⟨hx, hb, hr, hml, hown, hts, hg, hs, hlk, hnm⟩ := id hM
  unfold wp_X8_kindAt at hw
  refine lv_aload_n hx hb dX8_kindAt_0 rfl (lo_at hl 0 rfl) ?_
  obtain ⟨k1, hw⟩ := hw
  refine s_getR hx hb hts hown hg hC fb_6_0 k1 mk_f_RX8_9 dX8_kindAt_1 ?_
  refine lv_iload_n hx hb dX8_kindAt_4 rfl (lo_at hl 1 rfl) ?_
  obtain ⟨k2, hw⟩ := hw
  refine sf_2 k2.1 ?_
  refine s_iald hx hb hg hC k2.2.1 k2.2.2 dX8_kindAt_5 ?_
  refine lv_topi (fun v3 ev3 => ?_)
  replace hw := hw v3 ev3
  refine res2_i hC (run2_S (As := [.int v3]) (rest := []) hM hC hl.1.1 kv_RX8_36 (c_X8_sortOf l G base A v3 h _ hw) rfl rfl rfl ⟨Nat.le_of_ble_eq_true rfl, Nat.le_of_ble_eq_true rfl⟩ (Nat.le_of_ble_eq_true rfl) ⟨Nat.le_of_ble_eq_true rfl, Nat.le_of_ble_eq_true rfl⟩ dX8_kindAt_6) (fun z5 h4 H locs hw hC => ?_)
  refine lo_istore_n (lv' := [(2, .int z5), (0, .ref (A o)), (1, .int x1)]) hx hb dX8_kindAt_9 rfl hl (by decide) rfl (fun ls hl => ?_)
  refine lv_iload_n hx hb dX8_kindAt_10 rfl (lo_at hl 0 rfl) ?_
  refine lv_iconst (v := 1) hx hb dX8_kindAt_11 (by decide) ?_
  refine lv_icmp_ne (tgt := 26) hx hb dX8_kindAt_12 (by decide) (fun c6 => ?_) (fun c6 => ?_)
  ·
    replace hw := (if_neg c6).mp hw
    refine lv_iload_n hx hb dX8_kindAt_26 rfl (lo_at hl 0 rfl) ?_
    refine lv_iconst (v := 2) hx hb dX8_kindAt_27 (by decide) ?_
    refine lv_icmp_ne (tgt := 42) hx hb dX8_kindAt_28 (by decide) (fun c7 => ?_) (fun c7 => ?_)
    ·
      replace hw := (if_neg c7).mp hw
      refine va_ldcS hx hb hown hs.2.2.1 dX8_kindAt_42 ?_
      refine lv_aload_n hx hb dX8_kindAt_44 rfl (lo_at hl 1 rfl) ?_
      obtain ⟨k8, hw⟩ := hw
      refine s_getR hx hb hts hown hg hC fb_6_0 k8 mk_f_RX8_9 dX8_kindAt_45 ?_
      refine lv_iload_n hx hb dX8_kindAt_48 rfl (lo_at hl 2 rfl) ?_
      obtain ⟨k9, hw⟩ := hw
      refine sf_2 k9.1 ?_
      refine s_iald hx hb hg hC k9.2.1 k9.2.2 dX8_kindAt_49 ?_
      refine lv_topi (fun v10 ev10 => ?_)
      replace hw := hw v10 ev10
      refine lv_i2c hx hb dX8_kindAt_50 (v := ((v10).toUInt32 % 65536).toInt32) rfl ?_
      obtain ⟨k11, hw⟩ := hw
      refine res2_i hC (run2_VS (As := [.int (((v10).toUInt32 % 65536).toInt32)]) (rest := []) hM hC hl.1.1 kv_RX8_51 (c_J0_indexOf_0f7a4 l G base A 1 (((v10).toUInt32 % 65536).toInt32) h4 _ hw) k11 rfl rfl rfl ⟨Nat.le_of_ble_eq_true rfl, Nat.le_of_ble_eq_true rfl⟩ (Nat.le_of_ble_eq_true rfl) ⟨Nat.le_of_ble_eq_true rfl, Nat.le_of_ble_eq_true rfl⟩ dX8_kindAt_51) (fun z13 h12 H locs hw hC => ?_)
      refine lv_if_lt (tgt := 66) hx hb dX8_kindAt_54 (by decide) (fun c14 => ?_) (fun c14 => ?_)
      ·
        replace hw := (if_pos c14).mp hw
        refine lv_iconst (v := 1) hx hb dX8_kindAt_66 (by decide) ?_
        exact ret2_i hM hC hw dX8_kindAt_67
      ·
        replace hw := (if_neg c14).mp hw
        refine lv_aload_n hx hb dX8_kindAt_57 rfl (lo_at hl 1 rfl) ?_
        obtain ⟨k15, hw⟩ := hw
        refine s_getR hx hb hts hown hg hC fb_6_0 k15 mk_f_RX8_9 dX8_kindAt_58 ?_
        refine lv_iload_n hx hb dX8_kindAt_61 rfl (lo_at hl 2 rfl) ?_
        obtain ⟨k16, hw⟩ := hw
        refine sf_2 k16.1 ?_
        refine s_iald hx hb hg hC k16.2.1 k16.2.2 dX8_kindAt_62 ?_
        refine lv_topi (fun v17 ev17 => ?_)
        replace hw := hw v17 ev17
        refine lv_goto (tgt := 67) hx hb dX8_kindAt_63 (by decide) ?_
        exact ret2_i hM hC hw dX8_kindAt_67
    ·
      replace hw := (if_pos c7).mp hw
      refine lv_aload_n hx hb dX8_kindAt_31 rfl (lo_at hl 1 rfl) ?_
      refine lv_iload_n hx hb dX8_kindAt_32 rfl (lo_at hl 2 rfl) ?_
      refine lv_aload_n hx hb dX8_kindAt_33 rfl (lo_at hl 1 rfl) ?_
      refine lv_iload_n hx hb dX8_kindAt_34 rfl (lo_at hl 2 rfl) ?_
      obtain ⟨k18, hw⟩ := hw
      refine res2_i hC (run2_V (As := [.int x1]) (rest := [.int x1, .ref (A o)]) hM hC hl.1.1 kv_RX8_39 (c_X8_runFrom l G base A o x1 h4 _ hw) (hc_6) k18 rfl rfl rfl ⟨Nat.le_of_ble_eq_true rfl, Nat.le_of_ble_eq_true rfl⟩ (Nat.le_of_ble_eq_true rfl) ⟨Nat.le_of_ble_eq_true rfl, Nat.le_of_ble_eq_true rfl⟩ dX8_kindAt_35) (fun z20 h19 H locs hw hC => ?_)
      obtain ⟨k21, hw⟩ := hw
      refine res2_i hC (run2_V (As := [.int x1, .int z20]) (rest := []) hM hC hl.1.1 kv_RX8_46 (c_X8_numberKind l G base A o x1 z20 h19 _ hw) (hc_6) k21 rfl rfl rfl ⟨Nat.le_of_ble_eq_true rfl, Nat.le_of_ble_eq_true rfl⟩ (Nat.le_of_ble_eq_true rfl) ⟨Nat.le_of_ble_eq_true rfl, Nat.le_of_ble_eq_true rfl⟩ dX8_kindAt_38) (fun z23 h22 H locs hw hC => ?_)
      exact ret2_i hM hC hw dX8_kindAt_41
  ·
    replace hw := (if_pos c6).mp hw
    refine lv_aload_n hx hb dX8_kindAt_15 rfl (lo_at hl 1 rfl) ?_
    refine lv_iload_n hx hb dX8_kindAt_16 rfl (lo_at hl 2 rfl) ?_
    refine lv_aload_n hx hb dX8_kindAt_17 rfl (lo_at hl 1 rfl) ?_
    refine lv_iload_n hx hb dX8_kindAt_18 rfl (lo_at hl 2 rfl) ?_
    obtain ⟨k24, hw⟩ := hw
    refine res2_i hC (run2_V (As := [.int x1]) (rest := [.int x1, .ref (A o)]) hM hC hl.1.1 kv_RX8_39 (c_X8_runFrom l G base A o x1 h4 _ hw) (hc_6) k24 rfl rfl rfl ⟨Nat.le_of_ble_eq_true rfl, Nat.le_of_ble_eq_true rfl⟩ (Nat.le_of_ble_eq_true rfl) ⟨Nat.le_of_ble_eq_true rfl, Nat.le_of_ble_eq_true rfl⟩ dX8_kindAt_19) (fun z26 h25 H locs hw hC => ?_)
    obtain ⟨k27, hw⟩ := hw
    refine res2_i hC (run2_V (As := [.int x1, .int z26]) (rest := []) hM hC hl.1.1 kv_RX8_42 (c_X8_wordKind l G base A o x1 z26 h25 _ hw) (hc_6) k27 rfl rfl rfl ⟨Nat.le_of_ble_eq_true rfl, Nat.le_of_ble_eq_true rfl⟩ (Nat.le_of_ble_eq_true rfl) ⟨Nat.le_of_ble_eq_true rfl, Nat.le_of_ble_eq_true rfl⟩ dX8_kindAt_22) (fun z29 h28 H locs hw hC => ?_)
    exact ret2_i hM hC hw dX8_kindAt_25
abbrev rm_X11_counted : Room := { frames := 7, cells := 0, slots := 0, locals := 194 }
set_option maxRecDepth 100000 in
def wp_X11_counted_L29 (o : Nat) (x2 : Int32) (x3 : Int32) (r4 : Option Nat) (K65 : Int32 → Hp → Prop) (Q : Int32 → Hp → Prop) : Nat → Int32 → Int32 → Hp → Prop
  | 0, _, _, _ => False
  | n + 1, x5, x6, h => ((hpK h o).1 = 20 + 9) ∧ ((if (hpI h o 10) ≤ x6 then (K65 x5 h) else (okA h (hpR h o 9) 6 x6 ∧ (wp_X11_gradeOf o r4 (hpR h (ad (hpR h o 9)) (x6).toNatClampNeg) x2 h (fun (z11 : Int32) (h10 : Hp) => (if z11 = x3 then (∀ v14 : Int32, v14 = x5 + (1 : Int32) → (∀ v15 : Int32, v15 = x6 + (1 : Int32) → (wp_X11_counted_L29 o x2 x3 r4 K65 Q n v14 v15 h10))) else (∀ v13 : Int32, v13 = x6 + (1 : Int32) → (wp_X11_counted_L29 o x2 x3 r4 K65 Q n x5 v13 h10))))))))
set_option maxRecDepth 100000 in
def wp_X11_counted (o : Nat) (x1 : Int32) (x2 : Int32) (x3 : Int32) (h : Hp) (Q : Int32 → Hp → Prop) : Prop := ((hpK h o).1 = 20 + 9) ∧ (wp_X11_lookerAt o x1 h (fun (z3 : Option Nat) (h2 : Hp) => (if z3 = none then (Q (-1 : Int32) h2) else ((if x3 < 0 then (Q (-1 : Int32) h2) else ((if x3 ≤ (2 : Int32) then (wp_X11_counted_L29 o x2 x3 z3 (fun (y17 : Int32) (h16 : Hp) => Q y17 h16) Q fuel (0 : Int32) (0 : Int32) h2) else (Q (-1 : Int32) h2))))))))
set_option maxHeartbeats 4000000 in
set_option maxRecDepth 100000 in
theorem t_X11_counted_L29 {p : Program} {l : Launch} {e : Env} {s : State} {m : MethodId} {args : Array Value} {below : List Frame} {meth : Method} {c : Code} {G : GG} {base : Nat} {A : Nat → Nat} {g0 : Hp} (hM : Mx G base p s m args meth c cX11_counted 7 (some .int) RX11 "counted") (o : Nat) (x2 : Int32) (x3 : Int32) (r4 : Option Nat) (K65 : Int32 → Hp → Prop) (Q : Int32 → Hp → Prop) (hK65 : ∀ (y5 : Int32) (h : Hp) (H : Heap) (locs : List Loc) (ls : Array Slot), Cx2 G base A g0 A h s.heap H locs → lo_has ls 7 [(5, .int y5)] → K65 y5 h → W p l e rm_X11_counted s m args below meth c H locs 0 0 (MQ below (va_Qi Q (PU2 G base A g0 A) (fun q => base ≤ q)) args s 0 0 (fun q => base ≤ q)) (F0 m 65 ls [])) : ∀ (n : Nat) (x5 : Int32) (x6 : Int32) (h : Hp) (H : Heap) (locs : List Loc) (ls : Array Slot), Cx2 G base A g0 A h s.heap H locs → lo_has ls 7 [(0, .ref (A o)), (2, .int x2), (3, .int x3), (4, va_rf (Option.map A r4)), (5, .int x5), (6, .int x6)] → wp_X11_counted_L29 o x2 x3 r4 K65 Q n x5 x6 h → W p l e rm_X11_counted s m args below meth c H locs 0 0 (MQ below (va_Qi Q (PU2 G base A g0 A) (fun q => base ≤ q)) args s 0 0 (fun q => base ≤ q)) (F0 m 29 ls []) := by
  intro n
  induction n with
  | zero =>
    intro x5 x6 h H locs ls hC hl hw
    rw [wp_X11_counted_L29] at hw
    exact hw.elim
  | succ n ih =>
    intro x5 x6 h H locs ls hC hl hw
    rw [wp_X11_counted_L29] at hw
    obtain ⟨hx, hb, hr, hml, hown, hts, hg, hs, hlk, hnm⟩ := id hM
    refine lv_iload hx hb dX11_counted_29 (lo_at hl 5 rfl) ?_
    refine lv_aload_n hx hb dX11_counted_31 rfl (lo_at hl 0 rfl) ?_
    obtain ⟨k7, hw⟩ := hw
    refine s_getI hx hb hts hown hg hC fb_9_10 k7 mk_f_RX11_258 dX11_counted_32 ?_
    refine lv_icmp_ge (tgt := 65) hx hb dX11_counted_35 (by decide) (fun c8 => ?_) (fun c8 => ?_)
    ·
      replace hw := (if_pos c8).mp hw
      exact hK65 x5 h H locs ls hC (lo_sub hl [4] rfl) hw
    ·
      replace hw := (if_neg c8).mp hw
      refine lv_aload_n hx hb dX11_counted_38 rfl (lo_at hl 0 rfl) ?_
      refine lo_aload (r := Option.map A r4) hx hb dX11_counted_39 (lo_at hl 3 rfl) ?_
      refine lv_aload_n hx hb dX11_counted_41 rfl (lo_at hl 0 rfl) ?_
      refine s_getR hx hb hts hown hg hC fb_9_9 k7 mk_f_RX11_35 dX11_counted_42 ?_
      refine lv_iload hx hb dX11_counted_45 (lo_at hl 5 rfl) ?_
      obtain ⟨k9, hw⟩ := hw
      refine sf_2 k9.1 ?_
      refine s_aald (kd := 6) (t0 := 5) hx hb hg hC k9.2.1 (by decide) rfl k9.2.2 dX11_counted_47 ?_
      refine lv_iload_n hx hb dX11_counted_48 rfl (lo_at hl 1 rfl) ?_
      refine res2_i hC (run2_V (As := [va_rf (Option.map A r4), va_rf (Option.map A (hpR h (ad (hpR h o 9)) (x6).toNatClampNeg)), .int x2]) (rest := []) hM hC hl.1.1 kv_RX11_264 (c_X11_gradeOf l G base A o r4 (hpR h (ad (hpR h o 9)) (x6).toNatClampNeg) x2 h _ hw) (hc_9) k7 rfl rfl rfl ⟨Nat.le_of_ble_eq_true rfl, Nat.le_of_ble_eq_true rfl⟩ (Nat.le_of_ble_eq_true rfl) ⟨Nat.le_of_ble_eq_true rfl, Nat.le_of_ble_eq_true rfl⟩ dX11_counted_49) (fun z11 h10 H locs hw hC => ?_)
      refine lv_iload_n hx hb dX11_counted_52 rfl (lo_at hl 2 rfl) ?_
      refine lv_icmp_ne (tgt := 59) hx hb dX11_counted_53 (by decide) (fun c12 => ?_) (fun c12 => ?_)
      ·
        replace hw := (if_neg c12).mp hw
        obtain ⟨v13, ev13⟩ : ∃ y : Int32, y = x6 + (1 : Int32) := ⟨_, rfl⟩
        replace hw := hw v13 ev13
        refine lo_iinc (v := v13) (lv' := [(6, .int v13), (0, .ref (A o)), (2, .int x2), (3, .int x3), (4, va_rf (Option.map A r4)), (5, .int x5)]) hx hb dX11_counted_59 hl (k := 5) rfl (by rw [ev13]; rfl) (by decide) rfl (fun ls hl => ?_)
        refine lv_goto (tgt := 29) hx hb dX11_counted_62 (by decide) ?_
        exact ih x5 v13 h10 H locs ls hC (lo_sub hl [1, 2, 3, 4, 5, 0] rfl) hw
      ·
        replace hw := (if_pos c12).mp hw
        obtain ⟨v14, ev14⟩ : ∃ y : Int32, y = x5 + (1 : Int32) := ⟨_, rfl⟩
        replace hw := hw v14 ev14
        refine lo_iinc (v := v14) (lv' := [(5, .int v14), (0, .ref (A o)), (2, .int x2), (3, .int x3), (4, va_rf (Option.map A r4)), (6, .int x6)]) hx hb dX11_counted_56 hl (k := 4) rfl (by rw [ev14]; rfl) (by decide) rfl (fun ls hl => ?_)
        obtain ⟨v15, ev15⟩ : ∃ y : Int32, y = x6 + (1 : Int32) := ⟨_, rfl⟩
        replace hw := hw v15 ev15
        refine lo_iinc (v := v15) (lv' := [(6, .int v15), (5, .int v14), (0, .ref (A o)), (2, .int x2), (3, .int x3), (4, va_rf (Option.map A r4))]) hx hb dX11_counted_59 hl (k := 5) rfl (by rw [ev15]; rfl) (by decide) rfl (fun ls hl => ?_)
        refine lv_goto (tgt := 29) hx hb dX11_counted_62 (by decide) ?_
        exact ih v14 v15 h10 H locs ls hC (lo_sub hl [2, 3, 4, 5, 1, 0] rfl) hw
set_option maxHeartbeats 4000000 in
set_option maxRecDepth 100000 in
theorem c_X11_counted (l : Launch) (G : GG) (base : Nat) (A : Nat → Nat) (o : Nat) (x1 : Int32) (x2 : Int32) (x3 : Int32) (h : Hp) (Q : Int32 → Hp → Prop) (hw : wp_X11_counted o x1 x2 x3 h Q) : Met l yX11_counted (ww yX11_counted cX11_counted 7 (some .int)) rm_X11_counted (va_Pc [.ref (A o), .int x1, .int x2, .int x3] (PU2 G base A h A h)) (va_Qi Q (PU2 G base A h A) (fun q => base ≤ q)) 0 0 (fun q => base ≤ q) := by
  refine met2_of (own := RX11) (nm := "counted") (by decide) rfl rfl (List.forall_mem_cons.mpr ⟨rfl, (List.forall_mem_cons.mpr ⟨rfl, (List.forall_mem_cons.mpr ⟨rfl, (List.forall_mem_cons.mpr ⟨rfl, (fun _ h => absurd h List.not_mem_nil)⟩)⟩)⟩)⟩) (Nat.le_of_ble_eq_true rfl) rfl ?_
  intro p e s m args below meth c H locs ls hM hC hl
  obtain ⟨hx, hb, hr, hml, hown, hts, hg, hs, hlk, hnm⟩ := id hM
  unfold wp_X11_counted at hw
  refine lv_aload_n hx hb dX11_counted_0 rfl (lo_at hl 0 rfl) ?_
  refine lv_iload_n hx hb dX11_counted_1 rfl (lo_at hl 1 rfl) ?_
  obtain ⟨k1, hw⟩ := hw
  refine res2_q hC (run2_V (As := [.int x1]) (rest := []) hM hC hl.1.1 kv_RX11_144 (c_X11_lookerAt l G base A o x1 h _ hw) (hc_9) k1 rfl rfl rfl ⟨Nat.le_of_ble_eq_true rfl, Nat.le_of_ble_eq_true rfl⟩ (Nat.le_of_ble_eq_true rfl) ⟨Nat.le_of_ble_eq_true rfl, Nat.le_of_ble_eq_true rfl⟩ dX11_counted_2) (fun z3 h2 H locs hw hC => ?_)
  refine lo_astore (r := Option.map A z3) (lv' := [(4, va_rf (Option.map A z3)), (0, .ref (A o)), (1, .int x1), (2, .int x2), (3, .int x3)]) hx hb dX11_counted_5 hl (by decide) rfl (fun ls hl => ?_)
  refine lo_aload (r := Option.map A z3) hx hb dX11_counted_7 (lo_at hl 0 rfl) ?_
  refine s_ifnull (r := z3) (A := A) (tgt := 21) hx hb dX11_counted_9 (by decide) (fun c4 => ?_) (fun c4 => ?_)
  ·
    replace hw := (if_pos c4).mp hw
    refine lv_iconst (v := -1) hx hb dX11_counted_21 (by decide) ?_
    exact ret2_i hM hC hw dX11_counted_22
  ·
    replace hw := (if_neg c4).mp hw
    refine lv_iload_n hx hb dX11_counted_12 rfl (lo_at hl 4 rfl) ?_
    refine lv_if_lt (tgt := 21) hx hb dX11_counted_13 (by decide) (fun c5 => ?_) (fun c5 => ?_)
    ·
      replace hw := (if_pos c5).mp hw
      refine lv_iconst (v := -1) hx hb dX11_counted_21 (by decide) ?_
      exact ret2_i hM hC hw dX11_counted_22
    ·
      replace hw := (if_neg c5).mp hw
      refine lv_iload_n hx hb dX11_counted_16 rfl (lo_at hl 4 rfl) ?_
      refine lv_iconst (v := 2) hx hb dX11_counted_17 (by decide) ?_
      refine lv_icmp_le (tgt := 23) hx hb dX11_counted_18 (by decide) (fun c6 => ?_) (fun c6 => ?_)
      ·
        replace hw := (if_pos c6).mp hw
        refine lv_iconst (v := 0) hx hb dX11_counted_23 (by decide) ?_
        refine lo_istore (lv' := [(5, .int ((0 : Int32))), (4, va_rf (Option.map A z3)), (0, .ref (A o)), (1, .int x1), (2, .int x2), (3, .int x3)]) hx hb dX11_counted_24 hl (by decide) rfl (fun ls hl => ?_)
        refine lv_iconst (v := 0) hx hb dX11_counted_26 (by decide) ?_
        refine lo_istore (lv' := [(6, .int ((0 : Int32))), (5, .int ((0 : Int32))), (4, va_rf (Option.map A z3)), (0, .ref (A o)), (1, .int x1), (2, .int x2), (3, .int x3)]) hx hb dX11_counted_27 hl (by decide) rfl (fun ls hl => ?_)
        refine t_X11_counted_L29 hM o x2 x3 z3 _ Q ?_ fuel (0 : Int32) (0 : Int32) h2 H locs ls hC (lo_sub hl [3, 5, 6, 2, 1, 0] rfl) hw
        intro y17 h16 H locs ls hC hl hw
        refine lv_iload hx hb dX11_counted_65 (lo_at hl 0 rfl) ?_
        exact ret2_i hM hC hw dX11_counted_67
      ·
        replace hw := (if_neg c6).mp hw
        refine lv_iconst (v := -1) hx hb dX11_counted_21 (by decide) ?_
        exact ret2_i hM hC hw dX11_counted_22
